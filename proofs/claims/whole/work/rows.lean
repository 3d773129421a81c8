section
-- ===== PART A: goes FIRST, ahead of the names: the tables' words, and 'selects' of the private methods out of them =====
/-- a private method of a class that the tables say can be made, by its rows of tables_1 -/
def lw_okq (q : MethodName × Nat) : Prop := (q.1.cls ≠ "java/lang/invoke/MethodHandle" ∧ q.1.cls ≠ "java/lang/invoke/VarHandle") ∧ Cond.instantiable q.1.cls q.2 ∈ tables_1 ∧ Cond.privateMethod q.1 ∈ tables_1 ∧ Cond.instanceMethod q.1 ∈ tables_1
theorem lw_p0 : lw_okq (⟨"HeapMover$Land", "measure", "()V"⟩, 8) := ⟨⟨by decide +kernel, by decide +kernel⟩, List.mem_of_getElem? (i := 23) (by decide +kernel), List.mem_of_getElem? (i := 271) (by decide +kernel), List.mem_of_getElem? (i := 272) (by decide +kernel)⟩
theorem lw_p1 : lw_okq (⟨"HeapMover$Land", "measureRoads", "()V"⟩, 8) := ⟨⟨by decide +kernel, by decide +kernel⟩, List.mem_of_getElem? (i := 23) (by decide +kernel), List.mem_of_getElem? (i := 275) (by decide +kernel), List.mem_of_getElem? (i := 276) (by decide +kernel)⟩
theorem lw_p2 : lw_okq (⟨"HeapMover$Land", "shortenBy", "(II)V"⟩, 8) := ⟨⟨by decide +kernel, by decide +kernel⟩, List.mem_of_getElem? (i := 23) (by decide +kernel), List.mem_of_getElem? (i := 289) (by decide +kernel), List.mem_of_getElem? (i := 290) (by decide +kernel)⟩
theorem lw_p3 : lw_okq (⟨"HeapMover", "noteChange", "(IIII)V"⟩, 12) := ⟨⟨by decide +kernel, by decide +kernel⟩, List.mem_of_getElem? (i := 15) (by decide +kernel), List.mem_of_getElem? (i := 293) (by decide +kernel), List.mem_of_getElem? (i := 294) (by decide +kernel)⟩
theorem lw_p4 : lw_okq (⟨"HeapMover", "forgetResults", "()V"⟩, 12) := ⟨⟨by decide +kernel, by decide +kernel⟩, List.mem_of_getElem? (i := 15) (by decide +kernel), List.mem_of_getElem? (i := 301) (by decide +kernel), List.mem_of_getElem? (i := 302) (by decide +kernel)⟩
theorem lw_p5 : lw_okq (⟨"HeapMover", "takeBack", "(I)V"⟩, 12) := ⟨⟨by decide +kernel, by decide +kernel⟩, List.mem_of_getElem? (i := 15) (by decide +kernel), List.mem_of_getElem? (i := 342) (by decide +kernel), List.mem_of_getElem? (i := 343) (by decide +kernel)⟩
theorem lw_p6 : lw_okq (⟨"HeapMover", "refusalOfMoving", "(II)I"⟩, 12) := ⟨⟨by decide +kernel, by decide +kernel⟩, List.mem_of_getElem? (i := 15) (by decide +kernel), List.mem_of_getElem? (i := 387) (by decide +kernel), List.mem_of_getElem? (i := 388) (by decide +kernel)⟩
theorem lw_p7 : lw_okq (⟨"HeapMover", "leastCost", "(II)I"⟩, 12) := ⟨⟨by decide +kernel, by decide +kernel⟩, List.mem_of_getElem? (i := 15) (by decide +kernel), List.mem_of_getElem? (i := 395) (by decide +kernel), List.mem_of_getElem? (i := 396) (by decide +kernel)⟩
theorem lw_p8 : lw_okq (⟨"HeapMover$Mover", "joinSource", "(I[I[I)I"⟩, 1) := ⟨⟨by decide +kernel, by decide +kernel⟩, List.mem_of_getElem? (i := 129) (by decide +kernel), List.mem_of_getElem? (i := 407) (by decide +kernel), List.mem_of_getElem? (i := 408) (by decide +kernel)⟩
theorem lw_p9 : lw_okq (⟨"HeapMover$Network", "addArc", "(IIII)V"⟩, 9) := ⟨⟨by decide +kernel, by decide +kernel⟩, List.mem_of_getElem? (i := 135) (by decide +kernel), List.mem_of_getElem? (i := 415) (by decide +kernel), List.mem_of_getElem? (i := 416) (by decide +kernel)⟩
theorem lw_p10 : lw_okq (⟨"HeapMover$Mover", "joinSink", "(I[I[I)V"⟩, 1) := ⟨⟨by decide +kernel, by decide +kernel⟩, List.mem_of_getElem? (i := 129) (by decide +kernel), List.mem_of_getElem? (i := 420) (by decide +kernel), List.mem_of_getElem? (i := 421) (by decide +kernel)⟩
theorem lw_p11 : lw_okq (⟨"HeapMover$Network", "search", "()Z"⟩, 9) := ⟨⟨by decide +kernel, by decide +kernel⟩, List.mem_of_getElem? (i := 135) (by decide +kernel), List.mem_of_getElem? (i := 432) (by decide +kernel), List.mem_of_getElem? (i := 433) (by decide +kernel)⟩
theorem lw_p12 : lw_okq (⟨"HeapMover$Network", "relax", "()Z"⟩, 9) := ⟨⟨by decide +kernel, by decide +kernel⟩, List.mem_of_getElem? (i := 135) (by decide +kernel), List.mem_of_getElem? (i := 438) (by decide +kernel), List.mem_of_getElem? (i := 439) (by decide +kernel)⟩
theorem lw_p13 : lw_okq (⟨"HeapMover$Network", "carry", "(I)V"⟩, 9) := ⟨⟨by decide +kernel, by decide +kernel⟩, List.mem_of_getElem? (i := 135) (by decide +kernel), List.mem_of_getElem? (i := 446) (by decide +kernel), List.mem_of_getElem? (i := 447) (by decide +kernel)⟩
theorem lw_p14 : lw_okq (⟨"HeapMover", "refusalAtPlaces", "(IIII)I"⟩, 12) := ⟨⟨by decide +kernel, by decide +kernel⟩, List.mem_of_getElem? (i := 15) (by decide +kernel), List.mem_of_getElem? (i := 455) (by decide +kernel), List.mem_of_getElem? (i := 456) (by decide +kernel)⟩
theorem lw_p15 : lw_okq (⟨"HeapMover", "makePlan", "(II)V"⟩, 12) := ⟨⟨by decide +kernel, by decide +kernel⟩, List.mem_of_getElem? (i := 15) (by decide +kernel), List.mem_of_getElem? (i := 459) (by decide +kernel), List.mem_of_getElem? (i := 460) (by decide +kernel)⟩
def lw_privs_1 : List (MethodName × Nat) := [(⟨"HeapMover$Land", "measure", "()V"⟩, 8), (⟨"HeapMover$Land", "measureRoads", "()V"⟩, 8), (⟨"HeapMover$Land", "shortenBy", "(II)V"⟩, 8), (⟨"HeapMover", "noteChange", "(IIII)V"⟩, 12), (⟨"HeapMover", "forgetResults", "()V"⟩, 12), (⟨"HeapMover", "takeBack", "(I)V"⟩, 12), (⟨"HeapMover", "refusalOfMoving", "(II)I"⟩, 12), (⟨"HeapMover", "leastCost", "(II)I"⟩, 12), (⟨"HeapMover$Mover", "joinSource", "(I[I[I)I"⟩, 1), (⟨"HeapMover$Network", "addArc", "(IIII)V"⟩, 9), (⟨"HeapMover$Mover", "joinSink", "(I[I[I)V"⟩, 1), (⟨"HeapMover$Network", "search", "()Z"⟩, 9), (⟨"HeapMover$Network", "relax", "()Z"⟩, 9), (⟨"HeapMover$Network", "carry", "(I)V"⟩, 9), (⟨"HeapMover", "refusalAtPlaces", "(IIII)I"⟩, 12), (⟨"HeapMover", "makePlan", "(II)V"⟩, 12)]
theorem lw_r1 : ∀ q ∈ lw_privs_1, lw_okq q := List.forall_mem_cons.mpr ⟨lw_p0, List.forall_mem_cons.mpr ⟨lw_p1, List.forall_mem_cons.mpr ⟨lw_p2, List.forall_mem_cons.mpr ⟨lw_p3, List.forall_mem_cons.mpr ⟨lw_p4, List.forall_mem_cons.mpr ⟨lw_p5, List.forall_mem_cons.mpr ⟨lw_p6, List.forall_mem_cons.mpr ⟨lw_p7, List.forall_mem_cons.mpr ⟨lw_p8, List.forall_mem_cons.mpr ⟨lw_p9, List.forall_mem_cons.mpr ⟨lw_p10, List.forall_mem_cons.mpr ⟨lw_p11, List.forall_mem_cons.mpr ⟨lw_p12, List.forall_mem_cons.mpr ⟨lw_p13, List.forall_mem_cons.mpr ⟨lw_p14, List.forall_mem_cons.mpr ⟨lw_p15, fun _ h => absurd h List.not_mem_nil⟩⟩⟩⟩⟩⟩⟩⟩⟩⟩⟩⟩⟩⟩⟩⟩
theorem lw_p16 : lw_okq (⟨"HeapMover$Planner", "takeGoods", "(ILHeapMover$Network;[I[I)V"⟩, 5) := ⟨⟨by decide +kernel, by decide +kernel⟩, List.mem_of_getElem? (i := 181) (by decide +kernel), List.mem_of_getElem? (i := 468) (by decide +kernel), List.mem_of_getElem? (i := 469) (by decide +kernel)⟩
theorem lw_p17 : lw_okq (⟨"HeapMover$Planner", "raiseHeights", "(LHeapMover$Land;)V"⟩, 5) := ⟨⟨by decide +kernel, by decide +kernel⟩, List.mem_of_getElem? (i := 181) (by decide +kernel), List.mem_of_getElem? (i := 474) (by decide +kernel), List.mem_of_getElem? (i := 475) (by decide +kernel)⟩
theorem lw_p18 : lw_okq (⟨"HeapMover$Planner", "lowerHeights", "(LHeapMover$Land;)Z"⟩, 5) := ⟨⟨by decide +kernel, by decide +kernel⟩, List.mem_of_getElem? (i := 181) (by decide +kernel), List.mem_of_getElem? (i := 478) (by decide +kernel), List.mem_of_getElem? (i := 479) (by decide +kernel)⟩
theorem lw_p19 : lw_okq (⟨"HeapMover$Planner", "putFirst", "(LHeapMover$Land;)V"⟩, 5) := ⟨⟨by decide +kernel, by decide +kernel⟩, List.mem_of_getElem? (i := 181) (by decide +kernel), List.mem_of_getElem? (i := 482) (by decide +kernel), List.mem_of_getElem? (i := 483) (by decide +kernel)⟩
theorem lw_p20 : lw_okq (⟨"HeapMover$Planner", "isTight", "(LHeapMover$Land;II)Z"⟩, 5) := ⟨⟨by decide +kernel, by decide +kernel⟩, List.mem_of_getElem? (i := 181) (by decide +kernel), List.mem_of_getElem? (i := 486) (by decide +kernel), List.mem_of_getElem? (i := 487) (by decide +kernel)⟩
theorem lw_p21 : lw_okq (⟨"HeapMover$Planner", "findRing", "(LHeapMover$Land;III)Z"⟩, 5) := ⟨⟨by decide +kernel, by decide +kernel⟩, List.mem_of_getElem? (i := 181) (by decide +kernel), List.mem_of_getElem? (i := 493) (by decide +kernel), List.mem_of_getElem? (i := 494) (by decide +kernel)⟩
theorem lw_p22 : lw_okq (⟨"HeapMover$Planner", "reachColumns", "(LHeapMover$Land;III)I"⟩, 5) := ⟨⟨by decide +kernel, by decide +kernel⟩, List.mem_of_getElem? (i := 181) (by decide +kernel), List.mem_of_getElem? (i := 497) (by decide +kernel), List.mem_of_getElem? (i := 498) (by decide +kernel)⟩
theorem lw_p23 : lw_okq (⟨"HeapMover$Planner", "turnRing", "(II)V"⟩, 5) := ⟨⟨by decide +kernel, by decide +kernel⟩, List.mem_of_getElem? (i := 181) (by decide +kernel), List.mem_of_getElem? (i := 501) (by decide +kernel), List.mem_of_getElem? (i := 502) (by decide +kernel)⟩
theorem lw_p24 : lw_okq (⟨"HeapMover$Planner", "ringAmount", "(II)I"⟩, 5) := ⟨⟨by decide +kernel, by decide +kernel⟩, List.mem_of_getElem? (i := 181) (by decide +kernel), List.mem_of_getElem? (i := 505) (by decide +kernel), List.mem_of_getElem? (i := 506) (by decide +kernel)⟩
theorem lw_p25 : lw_okq (⟨"HeapMover", "makeReach", "(II)V"⟩, 12) := ⟨⟨by decide +kernel, by decide +kernel⟩, List.mem_of_getElem? (i := 15) (by decide +kernel), List.mem_of_getElem? (i := 538) (by decide +kernel), List.mem_of_getElem? (i := 539) (by decide +kernel)⟩
theorem lw_p26 : lw_okq (⟨"HeapMover$Reach", "joinEnds", "(I[I[I)V"⟩, 3) := ⟨⟨by decide +kernel, by decide +kernel⟩, List.mem_of_getElem? (i := 206) (by decide +kernel), List.mem_of_getElem? (i := 546) (by decide +kernel), List.mem_of_getElem? (i := 547) (by decide +kernel)⟩
theorem lw_p27 : lw_okq (⟨"HeapMover$Reach", "joinDistance", "(LHeapMover$Land;[I[I)V"⟩, 3) := ⟨⟨by decide +kernel, by decide +kernel⟩, List.mem_of_getElem? (i := 206) (by decide +kernel), List.mem_of_getElem? (i := 553) (by decide +kernel), List.mem_of_getElem? (i := 554) (by decide +kernel)⟩
theorem lw_p28 : lw_okq (⟨"HeapMover$Reach", "noteStuck", "(I)V"⟩, 3) := ⟨⟨by decide +kernel, by decide +kernel⟩, List.mem_of_getElem? (i := 206) (by decide +kernel), List.mem_of_getElem? (i := 559) (by decide +kernel), List.mem_of_getElem? (i := 560) (by decide +kernel)⟩
theorem lw_p29 : lw_okq (⟨"HeapMoverModel", "keep", "(III)V"⟩, 31) := ⟨⟨by decide +kernel, by decide +kernel⟩, List.mem_of_getElem? (i := 634) (by decide +kernel), List.mem_of_getElem? (i := 739) (by decide +kernel), List.mem_of_getElem? (i := 740) (by decide +kernel)⟩
theorem lw_p30 : lw_okq (⟨"HeapMoverModel", "isPlace", "(I)Z"⟩, 31) := ⟨⟨by decide +kernel, by decide +kernel⟩, List.mem_of_getElem? (i := 634) (by decide +kernel), List.mem_of_getElem? (i := 747) (by decide +kernel), List.mem_of_getElem? (i := 748) (by decide +kernel)⟩
theorem lw_p31 : lw_okq (⟨"HeapMoverModel", "isHeap", "(I)Z"⟩, 31) := ⟨⟨by decide +kernel, by decide +kernel⟩, List.mem_of_getElem? (i := 634) (by decide +kernel), List.mem_of_getElem? (i := 762) (by decide +kernel), List.mem_of_getElem? (i := 763) (by decide +kernel)⟩
def lw_privs_2 : List (MethodName × Nat) := [(⟨"HeapMover$Planner", "takeGoods", "(ILHeapMover$Network;[I[I)V"⟩, 5), (⟨"HeapMover$Planner", "raiseHeights", "(LHeapMover$Land;)V"⟩, 5), (⟨"HeapMover$Planner", "lowerHeights", "(LHeapMover$Land;)Z"⟩, 5), (⟨"HeapMover$Planner", "putFirst", "(LHeapMover$Land;)V"⟩, 5), (⟨"HeapMover$Planner", "isTight", "(LHeapMover$Land;II)Z"⟩, 5), (⟨"HeapMover$Planner", "findRing", "(LHeapMover$Land;III)Z"⟩, 5), (⟨"HeapMover$Planner", "reachColumns", "(LHeapMover$Land;III)I"⟩, 5), (⟨"HeapMover$Planner", "turnRing", "(II)V"⟩, 5), (⟨"HeapMover$Planner", "ringAmount", "(II)I"⟩, 5), (⟨"HeapMover", "makeReach", "(II)V"⟩, 12), (⟨"HeapMover$Reach", "joinEnds", "(I[I[I)V"⟩, 3), (⟨"HeapMover$Reach", "joinDistance", "(LHeapMover$Land;[I[I)V"⟩, 3), (⟨"HeapMover$Reach", "noteStuck", "(I)V"⟩, 3), (⟨"HeapMoverModel", "keep", "(III)V"⟩, 31), (⟨"HeapMoverModel", "isPlace", "(I)Z"⟩, 31), (⟨"HeapMoverModel", "isHeap", "(I)Z"⟩, 31)]
theorem lw_r2 : ∀ q ∈ lw_privs_2, lw_okq q := List.forall_mem_cons.mpr ⟨lw_p16, List.forall_mem_cons.mpr ⟨lw_p17, List.forall_mem_cons.mpr ⟨lw_p18, List.forall_mem_cons.mpr ⟨lw_p19, List.forall_mem_cons.mpr ⟨lw_p20, List.forall_mem_cons.mpr ⟨lw_p21, List.forall_mem_cons.mpr ⟨lw_p22, List.forall_mem_cons.mpr ⟨lw_p23, List.forall_mem_cons.mpr ⟨lw_p24, List.forall_mem_cons.mpr ⟨lw_p25, List.forall_mem_cons.mpr ⟨lw_p26, List.forall_mem_cons.mpr ⟨lw_p27, List.forall_mem_cons.mpr ⟨lw_p28, List.forall_mem_cons.mpr ⟨lw_p29, List.forall_mem_cons.mpr ⟨lw_p30, List.forall_mem_cons.mpr ⟨lw_p31, fun _ h => absurd h List.not_mem_nil⟩⟩⟩⟩⟩⟩⟩⟩⟩⟩⟩⟩⟩⟩⟩⟩
theorem lw_p32 : lw_okq (⟨"HeapMoverModel", "findFar", "()V"⟩, 31) := ⟨⟨by decide +kernel, by decide +kernel⟩, List.mem_of_getElem? (i := 634) (by decide +kernel), List.mem_of_getElem? (i := 779) (by decide +kernel), List.mem_of_getElem? (i := 780) (by decide +kernel)⟩
theorem lw_p33 : lw_okq (⟨"HeapMoverModel", "nextTo", "(II)I"⟩, 31) := ⟨⟨by decide +kernel, by decide +kernel⟩, List.mem_of_getElem? (i := 634) (by decide +kernel), List.mem_of_getElem? (i := 788) (by decide +kernel), List.mem_of_getElem? (i := 789) (by decide +kernel)⟩
theorem lw_p34 : lw_okq (⟨"HeapMoverModel", "sumOf", "(I)I"⟩, 31) := ⟨⟨by decide +kernel, by decide +kernel⟩, List.mem_of_getElem? (i := 634) (by decide +kernel), List.mem_of_getElem? (i := 800) (by decide +kernel), List.mem_of_getElem? (i := 801) (by decide +kernel)⟩
theorem lw_p35 : lw_okq (⟨"HeapMoverModel", "against", "(II)I"⟩, 31) := ⟨⟨by decide +kernel, by decide +kernel⟩, List.mem_of_getElem? (i := 634) (by decide +kernel), List.mem_of_getElem? (i := 808) (by decide +kernel), List.mem_of_getElem? (i := 809) (by decide +kernel)⟩
theorem lw_p36 : lw_okq (⟨"HeapMoverModel", "isJoined", "()Z"⟩, 31) := ⟨⟨by decide +kernel, by decide +kernel⟩, List.mem_of_getElem? (i := 634) (by decide +kernel), List.mem_of_getElem? (i := 812) (by decide +kernel), List.mem_of_getElem? (i := 813) (by decide +kernel)⟩
theorem lw_p37 : lw_okq (⟨"HeapMoverModel", "solve", "(III)I"⟩, 31) := ⟨⟨by decide +kernel, by decide +kernel⟩, List.mem_of_getElem? (i := 634) (by decide +kernel), List.mem_of_getElem? (i := 816) (by decide +kernel), List.mem_of_getElem? (i := 817) (by decide +kernel)⟩
theorem lw_p38 : lw_okq (⟨"HeapMoverModel", "begin", "(II)V"⟩, 31) := ⟨⟨by decide +kernel, by decide +kernel⟩, List.mem_of_getElem? (i := 634) (by decide +kernel), List.mem_of_getElem? (i := 820) (by decide +kernel), List.mem_of_getElem? (i := 821) (by decide +kernel)⟩
theorem lw_p39 : lw_okq (⟨"HeapMoverModel", "findWay", "()I"⟩, 31) := ⟨⟨by decide +kernel, by decide +kernel⟩, List.mem_of_getElem? (i := 634) (by decide +kernel), List.mem_of_getElem? (i := 824) (by decide +kernel), List.mem_of_getElem? (i := 825) (by decide +kernel)⟩
theorem lw_p40 : lw_okq (⟨"HeapMoverModel", "go", "(II)I"⟩, 31) := ⟨⟨by decide +kernel, by decide +kernel⟩, List.mem_of_getElem? (i := 634) (by decide +kernel), List.mem_of_getElem? (i := 828) (by decide +kernel), List.mem_of_getElem? (i := 829) (by decide +kernel)⟩
theorem lw_p41 : lw_okq (⟨"HeapMoverModel", "costOf", "([I)I"⟩, 31) := ⟨⟨by decide +kernel, by decide +kernel⟩, List.mem_of_getElem? (i := 634) (by decide +kernel), List.mem_of_getElem? (i := 832) (by decide +kernel), List.mem_of_getElem? (i := 833) (by decide +kernel)⟩
theorem lw_p42 : lw_okq (⟨"HeapMoverModel", "findPlan", "(II)V"⟩, 31) := ⟨⟨by decide +kernel, by decide +kernel⟩, List.mem_of_getElem? (i := 634) (by decide +kernel), List.mem_of_getElem? (i := 840) (by decide +kernel), List.mem_of_getElem? (i := 841) (by decide +kernel)⟩
theorem lw_p43 : lw_okq (⟨"HeapMoverModel", "findHeights", "()V"⟩, 31) := ⟨⟨by decide +kernel, by decide +kernel⟩, List.mem_of_getElem? (i := 634) (by decide +kernel), List.mem_of_getElem? (i := 844) (by decide +kernel), List.mem_of_getElem? (i := 845) (by decide +kernel)⟩
theorem lw_p44 : lw_okq (⟨"HeapMoverModel", "loosen", "()V"⟩, 31) := ⟨⟨by decide +kernel, by decide +kernel⟩, List.mem_of_getElem? (i := 634) (by decide +kernel), List.mem_of_getElem? (i := 848) (by decide +kernel), List.mem_of_getElem? (i := 849) (by decide +kernel)⟩
theorem lw_p45 : lw_okq (⟨"HeapMoverModel", "isTight", "(II)Z"⟩, 31) := ⟨⟨by decide +kernel, by decide +kernel⟩, List.mem_of_getElem? (i := 634) (by decide +kernel), List.mem_of_getElem? (i := 852) (by decide +kernel), List.mem_of_getElem? (i := 853) (by decide +kernel)⟩
theorem lw_p46 : lw_okq (⟨"HeapMoverModel", "canTurn", "(II)Z"⟩, 31) := ⟨⟨by decide +kernel, by decide +kernel⟩, List.mem_of_getElem? (i := 634) (by decide +kernel), List.mem_of_getElem? (i := 856) (by decide +kernel), List.mem_of_getElem? (i := 857) (by decide +kernel)⟩
theorem lw_p47 : lw_okq (⟨"HeapMoverModel", "turn", "(II)V"⟩, 31) := ⟨⟨by decide +kernel, by decide +kernel⟩, List.mem_of_getElem? (i := 634) (by decide +kernel), List.mem_of_getElem? (i := 860) (by decide +kernel), List.mem_of_getElem? (i := 861) (by decide +kernel)⟩
def lw_privs_3 : List (MethodName × Nat) := [(⟨"HeapMoverModel", "findFar", "()V"⟩, 31), (⟨"HeapMoverModel", "nextTo", "(II)I"⟩, 31), (⟨"HeapMoverModel", "sumOf", "(I)I"⟩, 31), (⟨"HeapMoverModel", "against", "(II)I"⟩, 31), (⟨"HeapMoverModel", "isJoined", "()Z"⟩, 31), (⟨"HeapMoverModel", "solve", "(III)I"⟩, 31), (⟨"HeapMoverModel", "begin", "(II)V"⟩, 31), (⟨"HeapMoverModel", "findWay", "()I"⟩, 31), (⟨"HeapMoverModel", "go", "(II)I"⟩, 31), (⟨"HeapMoverModel", "costOf", "([I)I"⟩, 31), (⟨"HeapMoverModel", "findPlan", "(II)V"⟩, 31), (⟨"HeapMoverModel", "findHeights", "()V"⟩, 31), (⟨"HeapMoverModel", "loosen", "()V"⟩, 31), (⟨"HeapMoverModel", "isTight", "(II)Z"⟩, 31), (⟨"HeapMoverModel", "canTurn", "(II)Z"⟩, 31), (⟨"HeapMoverModel", "turn", "(II)V"⟩, 31)]
theorem lw_r3 : ∀ q ∈ lw_privs_3, lw_okq q := List.forall_mem_cons.mpr ⟨lw_p32, List.forall_mem_cons.mpr ⟨lw_p33, List.forall_mem_cons.mpr ⟨lw_p34, List.forall_mem_cons.mpr ⟨lw_p35, List.forall_mem_cons.mpr ⟨lw_p36, List.forall_mem_cons.mpr ⟨lw_p37, List.forall_mem_cons.mpr ⟨lw_p38, List.forall_mem_cons.mpr ⟨lw_p39, List.forall_mem_cons.mpr ⟨lw_p40, List.forall_mem_cons.mpr ⟨lw_p41, List.forall_mem_cons.mpr ⟨lw_p42, List.forall_mem_cons.mpr ⟨lw_p43, List.forall_mem_cons.mpr ⟨lw_p44, List.forall_mem_cons.mpr ⟨lw_p45, List.forall_mem_cons.mpr ⟨lw_p46, List.forall_mem_cons.mpr ⟨lw_p47, fun _ h => absurd h List.not_mem_nil⟩⟩⟩⟩⟩⟩⟩⟩⟩⟩⟩⟩⟩⟩⟩⟩
theorem lw_p48 : lw_okq (⟨"HeapMoverModel", "findFarthest", "(II)I"⟩, 31) := ⟨⟨by decide +kernel, by decide +kernel⟩, List.mem_of_getElem? (i := 634) (by decide +kernel), List.mem_of_getElem? (i := 881) (by decide +kernel), List.mem_of_getElem? (i := 882) (by decide +kernel)⟩
theorem lw_p49 : lw_okq (⟨"HeapMoverModel", "fits", "(III)Z"⟩, 31) := ⟨⟨by decide +kernel, by decide +kernel⟩, List.mem_of_getElem? (i := 634) (by decide +kernel), List.mem_of_getElem? (i := 885) (by decide +kernel), List.mem_of_getElem? (i := 886) (by decide +kernel)⟩
theorem lw_p50 : lw_okq (⟨"HeapMoverModel", "reach", "(I)I"⟩, 31) := ⟨⟨by decide +kernel, by decide +kernel⟩, List.mem_of_getElem? (i := 634) (by decide +kernel), List.mem_of_getElem? (i := 889) (by decide +kernel), List.mem_of_getElem? (i := 890) (by decide +kernel)⟩
theorem lw_p51 : lw_okq (⟨"HeapMoverModel", "arc", "(IIII)V"⟩, 31) := ⟨⟨by decide +kernel, by decide +kernel⟩, List.mem_of_getElem? (i := 634) (by decide +kernel), List.mem_of_getElem? (i := 905) (by decide +kernel), List.mem_of_getElem? (i := 906) (by decide +kernel)⟩
theorem lw_p52 : lw_okq (⟨"HeapMoverModel", "hasNetWay", "()Z"⟩, 31) := ⟨⟨by decide +kernel, by decide +kernel⟩, List.mem_of_getElem? (i := 634) (by decide +kernel), List.mem_of_getElem? (i := 909) (by decide +kernel), List.mem_of_getElem? (i := 910) (by decide +kernel)⟩
theorem lw_p53 : lw_okq (⟨"HeapMoverModel", "goNet", "()I"⟩, 31) := ⟨⟨by decide +kernel, by decide +kernel⟩, List.mem_of_getElem? (i := 634) (by decide +kernel), List.mem_of_getElem? (i := 913) (by decide +kernel), List.mem_of_getElem? (i := 914) (by decide +kernel)⟩
theorem lw_p54 : lw_okq (⟨"HeapMoverModel", "drafted", "(IZ)I"⟩, 31) := ⟨⟨by decide +kernel, by decide +kernel⟩, List.mem_of_getElem? (i := 634) (by decide +kernel), List.mem_of_getElem? (i := 933) (by decide +kernel), List.mem_of_getElem? (i := 934) (by decide +kernel)⟩
def lw_privs_4 : List (MethodName × Nat) := [(⟨"HeapMoverModel", "findFarthest", "(II)I"⟩, 31), (⟨"HeapMoverModel", "fits", "(III)Z"⟩, 31), (⟨"HeapMoverModel", "reach", "(I)I"⟩, 31), (⟨"HeapMoverModel", "arc", "(IIII)V"⟩, 31), (⟨"HeapMoverModel", "hasNetWay", "()Z"⟩, 31), (⟨"HeapMoverModel", "goNet", "()I"⟩, 31), (⟨"HeapMoverModel", "drafted", "(IZ)I"⟩, 31)]
theorem lw_r4 : ∀ q ∈ lw_privs_4, lw_okq q := List.forall_mem_cons.mpr ⟨lw_p48, List.forall_mem_cons.mpr ⟨lw_p49, List.forall_mem_cons.mpr ⟨lw_p50, List.forall_mem_cons.mpr ⟨lw_p51, List.forall_mem_cons.mpr ⟨lw_p52, List.forall_mem_cons.mpr ⟨lw_p53, List.forall_mem_cons.mpr ⟨lw_p54, fun _ h => absurd h List.not_mem_nil⟩⟩⟩⟩⟩⟩⟩
def lw_privs : List (MethodName × Nat) := lw_privs_1 ++ (lw_privs_2 ++ (lw_privs_3 ++ (lw_privs_4)))
def lw_tbl : List Cond := k2_sels lw_privs ++ tables_1
theorem lw_privs_ok : ∀ q ∈ lw_privs, lw_okq q := by
  show ∀ q ∈ lw_privs_1 ++ (lw_privs_2 ++ (lw_privs_3 ++ (lw_privs_4))), lw_okq q
  exact List.forall_mem_append.mpr ⟨lw_r1, List.forall_mem_append.mpr ⟨lw_r2, List.forall_mem_append.mpr ⟨lw_r3, lw_r4⟩⟩⟩
-- ===== end of PART A; then your names; then what follows =====
end
section
def RX0 : String := "HeapMover$Changes"
def TX0 : u_T := fun k => match k with
  | 0 => ("HeapMover$Changes", "kept", "I", false)
  | 1 => ("HeapMover$Changes", "oldest", "I", false)
  | 2 => ("HeapMover$Changes", "kinds", "[I", true)
  | 3 => ("HeapMover$Changes", "firsts", "[I", true)
  | 4 => ("HeapMover$Changes", "seconds", "[I", true)
  | _ => ("HeapMover$Changes", "befores", "[I", true)
def tyX0 : Nat → FieldType := fun k => match k with
  | 0 => .int
  | 1 => .int
  | 2 => .array .int
  | 3 => .array .int
  | 4 => .array .int
  | _ => .array .int
abbrev wsX00 : List Cond := u_ws RX0 TX0 6
theorem nmX0 : ∀ a, a < 6 → ∀ b, b < 6 → a ≠ b → (TX0 a).2.1 ≠ (TX0 b).2.1 := by decide +kernel
theorem tyX0_ok : ∀ k, k < 6 → parseFieldDescriptor (TX0 k).2.2.1 = some (tyX0 k) := by decide +kernel
abbrev cX0_init : ByteArray := prog_2_method_1_code
def yX0_init : MethodName := ⟨RX0, "<init>", "()V"⟩
abbrev cX0_keep : ByteArray := prog_2_method_2_code
def yX0_keep : MethodName := ⟨RX0, "keep", "(IIII)V"⟩
abbrev cX0_dropLatest : ByteArray := prog_2_method_3_code
def yX0_dropLatest : MethodName := ⟨RX0, "dropLatest", "()I"⟩
def RX1 : String := "HeapMover$Draft"
def TX1 : u_T := fun k => match k with
  | _ => ("HeapMover$Draft", "numbers", "[[I", true)
def tyX1 : Nat → FieldType := fun k => match k with
  | _ => .array (.array .int)
abbrev wsX10 : List Cond := u_ws RX1 TX1 1
theorem nmX1 : ∀ a, a < 1 → ∀ b, b < 1 → a ≠ b → (TX1 a).2.1 ≠ (TX1 b).2.1 := by decide +kernel
theorem tyX1_ok : ∀ k, k < 1 → parseFieldDescriptor (TX1 k).2.2.1 = some (tyX1 k) := by decide +kernel
abbrev cX1_init : ByteArray := prog_3_method_1_code
def yX1_init : MethodName := ⟨RX1, "<init>", "()V"⟩
abbrev cX1_wipe : ByteArray := prog_3_method_2_code
def yX1_wipe : MethodName := ⟨RX1, "wipe", "()V"⟩
abbrev cX1_wipePlace : ByteArray := prog_3_method_3_code
def yX1_wipePlace : MethodName := ⟨RX1, "wipePlace", "(I)V"⟩
abbrev cX1_others : ByteArray := prog_3_method_4_code
def yX1_others : MethodName := ⟨RX1, "others", "()I"⟩
abbrev cX1_firstWrongFrom : ByteArray := prog_3_method_5_code
def yX1_firstWrongFrom : MethodName := ⟨RX1, "firstWrongFrom", "(I[I)I"⟩
abbrev cX1_firstWrongTo : ByteArray := prog_3_method_6_code
def yX1_firstWrongTo : MethodName := ⟨RX1, "firstWrongTo", "(I[I)I"⟩
abbrev cX1_cost : ByteArray := prog_3_method_7_code
def yX1_cost : MethodName := ⟨RX1, "cost", "(LHeapMover$Land;)I"⟩
def RX2 : String := "HeapMover$Heaps"
def TX2 : u_T := fun k => match k with
  | 0 => ("HeapMover$Heaps", "made", "I", false)
  | _ => ("HeapMover$Heaps", "amounts", "[[I", true)
def tyX2 : Nat → FieldType := fun k => match k with
  | 0 => .int
  | _ => .array (.array .int)
abbrev wsX20 : List Cond := u_ws RX2 TX2 2
theorem nmX2 : ∀ a, a < 2 → ∀ b, b < 2 → a ≠ b → (TX2 a).2.1 ≠ (TX2 b).2.1 := by decide +kernel
theorem tyX2_ok : ∀ k, k < 2 → parseFieldDescriptor (TX2 k).2.2.1 = some (tyX2 k) := by decide +kernel
abbrev cX2_init : ByteArray := prog_4_method_1_code
def yX2_init : MethodName := ⟨RX2, "<init>", "()V"⟩
abbrev cX2_has : ByteArray := prog_4_method_2_code
def yX2_has : MethodName := ⟨RX2, "has", "(I)Z"⟩
abbrev cX2_total : ByteArray := prog_4_method_3_code
def yX2_total : MethodName := ⟨RX2, "total", "(I)I"⟩
def RX3 : String := "HeapMover$Land"
def TX3 : u_T := fun k => match k with
  | 0 => ("HeapMover$Land", "places", "I", false)
  | 1 => ("HeapMover$Land", "roads", "I", false)
  | 2 => ("HeapMover$Land", "starts", "[I", true)
  | 3 => ("HeapMover$Land", "ends", "[I", true)
  | 4 => ("HeapMover$Land", "lengths", "[I", true)
  | 5 => ("HeapMover$Land", "bounds", "[I", true)
  | 6 => ("HeapMover$Land", "directs", "[[I", true)
  | _ => ("HeapMover$Land", "distances", "[[I", true)
def tyX3 : Nat → FieldType := fun k => match k with
  | 0 => .int
  | 1 => .int
  | 2 => .array .int
  | 3 => .array .int
  | 4 => .array .int
  | 5 => .array .int
  | 6 => .array (.array .int)
  | _ => .array (.array .int)
abbrev wsX30 : List Cond := u_ws RX3 TX3 8
theorem nmX3 : ∀ a, a < 8 → ∀ b, b < 8 → a ≠ b → (TX3 a).2.1 ≠ (TX3 b).2.1 := by decide +kernel
theorem tyX3_ok : ∀ k, k < 8 → parseFieldDescriptor (TX3 k).2.2.1 = some (tyX3 k) := by decide +kernel
abbrev cX3_init : ByteArray := prog_5_method_1_code
def yX3_init : MethodName := ⟨RX3, "<init>", "()V"⟩
abbrev cX3_has : ByteArray := prog_5_method_2_code
def yX3_has : MethodName := ⟨RX3, "has", "(I)Z"⟩
abbrev cX3_addPlace : ByteArray := prog_5_method_3_code
def yX3_addPlace : MethodName := ⟨RX3, "addPlace", "()I"⟩
abbrev cX3_dropPlace : ByteArray := prog_5_method_4_code
def yX3_dropPlace : MethodName := ⟨RX3, "dropPlace", "()V"⟩
abbrev cX3_addRoad : ByteArray := prog_5_method_5_code
def yX3_addRoad : MethodName := ⟨RX3, "addRoad", "(III)I"⟩
abbrev cX3_dropRoad : ByteArray := prog_5_method_6_code
def yX3_dropRoad : MethodName := ⟨RX3, "dropRoad", "()V"⟩
abbrev cX3_gates : ByteArray := prog_5_method_7_code
def yX3_gates : MethodName := ⟨RX3, "gates", "()I"⟩
abbrev cX3_isJoined : ByteArray := prog_5_method_8_code
def yX3_isJoined : MethodName := ⟨RX3, "isJoined", "()Z"⟩
abbrev cX3_placeBehind : ByteArray := prog_5_method_9_code
def yX3_placeBehind : MethodName := ⟨RX3, "placeBehind", "(II)I"⟩
abbrev cX3_measure : ByteArray := prog_5_method_10_code
def yX3_measure : MethodName := ⟨RX3, "measure", "()V"⟩
abbrev cX3_measureRoads : ByteArray := prog_5_method_11_code
def yX3_measureRoads : MethodName := ⟨RX3, "measureRoads", "()V"⟩
abbrev cX3_shortenBy : ByteArray := prog_5_method_12_code
def yX3_shortenBy : MethodName := ⟨RX3, "shortenBy", "(II)V"⟩
def RX4 : String := "HeapMover$Mover"
def TX4 : u_T := fun k => match k with
  | _ => ("HeapMover$Mover", "network", "LHeapMover$Network;", true)
def tyX4 : Nat → FieldType := fun k => match k with
  | _ => .object "HeapMover$Network"
abbrev wsX40 : List Cond := u_ws RX4 TX4 1
theorem nmX4 : ∀ a, a < 1 → ∀ b, b < 1 → a ≠ b → (TX4 a).2.1 ≠ (TX4 b).2.1 := by decide +kernel
theorem tyX4_ok : ∀ k, k < 1 → parseFieldDescriptor (TX4 k).2.2.1 = some (tyX4 k) := by decide +kernel
abbrev cX4_init : ByteArray := prog_6_method_1_code
def yX4_init : MethodName := ⟨RX4, "<init>", "()V"⟩
abbrev cX4_cheapest : ByteArray := prog_6_method_2_code
def yX4_cheapest : MethodName := ⟨RX4, "cheapest", "(LHeapMover$Land;[I[II)I"⟩
abbrev cX4_cheapestThroughGates : ByteArray := prog_6_method_3_code
def yX4_cheapestThroughGates : MethodName := ⟨RX4, "cheapestThroughGates", "(LHeapMover$Land;[I[I)I"⟩
abbrev cX4_joinSource : ByteArray := prog_6_method_4_code
def yX4_joinSource : MethodName := ⟨RX4, "joinSource", "(I[I[I)I"⟩
abbrev cX4_joinSink : ByteArray := prog_6_method_5_code
def yX4_joinSink : MethodName := ⟨RX4, "joinSink", "(I[I[I)V"⟩
abbrev cX4_staying : ByteArray := prog_6_method_6_code
def yX4_staying : MethodName := ⟨RX4, "staying", "(I[I[I)I"⟩
def RX5 : String := "HeapMover$Network"
def TX5 : u_T := fun k => match k with
  | 0 => ("HeapMover$Network", "arcs", "I", false)
  | 1 => ("HeapMover$Network", "moved", "I", false)
  | 2 => ("HeapMover$Network", "spent", "I", false)
  | 3 => ("HeapMover$Network", "tails", "[I", true)
  | 4 => ("HeapMover$Network", "heads", "[I", true)
  | 5 => ("HeapMover$Network", "rooms", "[I", true)
  | 6 => ("HeapMover$Network", "prices", "[I", true)
  | 7 => ("HeapMover$Network", "costs", "[I", true)
  | _ => ("HeapMover$Network", "lastArcs", "[I", true)
def tyX5 : Nat → FieldType := fun k => match k with
  | 0 => .int
  | 1 => .int
  | 2 => .int
  | 3 => .array .int
  | 4 => .array .int
  | 5 => .array .int
  | 6 => .array .int
  | 7 => .array .int
  | _ => .array .int
abbrev wsX50 : List Cond := u_ws RX5 TX5 9
theorem nmX5 : ∀ a, a < 9 → ∀ b, b < 9 → a ≠ b → (TX5 a).2.1 ≠ (TX5 b).2.1 := by decide +kernel
theorem tyX5_ok : ∀ k, k < 9 → parseFieldDescriptor (TX5 k).2.2.1 = some (tyX5 k) := by decide +kernel
abbrev cX5_init : ByteArray := prog_7_method_1_code
def yX5_init : MethodName := ⟨RX5, "<init>", "()V"⟩
abbrev cX5_empty : ByteArray := prog_7_method_2_code
def yX5_empty : MethodName := ⟨RX5, "empty", "()V"⟩
abbrev cX5_join : ByteArray := prog_7_method_3_code
def yX5_join : MethodName := ⟨RX5, "join", "(IIII)V"⟩
abbrev cX5_push : ByteArray := prog_7_method_4_code
def yX5_push : MethodName := ⟨RX5, "push", "(I)V"⟩
abbrev cX5_isReached : ByteArray := prog_7_method_5_code
def yX5_isReached : MethodName := ⟨RX5, "isReached", "(I)Z"⟩
abbrev cX5_addArc : ByteArray := prog_7_method_6_code
def yX5_addArc : MethodName := ⟨RX5, "addArc", "(IIII)V"⟩
abbrev cX5_search : ByteArray := prog_7_method_7_code
def yX5_search : MethodName := ⟨RX5, "search", "()Z"⟩
abbrev cX5_relax : ByteArray := prog_7_method_8_code
def yX5_relax : MethodName := ⟨RX5, "relax", "()Z"⟩
abbrev cX5_carry : ByteArray := prog_7_method_9_code
def yX5_carry : MethodName := ⟨RX5, "carry", "(I)V"⟩
def RX6 : String := "HeapMover$Planner"
def TX6 : u_T := fun k => match k with
  | 0 => ("HeapMover$Planner", "goods", "[[I", true)
  | 1 => ("HeapMover$Planner", "heights", "[I", true)
  | 2 => ("HeapMover$Planner", "rowFrom", "[I", true)
  | 3 => ("HeapMover$Planner", "columnFrom", "[I", true)
  | _ => ("HeapMover$Planner", "columns", "[I", true)
def tyX6 : Nat → FieldType := fun k => match k with
  | 0 => .array (.array .int)
  | 1 => .array .int
  | 2 => .array .int
  | 3 => .array .int
  | _ => .array .int
abbrev wsX60 : List Cond := u_ws RX6 TX6 5
theorem nmX6 : ∀ a, a < 5 → ∀ b, b < 5 → a ≠ b → (TX6 a).2.1 ≠ (TX6 b).2.1 := by decide +kernel
theorem tyX6_ok : ∀ k, k < 5 → parseFieldDescriptor (TX6 k).2.2.1 = some (tyX6 k) := by decide +kernel
abbrev cX6_init : ByteArray := prog_8_method_1_code
def yX6_init : MethodName := ⟨RX6, "<init>", "()V"⟩
abbrev cX6_make : ByteArray := prog_8_method_2_code
def yX6_make : MethodName := ⟨RX6, "make", "(LHeapMover$Land;LHeapMover$Mover;[I[II)V"⟩
abbrev cX6_isTight : ByteArray := prog_8_method_3_code
def yX6_isTight : MethodName := ⟨RX6, "isTight", "(LHeapMover$Land;II)Z"⟩
abbrev cX6_takeGoods : ByteArray := prog_8_method_4_code
def yX6_takeGoods : MethodName := ⟨RX6, "takeGoods", "(ILHeapMover$Network;[I[I)V"⟩
abbrev cX6_raiseHeights : ByteArray := prog_8_method_5_code
def yX6_raiseHeights : MethodName := ⟨RX6, "raiseHeights", "(LHeapMover$Land;)V"⟩
abbrev cX6_lowerHeights : ByteArray := prog_8_method_6_code
def yX6_lowerHeights : MethodName := ⟨RX6, "lowerHeights", "(LHeapMover$Land;)Z"⟩
abbrev cX6_putFirst : ByteArray := prog_8_method_7_code
def yX6_putFirst : MethodName := ⟨RX6, "putFirst", "(LHeapMover$Land;)V"⟩
abbrev cX6_hasOther : ByteArray := prog_8_method_8_code
def yX6_hasOther : MethodName := ⟨RX6, "hasOther", "(LHeapMover$Land;)Z"⟩
abbrev cX6_cell : ByteArray := prog_8_method_9_code
def yX6_cell : MethodName := ⟨RX6, "cell", "(II)I"⟩
abbrev cX6_findRing : ByteArray := prog_8_method_10_code
def yX6_findRing : MethodName := ⟨RX6, "findRing", "(LHeapMover$Land;III)Z"⟩
abbrev cX6_reachColumns : ByteArray := prog_8_method_11_code
def yX6_reachColumns : MethodName := ⟨RX6, "reachColumns", "(LHeapMover$Land;III)I"⟩
abbrev cX6_turnRing : ByteArray := prog_8_method_12_code
def yX6_turnRing : MethodName := ⟨RX6, "turnRing", "(II)V"⟩
abbrev cX6_ringAmount : ByteArray := prog_8_method_13_code
def yX6_ringAmount : MethodName := ⟨RX6, "ringAmount", "(II)I"⟩
abbrev cX6_carried : ByteArray := prog_8_method_14_code
def yX6_carried : MethodName := ⟨RX6, "carried", "(LHeapMover$Land;II)I"⟩
abbrev cX6_passes : ByteArray := prog_8_method_15_code
def yX6_passes : MethodName := ⟨RX6, "passes", "(LHeapMover$Land;III)Z"⟩
def RX7 : String := "HeapMover$Reach"
def TX7 : u_T := fun k => match k with
  | 0 => ("HeapMover$Reach", "farthest", "I", false)
  | 1 => ("HeapMover$Reach", "stuck", "[I", true)
  | _ => ("HeapMover$Reach", "network", "LHeapMover$Network;", true)
def tyX7 : Nat → FieldType := fun k => match k with
  | 0 => .int
  | 1 => .array .int
  | _ => .object "HeapMover$Network"
abbrev wsX70 : List Cond := u_ws RX7 TX7 3
theorem nmX7 : ∀ a, a < 3 → ∀ b, b < 3 → a ≠ b → (TX7 a).2.1 ≠ (TX7 b).2.1 := by decide +kernel
theorem tyX7_ok : ∀ k, k < 3 → parseFieldDescriptor (TX7 k).2.2.1 = some (tyX7 k) := by decide +kernel
abbrev cX7_init : ByteArray := prog_9_method_1_code
def yX7_init : MethodName := ⟨RX7, "<init>", "()V"⟩
abbrev cX7_make : ByteArray := prog_9_method_2_code
def yX7_make : MethodName := ⟨RX7, "make", "(LHeapMover$Land;[I[II)V"⟩
abbrev cX7_joinEnds : ByteArray := prog_9_method_3_code
def yX7_joinEnds : MethodName := ⟨RX7, "joinEnds", "(I[I[I)V"⟩
abbrev cX7_joinDistance : ByteArray := prog_9_method_4_code
def yX7_joinDistance : MethodName := ⟨RX7, "joinDistance", "(LHeapMover$Land;[I[I)V"⟩
abbrev cX7_noteStuck : ByteArray := prog_9_method_5_code
def yX7_noteStuck : MethodName := ⟨RX7, "noteStuck", "(I)V"⟩
abbrev cX7_distanceAbove : ByteArray := prog_9_method_6_code
def yX7_distanceAbove : MethodName := ⟨RX7, "distanceAbove", "(LHeapMover$Land;I)I"⟩
def RX8 : String := "HeapMover"
def TX8 : u_T := fun k => match k with
  | 0 => ("HeapMover", "land", "LHeapMover$Land;", true)
  | 1 => ("HeapMover", "heaps", "LHeapMover$Heaps;", true)
  | 2 => ("HeapMover", "changes", "LHeapMover$Changes;", true)
  | 3 => ("HeapMover", "drafted", "LHeapMover$Draft;", true)
  | 4 => ("HeapMover", "mover", "LHeapMover$Mover;", true)
  | 5 => ("HeapMover", "planner", "LHeapMover$Planner;", true)
  | 6 => ("HeapMover", "reach", "LHeapMover$Reach;", true)
  | 7 => ("HeapMover", "plannedFrom", "I", false)
  | 8 => ("HeapMover", "plannedTo", "I", false)
  | 9 => ("HeapMover", "reachedFrom", "I", false)
  | 10 => ("HeapMover", "reachedTo", "I", false)
  | _ => ("HeapMover", "told", "I", false)
def tyX8 : Nat → FieldType := fun k => match k with
  | 0 => .object "HeapMover$Land"
  | 1 => .object "HeapMover$Heaps"
  | 2 => .object "HeapMover$Changes"
  | 3 => .object "HeapMover$Draft"
  | 4 => .object "HeapMover$Mover"
  | 5 => .object "HeapMover$Planner"
  | 6 => .object "HeapMover$Reach"
  | 7 => .int
  | 8 => .int
  | 9 => .int
  | 10 => .int
  | _ => .int
abbrev wsX80 : List Cond := u_ws RX8 TX8 12
theorem nmX8 : ∀ a, a < 12 → ∀ b, b < 12 → a ≠ b → (TX8 a).2.1 ≠ (TX8 b).2.1 := by decide +kernel
theorem tyX8_ok : ∀ k, k < 12 → parseFieldDescriptor (TX8 k).2.2.1 = some (tyX8 k) := by decide +kernel
abbrev cX8_init : ByteArray := prog_1_method_1_code
def yX8_init : MethodName := ⟨RX8, "<init>", "()V"⟩
abbrev cX8_place : ByteArray := prog_1_method_2_code
def yX8_place : MethodName := ⟨RX8, "place", "()I"⟩
abbrev cX8_road : ByteArray := prog_1_method_3_code
def yX8_road : MethodName := ⟨RX8, "road", "(III)I"⟩
abbrev cX8_heap : ByteArray := prog_1_method_4_code
def yX8_heap : MethodName := ⟨RX8, "heap", "()I"⟩
abbrev cX8_set : ByteArray := prog_1_method_5_code
def yX8_set : MethodName := ⟨RX8, "set", "(III)I"⟩
abbrev cX8_gate : ByteArray := prog_1_method_6_code
def yX8_gate : MethodName := ⟨RX8, "gate", "(II)I"⟩
abbrev cX8_undo : ByteArray := prog_1_method_7_code
def yX8_undo : MethodName := ⟨RX8, "undo", "()I"⟩
abbrev cX8_apart : ByteArray := prog_1_method_8_code
def yX8_apart : MethodName := ⟨RX8, "apart", "(II)I"⟩
abbrev cX8_next : ByteArray := prog_1_method_9_code
def yX8_next : MethodName := ⟨RX8, "next", "(II)I"⟩
abbrev cX8_amount : ByteArray := prog_1_method_10_code
def yX8_amount : MethodName := ⟨RX8, "amount", "(II)I"⟩
abbrev cX8_sum : ByteArray := prog_1_method_11_code
def yX8_sum : MethodName := ⟨RX8, "sum", "(I)I"⟩
abbrev cX8_least : ByteArray := prog_1_method_12_code
def yX8_least : MethodName := ⟨RX8, "least", "(II)I"⟩
abbrev cX8_plan : ByteArray := prog_1_method_13_code
def yX8_plan : MethodName := ⟨RX8, "plan", "(IIII)I"⟩
abbrev cX8_alone : ByteArray := prog_1_method_14_code
def yX8_alone : MethodName := ⟨RX8, "alone", "(II)I"⟩
abbrev cX8_height : ByteArray := prog_1_method_15_code
def yX8_height : MethodName := ⟨RX8, "height", "(III)I"⟩
abbrev cX8_load : ByteArray := prog_1_method_16_code
def yX8_load : MethodName := ⟨RX8, "load", "(IIII)I"⟩
abbrev cX8_far : ByteArray := prog_1_method_17_code
def yX8_far : MethodName := ⟨RX8, "far", "(II)I"⟩
abbrev cX8_shown : ByteArray := prog_1_method_18_code
def yX8_shown : MethodName := ⟨RX8, "shown", "(III)I"⟩
abbrev cX8_some : ByteArray := prog_1_method_19_code
def yX8_some : MethodName := ⟨RX8, "some", "(III)I"⟩
abbrev cX8_gated : ByteArray := prog_1_method_20_code
def yX8_gated : MethodName := ⟨RX8, "gated", "(II)I"⟩
abbrev cX8_draft : ByteArray := prog_1_method_21_code
def yX8_draft : MethodName := ⟨RX8, "draft", "(III)I"⟩
abbrev cX8_clear : ByteArray := prog_1_method_22_code
def yX8_clear : MethodName := ⟨RX8, "clear", "()I"⟩
abbrev cX8_copy : ByteArray := prog_1_method_23_code
def yX8_copy : MethodName := ⟨RX8, "copy", "(II)I"⟩
abbrev cX8_judge : ByteArray := prog_1_method_24_code
def yX8_judge : MethodName := ⟨RX8, "judge", "(II)I"⟩
abbrev cX8_beside : ByteArray := prog_1_method_25_code
def yX8_beside : MethodName := ⟨RX8, "beside", "()I"⟩
abbrev cX8_count : ByteArray := prog_1_method_26_code
def yX8_count : MethodName := ⟨RX8, "count", "(I)I"⟩
abbrev cX8_refusalOfMoving : ByteArray := prog_1_method_27_code
def yX8_refusalOfMoving : MethodName := ⟨RX8, "refusalOfMoving", "(II)I"⟩
abbrev cX8_refusalAtPlaces : ByteArray := prog_1_method_28_code
def yX8_refusalAtPlaces : MethodName := ⟨RX8, "refusalAtPlaces", "(IIII)I"⟩
abbrev cX8_leastCost : ByteArray := prog_1_method_29_code
def yX8_leastCost : MethodName := ⟨RX8, "leastCost", "(II)I"⟩
abbrev cX8_makePlan : ByteArray := prog_1_method_30_code
def yX8_makePlan : MethodName := ⟨RX8, "makePlan", "(II)V"⟩
abbrev cX8_makeReach : ByteArray := prog_1_method_31_code
def yX8_makeReach : MethodName := ⟨RX8, "makeReach", "(II)V"⟩
abbrev cX8_noteChange : ByteArray := prog_1_method_32_code
def yX8_noteChange : MethodName := ⟨RX8, "noteChange", "(IIII)V"⟩
abbrev cX8_forgetResults : ByteArray := prog_1_method_33_code
def yX8_forgetResults : MethodName := ⟨RX8, "forgetResults", "()V"⟩
abbrev cX8_takeBack : ByteArray := prog_1_method_34_code
def yX8_takeBack : MethodName := ⟨RX8, "takeBack", "(I)V"⟩
def RX9 : String := "HeapMoverModel"
def TX9 : u_T := fun k => match k with
  | 0 => ("HeapMoverModel", "places", "I", false)
  | 1 => ("HeapMoverModel", "roads", "I", false)
  | 2 => ("HeapMoverModel", "roadU", "[I", true)
  | 3 => ("HeapMoverModel", "roadV", "[I", true)
  | 4 => ("HeapMoverModel", "roadLength", "[I", true)
  | 5 => ("HeapMoverModel", "heaps", "I", false)
  | 6 => ("HeapMoverModel", "amounts", "[I", true)
  | 7 => ("HeapMoverModel", "bounds", "[I", true)
  | 8 => ("HeapMoverModel", "drafts", "[I", true)
  | 9 => ("HeapMoverModel", "beside", "I", false)
  | 10 => ("HeapMoverModel", "kept", "I", false)
  | 11 => ("HeapMoverModel", "keptWhat", "[I", true)
  | 12 => ("HeapMoverModel", "keptAt", "[I", true)
  | 13 => ("HeapMoverModel", "keptWas", "[I", true)
  | 14 => ("HeapMoverModel", "far", "[I", true)
  | 15 => ("HeapMoverModel", "flow", "[I", true)
  | 16 => ("HeapMoverModel", "supply", "[I", true)
  | 17 => ("HeapMoverModel", "demand", "[I", true)
  | 18 => ("HeapMoverModel", "heights", "[I", true)
  | 19 => ("HeapMoverModel", "dear", "[I", true)
  | 20 => ("HeapMoverModel", "came", "[I", true)
  | 21 => ("HeapMoverModel", "isFixed", "[Z", true)
  | 22 => ("HeapMoverModel", "isSeen", "[Z", true)
  | 23 => ("HeapMoverModel", "queue", "[I", true)
  | 24 => ("HeapMoverModel", "arcs", "I", false)
  | 25 => ("HeapMoverModel", "arcFrom", "[I", true)
  | 26 => ("HeapMoverModel", "arcTo", "[I", true)
  | 27 => ("HeapMoverModel", "arcRoom", "[I", true)
  | 28 => ("HeapMoverModel", "arcCost", "[I", true)
  | 29 => ("HeapMoverModel", "netDear", "[I", true)
  | _ => ("HeapMoverModel", "netCame", "[I", true)
def tyX9 : Nat → FieldType := fun k => match k with
  | 0 => .int
  | 1 => .int
  | 2 => .array .int
  | 3 => .array .int
  | 4 => .array .int
  | 5 => .int
  | 6 => .array .int
  | 7 => .array .int
  | 8 => .array .int
  | 9 => .int
  | 10 => .int
  | 11 => .array .int
  | 12 => .array .int
  | 13 => .array .int
  | 14 => .array .int
  | 15 => .array .int
  | 16 => .array .int
  | 17 => .array .int
  | 18 => .array .int
  | 19 => .array .int
  | 20 => .array .int
  | 21 => .array .boolean
  | 22 => .array .boolean
  | 23 => .array .int
  | 24 => .int
  | 25 => .array .int
  | 26 => .array .int
  | 27 => .array .int
  | 28 => .array .int
  | 29 => .array .int
  | _ => .array .int
abbrev wsX90 : List Cond := u_ws RX9 TX9 31
theorem nmX9 : ∀ a, a < 31 → ∀ b, b < 31 → a ≠ b → (TX9 a).2.1 ≠ (TX9 b).2.1 := by decide +kernel
theorem tyX9_ok : ∀ k, k < 31 → parseFieldDescriptor (TX9 k).2.2.1 = some (tyX9 k) := by decide +kernel
abbrev cX9_init : ByteArray := prog_11_method_1_code
def yX9_init : MethodName := ⟨RX9, "<init>", "()V"⟩
abbrev cX9_in : ByteArray := prog_11_method_2_code
def yX9_in : MethodName := ⟨RX9, "in", "(III)Z"⟩
abbrev cX9_isPlace : ByteArray := prog_11_method_3_code
def yX9_isPlace : MethodName := ⟨RX9, "isPlace", "(I)Z"⟩
abbrev cX9_isHeap : ByteArray := prog_11_method_4_code
def yX9_isHeap : MethodName := ⟨RX9, "isHeap", "(I)Z"⟩
abbrev cX9_keep : ByteArray := prog_11_method_5_code
def yX9_keep : MethodName := ⟨RX9, "keep", "(III)V"⟩
abbrev cX9_place : ByteArray := prog_11_method_6_code
def yX9_place : MethodName := ⟨RX9, "place", "()I"⟩
abbrev cX9_road : ByteArray := prog_11_method_7_code
def yX9_road : MethodName := ⟨RX9, "road", "(III)I"⟩
abbrev cX9_heap : ByteArray := prog_11_method_8_code
def yX9_heap : MethodName := ⟨RX9, "heap", "()I"⟩
abbrev cX9_set : ByteArray := prog_11_method_9_code
def yX9_set : MethodName := ⟨RX9, "set", "(III)I"⟩
abbrev cX9_gate : ByteArray := prog_11_method_10_code
def yX9_gate : MethodName := ⟨RX9, "gate", "(II)I"⟩
abbrev cX9_undo : ByteArray := prog_11_method_11_code
def yX9_undo : MethodName := ⟨RX9, "undo", "()I"⟩
abbrev cX9_findFar : ByteArray := prog_11_method_12_code
def yX9_findFar : MethodName := ⟨RX9, "findFar", "()V"⟩
abbrev cX9_isJoined : ByteArray := prog_11_method_13_code
def yX9_isJoined : MethodName := ⟨RX9, "isJoined", "()Z"⟩
abbrev cX9_apart : ByteArray := prog_11_method_14_code
def yX9_apart : MethodName := ⟨RX9, "apart", "(II)I"⟩
abbrev cX9_nextTo : ByteArray := prog_11_method_15_code
def yX9_nextTo : MethodName := ⟨RX9, "nextTo", "(II)I"⟩
abbrev cX9_next : ByteArray := prog_11_method_16_code
def yX9_next : MethodName := ⟨RX9, "next", "(II)I"⟩
abbrev cX9_amount : ByteArray := prog_11_method_17_code
def yX9_amount : MethodName := ⟨RX9, "amount", "(II)I"⟩
abbrev cX9_sumOf : ByteArray := prog_11_method_18_code
def yX9_sumOf : MethodName := ⟨RX9, "sumOf", "(I)I"⟩
abbrev cX9_sum : ByteArray := prog_11_method_19_code
def yX9_sum : MethodName := ⟨RX9, "sum", "(I)I"⟩
abbrev cX9_begin : ByteArray := prog_11_method_20_code
def yX9_begin : MethodName := ⟨RX9, "begin", "(II)V"⟩
abbrev cX9_findWay : ByteArray := prog_11_method_21_code
def yX9_findWay : MethodName := ⟨RX9, "findWay", "()I"⟩
abbrev cX9_go : ByteArray := prog_11_method_22_code
def yX9_go : MethodName := ⟨RX9, "go", "(II)I"⟩
abbrev cX9_costOf : ByteArray := prog_11_method_23_code
def yX9_costOf : MethodName := ⟨RX9, "costOf", "([I)I"⟩
abbrev cX9_solve : ByteArray := prog_11_method_24_code
def yX9_solve : MethodName := ⟨RX9, "solve", "(III)I"⟩
abbrev cX9_against : ByteArray := prog_11_method_25_code
def yX9_against : MethodName := ⟨RX9, "against", "(II)I"⟩
abbrev cX9_least : ByteArray := prog_11_method_26_code
def yX9_least : MethodName := ⟨RX9, "least", "(II)I"⟩
abbrev cX9_findHeights : ByteArray := prog_11_method_27_code
def yX9_findHeights : MethodName := ⟨RX9, "findHeights", "()V"⟩
abbrev cX9_isTight : ByteArray := prog_11_method_28_code
def yX9_isTight : MethodName := ⟨RX9, "isTight", "(II)Z"⟩
abbrev cX9_canTurn : ByteArray := prog_11_method_29_code
def yX9_canTurn : MethodName := ⟨RX9, "canTurn", "(II)Z"⟩
abbrev cX9_turn : ByteArray := prog_11_method_30_code
def yX9_turn : MethodName := ⟨RX9, "turn", "(II)V"⟩
abbrev cX9_loosen : ByteArray := prog_11_method_31_code
def yX9_loosen : MethodName := ⟨RX9, "loosen", "()V"⟩
abbrev cX9_findPlan : ByteArray := prog_11_method_32_code
def yX9_findPlan : MethodName := ⟨RX9, "findPlan", "(II)V"⟩
abbrev cX9_plan : ByteArray := prog_11_method_33_code
def yX9_plan : MethodName := ⟨RX9, "plan", "(IIII)I"⟩
abbrev cX9_alone : ByteArray := prog_11_method_34_code
def yX9_alone : MethodName := ⟨RX9, "alone", "(II)I"⟩
abbrev cX9_height : ByteArray := prog_11_method_35_code
def yX9_height : MethodName := ⟨RX9, "height", "(III)I"⟩
abbrev cX9_load : ByteArray := prog_11_method_36_code
def yX9_load : MethodName := ⟨RX9, "load", "(IIII)I"⟩
abbrev cX9_fits : ByteArray := prog_11_method_37_code
def yX9_fits : MethodName := ⟨RX9, "fits", "(III)Z"⟩
abbrev cX9_reach : ByteArray := prog_11_method_38_code
def yX9_reach : MethodName := ⟨RX9, "reach", "(I)I"⟩
abbrev cX9_findFarthest : ByteArray := prog_11_method_39_code
def yX9_findFarthest : MethodName := ⟨RX9, "findFarthest", "(II)I"⟩
abbrev cX9_far : ByteArray := prog_11_method_40_code
def yX9_far : MethodName := ⟨RX9, "far", "(II)I"⟩
abbrev cX9_shown : ByteArray := prog_11_method_41_code
def yX9_shown : MethodName := ⟨RX9, "shown", "(III)I"⟩
abbrev cX9_some : ByteArray := prog_11_method_42_code
def yX9_some : MethodName := ⟨RX9, "some", "(III)I"⟩
abbrev cX9_arc : ByteArray := prog_11_method_43_code
def yX9_arc : MethodName := ⟨RX9, "arc", "(IIII)V"⟩
abbrev cX9_hasNetWay : ByteArray := prog_11_method_44_code
def yX9_hasNetWay : MethodName := ⟨RX9, "hasNetWay", "()Z"⟩
abbrev cX9_goNet : ByteArray := prog_11_method_45_code
def yX9_goNet : MethodName := ⟨RX9, "goNet", "()I"⟩
abbrev cX9_gated : ByteArray := prog_11_method_46_code
def yX9_gated : MethodName := ⟨RX9, "gated", "(II)I"⟩
abbrev cX9_draft : ByteArray := prog_11_method_47_code
def yX9_draft : MethodName := ⟨RX9, "draft", "(III)I"⟩
abbrev cX9_clear : ByteArray := prog_11_method_48_code
def yX9_clear : MethodName := ⟨RX9, "clear", "()I"⟩
abbrev cX9_copy : ByteArray := prog_11_method_49_code
def yX9_copy : MethodName := ⟨RX9, "copy", "(II)I"⟩
abbrev cX9_drafted : ByteArray := prog_11_method_50_code
def yX9_drafted : MethodName := ⟨RX9, "drafted", "(IZ)I"⟩
abbrev cX9_judge : ByteArray := prog_11_method_51_code
def yX9_judge : MethodName := ⟨RX9, "judge", "(II)I"⟩
abbrev cX9_beside : ByteArray := prog_11_method_52_code
def yX9_beside : MethodName := ⟨RX9, "beside", "()I"⟩
abbrev cX9_count : ByteArray := prog_11_method_53_code
def yX9_count : MethodName := ⟨RX9, "count", "(I)I"⟩
def RJ9 : String := "java/lang/Math"
def TJ9 : u_T := fun k => match k with
  | _ => ("", "", "", false)
def tyJ9 : Nat → FieldType := fun k => match k with
  | _ => .int
abbrev wsJ90 : List Cond := u_ws RJ9 TJ9 0
theorem nmJ9 : ∀ a, a < 0 → ∀ b, b < 0 → a ≠ b → (TJ9 a).2.1 ≠ (TJ9 b).2.1 := by decide +kernel
theorem tyJ9_ok : ∀ k, k < 0 → parseFieldDescriptor (TJ9 k).2.2.1 = some (tyJ9 k) := by decide +kernel
abbrev cJ9_min_7cf53 : ByteArray := prog_12_method_69_code
def yJ9_min_7cf53 : MethodName := ⟨RJ9, "min", "(II)I"⟩
def RJ10 : String := "java/lang/System"
def TJ10 : u_T := fun k => match k with
  | _ => ("", "", "", false)
def tyJ10 : Nat → FieldType := fun k => match k with
  | _ => .int
abbrev wsJ100 : List Cond := u_ws RJ10 TJ10 0
theorem nmJ10 : ∀ a, a < 0 → ∀ b, b < 0 → a ≠ b → (TJ10 a).2.1 ≠ (TJ10 b).2.1 := by decide +kernel
theorem tyJ10_ok : ∀ k, k < 0 → parseFieldDescriptor (TJ10 k).2.2.1 = some (tyJ10 k) := by decide +kernel
def RJ7 : String := "java/util/Arrays"
def TJ7 : u_T := fun k => match k with
  | _ => ("", "", "", false)
def tyJ7 : Nat → FieldType := fun k => match k with
  | _ => .int
abbrev wsJ70 : List Cond := u_ws RJ7 TJ7 0
theorem nmJ7 : ∀ a, a < 0 → ∀ b, b < 0 → a ≠ b → (TJ7 a).2.1 ≠ (TJ7 b).2.1 := by decide +kernel
theorem tyJ7_ok : ∀ k, k < 0 → parseFieldDescriptor (TJ7 k).2.2.1 = some (tyJ7 k) := by decide +kernel
abbrev cJ7_fill_53178 : ByteArray := prog_14_method_103_code
def yJ7_fill_53178 : MethodName := ⟨RJ7, "fill", "([II)V"⟩
def RL : String := "HeapMoverLaw"
abbrev cL_law : ByteArray := code
def yL_law : MethodName := ⟨RL, "law", "([I)Z"⟩
abbrev vwCl : List vw_C := [(RX0, TX0, 6), (RX1, TX1, 1), (RX2, TX2, 2), (RX3, TX3, 8), (RX4, TX4, 1), (RX5, TX5, 9), (RX6, TX6, 5), (RX7, TX7, 3), (RX8, TX8, 12), (RX9, TX9, 31)]
end
section
/-! whole numbers for the machine's ints; the memory of a world: a row of numbers for each cell; the cells' addresses are variables -/
abbrev inR (x : Int) : Prop := -2147483648 ≤ x ∧ x ≤ 2147483647
abbrev i32 (x : Int) : Int32 := Int32.ofInt x
theorem i32_toInt {x : Int} (h : inR x) : (i32 x).toInt = x := Int32.toInt_ofInt_of_le (by have := h.1; omega) (by have := h.2; omega)
theorem inR_toInt (x : Int32) : inR x.toInt := ⟨by have := Int32.le_toInt x; omega, by have := Int32.toInt_lt x; omega⟩
theorem i32_le {x y : Int} (hx : inR x) (hy : inR y) : i32 x ≤ i32 y ↔ x ≤ y := by rw [Int32.le_iff_toInt_le, i32_toInt hx, i32_toInt hy]
theorem i32_lt {x y : Int} (hx : inR x) (hy : inR y) : i32 x < i32 y ↔ x < y := by rw [Int32.lt_iff_toInt_lt, i32_toInt hx, i32_toInt hy]
theorem i32_eq {x y : Int} (hx : inR x) (hy : inR y) : i32 x = i32 y ↔ x = y := by rw [← Int32.toInt_inj, i32_toInt hx, i32_toInt hy]
theorem i32_0 : i32 0 = 0 := rfl
theorem i32_in {x n : Int} (h0 : 0 ≤ x) (h : x < n) (hn : n ≤ 2147483647) : vp_in (i32 x) n.toNat ∧ (i32 x).toNatClampNeg = x.toNat := by
  have hr : inR x := ⟨by omega, by omega⟩
  have hc : (i32 x).toNatClampNeg = x.toNat := Int32.toNatClampNeg_ofInt_of_le (by have := hr.1; omega) (by have := hr.2; omega)
  refine ⟨?_, hc⟩
  rw [vp_in_iff, i32_toInt hr]
  omega
theorem inR_of {x : Int} (h0 : -2147483648 ≤ x) (h1 : x ≤ 2147483647) : inR x := ⟨h0, h1⟩
theorem inR_ix {x n : Int} (h : 0 ≤ x ∧ x < n) (hn : n ≤ 2147483647) : inR x := ⟨by omega, by omega⟩
theorem inR_min {x y : Int} (hx : inR x) (hy : inR y) : inR (min x y) := ⟨by have := hx.1; have := hy.1; omega, by have := hx.2; have := hy.2; omega⟩
theorem i32_min {x y : Int} (hx : inR x) (hy : inR y) : (if i32 y < i32 x then i32 y else i32 x) = i32 (min x y) := by
  by_cases h : y < x
  · rw [if_pos ((i32_lt hy hx).mpr h)]; congr 1; omega
  · rw [if_neg (fun q => h ((i32_lt hy hx).mp q))]; congr 1; omega
theorem i32_div {x y : Int} (hx : inR x) (h0 : 0 ≤ x) (hy : inR y) (hy0 : 0 < y) : i32 x / i32 y = i32 (x / y) := by
  apply Int32.toInt_inj.mp
  have hq : inR (x / y) := by
    have h1 : 0 ≤ x / y := Int.ediv_nonneg h0 (by omega)
    have h2 : x / y ≤ x := Int.ediv_le_self y h0
    have h3 := hx.2
    exact ⟨by omega, by omega⟩
  rw [Int32.toInt_div_of_ne_right _ _ (fun q => by have := (Int32.toInt_inj.mpr q); rw [i32_toInt hy] at this; have e : (-1 : Int32).toInt = -1 := by decide
                                                   rw [e] at this; omega), i32_toInt hx, i32_toInt hy, i32_toInt hq, Int.tdiv_eq_ediv_of_nonneg h0]
theorem i32_rem {x y : Int} (hx : inR x) (h0 : 0 ≤ x) (hy : inR y) (hy0 : 0 < y) : i32 x - i32 x / i32 y * i32 y = i32 (x % y) := by
  rw [i32_div hx h0 hy hy0, ← Int32.ofInt_mul, ← Int32.ofInt_sub, Int.emod_def, Int.mul_comm]
/-- the other one of a pair -/
def pr1 (x : Int) : Int := if x % 2 = 0 then x + 1 else x - 1
theorem i32_xor1 {x : Int} (hx : inR x) (h0 : 0 ≤ x) : i32 x ^^^ i32 1 = i32 (pr1 x) := by
  obtain ⟨n, rfl⟩ := Int.eq_ofNat_of_zero_le h0
  have hn : n < 2 ^ 31 := by have := hx.2; omega
  have e1 : (i32 (n : Int)).toBitVec = BitVec.ofNat 32 n := by simp [i32, Int32.toBitVec_ofInt]
  have e2 : (i32 1).toBitVec = BitVec.ofNat 32 1 := by decide
  have key : pr1 (n : Int) = ((n ^^^ 1 : Nat) : Int) := by
    unfold pr1
    rcases Nat.mod_two_eq_zero_or_one n with h | h
    · have : n ^^^ 1 = n + 1 := by
        apply Nat.eq_of_testBit_eq
        intro i
        rw [Nat.testBit_xor]
        cases i with
        | zero => simp [Nat.testBit_zero, h]; omega
        | succ i => simp [Nat.testBit_succ]; congr 1; omega
      rw [this]
      split <;> omega
    · have : n ^^^ 1 = n - 1 := by
        apply Nat.eq_of_testBit_eq
        intro i
        rw [Nat.testBit_xor]
        cases i with
        | zero => simp [Nat.testBit_zero, h]; omega
        | succ i => simp [Nat.testBit_succ]; congr 1; omega
      rw [this]
      split <;> omega
  rw [key]
  apply Int32.toBitVec.inj
  rw [Int32.toBitVec_xor, e1, e2]
  apply BitVec.eq_of_toNat_eq
  have hx2 : n ^^^ 1 < 2 ^ 32 := Nat.xor_lt_two_pow (by omega) (by omega)
  simp [i32, Int32.toBitVec_ofInt, Nat.mod_eq_of_lt hx2, Nat.mod_eq_of_lt (show n < 4294967296 by omega)]
abbrev Mem : Type := Int → Int → Int
def mset (M : Mem) (k i x : Int) : Mem := fun a j => if a = k ∧ j = i then x else M a j
def msetr (M : Mem) (k : Int) (f : Int → Int) : Mem := fun a j => if a = k then f j else M a j
/-- n places of row r0 over row r1 -/
def mcopy (M : Mem) (r0 r1 n : Int) : Mem := msetr M r1 (fun j => if 0 ≤ j ∧ j < n then M r0 j else M r1 j)
def rowf (M : Mem) (k : Nat) : Nat → Int32 := fun j => i32 (M k j)
def Rng (M : Mem) : Prop := ∀ a j, inR (M a j)
theorem mset_s {M : Mem} {k i x : Int} : mset M k i x k i = x := if_pos ⟨rfl, rfl⟩
theorem mset_r {M : Mem} {k i x a j : Int} (h : a ≠ k) : mset M k i x a j = M a j := if_neg (fun q => h q.1)
theorem mset_i {M : Mem} {k i x a j : Int} (h : j ≠ i) : mset M k i x a j = M a j := if_neg (fun q => h q.2)
theorem msetr_s {M : Mem} {k : Int} {f : Int → Int} {j : Int} : msetr M k f k j = f j := if_pos rfl
theorem msetr_n {M : Mem} {k a : Int} {f : Int → Int} {j : Int} (h : a ≠ k) : msetr M k f a j = M a j := if_neg h
theorem mset_R {M : Mem} {k i x : Int} (h : Rng M) (hx : inR x) : Rng (mset M k i x) := fun a j => by
  unfold mset
  split
  · exact hx
  · exact h a j
theorem msetr_R {M : Mem} {k : Int} {f : Int → Int} (h : Rng M) (hx : ∀ j, inR (f j)) : Rng (msetr M k f) := fun a j => by
  unfold msetr
  split
  · exact hx j
  · exact h a j
theorem rowf_set {M : Mem} {k : Nat} {i x : Int} (h : 0 ≤ i) : rowf (mset M k i x) k = upd (rowf M k) i.toNat (i32 x) := by
  funext j
  unfold rowf upd mset
  by_cases hj : j = i.toNat
  · rw [if_pos hj, if_pos ⟨rfl, by omega⟩]
  · rw [if_neg hj, if_neg (fun q => hj (by have := q.2; omega))]
theorem rowf_ne {M : Mem} {k k2 : Nat} {i x : Int} (h : k2 ≠ k) : rowf (mset M k i x) k2 = rowf M k2 := by
  funext j
  unfold rowf
  rw [mset_r (fun q => h (by omega))]
theorem rowf_setr {M : Mem} {k : Nat} {f : Int → Int} : rowf (msetr M k f) k = fun j : Nat => i32 (f (j : Int)) := by
  funext j
  unfold rowf
  rw [msetr_s]
theorem rowf_ner {M : Mem} {k k2 : Nat} {f : Int → Int} (h : k2 ≠ k) : rowf (msetr M k f) k2 = rowf M k2 := by
  funext j
  unfold rowf
  rw [msetr_n (fun q => h (by omega))]
/-- the cells of a world -/
def gw (N : Nat) (ad : Int → Nat) (cell : Nat → (Nat → Int32) → va_E) (M : Mem) : va_W := (List.range N).map (fun k : Nat => (ad (k : Int), cell k (rowf M k)))
theorem gw_get {N : Nat} {ad : Int → Nat} {cell : Nat → (Nat → Int32) → va_E} {M : Mem} {k : Nat} (h : k < N) : (gw N ad cell M)[k]? = some (ad k, cell k (rowf M k)) := by
  simp [gw, h]
theorem gw_get' {N : Nat} {ad : Int → Nat} {cell : Nat → (Nat → Int32) → va_E} {M : Mem} {k : Nat} {q : Nat × va_E} (h : (gw N ad cell M)[k]? = some q) : k < N ∧ q = (ad k, cell k (rowf M k)) := by
  by_cases hk : k < N
  · rw [gw_get hk] at h
    exact ⟨hk, (Option.some.inj h).symm⟩
  · rw [List.getElem?_eq_none (by simp [gw]; omega)] at h
    cases h
theorem gw_set {N : Nat} {ad : Int → Nat} {cell : Nat → (Nat → Int32) → va_E} {M M' : Mem} {k : Nat} {e : va_E} (h : k < N) (he : e = cell k (rowf M' k)) (ho : ∀ j : Nat, j ≠ k → rowf M' j = rowf M j) : (gw N ad cell M).set k (ad k, e) = gw N ad cell M' := by
  apply List.ext_getElem?
  intro j
  by_cases hj : j = k
  · subst hj
    rw [List.getElem?_set_self (by simp [gw]; exact h), gw_get h, he]
  · rw [List.getElem?_set_ne (Ne.symm hj)]
    by_cases hjN : j < N
    · rw [gw_get hjN, gw_get hjN, ho j hj]
    · rw [List.getElem?_eq_none (by simp [gw]; omega), List.getElem?_eq_none (by simp [gw]; omega)]
def AG (N : Nat) (ad : Int → Nat) (sz : Nat) : Nat → Prop := fun q => (∃ k : Nat, k < N ∧ q = ad k) ∨ sz ≤ q
def InG (D : va_G) (tys : List (ClassId × FieldType)) (N : Nat) (ad : Int → Nat) (cell : Nat → (Nat → Int32) → va_E) (s : State) (M : Mem) (H : Heap) (locs : List Loc) : Prop :=
  va_K D vwCl tys s ∧ va_P D vwCl (gw N ad cell M) H ∧ va_D (AG N ad s.heap.size) (gw N ad cell M) ∧ va_S (AG N ad s.heap.size) s.heap H locs ∧ Rng M
def PreG (D : va_G) (tys : List (ClassId × FieldType)) (N : Nat) (ad : Int → Nat) (cell : Nat → (Nat → Int32) → va_E) (M : Mem) (sz : Nat) (U : State) : Prop :=
  U.heap.size = sz ∧ va_P D vwCl (gw N ad cell M) U.heap ∧ va_K D vwCl tys U ∧ va_D (fun _ => True) (gw N ad cell M) ∧ Rng M
def BG (D : va_G) (tys : List (ClassId × FieldType)) (N : Nat) (ad : Int → Nat) (cell : Nat → (Nat → Int32) → va_E) (sz : Nat) (M : Mem) (t : State) : Prop :=
  va_P D vwCl (gw N ad cell M) t.heap ∧ va_K D vwCl tys t ∧ va_D (AG N ad sz) (gw N ad cell M) ∧ Rng M
/-- a post of whole numbers, of the machine's ints -/
def pI (post : Int → Mem → Prop) : Int32 → Mem → Prop := fun r M => ∃ x, r = i32 x ∧ inR x ∧ post x M
abbrev MetI (l : Launch) (y : MethodName) (ws : List Cond) (rm : Room) (D : va_G) (tys : List (ClassId × FieldType)) (N : Nat) (ad : Int → Nat) (cell : Nat → (Nat → Int32) → va_E) (av : List Value) (M : Mem) (sz : Nat) (post : Int → Mem → Prop) : Prop :=
  Met l y ws rm (va_Pc av (PreG D tys N ad cell M sz)) (va_Qi (pI post) (BG D tys N ad cell sz) (AG N ad sz)) 0 0 (AG N ad sz)
abbrev MetV (l : Launch) (y : MethodName) (ws : List Cond) (rm : Room) (D : va_G) (tys : List (ClassId × FieldType)) (N : Nat) (ad : Int → Nat) (cell : Nat → (Nat → Int32) → va_E) (av : List Value) (M : Mem) (sz : Nat) (post : Mem → Prop) : Prop :=
  Met l y ws rm (va_Pc av (PreG D tys N ad cell M sz)) (va_Qv post (BG D tys N ad cell sz) (AG N ad sz)) 0 0 (AG N ad sz)
abbrev QI (below : List Frame) (args : Array Value) (s : State) (D : va_G) (tys : List (ClassId × FieldType)) (N : Nat) (ad : Int → Nat) (cell : Nat → (Nat → Int32) → va_E) (post : Int → Mem → Prop) : State → Prop :=
  MQ below (va_Qi (pI post) (BG D tys N ad cell s.heap.size) (AG N ad s.heap.size)) args s 0 0 (AG N ad s.heap.size)
abbrev QV (below : List Frame) (args : Array Value) (s : State) (D : va_G) (tys : List (ClassId × FieldType)) (N : Nat) (ad : Int → Nat) (cell : Nat → (Nat → Int32) → va_E) (post : Mem → Prop) : State → Prop :=
  MQ below (va_Qv post (BG D tys N ad cell s.heap.size) (AG N ad s.heap.size)) args s 0 0 (AG N ad s.heap.size)
theorem InG.start {D : va_G} {tys : List (ClassId × FieldType)} {N : Nat} {ad : Int → Nat} {cell : Nat → (Nat → Int32) → va_E} {s : State} {M : Mem} (h : PreG D tys N ad cell M s.heap.size s) : InG D tys N ad cell s M s.heap [] := by
  obtain ⟨-, hP, hK, hD, hR⟩ := h
  refine ⟨hK, hP, ⟨hD.1, fun k q hq => ?_⟩, va_S.rf, hR⟩
  obtain ⟨h1, h2⟩ := gw_get' hq
  exact Or.inl ⟨k, h1, by rw [h2]⟩
theorem PreG.blind {D : va_G} {tys : List (ClassId × FieldType)} {N : Nat} {ad : Int → Nat} {cell : Nat → (Nat → Int32) → va_E} {M : Mem} {sz : Nat} {av : List Value} : FrameBlind (va_Pc av (PreG D tys N ad cell M sz)) := by
  intro a U g mk q
  obtain ⟨q0, q1, qP, qK, qD⟩ := q
  exact ⟨q0, q1, qP, va_K.moved (u := U) (U := U.calling g mk a) (Vm.Alike.refl U.vm) qK, qD⟩
section MB
variable {p : Program} {l : Launch} {e : Env} {R : Room} {s : State} {m : MethodId} {args : Array Value} {below : List Frame} {meth : Method} {c : Code} {H : Heap} {locs : List Loc} {cells slots : Nat} {Q : State → Prop}
variable {cc : ByteArray} {pc : Nat} {ls : Array Slot} {rest : List Value} {D : va_G} {tys : List (ClassId × FieldType)} {N : Nat} {ad : Int → Nat} {cell : Nat → (Nat → Int32) → va_E} {M : Mem}
/-! the machine's arithmetic over whole numbers -/
theorem li_iconst (hx : p.tables.exec = Jvm.exec) (hb : c.code = cc) {n : Int} (hdg : decode cc pc = .ok (.iconst n, 1))
    (k : W p l e R s m args below meth c H locs cells slots Q (F0 m (pc + 1) ls (.int (i32 n) :: rest))) : W p l e R s m args below meth c H locs cells slots Q (F0 m pc ls rest) := lv_iconst hx hb hdg rfl k
theorem li_iadd (hx : p.tables.exec = Jvm.exec) (hb : c.code = cc) {x y : Int} (hdg : decode cc pc = .ok (.iadd, 1))
    (k : W p l e R s m args below meth c H locs cells slots Q (F0 m (pc + 1) ls (.int (i32 (x + y)) :: rest))) : W p l e R s m args below meth c H locs cells slots Q (F0 m pc ls (.int (i32 y) :: .int (i32 x) :: rest)) := lv_iadd hx hb hdg (by rw [← Int32.ofInt_add]; exact k)
theorem li_isub (hx : p.tables.exec = Jvm.exec) (hb : c.code = cc) {x y : Int} (hdg : decode cc pc = .ok (.isub, 1))
    (k : W p l e R s m args below meth c H locs cells slots Q (F0 m (pc + 1) ls (.int (i32 (x - y)) :: rest))) : W p l e R s m args below meth c H locs cells slots Q (F0 m pc ls (.int (i32 y) :: .int (i32 x) :: rest)) := lv_isub hx hb hdg (by rw [← Int32.ofInt_sub]; exact k)
theorem li_imul (hx : p.tables.exec = Jvm.exec) (hb : c.code = cc) {x y : Int} (hdg : decode cc pc = .ok (.imul, 1))
    (k : W p l e R s m args below meth c H locs cells slots Q (F0 m (pc + 1) ls (.int (i32 (x * y)) :: rest))) : W p l e R s m args below meth c H locs cells slots Q (F0 m pc ls (.int (i32 y) :: .int (i32 x) :: rest)) := lv_imul hx hb hdg (by rw [← Int32.ofInt_mul]; exact k)
theorem li_ineg (hx : p.tables.exec = Jvm.exec) (hb : c.code = cc) {x : Int} (hdg : decode cc pc = .ok (.ineg, 1))
    (k : W p l e R s m args below meth c H locs cells slots Q (F0 m (pc + 1) ls (.int (i32 (-x)) :: rest))) : W p l e R s m args below meth c H locs cells slots Q (F0 m pc ls (.int (i32 x) :: rest)) := lv_ineg hx hb hdg (by rw [← Int32.ofInt_neg]; exact k)
theorem li_idiv (hx : p.tables.exec = Jvm.exec) (hb : c.code = cc) {x y : Int} (hdg : decode cc pc = .ok (.idiv, 1)) (hxr : inR x) (h0 : 0 ≤ x) (hyr : inR y) (hy : 0 < y)
    (k : W p l e R s m args below meth c H locs cells slots Q (F0 m (pc + 1) ls (.int (i32 (x / y)) :: rest))) : W p l e R s m args below meth c H locs cells slots Q (F0 m pc ls (.int (i32 y) :: .int (i32 x) :: rest)) :=
  lv_idiv hx hb hdg (fun q => by have := (i32_eq hyr (show inR 0 by decide)).mp q; omega) (by rw [i32_div hxr h0 hyr hy]; exact k)
theorem li_irem (hx : p.tables.exec = Jvm.exec) (hb : c.code = cc) {x y : Int} (hdg : decode cc pc = .ok (.irem, 1)) (hxr : inR x) (h0 : 0 ≤ x) (hyr : inR y) (hy : 0 < y)
    (k : W p l e R s m args below meth c H locs cells slots Q (F0 m (pc + 1) ls (.int (i32 (x % y)) :: rest))) : W p l e R s m args below meth c H locs cells slots Q (F0 m pc ls (.int (i32 y) :: .int (i32 x) :: rest)) :=
  lv_irem hx hb hdg (fun q => by have := (i32_eq hyr (show inR 0 by decide)).mp q; omega) (by rw [i32_rem hxr h0 hyr hy]; exact k)
theorem li_iinc (hx : p.tables.exec = Jvm.exec) (hb : c.code = cc) {i nL k : Nat} {n : Int} {x : Int} {lv lv' : List (Nat × Value)} (hdg : decode cc pc = .ok (.iinc i n, 3)) (h : lv_has ls nL lv) (hk : lv[k]? = some (i, .int (i32 x))) (hn : i < nL) (hl : (i, Value.int (i32 (x + n))) :: lv.filter (fun q => !(q.1 == i) && !(q.1 + 1 == i && q.2.category == 2)) = lv')
    (kk : ∀ ls' : Array Slot, lv_has ls' nL lv' → W p l e R s m args below meth c H locs cells slots Q (F0 m (pc + 3) ls' rest)) : W p l e R s m args below meth c H locs cells slots Q (F0 m pc ls rest) :=
  lv_iinc hx hb hdg h hk (Int32.ofInt_add x n).symm hn hl kk
theorem li_name {x : Int} (k : ∀ y : Int, y = x → W p l e R s m args below meth c H locs cells slots Q (F0 m pc ls (.int (i32 y) :: rest))) : W p l e R s m args below meth c H locs cells slots Q (F0 m pc ls (.int (i32 x) :: rest)) := k x rfl
theorem li_ixor1 (hx : p.tables.exec = Jvm.exec) (hb : c.code = cc) {x : Int} (hdg : decode cc pc = .ok (.ixor, 1)) (hxr : inR x) (h0 : 0 ≤ x)
    (k : W p l e R s m args below meth c H locs cells slots Q (F0 m (pc + 1) ls (.int (i32 (pr1 x)) :: rest))) : W p l e R s m args below meth c H locs cells slots Q (F0 m pc ls (.int (i32 1) :: .int (i32 x) :: rest)) := lv_ixor hx hb hdg (by rw [i32_xor1 hxr h0]; exact k)
/-! branches -/
theorem li_if_eq (hx : p.tables.exec = Jvm.exec) (hb : c.code = cc) {x : Int} {off : Int} {tgt : Nat} (hdg : decode cc pc = .ok (.ifCond .eq off, 3)) (ht : (pc : Int) + off = (tgt : Int)) (hr : inR x)
    (kt : x = 0 → W p l e R s m args below meth c H locs cells slots Q (F0 m tgt ls rest)) (kf : ¬ x = 0 → W p l e R s m args below meth c H locs cells slots Q (F0 m (pc + 3) ls rest)) : W p l e R s m args below meth c H locs cells slots Q (F0 m pc ls (.int (i32 x) :: rest)) :=
  lv_if_eq hx hb hdg ht (fun q => kt ((i32_eq hr (by decide)).mp q)) (fun q => kf (fun z => q ((i32_eq hr (by decide)).mpr z)))
theorem li_if_ne (hx : p.tables.exec = Jvm.exec) (hb : c.code = cc) {x : Int} {off : Int} {tgt : Nat} (hdg : decode cc pc = .ok (.ifCond .ne off, 3)) (ht : (pc : Int) + off = (tgt : Int)) (hr : inR x)
    (kt : ¬ x = 0 → W p l e R s m args below meth c H locs cells slots Q (F0 m tgt ls rest)) (kf : x = 0 → W p l e R s m args below meth c H locs cells slots Q (F0 m (pc + 3) ls rest)) : W p l e R s m args below meth c H locs cells slots Q (F0 m pc ls (.int (i32 x) :: rest)) :=
  lv_if_ne hx hb hdg ht (fun q => kt (fun z => q ((i32_eq hr (by decide)).mpr z))) (fun q => kf ((i32_eq hr (by decide)).mp q))
theorem li_if_lt (hx : p.tables.exec = Jvm.exec) (hb : c.code = cc) {x : Int} {off : Int} {tgt : Nat} (hdg : decode cc pc = .ok (.ifCond .lt off, 3)) (ht : (pc : Int) + off = (tgt : Int)) (hr : inR x)
    (kt : x < 0 → W p l e R s m args below meth c H locs cells slots Q (F0 m tgt ls rest)) (kf : ¬ x < 0 → W p l e R s m args below meth c H locs cells slots Q (F0 m (pc + 3) ls rest)) : W p l e R s m args below meth c H locs cells slots Q (F0 m pc ls (.int (i32 x) :: rest)) :=
  lv_if_lt hx hb hdg ht (fun q => kt ((i32_lt hr (show inR 0 by decide)).mp q)) (fun q => kf (fun z => q ((i32_lt hr (show inR 0 by decide)).mpr z)))
theorem li_if_ge (hx : p.tables.exec = Jvm.exec) (hb : c.code = cc) {x : Int} {off : Int} {tgt : Nat} (hdg : decode cc pc = .ok (.ifCond .ge off, 3)) (ht : (pc : Int) + off = (tgt : Int)) (hr : inR x)
    (kt : 0 ≤ x → W p l e R s m args below meth c H locs cells slots Q (F0 m tgt ls rest)) (kf : ¬ 0 ≤ x → W p l e R s m args below meth c H locs cells slots Q (F0 m (pc + 3) ls rest)) : W p l e R s m args below meth c H locs cells slots Q (F0 m pc ls (.int (i32 x) :: rest)) :=
  lv_if_ge hx hb hdg ht (fun q => kt ((i32_le (show inR 0 by decide) hr).mp q)) (fun q => kf (fun z => q ((i32_le (show inR 0 by decide) hr).mpr z)))
theorem li_if_gt (hx : p.tables.exec = Jvm.exec) (hb : c.code = cc) {x : Int} {off : Int} {tgt : Nat} (hdg : decode cc pc = .ok (.ifCond .gt off, 3)) (ht : (pc : Int) + off = (tgt : Int)) (hr : inR x)
    (kt : 0 < x → W p l e R s m args below meth c H locs cells slots Q (F0 m tgt ls rest)) (kf : ¬ 0 < x → W p l e R s m args below meth c H locs cells slots Q (F0 m (pc + 3) ls rest)) : W p l e R s m args below meth c H locs cells slots Q (F0 m pc ls (.int (i32 x) :: rest)) :=
  lv_if_gt hx hb hdg ht (fun q => kt ((i32_lt (show inR 0 by decide) hr).mp q)) (fun q => kf (fun z => q ((i32_lt (show inR 0 by decide) hr).mpr z)))
theorem li_if_le (hx : p.tables.exec = Jvm.exec) (hb : c.code = cc) {x : Int} {off : Int} {tgt : Nat} (hdg : decode cc pc = .ok (.ifCond .le off, 3)) (ht : (pc : Int) + off = (tgt : Int)) (hr : inR x)
    (kt : x ≤ 0 → W p l e R s m args below meth c H locs cells slots Q (F0 m tgt ls rest)) (kf : ¬ x ≤ 0 → W p l e R s m args below meth c H locs cells slots Q (F0 m (pc + 3) ls rest)) : W p l e R s m args below meth c H locs cells slots Q (F0 m pc ls (.int (i32 x) :: rest)) :=
  lv_if_le hx hb hdg ht (fun q => kt ((i32_le hr (show inR 0 by decide)).mp q)) (fun q => kf (fun z => q ((i32_le hr (show inR 0 by decide)).mpr z)))
theorem li_icmp_eq (hx : p.tables.exec = Jvm.exec) (hb : c.code = cc) {x y : Int} {off : Int} {tgt : Nat} (hdg : decode cc pc = .ok (.if_icmp .eq off, 3)) (ht : (pc : Int) + off = (tgt : Int)) (hr : inR x) (hq : inR y)
    (kt : x = y → W p l e R s m args below meth c H locs cells slots Q (F0 m tgt ls rest)) (kf : ¬ x = y → W p l e R s m args below meth c H locs cells slots Q (F0 m (pc + 3) ls rest)) : W p l e R s m args below meth c H locs cells slots Q (F0 m pc ls (.int (i32 y) :: .int (i32 x) :: rest)) :=
  lv_icmp_eq hx hb hdg ht (fun q => kt ((i32_eq hr hq).mp q)) (fun q => kf (fun z => q ((i32_eq hr hq).mpr z)))
theorem li_icmp_ne (hx : p.tables.exec = Jvm.exec) (hb : c.code = cc) {x y : Int} {off : Int} {tgt : Nat} (hdg : decode cc pc = .ok (.if_icmp .ne off, 3)) (ht : (pc : Int) + off = (tgt : Int)) (hr : inR x) (hq : inR y)
    (kt : ¬ x = y → W p l e R s m args below meth c H locs cells slots Q (F0 m tgt ls rest)) (kf : x = y → W p l e R s m args below meth c H locs cells slots Q (F0 m (pc + 3) ls rest)) : W p l e R s m args below meth c H locs cells slots Q (F0 m pc ls (.int (i32 y) :: .int (i32 x) :: rest)) :=
  lv_icmp_ne hx hb hdg ht (fun q => kt (fun z => q ((i32_eq hr hq).mpr z))) (fun q => kf ((i32_eq hr hq).mp q))
theorem li_icmp_lt (hx : p.tables.exec = Jvm.exec) (hb : c.code = cc) {x y : Int} {off : Int} {tgt : Nat} (hdg : decode cc pc = .ok (.if_icmp .lt off, 3)) (ht : (pc : Int) + off = (tgt : Int)) (hr : inR x) (hq : inR y)
    (kt : x < y → W p l e R s m args below meth c H locs cells slots Q (F0 m tgt ls rest)) (kf : ¬ x < y → W p l e R s m args below meth c H locs cells slots Q (F0 m (pc + 3) ls rest)) : W p l e R s m args below meth c H locs cells slots Q (F0 m pc ls (.int (i32 y) :: .int (i32 x) :: rest)) :=
  lv_icmp_lt hx hb hdg ht (fun q => kt ((i32_lt hr hq).mp q)) (fun q => kf (fun z => q ((i32_lt hr hq).mpr z)))
theorem li_icmp_ge (hx : p.tables.exec = Jvm.exec) (hb : c.code = cc) {x y : Int} {off : Int} {tgt : Nat} (hdg : decode cc pc = .ok (.if_icmp .ge off, 3)) (ht : (pc : Int) + off = (tgt : Int)) (hr : inR x) (hq : inR y)
    (kt : y ≤ x → W p l e R s m args below meth c H locs cells slots Q (F0 m tgt ls rest)) (kf : ¬ y ≤ x → W p l e R s m args below meth c H locs cells slots Q (F0 m (pc + 3) ls rest)) : W p l e R s m args below meth c H locs cells slots Q (F0 m pc ls (.int (i32 y) :: .int (i32 x) :: rest)) :=
  lv_icmp_ge hx hb hdg ht (fun q => kt ((i32_le hq hr).mp q)) (fun q => kf (fun z => q ((i32_le hq hr).mpr z)))
theorem li_icmp_gt (hx : p.tables.exec = Jvm.exec) (hb : c.code = cc) {x y : Int} {off : Int} {tgt : Nat} (hdg : decode cc pc = .ok (.if_icmp .gt off, 3)) (ht : (pc : Int) + off = (tgt : Int)) (hr : inR x) (hq : inR y)
    (kt : y < x → W p l e R s m args below meth c H locs cells slots Q (F0 m tgt ls rest)) (kf : ¬ y < x → W p l e R s m args below meth c H locs cells slots Q (F0 m (pc + 3) ls rest)) : W p l e R s m args below meth c H locs cells slots Q (F0 m pc ls (.int (i32 y) :: .int (i32 x) :: rest)) :=
  lv_icmp_gt hx hb hdg ht (fun q => kt ((i32_lt hq hr).mp q)) (fun q => kf (fun z => q ((i32_lt hq hr).mpr z)))
theorem li_icmp_le (hx : p.tables.exec = Jvm.exec) (hb : c.code = cc) {x y : Int} {off : Int} {tgt : Nat} (hdg : decode cc pc = .ok (.if_icmp .le off, 3)) (ht : (pc : Int) + off = (tgt : Int)) (hr : inR x) (hq : inR y)
    (kt : x ≤ y → W p l e R s m args below meth c H locs cells slots Q (F0 m tgt ls rest)) (kf : ¬ x ≤ y → W p l e R s m args below meth c H locs cells slots Q (F0 m (pc + 3) ls rest)) : W p l e R s m args below meth c H locs cells slots Q (F0 m pc ls (.int (i32 y) :: .int (i32 x) :: rest)) :=
  lv_icmp_le hx hb hdg ht (fun q => kt ((i32_le hr hq).mp q)) (fun q => kf (fun z => q ((i32_le hr hq).mpr z)))
/-! a table of branches: out of it, or at the place k of it -/
theorem li_tabOut (hx : p.tables.exec = Jvm.exec) (hb : c.code = cc) {dflt lo hi : Int} {offs : Array Int} {len : Nat} {x : Int} {tgt : Nat} (hdg : decode cc pc = .ok (.tableswitch dflt lo hi offs, len)) (hr : inR x) (h : x < lo ∨ hi < x) (ht : (pc : Int) + dflt = (tgt : Int))
    (k : W p l e R s m args below meth c H locs cells slots Q (F0 m tgt ls rest)) : W p l e R s m args below meth c H locs cells slots Q (F0 m pc ls (.int (i32 x) :: rest)) :=
  lv_tableOut hx hb hdg (by rw [i32_toInt hr]; exact h) ht k
theorem li_tabIn (hx : p.tables.exec = Jvm.exec) (hb : c.code = cc) {dflt lo hi : Int} {offs : Array Int} {len : Nat} {x : Int} {off : Int} {tgt : Nat} (hdg : decode cc pc = .ok (.tableswitch dflt lo hi offs, len)) (v : Int) (hr : inR v) (h : x = v) (h1 : ¬ v < lo) (h2 : ¬ hi < v) (ho : offs[(v - lo).toNat]? = some off) (ht : (pc : Int) + off = (tgt : Int))
    (k : W p l e R s m args below meth c H locs cells slots Q (F0 m tgt ls rest)) : W p l e R s m args below meth c H locs cells slots Q (F0 m pc ls (.int (i32 x) :: rest)) := by
  subst h
  exact lv_tableIn hx hb hdg (by rw [i32_toInt hr]; exact h1) (by rw [i32_toInt hr]; exact h2) (by rw [i32_toInt hr]; exact ho) ht k
/-! the world: kept over a call -/
theorem InG.pre (I : InG D tys N ad cell s M H locs) {U : State} (hU : U.heap = H) (hW : s.WarmedH U.vm) : PreG D tys N ad cell M H.size U :=
  ⟨by rw [hU], by rw [hU]; exact I.2.1, va_K.moved hW.alike I.1, I.2.2.1.weaken (fun _ _ _ _ => trivial), I.2.2.2.2⟩
theorem InG.rng (I : InG D tys N ad cell s M H locs) (a j : Int) : inR (M a j) := I.2.2.2.2 a j
theorem InG.sub (I : InG D tys N ad cell s M H locs) : ∀ q, AG N ad H.size q → AG N ad s.heap.size q := by
  intro q h
  rcases h with h | h
  · exact Or.inl h
  · exact Or.inr (Nat.le_trans I.2.2.2.1.1 h)
theorem InG.back (I : InG D tys N ad cell s M H locs) {M' : Mem} {t : State} {H1 : Heap} {locs1 : List Loc} (ht : t.heap = H1) (hB : BG D tys N ad cell H.size M' t) (hS : va_S (AG N ad s.heap.size) s.heap H1 locs1) : InG D tys N ad cell s M' H1 locs1 := by
  obtain ⟨hP, hK, hD, hR⟩ := hB
  rw [ht] at hP
  exact ⟨I.1, hP, hD.weaken (fun k q _ h => I.sub _ h), hS, hR⟩
theorem g_iald (hx : p.tables.exec = Jvm.exec) (hb : c.code = cc) (I : InG D tys N ad cell s M H locs) (r : Int) (t0 : Nat) {cA : ClassId} {n : Int} (hr0 : 0 ≤ r) (hr : r < N) (hc : ∀ f, cell r.toNat f = .inl (cA, n.toNat, .inl f)) (hn : n ≤ 2147483647) (ht : tys[t0]? = some (cA, .int)) {i : Int} (hin : 0 ≤ i ∧ i < n) (hdg : decode cc pc = .ok (.iaload, 1))
    (kk : W p l e R s m args below meth c H locs cells slots Q (F0 m (pc + 1) ls (.int (i32 (M r i)) :: rest))) : W p l e R s m args below meth c H locs cells slots Q (F0 m pc ls (.int (i32 i) :: .ref (ad r) :: rest)) := by
  obtain ⟨h1, h2⟩ := i32_in hin.1 hin.2 hn
  have er : ((r.toNat : Nat) : Int) = r := Int.toNat_of_nonneg hr0
  refine va_iald (f := rowf M r.toNat) hx hb I.1 I.2.1 r.toNat t0 (by rw [gw_get (by omega), hc, er]) ht h1 hdg ?_
  have e : rowf M r.toNat (i32 i).toNatClampNeg = i32 (M r i) := by
    unfold rowf
    rw [h2, er, Int.toNat_of_nonneg hin.1]
  rw [e]
  exact kk
theorem g_iast (hx : p.tables.exec = Jvm.exec) (hb : c.code = cc) (I : InG D tys N ad cell s M H locs) (r : Int) (t0 : Nat) {cA : ClassId} {n : Int} (hr0 : 0 ≤ r) (hr : r < N) (hc : ∀ f, cell r.toNat f = .inl (cA, n.toNat, .inl f)) (hn : n ≤ 2147483647) (ht : tys[t0]? = some (cA, .int)) {i x : Int} (hin : 0 ≤ i ∧ i < n) (hxr : inR x) (hdg : decode cc pc = .ok (.iastore, 1))
    (kk : ∀ (H1 : Heap) (locs1 : List Loc), InG D tys N ad cell s (mset M r i x) H1 locs1 → W p l e R s m args below meth c H1 locs1 cells slots Q (F0 m (pc + 1) ls rest)) : W p l e R s m args below meth c H locs cells slots Q (F0 m pc ls (.int (i32 x) :: .int (i32 i) :: .ref (ad r) :: rest)) := by
  obtain ⟨h1, h2⟩ := i32_in hin.1 hin.2 hn
  have er : ((r.toNat : Nat) : Int) = r := Int.toNat_of_nonneg hr0
  refine va_iast (f := rowf M r.toNat) hx hb I.1 I.2.1 I.2.2.1 I.2.2.2.1 r.toNat t0 (by rw [gw_get (by omega), hc, er]) ht h1 hdg (fun H1 locs1 hP hD hS => ?_)
  rw [h2] at hP hD
  have hset : (gw N ad cell M).set r.toNat (ad r, .inl (cA, n.toNat, .inl (upd (rowf M r.toNat) i.toNat (i32 x)))) = gw N ad cell (mset M r i x) := by
    have := gw_set (N := N) (ad := ad) (cell := cell) (M := M) (M' := mset M (r.toNat : Nat) i x) (k := r.toNat) (by omega) rfl (fun j hj => rowf_ne hj)
    rw [rowf_set hin.1, hc, er] at this
    exact this
  rw [hset] at hP hD
  exact kk H1 locs1 ⟨I.1, hP, hD, hS, mset_R I.2.2.2.2 hxr⟩
theorem g_zald (hx : p.tables.exec = Jvm.exec) (hb : c.code = cc) (I : InG D tys N ad cell s M H locs) (r : Int) (t0 : Nat) {cA : ClassId} {n : Int} (hr0 : 0 ≤ r) (hr : r < N) (hc : ∀ f, cell r.toNat f = .inl (cA, n.toNat, .inl f)) (hn : n ≤ 2147483647) (ht : tys[t0]? = some (cA, .boolean)) {i : Int} (hin : 0 ≤ i ∧ i < n) (hdg : decode cc pc = .ok (.baload, 1))
    (kk : W p l e R s m args below meth c H locs cells slots Q (F0 m (pc + 1) ls (.int (i32 (M r i)) :: rest))) : W p l e R s m args below meth c H locs cells slots Q (F0 m pc ls (.int (i32 i) :: .ref (ad r) :: rest)) := by
  obtain ⟨h1, h2⟩ := i32_in hin.1 hin.2 hn
  have er : ((r.toNat : Nat) : Int) = r := Int.toNat_of_nonneg hr0
  refine va_zald (f := rowf M r.toNat) hx hb I.1 I.2.1 r.toNat t0 (by rw [gw_get (by omega), hc, er]) ht h1 hdg ?_
  have e : rowf M r.toNat (i32 i).toNatClampNeg = i32 (M r i) := by
    unfold rowf
    rw [h2, er, Int.toNat_of_nonneg hin.1]
  rw [e]
  exact kk
theorem g_zast (hx : p.tables.exec = Jvm.exec) (hb : c.code = cc) (I : InG D tys N ad cell s M H locs) (r : Int) (t0 : Nat) {cA : ClassId} {n : Int} (hr0 : 0 ≤ r) (hr : r < N) (hc : ∀ f, cell r.toNat f = .inl (cA, n.toNat, .inl f)) (hn : n ≤ 2147483647) (ht : tys[t0]? = some (cA, .boolean)) {i x : Int} (hin : 0 ≤ i ∧ i < n) (hxr : x = 0 ∨ x = 1) (hdg : decode cc pc = .ok (.bastore, 1))
    (kk : ∀ (H1 : Heap) (locs1 : List Loc), InG D tys N ad cell s (mset M r i x) H1 locs1 → W p l e R s m args below meth c H1 locs1 cells slots Q (F0 m (pc + 1) ls rest)) : W p l e R s m args below meth c H locs cells slots Q (F0 m pc ls (.int (i32 x) :: .int (i32 i) :: .ref (ad r) :: rest)) := by
  obtain ⟨h1, h2⟩ := i32_in hin.1 hin.2 hn
  have er : ((r.toNat : Nat) : Int) = r := Int.toNat_of_nonneg hr0
  refine va_zast (f := rowf M r.toNat) hx hb I.1 I.2.1 I.2.2.1 I.2.2.2.1 r.toNat t0 (by rw [gw_get (by omega), hc, er]) ht h1 hdg (fun H1 locs1 hP hD hS => ?_)
  have hnar : vp_nar .boolean (i32 x) = i32 x := by rcases hxr with rfl | rfl <;> decide
  rw [h2, hnar] at hP hD
  have hset : (gw N ad cell M).set r.toNat (ad r, .inl (cA, n.toNat, .inl (upd (rowf M r.toNat) i.toNat (i32 x)))) = gw N ad cell (mset M r i x) := by
    have := gw_set (N := N) (ad := ad) (cell := cell) (M := M) (M' := mset M (r.toNat : Nat) i x) (k := r.toNat) (by omega) rfl (fun j hj => rowf_ne hj)
    rw [rowf_set hin.1, hc, er] at this
    exact this
  rw [hset] at hP hD
  exact kk H1 locs1 ⟨I.1, hP, hD, hS, mset_R I.2.2.2.2 (by rcases hxr with rfl | rfl <;> decide)⟩
theorem g_alen (hx : p.tables.exec = Jvm.exec) (hb : c.code = cc) (I : InG D tys N ad cell s M H locs) (r : Int) (t0 : Nat) {cA : ClassId} {n : Int} {ty : FieldType} (hr0 : 0 ≤ r) (hr : r < N) (hc : ∀ f, cell r.toNat f = .inl (cA, n.toNat, .inl f)) (hn0 : 0 ≤ n) (ht : tys[t0]? = some (cA, ty)) (hdg : decode cc pc = .ok (.arraylength, 1))
    (kk : W p l e R s m args below meth c H locs cells slots Q (F0 m (pc + 1) ls (.int (i32 n) :: rest))) : W p l e R s m args below meth c H locs cells slots Q (F0 m pc ls (.ref (ad r) :: rest)) := by
  have er : ((r.toNat : Nat) : Int) = r := Int.toNat_of_nonneg hr0
  refine va_alen (x := (n.toNat, .inl (rowf M r.toNat))) (v := i32 n) hx hb I.1 I.2.1 r.toNat t0 (by rw [gw_get (by omega), hc, er]) ht ?_ hdg kk
  show Int32.ofNat n.toNat = i32 n
  rw [← Int32.ofInt_eq_ofNat, Int.toNat_of_nonneg hn0]
theorem g_aald (hx : p.tables.exec = Jvm.exec) (hb : c.code = cc) (I : InG D tys N ad cell s M H locs) (r : Int) (t0 : Nat) {cA : ClassId} {n b0 : Int} {ty : FieldType} (hr0 : 0 ≤ r) (hr : r < N) (hc : ∀ f, cell r.toNat f = .inl (cA, n.toNat, .inr (.inr (.inr (.inr (fun i => if i < n.toNat then some (ad (b0 + (i : Int))) else none)))))) (hn : n ≤ 2147483647) (ht : tys[t0]? = some (cA, .array ty)) {i : Int} (hin : 0 ≤ i ∧ i < n) (hdg : decode cc pc = .ok (.aaload, 1))
    (kk : W p l e R s m args below meth c H locs cells slots Q (F0 m (pc + 1) ls (.ref (ad (b0 + i)) :: rest))) : W p l e R s m args below meth c H locs cells slots Q (F0 m pc ls (.int (i32 i) :: .ref (ad r) :: rest)) := by
  obtain ⟨h1, h2⟩ := i32_in hin.1 hin.2 hn
  have er : ((r.toNat : Nat) : Int) = r := Int.toNat_of_nonneg hr0
  have hlt : (i32 i).toNatClampNeg < n.toNat := by rw [h2]; omega
  have ha : (gw N ad cell M)[r.toNat]? = some (ad r, .inl (cA, n.toNat, .inr (.inr (.inr (.inr (fun i => if i < n.toNat then some (ad (b0 + (i : Int))) else none)))))) := by rw [gw_get (by omega), hc, er]
  refine W.aald (v := .ref (ad (b0 + i))) (ty := .array ty) hx hb (I.2.1 r.toNat _ ha) ((I.1.2 t0 _ ht).1 n.toNat (fun j => va_rf (if j < n.toNat then some (ad (b0 + (j : Int))) else none))) rfl (fun q => by cases q) (by show ¬ (i32 i < 0 ∨ (arrV _ _ _).slots.size ≤ _); rw [arrV_size]; exact h1) (by show (arrV _ _ _).slots[_]? = _; rw [arrV_read _ _ hlt]; show some (va_rf (if (i32 i).toNatClampNeg < n.toNat then some (ad (b0 + (((i32 i).toNatClampNeg : Nat) : Int))) else none)) = _; rw [if_pos hlt, h2, Int.toNat_of_nonneg hin.1]; rfl) rfl rfl hdg kk
theorem g_get (hx : p.tables.exec = Jvm.exec) (hb : c.code = cc) {own C : String} {T : u_T} {n ci index : Nat} {Ts : List Cond} (hts : ∀ w ∈ Ts, w.before args s = true) (hin : ∀ w ∈ u_ws C T n, w ∈ Ts) (hown : s.vm.findClass own = some m.cls) (I : InG D tys N ad cell s M H locs) (o : Int) (ho0 : 0 ≤ o) (ho : o < N) {fs : List Value} (he : cell o.toNat (rowf M o.toNat) = .inr (ci, fs)) (hc : vwCl[ci]? = some (C, T, n)) (k : Nat) (hk : k < n) (hlink : Cond.fieldLink own index (T k).1 (T k).2.1 (T k).2.2.1 ∈ Ts) {v : Value} (hv : fs[k]? = some v) (hdg : decode cc pc = .ok (.getfield index, 3))
    (kk : W p l e R s m args below meth c H locs cells slots Q (F0 m (pc + 3) ls (v :: rest))) : W p l e R s m args below meth c H locs cells slots Q (F0 m pc ls (.ref (ad o) :: rest)) :=
  va_get hx hb hts hin hown I.1 I.2.1 o.toNat (by rw [gw_get (by omega), he, Int.toNat_of_nonneg ho0]) hc k hk (hts _ hlink) (fun _ h9 => h9) hv hdg kk
theorem g_put (hx : p.tables.exec = Jvm.exec) (hb : c.code = cc) {own C : String} {T : u_T} {n ci index : Nat} {Ts : List Cond} (hts : ∀ w ∈ Ts, w.before args s = true) (hin : ∀ w ∈ u_ws C T n, w ∈ Ts) (ty0 : Nat → FieldType) (hty : ∀ k, k < n → parseFieldDescriptor (T k).2.2.1 = some (ty0 k)) (hnm : ∀ a, a < n → ∀ b, b < n → a ≠ b → (T a).2.1 ≠ (T b).2.1) (hown : s.vm.findClass own = some m.cls) (I : InG D tys N ad cell s M H locs) (o : Int) (ho0 : 0 ≤ o) (ho : o < N) {fs : List Value} (he : cell o.toNat (rowf M o.toNat) = .inr (ci, fs)) (hc : vwCl[ci]? = some (C, T, n)) (k : Nat) (hk : k < n) (hlink : Cond.fieldLink own index (T k).1 (T k).2.1 (T k).2.2.1 ∈ Ts) (hfin : (T k).2.2.2 = false) {x : Int} (hxr : inR x) (hd : ty0 k = .int) (hl : k < fs.length) (hset : cell o.toNat (upd (rowf M o.toNat) k (i32 x)) = .inr (ci, fs.set k (.int (i32 x)))) (hdg : decode cc pc = .ok (.putfield index, 3))
    (kk : ∀ (H1 : Heap) (locs1 : List Loc), InG D tys N ad cell s (mset M o k x) H1 locs1 → W p l e R s m args below meth c H1 locs1 cells slots Q (F0 m (pc + 3) ls rest)) : W p l e R s m args below meth c H locs cells slots Q (F0 m pc ls (.int (i32 x) :: .ref (ad o) :: rest)) := by
  have eo : ((o.toNat : Nat) : Int) = o := Int.toNat_of_nonneg ho0
  refine va_put (ty := .int) hx hb hts hin ty0 hty hnm hown I.1 I.2.1 I.2.2.1 I.2.2.2.1 o.toNat (by rw [gw_get (by omega), he, eo]) hc k hk (hts _ hlink) (fun _ h9 => h9) hfin (by rw [hty k hk, hd]) rfl rfl hl hdg (fun H1 locs1 hP hD hS => ?_)
  have hs2 : (gw N ad cell M).set o.toNat (ad o, .inr (ci, fs.set k (.int (i32 x)))) = gw N ad cell (mset M o k x) := by
    have := gw_set (N := N) (ad := ad) (cell := cell) (M := M) (M' := mset M (o.toNat : Nat) k x) (k := o.toNat) (by omega) rfl (fun j hj => rowf_ne hj)
    rw [rowf_set (by omega), Int.toNat_natCast, hset, eo] at this
    exact this
  rw [hs2] at hP hD
  exact kk H1 locs1 ⟨I.1, hP, hD, hS, mset_R I.2.2.2.2 hxr⟩
theorem g_iret {post : Int → Mem → Prop} {r : Int} (hx : p.tables.exec = Jvm.exec) (hb : c.code = cc) (hr : meth.sig.returnType = some .int) (hlk : meth.locks = false) (I : InG D tys N ad cell s M H locs) (hrr : inR r) (hp : post r M) (hdg : decode cc pc = .ok (.ireturn, 1)) : W p l e R s m args below meth c H locs 0 0 (QI below args s D tys N ad cell post) (F0 m pc ls [.int (i32 r)]) :=
  W.iret (v := i32 r) hx hb hr (fun t ht hW => ⟨⟨i32 r, M, rfl, ⟨r, rfl, hrr, hp⟩, by rw [ht]; exact I.2.1, va_K.moved hW.alike I.1, I.2.2.1, I.2.2.2.2⟩, I.2.2.2.1.F ht⟩) I.2.2.2.1.2.2 hdg hlk
theorem g_zret {post : Int → Mem → Prop} {r : Int} (hx : p.tables.exec = Jvm.exec) (hb : c.code = cc) (hr : meth.sig.returnType = some .boolean) (hlk : meth.locks = false) (I : InG D tys N ad cell s M H locs) (hrr : r = 0 ∨ r = 1) (hp : post r M) (hdg : decode cc pc = .ok (.ireturn, 1)) : W p l e R s m args below meth c H locs 0 0 (QI below args s D tys N ad cell post) (F0 m pc ls [.int (i32 r)]) :=
  W.zret (v := i32 r) hx hb hr (by rcases hrr with rfl | rfl <;> decide) (fun t ht hW => ⟨⟨i32 r, M, rfl, ⟨r, rfl, by rcases hrr with rfl | rfl <;> decide, hp⟩, by rw [ht]; exact I.2.1, va_K.moved hW.alike I.1, I.2.2.1, I.2.2.2.2⟩, I.2.2.2.1.F ht⟩) I.2.2.2.1.2.2 hdg hlk
theorem g_vret {post : Mem → Prop} (hx : p.tables.exec = Jvm.exec) (hb : c.code = cc) (hr : meth.sig.returnType = none) (hlk : meth.locks = false) (I : InG D tys N ad cell s M H locs) (hp : post M) (hdg : decode cc pc = .ok (.return_, 1)) : W p l e R s m args below meth c H locs 0 0 (QV below args s D tys N ad cell post) (F0 m pc ls []) :=
  W.vret hx hb hr (fun t ht hW => ⟨⟨M, rfl, hp, by rw [ht]; exact I.2.1, va_K.moved hW.alike I.1, I.2.2.1, I.2.2.2.2⟩, I.2.2.2.1.F ht⟩) I.2.2.2.1.2.2 hdg hlk
theorem g_mmin (hx : p.tables.exec = Jvm.exec) (hb : c.code = cc) (hml : c.maxLocals = ls.size) {own : String} {index : Nat} {Ts : List Cond} (hts : ∀ w ∈ Ts, w.before args s = true) (hown : s.vm.findClass own = some m.cls) (h1 : Cond.methodLink own index Lib.Math.min.name ∈ Ts) (h2 : Cond.static Lib.Math.min.name ∈ Ts) (h3 : Cond.initialized "java/lang/Math" ∈ Ts) (h4 : Cond.code Lib.Math.min.name Lib.Math.min.code 2 (some .int) ∈ Ts)
    (hframes : 1 ≤ R.frames) (hlocals : (rest.map fun v => v.category).sum + 13 ≤ R.locals) (hc : cells ≤ R.cells) (hs : slots ≤ R.slots) {x y : Int} (hxr : inR x) (hyr : inR y) (hdg : decode cc pc = .ok (.invokestatic index, 3))
    (kk : W p l e R s m args below meth c H locs cells slots Q (F0 m (pc + 3) ls (.int (i32 (min x y)) :: rest))) : W p l e R s m args below meth c H locs cells slots Q (F0 m pc ls (.int (i32 y) :: .int (i32 x) :: rest)) :=
  va_mmin hx hb hml hown (hts _ h1) (hts _ h2) (hts _ h3) (hts _ h4) hframes hlocals hc hs hdg (by rw [i32_min hxr hyr]; exact kk)
variable {y : MethodName} {bytes : ByteArray} {maxL n index : Nat} {ret : Option FieldType} {wsc : List Cond} {rm : Room} {Ts : List Cond} {own C : String}
theorem g_callVi {post : Int → Mem → Prop} {As : List Value} {st0 : List Value} {o : Int} {nL : Nat} (S : CallFix p m c cc nL s args Ts own) (I : InG D tys N ad cell s M H locs) (hM : MetI l y wsc rm D tys N ad cell (.ref (ad o) :: As) M H.size post) (cw : CallW R s args own C index y bytes maxL ret wsc rm 0 0 n)
    (ho0 : 0 ≤ o) (ho : o < N) {ci : Nat} {fs : List Value} {T : u_T} {nn : Nat} (he : cell o.toNat (rowf M o.toNat) = .inr (ci, fs)) (hc : vwCl[ci]? = some (C, T, nn)) (hn : As.length = n) (hsize : ls.size = nL) (hst : st0 = As.reverse ++ .ref (ad o) :: rest) (hcat : (rest.map fun v => v.category).sum ≤ 8) (hdg : decode cc pc = .ok (.invokevirtual index, 3)) (hf : cells ≤ R.cells ∧ slots ≤ R.slots)
    (kk : ∀ (r : Int) (M' : Mem) (H1 : Heap) (locs1 : List Loc), inR r → post r M' → InG D tys N ad cell s M' H1 locs1 → W p l e R s m args below meth c H1 locs1 cells slots Q (F0 m (pc + 3) ls (.int (i32 r) :: rest))) : W p l e R s m args below meth c H locs cells slots Q (F0 m pc ls st0) := by
  refine va_calli (va_runV (As := As) (rest := rest) (g := F0 m pc ls st0) S hM cw ⟨PreG.blind, va_recv I.1 I.2.1 hc (q0 := o.toNat) (by rw [gw_get (by omega), he, Int.toNat_of_nonneg ho0]), fun U hU hW => ⟨rfl, I.pre hU hW⟩⟩ rfl hn hsize hst (lv_room hcat) hdg hf) I.2.2.2.1 (fun q _ h => I.sub q h) I.sub (fun r M' t H1 locs1 ht hvm hw hB hz1 hk1 hS => ?_)
  obtain ⟨x, rfl, hxr, hp⟩ := hw
  exact kk x M' H1 locs1 hxr hp (I.back ht hB hS)
theorem g_callVv {post : Mem → Prop} {As : List Value} {st0 : List Value} {o : Int} {nL : Nat} (S : CallFix p m c cc nL s args Ts own) (I : InG D tys N ad cell s M H locs) (hM : MetV l y wsc rm D tys N ad cell (.ref (ad o) :: As) M H.size post) (cw : CallW R s args own C index y bytes maxL ret wsc rm 0 0 n)
    (ho0 : 0 ≤ o) (ho : o < N) {ci : Nat} {fs : List Value} {T : u_T} {nn : Nat} (he : cell o.toNat (rowf M o.toNat) = .inr (ci, fs)) (hc : vwCl[ci]? = some (C, T, nn)) (hn : As.length = n) (hsize : ls.size = nL) (hst : st0 = As.reverse ++ .ref (ad o) :: rest) (hcat : (rest.map fun v => v.category).sum ≤ 8) (hdg : decode cc pc = .ok (.invokevirtual index, 3)) (hf : cells ≤ R.cells ∧ slots ≤ R.slots)
    (kk : ∀ (M' : Mem) (H1 : Heap) (locs1 : List Loc), post M' → InG D tys N ad cell s M' H1 locs1 → W p l e R s m args below meth c H1 locs1 cells slots Q (F0 m (pc + 3) ls rest)) : W p l e R s m args below meth c H locs cells slots Q (F0 m pc ls st0) := by
  refine va_callv (va_runV (As := As) (rest := rest) (g := F0 m pc ls st0) S hM cw ⟨PreG.blind, va_recv I.1 I.2.1 hc (q0 := o.toNat) (by rw [gw_get (by omega), he, Int.toNat_of_nonneg ho0]), fun U hU hW => ⟨rfl, I.pre hU hW⟩⟩ rfl hn hsize hst (lv_room hcat) hdg hf) I.2.2.2.1 (fun q _ h => I.sub q h) I.sub (fun M' t H1 locs1 ht hvm hw hB hz1 hk1 hS => ?_)
  exact kk M' H1 locs1 hw (I.back ht hB hS)
theorem g_callSi {post : Int → Mem → Prop} {As : List Value} {st0 : List Value} {nL : Nat} (S : CallFix p m c cc nL s args Ts own) (I : InG D tys N ad cell s M H locs) (hM : MetI l y wsc rm D tys N ad cell As M H.size post) (cw : CallB R s args own index y bytes maxL ret wsc rm 0 0 n ∧ (Cond.static y).before args s = true)
    (hn : As.length = n) (hsize : ls.size = nL) (hst : st0 = As.reverse ++ rest) (hcat : (rest.map fun v => v.category).sum ≤ 8) (hdg : decode cc pc = .ok (.invokestatic index, 3)) (hf : cells ≤ R.cells ∧ slots ≤ R.slots)
    (kk : ∀ (r : Int) (M' : Mem) (H1 : Heap) (locs1 : List Loc), inR r → post r M' → InG D tys N ad cell s M' H1 locs1 → W p l e R s m args below meth c H1 locs1 cells slots Q (F0 m (pc + 3) ls (.int (i32 r) :: rest))) : W p l e R s m args below meth c H locs cells slots Q (F0 m pc ls st0) := by
  refine va_calli (va_runS (As := As) (rest := rest) (g := F0 m pc ls st0) S hM cw ⟨PreG.blind, fun U hU hW => ⟨rfl, I.pre hU hW⟩⟩ rfl hn hsize hst (lv_room hcat) hdg hf) I.2.2.2.1 (fun q _ h => I.sub q h) I.sub (fun r M' t H1 locs1 ht hvm hw hB hz1 hk1 hS => ?_)
  obtain ⟨x, rfl, hxr, hp⟩ := hw
  exact kk x M' H1 locs1 hxr hp (I.back ht hB hS)
theorem g_callSv {post : Mem → Prop} {As : List Value} {st0 : List Value} {nL : Nat} (S : CallFix p m c cc nL s args Ts own) (I : InG D tys N ad cell s M H locs) (hM : MetV l y wsc rm D tys N ad cell As M H.size post) (cw : CallB R s args own index y bytes maxL ret wsc rm 0 0 n ∧ (Cond.static y).before args s = true)
    (hn : As.length = n) (hsize : ls.size = nL) (hst : st0 = As.reverse ++ rest) (hcat : (rest.map fun v => v.category).sum ≤ 8) (hdg : decode cc pc = .ok (.invokestatic index, 3)) (hf : cells ≤ R.cells ∧ slots ≤ R.slots)
    (kk : ∀ (M' : Mem) (H1 : Heap) (locs1 : List Loc), post M' → InG D tys N ad cell s M' H1 locs1 → W p l e R s m args below meth c H1 locs1 cells slots Q (F0 m (pc + 3) ls rest)) : W p l e R s m args below meth c H locs cells slots Q (F0 m pc ls st0) := by
  refine va_callv (va_runS (As := As) (rest := rest) (g := F0 m pc ls st0) S hM cw ⟨PreG.blind, fun U hU hW => ⟨rfl, I.pre hU hW⟩⟩ rfl hn hsize hst (lv_room hcat) hdg hf) I.2.2.2.1 (fun q _ h => I.sub q h) I.sub (fun M' t H1 locs1 ht hvm hw hB hz1 hk1 hS => ?_)
  exact kk M' H1 locs1 hw (I.back ht hB hS)
end MB
end
section
/-! the two worlds, the class's (X) and the reference's (R): which cell is which, how long its row is -/
/-- classes, the class of int arrays, the class of the third kind of arrays, the addresses -/
abbrev GP : Type := va_G × ClassId × ClassId × (Int → Nat)
def lenX (k : Int) : Int := if k < 15 then 0 else if k < 18 then 30 else if k < 19 then 10 else if k < 23 then 30 else if k < 28 then 10 else if k < 36 then 240 else if k < 40 then 22 else if k < 88 then 10 else 0
def lenR (k : Int) : Int := if k = 1 then 30 else if k = 2 then 30 else if k = 3 then 30 else if k = 4 then 80 else if k = 5 then 10 else if k = 6 then 100 else if k = 7 then 30 else if k = 8 then 30 else if k = 9 then 30 else if k = 10 then 100 else if k = 11 then 100 else if k = 12 then 10 else if k = 13 then 10 else if k = 14 then 10 else if k = 15 then 20 else if k = 16 then 20 else if k = 17 then 100 else if k = 18 then 20 else if k = 19 then 20 else if k = 20 then 200 else if k = 21 then 200 else if k = 22 then 200 else if k = 23 then 200 else if k = 24 then 22 else if k = 25 then 22 else 0
def obX (g : GP) (k : Nat) (f : Nat → Int32) : va_E := match k with
  | 0 => .inr (8, [.ref (g.2.2.2 1), .ref (g.2.2.2 2), .ref (g.2.2.2 3), .ref (g.2.2.2 4), .ref (g.2.2.2 5), .ref (g.2.2.2 6), .ref (g.2.2.2 7), .int (f 7), .int (f 8), .int (f 9), .int (f 10), .int (f 11)])
  | 1 => .inr (3, [.int (f 0), .int (f 1), .ref (g.2.2.2 15), .ref (g.2.2.2 16), .ref (g.2.2.2 17), .ref (g.2.2.2 18), .ref (g.2.2.2 10), .ref (g.2.2.2 11)])
  | 2 => .inr (2, [.int (f 0), .ref (g.2.2.2 12)])
  | 3 => .inr (0, [.int (f 0), .int (f 1), .ref (g.2.2.2 19), .ref (g.2.2.2 20), .ref (g.2.2.2 21), .ref (g.2.2.2 22)])
  | 4 => .inr (1, [.ref (g.2.2.2 13)])
  | 5 => .inr (4, [.ref (g.2.2.2 (8 + 0))])
  | 6 => .inr (6, [.ref (g.2.2.2 14), .ref (g.2.2.2 23), .ref (g.2.2.2 24), .ref (g.2.2.2 25), .ref (g.2.2.2 26)])
  | 7 => .inr (7, [.int (f 0), .ref (g.2.2.2 27), .ref (g.2.2.2 (8 + 1))])
  | 8 => .inr (5, [.int (f 0), .int (f 1), .int (f 2), .ref (g.2.2.2 (28 + 0)), .ref (g.2.2.2 (30 + 0)), .ref (g.2.2.2 (32 + 0)), .ref (g.2.2.2 (34 + 0)), .ref (g.2.2.2 (36 + 0)), .ref (g.2.2.2 (38 + 0))])
  | 9 => .inr (5, [.int (f 0), .int (f 1), .int (f 2), .ref (g.2.2.2 (28 + 1)), .ref (g.2.2.2 (30 + 1)), .ref (g.2.2.2 (32 + 1)), .ref (g.2.2.2 (34 + 1)), .ref (g.2.2.2 (36 + 1)), .ref (g.2.2.2 (38 + 1))])
  | 10 => .inl (g.2.2.1, 10, .inr (.inr (.inr (.inr (fun i => if i < 10 then some (g.2.2.2 (40 + (i : Int))) else none)))))
  | 11 => .inl (g.2.2.1, 10, .inr (.inr (.inr (.inr (fun i => if i < 10 then some (g.2.2.2 (50 + (i : Int))) else none)))))
  | 12 => .inl (g.2.2.1, 8, .inr (.inr (.inr (.inr (fun i => if i < 8 then some (g.2.2.2 (80 + (i : Int))) else none)))))
  | 13 => .inl (g.2.2.1, 10, .inr (.inr (.inr (.inr (fun i => if i < 10 then some (g.2.2.2 (60 + (i : Int))) else none)))))
  | _ => .inl (g.2.2.1, 10, .inr (.inr (.inr (.inr (fun i => if i < 10 then some (g.2.2.2 (70 + (i : Int))) else none)))))
def cellX (g : GP) (k : Nat) (f : Nat → Int32) : va_E := if k < 15 then obX g k f else .inl (g.2.1, (lenX k).toNat, .inl f)
def cellR (g : GP) (k : Nat) (f : Nat → Int32) : va_E := if k = 0 then .inr (9, [.int (f 0), .int (f 1), .ref (g.2.2.2 1), .ref (g.2.2.2 2), .ref (g.2.2.2 3), .int (f 5), .ref (g.2.2.2 4), .ref (g.2.2.2 5), .ref (g.2.2.2 6), .int (f 9), .int (f 10), .ref (g.2.2.2 7), .ref (g.2.2.2 8), .ref (g.2.2.2 9), .ref (g.2.2.2 10), .ref (g.2.2.2 11), .ref (g.2.2.2 12), .ref (g.2.2.2 13), .ref (g.2.2.2 14), .ref (g.2.2.2 15), .ref (g.2.2.2 16), .ref (g.2.2.2 17), .ref (g.2.2.2 18), .ref (g.2.2.2 19), .int (f 24), .ref (g.2.2.2 20), .ref (g.2.2.2 21), .ref (g.2.2.2 22), .ref (g.2.2.2 23), .ref (g.2.2.2 24), .ref (g.2.2.2 25)]) else .inl (if k = 17 ∨ k = 18 then g.2.2.1 else g.2.1, (lenR k).toNat, .inl f)
abbrev tyX (g : GP) : List (ClassId × FieldType) := [(g.2.1, .int), (g.2.2.1, .array .int)]
abbrev tyR (g : GP) : List (ClassId × FieldType) := [(g.2.1, .int), (g.2.2.1, .boolean)]
abbrev IX (g : GP) (s : State) (M : Mem) (H : Heap) (locs : List Loc) : Prop := InG g.1 (tyX g) 88 g.2.2.2 (cellX g) s M H locs
abbrev QIX (below : List Frame) (args : Array Value) (s : State) (g : GP) (post : Int → Mem → Prop) : State → Prop := QI below args s g.1 (tyX g) 88 g.2.2.2 (cellX g) post
abbrev QVX (below : List Frame) (args : Array Value) (s : State) (g : GP) (post : Mem → Prop) : State → Prop := QV below args s g.1 (tyX g) 88 g.2.2.2 (cellX g) post
abbrev MIX (l : Launch) (y : MethodName) (ws : List Cond) (rm : Room) (g : GP) (av : List Value) (M : Mem) (sz : Nat) (post : Int → Mem → Prop) : Prop := MetI l y ws rm g.1 (tyX g) 88 g.2.2.2 (cellX g) av M sz post
abbrev MVX (l : Launch) (y : MethodName) (ws : List Cond) (rm : Room) (g : GP) (av : List Value) (M : Mem) (sz : Nat) (post : Mem → Prop) : Prop := MetV l y ws rm g.1 (tyX g) 88 g.2.2.2 (cellX g) av M sz post
abbrev IR (g : GP) (s : State) (M : Mem) (H : Heap) (locs : List Loc) : Prop := InG g.1 (tyR g) 26 g.2.2.2 (cellR g) s M H locs
abbrev QIR (below : List Frame) (args : Array Value) (s : State) (g : GP) (post : Int → Mem → Prop) : State → Prop := QI below args s g.1 (tyR g) 26 g.2.2.2 (cellR g) post
abbrev QVR (below : List Frame) (args : Array Value) (s : State) (g : GP) (post : Mem → Prop) : State → Prop := QV below args s g.1 (tyR g) 26 g.2.2.2 (cellR g) post
abbrev MIR (l : Launch) (y : MethodName) (ws : List Cond) (rm : Room) (g : GP) (av : List Value) (M : Mem) (sz : Nat) (post : Int → Mem → Prop) : Prop := MetI l y ws rm g.1 (tyR g) 26 g.2.2.2 (cellR g) av M sz post
abbrev MVR (l : Launch) (y : MethodName) (ws : List Cond) (rm : Room) (g : GP) (av : List Value) (M : Mem) (sz : Nat) (post : Mem → Prop) : Prop := MetV l y ws rm g.1 (tyR g) 26 g.2.2.2 (cellR g) av M sz post
abbrev Cx (p : Program) (m : MethodId) (c : Code) (cc : ByteArray) (nL : Nat) (s : State) (args : Array Value) (Ts : List Cond) (own : String) (meth : Method) (ret : Option FieldType) : Prop := CallFix p m c cc nL s args Ts own ∧ meth.sig.returnType = ret ∧ meth.locks = false
theorem lenX_in {k : Int} (h : 0 < lenX k) : 15 ≤ k ∧ k < 88 := by
  unfold lenX at h
  repeat' split at h
  all_goals omega
theorem lenX_le (k : Int) : 0 ≤ lenX k ∧ lenX k ≤ 240 := by
  unfold lenX
  repeat' split
  all_goals omega
theorem lenR_in {k : Int} (h : 0 < lenR k) : 1 ≤ k ∧ k < 26 := by
  unfold lenR at h
  repeat' split at h
  all_goals omega
theorem lenR_le (k : Int) : 0 ≤ lenR k ∧ lenR k ≤ 200 := by
  unfold lenR
  repeat' split
  all_goals omega
theorem lenX_15 : lenX 15 = 30 := by decide
theorem lenX_16 : lenX 16 = 30 := by decide
theorem lenX_17 : lenX 17 = 30 := by decide
theorem lenX_18 : lenX 18 = 10 := by decide
theorem lenX_19 : lenX 19 = 30 := by decide
theorem lenX_20 : lenX 20 = 30 := by decide
theorem lenX_21 : lenX 21 = 30 := by decide
theorem lenX_22 : lenX 22 = 30 := by decide
theorem lenX_23 : lenX 23 = 10 := by decide
theorem lenX_24 : lenX 24 = 10 := by decide
theorem lenX_25 : lenX 25 = 10 := by decide
theorem lenX_26 : lenX 26 = 10 := by decide
theorem lenX_27 : lenX 27 = 10 := by decide
theorem lenX_28 {z : Int} (h : z = 0 ∨ z = 1) : lenX (28 + z) = 240 := by rcases h with rfl | rfl <;> decide
theorem lenX_30 {z : Int} (h : z = 0 ∨ z = 1) : lenX (30 + z) = 240 := by rcases h with rfl | rfl <;> decide
theorem lenX_32 {z : Int} (h : z = 0 ∨ z = 1) : lenX (32 + z) = 240 := by rcases h with rfl | rfl <;> decide
theorem lenX_34 {z : Int} (h : z = 0 ∨ z = 1) : lenX (34 + z) = 240 := by rcases h with rfl | rfl <;> decide
theorem lenX_36 {z : Int} (h : z = 0 ∨ z = 1) : lenX (36 + z) = 22 := by rcases h with rfl | rfl <;> decide
theorem lenX_38 {z : Int} (h : z = 0 ∨ z = 1) : lenX (38 + z) = 22 := by rcases h with rfl | rfl <;> decide
theorem lenX_40 {u : Int} (h : 0 ≤ u ∧ u < 10) : lenX (40 + u) = 10 := by
  unfold lenX
  repeat' split
  all_goals omega
theorem lenX_50 {u : Int} (h : 0 ≤ u ∧ u < 10) : lenX (50 + u) = 10 := by
  unfold lenX
  repeat' split
  all_goals omega
theorem lenX_60 {u : Int} (h : 0 ≤ u ∧ u < 10) : lenX (60 + u) = 10 := by
  unfold lenX
  repeat' split
  all_goals omega
theorem lenX_70 {u : Int} (h : 0 ≤ u ∧ u < 10) : lenX (70 + u) = 10 := by
  unfold lenX
  repeat' split
  all_goals omega
theorem lenX_80 {u : Int} (h : 0 ≤ u ∧ u < 8) : lenX (80 + u) = 10 := by
  unfold lenX
  repeat' split
  all_goals omega
theorem lenR_1 : lenR 1 = 30 := by decide
theorem lenR_2 : lenR 2 = 30 := by decide
theorem lenR_3 : lenR 3 = 30 := by decide
theorem lenR_4 : lenR 4 = 80 := by decide
theorem lenR_5 : lenR 5 = 10 := by decide
theorem lenR_6 : lenR 6 = 100 := by decide
theorem lenR_7 : lenR 7 = 30 := by decide
theorem lenR_8 : lenR 8 = 30 := by decide
theorem lenR_9 : lenR 9 = 30 := by decide
theorem lenR_10 : lenR 10 = 100 := by decide
theorem lenR_11 : lenR 11 = 100 := by decide
theorem lenR_12 : lenR 12 = 10 := by decide
theorem lenR_13 : lenR 13 = 10 := by decide
theorem lenR_14 : lenR 14 = 10 := by decide
theorem lenR_15 : lenR 15 = 20 := by decide
theorem lenR_16 : lenR 16 = 20 := by decide
theorem lenR_17 : lenR 17 = 100 := by decide
theorem lenR_18 : lenR 18 = 20 := by decide
theorem lenR_19 : lenR 19 = 20 := by decide
theorem lenR_20 : lenR 20 = 200 := by decide
theorem lenR_21 : lenR 21 = 200 := by decide
theorem lenR_22 : lenR 22 = 200 := by decide
theorem lenR_23 : lenR 23 = 200 := by decide
theorem lenR_24 : lenR 24 = 22 := by decide
theorem lenR_25 : lenR 25 = 22 := by decide
theorem cellX_row {g : GP} {r : Int} (h : 15 ≤ r) (f : Nat → Int32) : cellX g r.toNat f = .inl (g.2.1, (lenX r).toNat, .inl f) := by
  unfold cellX
  rw [if_neg (by omega), Int.toNat_of_nonneg (by omega)]
theorem cellR_row {g : GP} {r : Int} (h : 1 ≤ r) (h1 : r ≠ 17) (h2 : r ≠ 18) (f : Nat → Int32) : cellR g r.toNat f = .inl (g.2.1, (lenR r).toNat, .inl f) := by
  unfold cellR
  rw [if_neg (by omega), if_neg (by omega), Int.toNat_of_nonneg (by omega)]
theorem cellR_rowZ {g : GP} {r : Int} (h : r = 17 ∨ r = 18) (f : Nat → Int32) : cellR g r.toNat f = .inl (g.2.2.1, (lenR r).toNat, .inl f) := by
  rcases h with rfl | rfl <;> rfl
theorem obX_0 {g : GP} {f : Nat → Int32} : cellX g (0 : Int).toNat f = .inr (8, [.ref (g.2.2.2 1), .ref (g.2.2.2 2), .ref (g.2.2.2 3), .ref (g.2.2.2 4), .ref (g.2.2.2 5), .ref (g.2.2.2 6), .ref (g.2.2.2 7), .int (f 7), .int (f 8), .int (f 9), .int (f 10), .int (f 11)]) := rfl
theorem obX_1 {g : GP} {f : Nat → Int32} : cellX g (1 : Int).toNat f = .inr (3, [.int (f 0), .int (f 1), .ref (g.2.2.2 15), .ref (g.2.2.2 16), .ref (g.2.2.2 17), .ref (g.2.2.2 18), .ref (g.2.2.2 10), .ref (g.2.2.2 11)]) := rfl
theorem obX_2 {g : GP} {f : Nat → Int32} : cellX g (2 : Int).toNat f = .inr (2, [.int (f 0), .ref (g.2.2.2 12)]) := rfl
theorem obX_3 {g : GP} {f : Nat → Int32} : cellX g (3 : Int).toNat f = .inr (0, [.int (f 0), .int (f 1), .ref (g.2.2.2 19), .ref (g.2.2.2 20), .ref (g.2.2.2 21), .ref (g.2.2.2 22)]) := rfl
theorem obX_4 {g : GP} {f : Nat → Int32} : cellX g (4 : Int).toNat f = .inr (1, [.ref (g.2.2.2 13)]) := rfl
theorem obX_5 {g : GP} {f : Nat → Int32} : cellX g (5 : Int).toNat f = .inr (4, [.ref (g.2.2.2 (8 + 0))]) := rfl
theorem obX_6 {g : GP} {f : Nat → Int32} : cellX g (6 : Int).toNat f = .inr (6, [.ref (g.2.2.2 14), .ref (g.2.2.2 23), .ref (g.2.2.2 24), .ref (g.2.2.2 25), .ref (g.2.2.2 26)]) := rfl
theorem obX_7 {g : GP} {f : Nat → Int32} : cellX g (7 : Int).toNat f = .inr (7, [.int (f 0), .ref (g.2.2.2 27), .ref (g.2.2.2 (8 + 1))]) := rfl
theorem obX_N {g : GP} {f : Nat → Int32} {z : Int} (h : z = 0 ∨ z = 1) : cellX g (8 + z).toNat f = .inr (5, [.int (f 0), .int (f 1), .int (f 2), .ref (g.2.2.2 (28 + z)), .ref (g.2.2.2 (30 + z)), .ref (g.2.2.2 (32 + z)), .ref (g.2.2.2 (34 + z)), .ref (g.2.2.2 (36 + z)), .ref (g.2.2.2 (38 + z))]) := by
  rcases h with rfl | rfl <;> rfl
theorem obR_0 {g : GP} {f : Nat → Int32} : cellR g (0 : Int).toNat f = .inr (9, [.int (f 0), .int (f 1), .ref (g.2.2.2 1), .ref (g.2.2.2 2), .ref (g.2.2.2 3), .int (f 5), .ref (g.2.2.2 4), .ref (g.2.2.2 5), .ref (g.2.2.2 6), .int (f 9), .int (f 10), .ref (g.2.2.2 7), .ref (g.2.2.2 8), .ref (g.2.2.2 9), .ref (g.2.2.2 10), .ref (g.2.2.2 11), .ref (g.2.2.2 12), .ref (g.2.2.2 13), .ref (g.2.2.2 14), .ref (g.2.2.2 15), .ref (g.2.2.2 16), .ref (g.2.2.2 17), .ref (g.2.2.2 18), .ref (g.2.2.2 19), .int (f 24), .ref (g.2.2.2 20), .ref (g.2.2.2 21), .ref (g.2.2.2 22), .ref (g.2.2.2 23), .ref (g.2.2.2 24), .ref (g.2.2.2 25)]) := rfl
theorem grX_10 {g : GP} (f : Nat → Int32) : cellX g (10 : Int).toNat f = .inl (g.2.2.1, (10 : Int).toNat, .inr (.inr (.inr (.inr (fun i => if i < (10 : Int).toNat then some (g.2.2.2 (40 + (i : Int))) else none))))) := rfl
theorem grX_11 {g : GP} (f : Nat → Int32) : cellX g (11 : Int).toNat f = .inl (g.2.2.1, (10 : Int).toNat, .inr (.inr (.inr (.inr (fun i => if i < (10 : Int).toNat then some (g.2.2.2 (50 + (i : Int))) else none))))) := rfl
theorem grX_12 {g : GP} (f : Nat → Int32) : cellX g (12 : Int).toNat f = .inl (g.2.2.1, (8 : Int).toNat, .inr (.inr (.inr (.inr (fun i => if i < (8 : Int).toNat then some (g.2.2.2 (80 + (i : Int))) else none))))) := rfl
theorem grX_13 {g : GP} (f : Nat → Int32) : cellX g (13 : Int).toNat f = .inl (g.2.2.1, (10 : Int).toNat, .inr (.inr (.inr (.inr (fun i => if i < (10 : Int).toNat then some (g.2.2.2 (60 + (i : Int))) else none))))) := rfl
theorem grX_14 {g : GP} (f : Nat → Int32) : cellX g (14 : Int).toNat f = .inl (g.2.2.1, (10 : Int).toNat, .inr (.inr (.inr (.inr (fun i => if i < (10 : Int).toNat then some (g.2.2.2 (70 + (i : Int))) else none))))) := rfl
section MW
variable {p : Program} {l : Launch} {e : Env} {R : Room} {s : State} {m : MethodId} {args : Array Value} {below : List Frame} {meth : Method} {c : Code} {H : Heap} {locs : List Loc} {cells slots : Nat} {Q : State → Prop}
variable {cc : ByteArray} {pc : Nat} {ls : Array Slot} {rest : List Value} {g : GP} {M : Mem}
theorem x_iald (hx : p.tables.exec = Jvm.exec) (hb : c.code = cc) (I : IX g s M H locs) (r : Int) {n i : Int} (hn : lenX r = n) (hin : 0 ≤ i ∧ i < n) (hdg : decode cc pc = .ok (.iaload, 1)) (kk : W p l e R s m args below meth c H locs cells slots Q (F0 m (pc + 1) ls (.int (i32 (M r i)) :: rest))) : W p l e R s m args below meth c H locs cells slots Q (F0 m pc ls (.int (i32 i) :: .ref (g.2.2.2 r) :: rest)) := by
  subst hn
  have hl := lenX_in (k := r) (by omega)
  exact g_iald hx hb I r 0 (by omega) (by omega) (cellX_row hl.1) (by have := lenX_le r; omega) rfl hin hdg kk
theorem x_iast (hx : p.tables.exec = Jvm.exec) (hb : c.code = cc) (I : IX g s M H locs) (r : Int) {n i x : Int} (hn : lenX r = n) (hin : 0 ≤ i ∧ i < n) (hxr : inR x) (hdg : decode cc pc = .ok (.iastore, 1)) (kk : ∀ (H1 : Heap) (locs1 : List Loc) (M1 : Mem), M1 = mset M r i x → IX g s M1 H1 locs1 → W p l e R s m args below meth c H1 locs1 cells slots Q (F0 m (pc + 1) ls rest)) : W p l e R s m args below meth c H locs cells slots Q (F0 m pc ls (.int (i32 x) :: .int (i32 i) :: .ref (g.2.2.2 r) :: rest)) := by
  subst hn
  have hl := lenX_in (k := r) (by omega)
  exact g_iast hx hb I r 0 (by omega) (by omega) (cellX_row hl.1) (by have := lenX_le r; omega) rfl hin hxr hdg (fun H1 locs1 I1 => kk H1 locs1 _ rfl I1)
theorem x_alen (hx : p.tables.exec = Jvm.exec) (hb : c.code = cc) (I : IX g s M H locs) (r : Int) (hr : 0 < lenX r) (hdg : decode cc pc = .ok (.arraylength, 1)) (kk : W p l e R s m args below meth c H locs cells slots Q (F0 m (pc + 1) ls (.int (i32 (lenX r)) :: rest))) : W p l e R s m args below meth c H locs cells slots Q (F0 m pc ls (.ref (g.2.2.2 r) :: rest)) := by
  have hl := lenX_in hr
  exact g_alen hx hb I r 0 (by omega) (by omega) (cellX_row hl.1) (by omega) rfl hdg kk
theorem x_aald_10 (hx : p.tables.exec = Jvm.exec) (hb : c.code = cc) (I : IX g s M H locs) {i : Int} (hin : 0 ≤ i ∧ i < 10) (hdg : decode cc pc = .ok (.aaload, 1)) (kk : W p l e R s m args below meth c H locs cells slots Q (F0 m (pc + 1) ls (.ref (g.2.2.2 (40 + i)) :: rest))) : W p l e R s m args below meth c H locs cells slots Q (F0 m pc ls (.int (i32 i) :: .ref (g.2.2.2 10) :: rest)) :=
  g_aald (n := 10) (b0 := 40) hx hb I 10 1 (by decide) (by decide) grX_10 (by decide) rfl hin hdg kk
theorem x_aald_11 (hx : p.tables.exec = Jvm.exec) (hb : c.code = cc) (I : IX g s M H locs) {i : Int} (hin : 0 ≤ i ∧ i < 10) (hdg : decode cc pc = .ok (.aaload, 1)) (kk : W p l e R s m args below meth c H locs cells slots Q (F0 m (pc + 1) ls (.ref (g.2.2.2 (50 + i)) :: rest))) : W p l e R s m args below meth c H locs cells slots Q (F0 m pc ls (.int (i32 i) :: .ref (g.2.2.2 11) :: rest)) :=
  g_aald (n := 10) (b0 := 50) hx hb I 11 1 (by decide) (by decide) grX_11 (by decide) rfl hin hdg kk
theorem x_aald_12 (hx : p.tables.exec = Jvm.exec) (hb : c.code = cc) (I : IX g s M H locs) {i : Int} (hin : 0 ≤ i ∧ i < 8) (hdg : decode cc pc = .ok (.aaload, 1)) (kk : W p l e R s m args below meth c H locs cells slots Q (F0 m (pc + 1) ls (.ref (g.2.2.2 (80 + i)) :: rest))) : W p l e R s m args below meth c H locs cells slots Q (F0 m pc ls (.int (i32 i) :: .ref (g.2.2.2 12) :: rest)) :=
  g_aald (n := 8) (b0 := 80) hx hb I 12 1 (by decide) (by decide) grX_12 (by decide) rfl hin hdg kk
theorem x_aald_13 (hx : p.tables.exec = Jvm.exec) (hb : c.code = cc) (I : IX g s M H locs) {i : Int} (hin : 0 ≤ i ∧ i < 10) (hdg : decode cc pc = .ok (.aaload, 1)) (kk : W p l e R s m args below meth c H locs cells slots Q (F0 m (pc + 1) ls (.ref (g.2.2.2 (60 + i)) :: rest))) : W p l e R s m args below meth c H locs cells slots Q (F0 m pc ls (.int (i32 i) :: .ref (g.2.2.2 13) :: rest)) :=
  g_aald (n := 10) (b0 := 60) hx hb I 13 1 (by decide) (by decide) grX_13 (by decide) rfl hin hdg kk
theorem x_aald_14 (hx : p.tables.exec = Jvm.exec) (hb : c.code = cc) (I : IX g s M H locs) {i : Int} (hin : 0 ≤ i ∧ i < 10) (hdg : decode cc pc = .ok (.aaload, 1)) (kk : W p l e R s m args below meth c H locs cells slots Q (F0 m (pc + 1) ls (.ref (g.2.2.2 (70 + i)) :: rest))) : W p l e R s m args below meth c H locs cells slots Q (F0 m pc ls (.int (i32 i) :: .ref (g.2.2.2 14) :: rest)) :=
  g_aald (n := 10) (b0 := 70) hx hb I 14 1 (by decide) (by decide) grX_14 (by decide) rfl hin hdg kk
theorem r_iald (hx : p.tables.exec = Jvm.exec) (hb : c.code = cc) (I : IR g s M H locs) (r : Int) {n i : Int} (hn : lenR r = n) (hz : r ≠ 17 ∧ r ≠ 18) (hin : 0 ≤ i ∧ i < n) (hdg : decode cc pc = .ok (.iaload, 1)) (kk : W p l e R s m args below meth c H locs cells slots Q (F0 m (pc + 1) ls (.int (i32 (M r i)) :: rest))) : W p l e R s m args below meth c H locs cells slots Q (F0 m pc ls (.int (i32 i) :: .ref (g.2.2.2 r) :: rest)) := by
  subst hn
  have hl := lenR_in (k := r) (by omega)
  exact g_iald hx hb I r 0 (by omega) (by omega) (cellR_row hl.1 hz.1 hz.2) (by have := lenR_le r; omega) rfl hin hdg kk
theorem r_iast (hx : p.tables.exec = Jvm.exec) (hb : c.code = cc) (I : IR g s M H locs) (r : Int) {n i x : Int} (hn : lenR r = n) (hz : r ≠ 17 ∧ r ≠ 18) (hin : 0 ≤ i ∧ i < n) (hxr : inR x) (hdg : decode cc pc = .ok (.iastore, 1)) (kk : ∀ (H1 : Heap) (locs1 : List Loc) (M1 : Mem), M1 = mset M r i x → IR g s M1 H1 locs1 → W p l e R s m args below meth c H1 locs1 cells slots Q (F0 m (pc + 1) ls rest)) : W p l e R s m args below meth c H locs cells slots Q (F0 m pc ls (.int (i32 x) :: .int (i32 i) :: .ref (g.2.2.2 r) :: rest)) := by
  subst hn
  have hl := lenR_in (k := r) (by omega)
  exact g_iast hx hb I r 0 (by omega) (by omega) (cellR_row hl.1 hz.1 hz.2) (by have := lenR_le r; omega) rfl hin hxr hdg (fun H1 locs1 I1 => kk H1 locs1 _ rfl I1)
theorem r_zald (hx : p.tables.exec = Jvm.exec) (hb : c.code = cc) (I : IR g s M H locs) (r : Int) {n i : Int} (hn : lenR r = n) (hz : r = 17 ∨ r = 18) (hin : 0 ≤ i ∧ i < n) (hdg : decode cc pc = .ok (.baload, 1)) (kk : W p l e R s m args below meth c H locs cells slots Q (F0 m (pc + 1) ls (.int (i32 (M r i)) :: rest))) : W p l e R s m args below meth c H locs cells slots Q (F0 m pc ls (.int (i32 i) :: .ref (g.2.2.2 r) :: rest)) := by
  subst hn
  exact g_zald hx hb I r 1 (by omega) (by omega) (cellR_rowZ hz) (by have := lenR_le r; omega) rfl hin hdg kk
theorem r_zast (hx : p.tables.exec = Jvm.exec) (hb : c.code = cc) (I : IR g s M H locs) (r : Int) {n i x : Int} (hn : lenR r = n) (hz : r = 17 ∨ r = 18) (hin : 0 ≤ i ∧ i < n) (hxr : x = 0 ∨ x = 1) (hdg : decode cc pc = .ok (.bastore, 1)) (kk : ∀ (H1 : Heap) (locs1 : List Loc) (M1 : Mem), M1 = mset M r i x → IR g s M1 H1 locs1 → W p l e R s m args below meth c H1 locs1 cells slots Q (F0 m (pc + 1) ls rest)) : W p l e R s m args below meth c H locs cells slots Q (F0 m pc ls (.int (i32 x) :: .int (i32 i) :: .ref (g.2.2.2 r) :: rest)) := by
  subst hn
  exact g_zast hx hb I r 1 (by omega) (by omega) (cellR_rowZ hz) (by have := lenR_le r; omega) rfl hin hxr hdg (fun H1 locs1 I1 => kk H1 locs1 _ rfl I1)
theorem xg_0_0 (hx : p.tables.exec = Jvm.exec) (hb : c.code = cc) {own : String} {index : Nat} {Ts : List Cond} (hts : ∀ w ∈ Ts, w.before args s = true) (hin : ∀ w ∈ wsX80, w ∈ Ts) (hown : s.vm.findClass own = some m.cls) (I : IX g s M H locs) (hlink : Cond.fieldLink own index (TX8 0).1 (TX8 0).2.1 (TX8 0).2.2.1 ∈ Ts) (hdg : decode cc pc = .ok (.getfield index, 3)) (kk : W p l e R s m args below meth c H locs cells slots Q (F0 m (pc + 3) ls (.ref (g.2.2.2 1) :: rest))) : W p l e R s m args below meth c H locs cells slots Q (F0 m pc ls (.ref (g.2.2.2 0) :: rest)) := by
  refine g_get (ci := 8) (C := RX8) (T := TX8) (n := 12) (v := .ref (g.2.2.2 1)) hx hb hts hin hown I 0 (by omega) (by omega) obX_0 rfl 0 (by decide) hlink ?_ hdg kk
  first | rfl | (rcases hz with rfl | rfl <;> rfl)
theorem xg_0_1 (hx : p.tables.exec = Jvm.exec) (hb : c.code = cc) {own : String} {index : Nat} {Ts : List Cond} (hts : ∀ w ∈ Ts, w.before args s = true) (hin : ∀ w ∈ wsX80, w ∈ Ts) (hown : s.vm.findClass own = some m.cls) (I : IX g s M H locs) (hlink : Cond.fieldLink own index (TX8 1).1 (TX8 1).2.1 (TX8 1).2.2.1 ∈ Ts) (hdg : decode cc pc = .ok (.getfield index, 3)) (kk : W p l e R s m args below meth c H locs cells slots Q (F0 m (pc + 3) ls (.ref (g.2.2.2 2) :: rest))) : W p l e R s m args below meth c H locs cells slots Q (F0 m pc ls (.ref (g.2.2.2 0) :: rest)) := by
  refine g_get (ci := 8) (C := RX8) (T := TX8) (n := 12) (v := .ref (g.2.2.2 2)) hx hb hts hin hown I 0 (by omega) (by omega) obX_0 rfl 1 (by decide) hlink ?_ hdg kk
  first | rfl | (rcases hz with rfl | rfl <;> rfl)
theorem xg_0_2 (hx : p.tables.exec = Jvm.exec) (hb : c.code = cc) {own : String} {index : Nat} {Ts : List Cond} (hts : ∀ w ∈ Ts, w.before args s = true) (hin : ∀ w ∈ wsX80, w ∈ Ts) (hown : s.vm.findClass own = some m.cls) (I : IX g s M H locs) (hlink : Cond.fieldLink own index (TX8 2).1 (TX8 2).2.1 (TX8 2).2.2.1 ∈ Ts) (hdg : decode cc pc = .ok (.getfield index, 3)) (kk : W p l e R s m args below meth c H locs cells slots Q (F0 m (pc + 3) ls (.ref (g.2.2.2 3) :: rest))) : W p l e R s m args below meth c H locs cells slots Q (F0 m pc ls (.ref (g.2.2.2 0) :: rest)) := by
  refine g_get (ci := 8) (C := RX8) (T := TX8) (n := 12) (v := .ref (g.2.2.2 3)) hx hb hts hin hown I 0 (by omega) (by omega) obX_0 rfl 2 (by decide) hlink ?_ hdg kk
  first | rfl | (rcases hz with rfl | rfl <;> rfl)
theorem xg_0_3 (hx : p.tables.exec = Jvm.exec) (hb : c.code = cc) {own : String} {index : Nat} {Ts : List Cond} (hts : ∀ w ∈ Ts, w.before args s = true) (hin : ∀ w ∈ wsX80, w ∈ Ts) (hown : s.vm.findClass own = some m.cls) (I : IX g s M H locs) (hlink : Cond.fieldLink own index (TX8 3).1 (TX8 3).2.1 (TX8 3).2.2.1 ∈ Ts) (hdg : decode cc pc = .ok (.getfield index, 3)) (kk : W p l e R s m args below meth c H locs cells slots Q (F0 m (pc + 3) ls (.ref (g.2.2.2 4) :: rest))) : W p l e R s m args below meth c H locs cells slots Q (F0 m pc ls (.ref (g.2.2.2 0) :: rest)) := by
  refine g_get (ci := 8) (C := RX8) (T := TX8) (n := 12) (v := .ref (g.2.2.2 4)) hx hb hts hin hown I 0 (by omega) (by omega) obX_0 rfl 3 (by decide) hlink ?_ hdg kk
  first | rfl | (rcases hz with rfl | rfl <;> rfl)
theorem xg_0_4 (hx : p.tables.exec = Jvm.exec) (hb : c.code = cc) {own : String} {index : Nat} {Ts : List Cond} (hts : ∀ w ∈ Ts, w.before args s = true) (hin : ∀ w ∈ wsX80, w ∈ Ts) (hown : s.vm.findClass own = some m.cls) (I : IX g s M H locs) (hlink : Cond.fieldLink own index (TX8 4).1 (TX8 4).2.1 (TX8 4).2.2.1 ∈ Ts) (hdg : decode cc pc = .ok (.getfield index, 3)) (kk : W p l e R s m args below meth c H locs cells slots Q (F0 m (pc + 3) ls (.ref (g.2.2.2 5) :: rest))) : W p l e R s m args below meth c H locs cells slots Q (F0 m pc ls (.ref (g.2.2.2 0) :: rest)) := by
  refine g_get (ci := 8) (C := RX8) (T := TX8) (n := 12) (v := .ref (g.2.2.2 5)) hx hb hts hin hown I 0 (by omega) (by omega) obX_0 rfl 4 (by decide) hlink ?_ hdg kk
  first | rfl | (rcases hz with rfl | rfl <;> rfl)
theorem xg_0_5 (hx : p.tables.exec = Jvm.exec) (hb : c.code = cc) {own : String} {index : Nat} {Ts : List Cond} (hts : ∀ w ∈ Ts, w.before args s = true) (hin : ∀ w ∈ wsX80, w ∈ Ts) (hown : s.vm.findClass own = some m.cls) (I : IX g s M H locs) (hlink : Cond.fieldLink own index (TX8 5).1 (TX8 5).2.1 (TX8 5).2.2.1 ∈ Ts) (hdg : decode cc pc = .ok (.getfield index, 3)) (kk : W p l e R s m args below meth c H locs cells slots Q (F0 m (pc + 3) ls (.ref (g.2.2.2 6) :: rest))) : W p l e R s m args below meth c H locs cells slots Q (F0 m pc ls (.ref (g.2.2.2 0) :: rest)) := by
  refine g_get (ci := 8) (C := RX8) (T := TX8) (n := 12) (v := .ref (g.2.2.2 6)) hx hb hts hin hown I 0 (by omega) (by omega) obX_0 rfl 5 (by decide) hlink ?_ hdg kk
  first | rfl | (rcases hz with rfl | rfl <;> rfl)
theorem xg_0_6 (hx : p.tables.exec = Jvm.exec) (hb : c.code = cc) {own : String} {index : Nat} {Ts : List Cond} (hts : ∀ w ∈ Ts, w.before args s = true) (hin : ∀ w ∈ wsX80, w ∈ Ts) (hown : s.vm.findClass own = some m.cls) (I : IX g s M H locs) (hlink : Cond.fieldLink own index (TX8 6).1 (TX8 6).2.1 (TX8 6).2.2.1 ∈ Ts) (hdg : decode cc pc = .ok (.getfield index, 3)) (kk : W p l e R s m args below meth c H locs cells slots Q (F0 m (pc + 3) ls (.ref (g.2.2.2 7) :: rest))) : W p l e R s m args below meth c H locs cells slots Q (F0 m pc ls (.ref (g.2.2.2 0) :: rest)) := by
  refine g_get (ci := 8) (C := RX8) (T := TX8) (n := 12) (v := .ref (g.2.2.2 7)) hx hb hts hin hown I 0 (by omega) (by omega) obX_0 rfl 6 (by decide) hlink ?_ hdg kk
  first | rfl | (rcases hz with rfl | rfl <;> rfl)
theorem xg_0_7 (hx : p.tables.exec = Jvm.exec) (hb : c.code = cc) {own : String} {index : Nat} {Ts : List Cond} (hts : ∀ w ∈ Ts, w.before args s = true) (hin : ∀ w ∈ wsX80, w ∈ Ts) (hown : s.vm.findClass own = some m.cls) (I : IX g s M H locs) (hlink : Cond.fieldLink own index (TX8 7).1 (TX8 7).2.1 (TX8 7).2.2.1 ∈ Ts) (hdg : decode cc pc = .ok (.getfield index, 3)) (kk : W p l e R s m args below meth c H locs cells slots Q (F0 m (pc + 3) ls (.int (i32 (M 0 7)) :: rest))) : W p l e R s m args below meth c H locs cells slots Q (F0 m pc ls (.ref (g.2.2.2 0) :: rest)) := by
  refine g_get (ci := 8) (C := RX8) (T := TX8) (n := 12) (v := .int (i32 (M 0 7))) hx hb hts hin hown I 0 (by omega) (by omega) obX_0 rfl 7 (by decide) hlink ?_ hdg kk
  first | rfl | (rcases hz with rfl | rfl <;> rfl)
theorem xp_0_7 (hx : p.tables.exec = Jvm.exec) (hb : c.code = cc) {own : String} {index : Nat} {Ts : List Cond} (hts : ∀ w ∈ Ts, w.before args s = true) (hin : ∀ w ∈ wsX80, w ∈ Ts) (hown : s.vm.findClass own = some m.cls) (I : IX g s M H locs) (hlink : Cond.fieldLink own index (TX8 7).1 (TX8 7).2.1 (TX8 7).2.2.1 ∈ Ts) {x : Int} (hxr : inR x) (hdg : decode cc pc = .ok (.putfield index, 3)) (kk : ∀ (H1 : Heap) (locs1 : List Loc) (M1 : Mem), M1 = mset M 0 7 x → IX g s M1 H1 locs1 → W p l e R s m args below meth c H1 locs1 cells slots Q (F0 m (pc + 3) ls rest)) : W p l e R s m args below meth c H locs cells slots Q (F0 m pc ls (.int (i32 x) :: .ref (g.2.2.2 0) :: rest)) :=
  g_put (ci := 8) (C := RX8) (T := TX8) (n := 12) hx hb hts hin tyX8 tyX8_ok nmX8 hown I 0 (by omega) (by omega) obX_0 rfl 7 (by decide) hlink rfl hxr rfl (Nat.le_of_ble_eq_true rfl) (by rw [obX_0]; rfl) hdg (fun H1 locs1 I1 => kk H1 locs1 _ rfl I1)
theorem xg_0_8 (hx : p.tables.exec = Jvm.exec) (hb : c.code = cc) {own : String} {index : Nat} {Ts : List Cond} (hts : ∀ w ∈ Ts, w.before args s = true) (hin : ∀ w ∈ wsX80, w ∈ Ts) (hown : s.vm.findClass own = some m.cls) (I : IX g s M H locs) (hlink : Cond.fieldLink own index (TX8 8).1 (TX8 8).2.1 (TX8 8).2.2.1 ∈ Ts) (hdg : decode cc pc = .ok (.getfield index, 3)) (kk : W p l e R s m args below meth c H locs cells slots Q (F0 m (pc + 3) ls (.int (i32 (M 0 8)) :: rest))) : W p l e R s m args below meth c H locs cells slots Q (F0 m pc ls (.ref (g.2.2.2 0) :: rest)) := by
  refine g_get (ci := 8) (C := RX8) (T := TX8) (n := 12) (v := .int (i32 (M 0 8))) hx hb hts hin hown I 0 (by omega) (by omega) obX_0 rfl 8 (by decide) hlink ?_ hdg kk
  first | rfl | (rcases hz with rfl | rfl <;> rfl)
theorem xp_0_8 (hx : p.tables.exec = Jvm.exec) (hb : c.code = cc) {own : String} {index : Nat} {Ts : List Cond} (hts : ∀ w ∈ Ts, w.before args s = true) (hin : ∀ w ∈ wsX80, w ∈ Ts) (hown : s.vm.findClass own = some m.cls) (I : IX g s M H locs) (hlink : Cond.fieldLink own index (TX8 8).1 (TX8 8).2.1 (TX8 8).2.2.1 ∈ Ts) {x : Int} (hxr : inR x) (hdg : decode cc pc = .ok (.putfield index, 3)) (kk : ∀ (H1 : Heap) (locs1 : List Loc) (M1 : Mem), M1 = mset M 0 8 x → IX g s M1 H1 locs1 → W p l e R s m args below meth c H1 locs1 cells slots Q (F0 m (pc + 3) ls rest)) : W p l e R s m args below meth c H locs cells slots Q (F0 m pc ls (.int (i32 x) :: .ref (g.2.2.2 0) :: rest)) :=
  g_put (ci := 8) (C := RX8) (T := TX8) (n := 12) hx hb hts hin tyX8 tyX8_ok nmX8 hown I 0 (by omega) (by omega) obX_0 rfl 8 (by decide) hlink rfl hxr rfl (Nat.le_of_ble_eq_true rfl) (by rw [obX_0]; rfl) hdg (fun H1 locs1 I1 => kk H1 locs1 _ rfl I1)
theorem xg_0_9 (hx : p.tables.exec = Jvm.exec) (hb : c.code = cc) {own : String} {index : Nat} {Ts : List Cond} (hts : ∀ w ∈ Ts, w.before args s = true) (hin : ∀ w ∈ wsX80, w ∈ Ts) (hown : s.vm.findClass own = some m.cls) (I : IX g s M H locs) (hlink : Cond.fieldLink own index (TX8 9).1 (TX8 9).2.1 (TX8 9).2.2.1 ∈ Ts) (hdg : decode cc pc = .ok (.getfield index, 3)) (kk : W p l e R s m args below meth c H locs cells slots Q (F0 m (pc + 3) ls (.int (i32 (M 0 9)) :: rest))) : W p l e R s m args below meth c H locs cells slots Q (F0 m pc ls (.ref (g.2.2.2 0) :: rest)) := by
  refine g_get (ci := 8) (C := RX8) (T := TX8) (n := 12) (v := .int (i32 (M 0 9))) hx hb hts hin hown I 0 (by omega) (by omega) obX_0 rfl 9 (by decide) hlink ?_ hdg kk
  first | rfl | (rcases hz with rfl | rfl <;> rfl)
theorem xp_0_9 (hx : p.tables.exec = Jvm.exec) (hb : c.code = cc) {own : String} {index : Nat} {Ts : List Cond} (hts : ∀ w ∈ Ts, w.before args s = true) (hin : ∀ w ∈ wsX80, w ∈ Ts) (hown : s.vm.findClass own = some m.cls) (I : IX g s M H locs) (hlink : Cond.fieldLink own index (TX8 9).1 (TX8 9).2.1 (TX8 9).2.2.1 ∈ Ts) {x : Int} (hxr : inR x) (hdg : decode cc pc = .ok (.putfield index, 3)) (kk : ∀ (H1 : Heap) (locs1 : List Loc) (M1 : Mem), M1 = mset M 0 9 x → IX g s M1 H1 locs1 → W p l e R s m args below meth c H1 locs1 cells slots Q (F0 m (pc + 3) ls rest)) : W p l e R s m args below meth c H locs cells slots Q (F0 m pc ls (.int (i32 x) :: .ref (g.2.2.2 0) :: rest)) :=
  g_put (ci := 8) (C := RX8) (T := TX8) (n := 12) hx hb hts hin tyX8 tyX8_ok nmX8 hown I 0 (by omega) (by omega) obX_0 rfl 9 (by decide) hlink rfl hxr rfl (Nat.le_of_ble_eq_true rfl) (by rw [obX_0]; rfl) hdg (fun H1 locs1 I1 => kk H1 locs1 _ rfl I1)
theorem xg_0_10 (hx : p.tables.exec = Jvm.exec) (hb : c.code = cc) {own : String} {index : Nat} {Ts : List Cond} (hts : ∀ w ∈ Ts, w.before args s = true) (hin : ∀ w ∈ wsX80, w ∈ Ts) (hown : s.vm.findClass own = some m.cls) (I : IX g s M H locs) (hlink : Cond.fieldLink own index (TX8 10).1 (TX8 10).2.1 (TX8 10).2.2.1 ∈ Ts) (hdg : decode cc pc = .ok (.getfield index, 3)) (kk : W p l e R s m args below meth c H locs cells slots Q (F0 m (pc + 3) ls (.int (i32 (M 0 10)) :: rest))) : W p l e R s m args below meth c H locs cells slots Q (F0 m pc ls (.ref (g.2.2.2 0) :: rest)) := by
  refine g_get (ci := 8) (C := RX8) (T := TX8) (n := 12) (v := .int (i32 (M 0 10))) hx hb hts hin hown I 0 (by omega) (by omega) obX_0 rfl 10 (by decide) hlink ?_ hdg kk
  first | rfl | (rcases hz with rfl | rfl <;> rfl)
theorem xp_0_10 (hx : p.tables.exec = Jvm.exec) (hb : c.code = cc) {own : String} {index : Nat} {Ts : List Cond} (hts : ∀ w ∈ Ts, w.before args s = true) (hin : ∀ w ∈ wsX80, w ∈ Ts) (hown : s.vm.findClass own = some m.cls) (I : IX g s M H locs) (hlink : Cond.fieldLink own index (TX8 10).1 (TX8 10).2.1 (TX8 10).2.2.1 ∈ Ts) {x : Int} (hxr : inR x) (hdg : decode cc pc = .ok (.putfield index, 3)) (kk : ∀ (H1 : Heap) (locs1 : List Loc) (M1 : Mem), M1 = mset M 0 10 x → IX g s M1 H1 locs1 → W p l e R s m args below meth c H1 locs1 cells slots Q (F0 m (pc + 3) ls rest)) : W p l e R s m args below meth c H locs cells slots Q (F0 m pc ls (.int (i32 x) :: .ref (g.2.2.2 0) :: rest)) :=
  g_put (ci := 8) (C := RX8) (T := TX8) (n := 12) hx hb hts hin tyX8 tyX8_ok nmX8 hown I 0 (by omega) (by omega) obX_0 rfl 10 (by decide) hlink rfl hxr rfl (Nat.le_of_ble_eq_true rfl) (by rw [obX_0]; rfl) hdg (fun H1 locs1 I1 => kk H1 locs1 _ rfl I1)
theorem xg_0_11 (hx : p.tables.exec = Jvm.exec) (hb : c.code = cc) {own : String} {index : Nat} {Ts : List Cond} (hts : ∀ w ∈ Ts, w.before args s = true) (hin : ∀ w ∈ wsX80, w ∈ Ts) (hown : s.vm.findClass own = some m.cls) (I : IX g s M H locs) (hlink : Cond.fieldLink own index (TX8 11).1 (TX8 11).2.1 (TX8 11).2.2.1 ∈ Ts) (hdg : decode cc pc = .ok (.getfield index, 3)) (kk : W p l e R s m args below meth c H locs cells slots Q (F0 m (pc + 3) ls (.int (i32 (M 0 11)) :: rest))) : W p l e R s m args below meth c H locs cells slots Q (F0 m pc ls (.ref (g.2.2.2 0) :: rest)) := by
  refine g_get (ci := 8) (C := RX8) (T := TX8) (n := 12) (v := .int (i32 (M 0 11))) hx hb hts hin hown I 0 (by omega) (by omega) obX_0 rfl 11 (by decide) hlink ?_ hdg kk
  first | rfl | (rcases hz with rfl | rfl <;> rfl)
theorem xp_0_11 (hx : p.tables.exec = Jvm.exec) (hb : c.code = cc) {own : String} {index : Nat} {Ts : List Cond} (hts : ∀ w ∈ Ts, w.before args s = true) (hin : ∀ w ∈ wsX80, w ∈ Ts) (hown : s.vm.findClass own = some m.cls) (I : IX g s M H locs) (hlink : Cond.fieldLink own index (TX8 11).1 (TX8 11).2.1 (TX8 11).2.2.1 ∈ Ts) {x : Int} (hxr : inR x) (hdg : decode cc pc = .ok (.putfield index, 3)) (kk : ∀ (H1 : Heap) (locs1 : List Loc) (M1 : Mem), M1 = mset M 0 11 x → IX g s M1 H1 locs1 → W p l e R s m args below meth c H1 locs1 cells slots Q (F0 m (pc + 3) ls rest)) : W p l e R s m args below meth c H locs cells slots Q (F0 m pc ls (.int (i32 x) :: .ref (g.2.2.2 0) :: rest)) :=
  g_put (ci := 8) (C := RX8) (T := TX8) (n := 12) hx hb hts hin tyX8 tyX8_ok nmX8 hown I 0 (by omega) (by omega) obX_0 rfl 11 (by decide) hlink rfl hxr rfl (Nat.le_of_ble_eq_true rfl) (by rw [obX_0]; rfl) hdg (fun H1 locs1 I1 => kk H1 locs1 _ rfl I1)
theorem xg_1_0 (hx : p.tables.exec = Jvm.exec) (hb : c.code = cc) {own : String} {index : Nat} {Ts : List Cond} (hts : ∀ w ∈ Ts, w.before args s = true) (hin : ∀ w ∈ wsX30, w ∈ Ts) (hown : s.vm.findClass own = some m.cls) (I : IX g s M H locs) (hlink : Cond.fieldLink own index (TX3 0).1 (TX3 0).2.1 (TX3 0).2.2.1 ∈ Ts) (hdg : decode cc pc = .ok (.getfield index, 3)) (kk : W p l e R s m args below meth c H locs cells slots Q (F0 m (pc + 3) ls (.int (i32 (M 1 0)) :: rest))) : W p l e R s m args below meth c H locs cells slots Q (F0 m pc ls (.ref (g.2.2.2 1) :: rest)) := by
  refine g_get (ci := 3) (C := RX3) (T := TX3) (n := 8) (v := .int (i32 (M 1 0))) hx hb hts hin hown I 1 (by omega) (by omega) obX_1 rfl 0 (by decide) hlink ?_ hdg kk
  first | rfl | (rcases hz with rfl | rfl <;> rfl)
theorem xp_1_0 (hx : p.tables.exec = Jvm.exec) (hb : c.code = cc) {own : String} {index : Nat} {Ts : List Cond} (hts : ∀ w ∈ Ts, w.before args s = true) (hin : ∀ w ∈ wsX30, w ∈ Ts) (hown : s.vm.findClass own = some m.cls) (I : IX g s M H locs) (hlink : Cond.fieldLink own index (TX3 0).1 (TX3 0).2.1 (TX3 0).2.2.1 ∈ Ts) {x : Int} (hxr : inR x) (hdg : decode cc pc = .ok (.putfield index, 3)) (kk : ∀ (H1 : Heap) (locs1 : List Loc) (M1 : Mem), M1 = mset M 1 0 x → IX g s M1 H1 locs1 → W p l e R s m args below meth c H1 locs1 cells slots Q (F0 m (pc + 3) ls rest)) : W p l e R s m args below meth c H locs cells slots Q (F0 m pc ls (.int (i32 x) :: .ref (g.2.2.2 1) :: rest)) :=
  g_put (ci := 3) (C := RX3) (T := TX3) (n := 8) hx hb hts hin tyX3 tyX3_ok nmX3 hown I 1 (by omega) (by omega) obX_1 rfl 0 (by decide) hlink rfl hxr rfl (Nat.le_of_ble_eq_true rfl) (by rw [obX_1]; rfl) hdg (fun H1 locs1 I1 => kk H1 locs1 _ rfl I1)
theorem xg_1_1 (hx : p.tables.exec = Jvm.exec) (hb : c.code = cc) {own : String} {index : Nat} {Ts : List Cond} (hts : ∀ w ∈ Ts, w.before args s = true) (hin : ∀ w ∈ wsX30, w ∈ Ts) (hown : s.vm.findClass own = some m.cls) (I : IX g s M H locs) (hlink : Cond.fieldLink own index (TX3 1).1 (TX3 1).2.1 (TX3 1).2.2.1 ∈ Ts) (hdg : decode cc pc = .ok (.getfield index, 3)) (kk : W p l e R s m args below meth c H locs cells slots Q (F0 m (pc + 3) ls (.int (i32 (M 1 1)) :: rest))) : W p l e R s m args below meth c H locs cells slots Q (F0 m pc ls (.ref (g.2.2.2 1) :: rest)) := by
  refine g_get (ci := 3) (C := RX3) (T := TX3) (n := 8) (v := .int (i32 (M 1 1))) hx hb hts hin hown I 1 (by omega) (by omega) obX_1 rfl 1 (by decide) hlink ?_ hdg kk
  first | rfl | (rcases hz with rfl | rfl <;> rfl)
theorem xp_1_1 (hx : p.tables.exec = Jvm.exec) (hb : c.code = cc) {own : String} {index : Nat} {Ts : List Cond} (hts : ∀ w ∈ Ts, w.before args s = true) (hin : ∀ w ∈ wsX30, w ∈ Ts) (hown : s.vm.findClass own = some m.cls) (I : IX g s M H locs) (hlink : Cond.fieldLink own index (TX3 1).1 (TX3 1).2.1 (TX3 1).2.2.1 ∈ Ts) {x : Int} (hxr : inR x) (hdg : decode cc pc = .ok (.putfield index, 3)) (kk : ∀ (H1 : Heap) (locs1 : List Loc) (M1 : Mem), M1 = mset M 1 1 x → IX g s M1 H1 locs1 → W p l e R s m args below meth c H1 locs1 cells slots Q (F0 m (pc + 3) ls rest)) : W p l e R s m args below meth c H locs cells slots Q (F0 m pc ls (.int (i32 x) :: .ref (g.2.2.2 1) :: rest)) :=
  g_put (ci := 3) (C := RX3) (T := TX3) (n := 8) hx hb hts hin tyX3 tyX3_ok nmX3 hown I 1 (by omega) (by omega) obX_1 rfl 1 (by decide) hlink rfl hxr rfl (Nat.le_of_ble_eq_true rfl) (by rw [obX_1]; rfl) hdg (fun H1 locs1 I1 => kk H1 locs1 _ rfl I1)
theorem xg_1_2 (hx : p.tables.exec = Jvm.exec) (hb : c.code = cc) {own : String} {index : Nat} {Ts : List Cond} (hts : ∀ w ∈ Ts, w.before args s = true) (hin : ∀ w ∈ wsX30, w ∈ Ts) (hown : s.vm.findClass own = some m.cls) (I : IX g s M H locs) (hlink : Cond.fieldLink own index (TX3 2).1 (TX3 2).2.1 (TX3 2).2.2.1 ∈ Ts) (hdg : decode cc pc = .ok (.getfield index, 3)) (kk : W p l e R s m args below meth c H locs cells slots Q (F0 m (pc + 3) ls (.ref (g.2.2.2 15) :: rest))) : W p l e R s m args below meth c H locs cells slots Q (F0 m pc ls (.ref (g.2.2.2 1) :: rest)) := by
  refine g_get (ci := 3) (C := RX3) (T := TX3) (n := 8) (v := .ref (g.2.2.2 15)) hx hb hts hin hown I 1 (by omega) (by omega) obX_1 rfl 2 (by decide) hlink ?_ hdg kk
  first | rfl | (rcases hz with rfl | rfl <;> rfl)
theorem xg_1_3 (hx : p.tables.exec = Jvm.exec) (hb : c.code = cc) {own : String} {index : Nat} {Ts : List Cond} (hts : ∀ w ∈ Ts, w.before args s = true) (hin : ∀ w ∈ wsX30, w ∈ Ts) (hown : s.vm.findClass own = some m.cls) (I : IX g s M H locs) (hlink : Cond.fieldLink own index (TX3 3).1 (TX3 3).2.1 (TX3 3).2.2.1 ∈ Ts) (hdg : decode cc pc = .ok (.getfield index, 3)) (kk : W p l e R s m args below meth c H locs cells slots Q (F0 m (pc + 3) ls (.ref (g.2.2.2 16) :: rest))) : W p l e R s m args below meth c H locs cells slots Q (F0 m pc ls (.ref (g.2.2.2 1) :: rest)) := by
  refine g_get (ci := 3) (C := RX3) (T := TX3) (n := 8) (v := .ref (g.2.2.2 16)) hx hb hts hin hown I 1 (by omega) (by omega) obX_1 rfl 3 (by decide) hlink ?_ hdg kk
  first | rfl | (rcases hz with rfl | rfl <;> rfl)
theorem xg_1_4 (hx : p.tables.exec = Jvm.exec) (hb : c.code = cc) {own : String} {index : Nat} {Ts : List Cond} (hts : ∀ w ∈ Ts, w.before args s = true) (hin : ∀ w ∈ wsX30, w ∈ Ts) (hown : s.vm.findClass own = some m.cls) (I : IX g s M H locs) (hlink : Cond.fieldLink own index (TX3 4).1 (TX3 4).2.1 (TX3 4).2.2.1 ∈ Ts) (hdg : decode cc pc = .ok (.getfield index, 3)) (kk : W p l e R s m args below meth c H locs cells slots Q (F0 m (pc + 3) ls (.ref (g.2.2.2 17) :: rest))) : W p l e R s m args below meth c H locs cells slots Q (F0 m pc ls (.ref (g.2.2.2 1) :: rest)) := by
  refine g_get (ci := 3) (C := RX3) (T := TX3) (n := 8) (v := .ref (g.2.2.2 17)) hx hb hts hin hown I 1 (by omega) (by omega) obX_1 rfl 4 (by decide) hlink ?_ hdg kk
  first | rfl | (rcases hz with rfl | rfl <;> rfl)
theorem xg_1_5 (hx : p.tables.exec = Jvm.exec) (hb : c.code = cc) {own : String} {index : Nat} {Ts : List Cond} (hts : ∀ w ∈ Ts, w.before args s = true) (hin : ∀ w ∈ wsX30, w ∈ Ts) (hown : s.vm.findClass own = some m.cls) (I : IX g s M H locs) (hlink : Cond.fieldLink own index (TX3 5).1 (TX3 5).2.1 (TX3 5).2.2.1 ∈ Ts) (hdg : decode cc pc = .ok (.getfield index, 3)) (kk : W p l e R s m args below meth c H locs cells slots Q (F0 m (pc + 3) ls (.ref (g.2.2.2 18) :: rest))) : W p l e R s m args below meth c H locs cells slots Q (F0 m pc ls (.ref (g.2.2.2 1) :: rest)) := by
  refine g_get (ci := 3) (C := RX3) (T := TX3) (n := 8) (v := .ref (g.2.2.2 18)) hx hb hts hin hown I 1 (by omega) (by omega) obX_1 rfl 5 (by decide) hlink ?_ hdg kk
  first | rfl | (rcases hz with rfl | rfl <;> rfl)
theorem xg_1_6 (hx : p.tables.exec = Jvm.exec) (hb : c.code = cc) {own : String} {index : Nat} {Ts : List Cond} (hts : ∀ w ∈ Ts, w.before args s = true) (hin : ∀ w ∈ wsX30, w ∈ Ts) (hown : s.vm.findClass own = some m.cls) (I : IX g s M H locs) (hlink : Cond.fieldLink own index (TX3 6).1 (TX3 6).2.1 (TX3 6).2.2.1 ∈ Ts) (hdg : decode cc pc = .ok (.getfield index, 3)) (kk : W p l e R s m args below meth c H locs cells slots Q (F0 m (pc + 3) ls (.ref (g.2.2.2 10) :: rest))) : W p l e R s m args below meth c H locs cells slots Q (F0 m pc ls (.ref (g.2.2.2 1) :: rest)) := by
  refine g_get (ci := 3) (C := RX3) (T := TX3) (n := 8) (v := .ref (g.2.2.2 10)) hx hb hts hin hown I 1 (by omega) (by omega) obX_1 rfl 6 (by decide) hlink ?_ hdg kk
  first | rfl | (rcases hz with rfl | rfl <;> rfl)
theorem xg_1_7 (hx : p.tables.exec = Jvm.exec) (hb : c.code = cc) {own : String} {index : Nat} {Ts : List Cond} (hts : ∀ w ∈ Ts, w.before args s = true) (hin : ∀ w ∈ wsX30, w ∈ Ts) (hown : s.vm.findClass own = some m.cls) (I : IX g s M H locs) (hlink : Cond.fieldLink own index (TX3 7).1 (TX3 7).2.1 (TX3 7).2.2.1 ∈ Ts) (hdg : decode cc pc = .ok (.getfield index, 3)) (kk : W p l e R s m args below meth c H locs cells slots Q (F0 m (pc + 3) ls (.ref (g.2.2.2 11) :: rest))) : W p l e R s m args below meth c H locs cells slots Q (F0 m pc ls (.ref (g.2.2.2 1) :: rest)) := by
  refine g_get (ci := 3) (C := RX3) (T := TX3) (n := 8) (v := .ref (g.2.2.2 11)) hx hb hts hin hown I 1 (by omega) (by omega) obX_1 rfl 7 (by decide) hlink ?_ hdg kk
  first | rfl | (rcases hz with rfl | rfl <;> rfl)
theorem xg_2_0 (hx : p.tables.exec = Jvm.exec) (hb : c.code = cc) {own : String} {index : Nat} {Ts : List Cond} (hts : ∀ w ∈ Ts, w.before args s = true) (hin : ∀ w ∈ wsX20, w ∈ Ts) (hown : s.vm.findClass own = some m.cls) (I : IX g s M H locs) (hlink : Cond.fieldLink own index (TX2 0).1 (TX2 0).2.1 (TX2 0).2.2.1 ∈ Ts) (hdg : decode cc pc = .ok (.getfield index, 3)) (kk : W p l e R s m args below meth c H locs cells slots Q (F0 m (pc + 3) ls (.int (i32 (M 2 0)) :: rest))) : W p l e R s m args below meth c H locs cells slots Q (F0 m pc ls (.ref (g.2.2.2 2) :: rest)) := by
  refine g_get (ci := 2) (C := RX2) (T := TX2) (n := 2) (v := .int (i32 (M 2 0))) hx hb hts hin hown I 2 (by omega) (by omega) obX_2 rfl 0 (by decide) hlink ?_ hdg kk
  first | rfl | (rcases hz with rfl | rfl <;> rfl)
theorem xp_2_0 (hx : p.tables.exec = Jvm.exec) (hb : c.code = cc) {own : String} {index : Nat} {Ts : List Cond} (hts : ∀ w ∈ Ts, w.before args s = true) (hin : ∀ w ∈ wsX20, w ∈ Ts) (hown : s.vm.findClass own = some m.cls) (I : IX g s M H locs) (hlink : Cond.fieldLink own index (TX2 0).1 (TX2 0).2.1 (TX2 0).2.2.1 ∈ Ts) {x : Int} (hxr : inR x) (hdg : decode cc pc = .ok (.putfield index, 3)) (kk : ∀ (H1 : Heap) (locs1 : List Loc) (M1 : Mem), M1 = mset M 2 0 x → IX g s M1 H1 locs1 → W p l e R s m args below meth c H1 locs1 cells slots Q (F0 m (pc + 3) ls rest)) : W p l e R s m args below meth c H locs cells slots Q (F0 m pc ls (.int (i32 x) :: .ref (g.2.2.2 2) :: rest)) :=
  g_put (ci := 2) (C := RX2) (T := TX2) (n := 2) hx hb hts hin tyX2 tyX2_ok nmX2 hown I 2 (by omega) (by omega) obX_2 rfl 0 (by decide) hlink rfl hxr rfl (Nat.le_of_ble_eq_true rfl) (by rw [obX_2]; rfl) hdg (fun H1 locs1 I1 => kk H1 locs1 _ rfl I1)
theorem xg_2_1 (hx : p.tables.exec = Jvm.exec) (hb : c.code = cc) {own : String} {index : Nat} {Ts : List Cond} (hts : ∀ w ∈ Ts, w.before args s = true) (hin : ∀ w ∈ wsX20, w ∈ Ts) (hown : s.vm.findClass own = some m.cls) (I : IX g s M H locs) (hlink : Cond.fieldLink own index (TX2 1).1 (TX2 1).2.1 (TX2 1).2.2.1 ∈ Ts) (hdg : decode cc pc = .ok (.getfield index, 3)) (kk : W p l e R s m args below meth c H locs cells slots Q (F0 m (pc + 3) ls (.ref (g.2.2.2 12) :: rest))) : W p l e R s m args below meth c H locs cells slots Q (F0 m pc ls (.ref (g.2.2.2 2) :: rest)) := by
  refine g_get (ci := 2) (C := RX2) (T := TX2) (n := 2) (v := .ref (g.2.2.2 12)) hx hb hts hin hown I 2 (by omega) (by omega) obX_2 rfl 1 (by decide) hlink ?_ hdg kk
  first | rfl | (rcases hz with rfl | rfl <;> rfl)
theorem xg_3_0 (hx : p.tables.exec = Jvm.exec) (hb : c.code = cc) {own : String} {index : Nat} {Ts : List Cond} (hts : ∀ w ∈ Ts, w.before args s = true) (hin : ∀ w ∈ wsX00, w ∈ Ts) (hown : s.vm.findClass own = some m.cls) (I : IX g s M H locs) (hlink : Cond.fieldLink own index (TX0 0).1 (TX0 0).2.1 (TX0 0).2.2.1 ∈ Ts) (hdg : decode cc pc = .ok (.getfield index, 3)) (kk : W p l e R s m args below meth c H locs cells slots Q (F0 m (pc + 3) ls (.int (i32 (M 3 0)) :: rest))) : W p l e R s m args below meth c H locs cells slots Q (F0 m pc ls (.ref (g.2.2.2 3) :: rest)) := by
  refine g_get (ci := 0) (C := RX0) (T := TX0) (n := 6) (v := .int (i32 (M 3 0))) hx hb hts hin hown I 3 (by omega) (by omega) obX_3 rfl 0 (by decide) hlink ?_ hdg kk
  first | rfl | (rcases hz with rfl | rfl <;> rfl)
theorem xp_3_0 (hx : p.tables.exec = Jvm.exec) (hb : c.code = cc) {own : String} {index : Nat} {Ts : List Cond} (hts : ∀ w ∈ Ts, w.before args s = true) (hin : ∀ w ∈ wsX00, w ∈ Ts) (hown : s.vm.findClass own = some m.cls) (I : IX g s M H locs) (hlink : Cond.fieldLink own index (TX0 0).1 (TX0 0).2.1 (TX0 0).2.2.1 ∈ Ts) {x : Int} (hxr : inR x) (hdg : decode cc pc = .ok (.putfield index, 3)) (kk : ∀ (H1 : Heap) (locs1 : List Loc) (M1 : Mem), M1 = mset M 3 0 x → IX g s M1 H1 locs1 → W p l e R s m args below meth c H1 locs1 cells slots Q (F0 m (pc + 3) ls rest)) : W p l e R s m args below meth c H locs cells slots Q (F0 m pc ls (.int (i32 x) :: .ref (g.2.2.2 3) :: rest)) :=
  g_put (ci := 0) (C := RX0) (T := TX0) (n := 6) hx hb hts hin tyX0 tyX0_ok nmX0 hown I 3 (by omega) (by omega) obX_3 rfl 0 (by decide) hlink rfl hxr rfl (Nat.le_of_ble_eq_true rfl) (by rw [obX_3]; rfl) hdg (fun H1 locs1 I1 => kk H1 locs1 _ rfl I1)
theorem xg_3_1 (hx : p.tables.exec = Jvm.exec) (hb : c.code = cc) {own : String} {index : Nat} {Ts : List Cond} (hts : ∀ w ∈ Ts, w.before args s = true) (hin : ∀ w ∈ wsX00, w ∈ Ts) (hown : s.vm.findClass own = some m.cls) (I : IX g s M H locs) (hlink : Cond.fieldLink own index (TX0 1).1 (TX0 1).2.1 (TX0 1).2.2.1 ∈ Ts) (hdg : decode cc pc = .ok (.getfield index, 3)) (kk : W p l e R s m args below meth c H locs cells slots Q (F0 m (pc + 3) ls (.int (i32 (M 3 1)) :: rest))) : W p l e R s m args below meth c H locs cells slots Q (F0 m pc ls (.ref (g.2.2.2 3) :: rest)) := by
  refine g_get (ci := 0) (C := RX0) (T := TX0) (n := 6) (v := .int (i32 (M 3 1))) hx hb hts hin hown I 3 (by omega) (by omega) obX_3 rfl 1 (by decide) hlink ?_ hdg kk
  first | rfl | (rcases hz with rfl | rfl <;> rfl)
theorem xp_3_1 (hx : p.tables.exec = Jvm.exec) (hb : c.code = cc) {own : String} {index : Nat} {Ts : List Cond} (hts : ∀ w ∈ Ts, w.before args s = true) (hin : ∀ w ∈ wsX00, w ∈ Ts) (hown : s.vm.findClass own = some m.cls) (I : IX g s M H locs) (hlink : Cond.fieldLink own index (TX0 1).1 (TX0 1).2.1 (TX0 1).2.2.1 ∈ Ts) {x : Int} (hxr : inR x) (hdg : decode cc pc = .ok (.putfield index, 3)) (kk : ∀ (H1 : Heap) (locs1 : List Loc) (M1 : Mem), M1 = mset M 3 1 x → IX g s M1 H1 locs1 → W p l e R s m args below meth c H1 locs1 cells slots Q (F0 m (pc + 3) ls rest)) : W p l e R s m args below meth c H locs cells slots Q (F0 m pc ls (.int (i32 x) :: .ref (g.2.2.2 3) :: rest)) :=
  g_put (ci := 0) (C := RX0) (T := TX0) (n := 6) hx hb hts hin tyX0 tyX0_ok nmX0 hown I 3 (by omega) (by omega) obX_3 rfl 1 (by decide) hlink rfl hxr rfl (Nat.le_of_ble_eq_true rfl) (by rw [obX_3]; rfl) hdg (fun H1 locs1 I1 => kk H1 locs1 _ rfl I1)
theorem xg_3_2 (hx : p.tables.exec = Jvm.exec) (hb : c.code = cc) {own : String} {index : Nat} {Ts : List Cond} (hts : ∀ w ∈ Ts, w.before args s = true) (hin : ∀ w ∈ wsX00, w ∈ Ts) (hown : s.vm.findClass own = some m.cls) (I : IX g s M H locs) (hlink : Cond.fieldLink own index (TX0 2).1 (TX0 2).2.1 (TX0 2).2.2.1 ∈ Ts) (hdg : decode cc pc = .ok (.getfield index, 3)) (kk : W p l e R s m args below meth c H locs cells slots Q (F0 m (pc + 3) ls (.ref (g.2.2.2 19) :: rest))) : W p l e R s m args below meth c H locs cells slots Q (F0 m pc ls (.ref (g.2.2.2 3) :: rest)) := by
  refine g_get (ci := 0) (C := RX0) (T := TX0) (n := 6) (v := .ref (g.2.2.2 19)) hx hb hts hin hown I 3 (by omega) (by omega) obX_3 rfl 2 (by decide) hlink ?_ hdg kk
  first | rfl | (rcases hz with rfl | rfl <;> rfl)
theorem xg_3_3 (hx : p.tables.exec = Jvm.exec) (hb : c.code = cc) {own : String} {index : Nat} {Ts : List Cond} (hts : ∀ w ∈ Ts, w.before args s = true) (hin : ∀ w ∈ wsX00, w ∈ Ts) (hown : s.vm.findClass own = some m.cls) (I : IX g s M H locs) (hlink : Cond.fieldLink own index (TX0 3).1 (TX0 3).2.1 (TX0 3).2.2.1 ∈ Ts) (hdg : decode cc pc = .ok (.getfield index, 3)) (kk : W p l e R s m args below meth c H locs cells slots Q (F0 m (pc + 3) ls (.ref (g.2.2.2 20) :: rest))) : W p l e R s m args below meth c H locs cells slots Q (F0 m pc ls (.ref (g.2.2.2 3) :: rest)) := by
  refine g_get (ci := 0) (C := RX0) (T := TX0) (n := 6) (v := .ref (g.2.2.2 20)) hx hb hts hin hown I 3 (by omega) (by omega) obX_3 rfl 3 (by decide) hlink ?_ hdg kk
  first | rfl | (rcases hz with rfl | rfl <;> rfl)
theorem xg_3_4 (hx : p.tables.exec = Jvm.exec) (hb : c.code = cc) {own : String} {index : Nat} {Ts : List Cond} (hts : ∀ w ∈ Ts, w.before args s = true) (hin : ∀ w ∈ wsX00, w ∈ Ts) (hown : s.vm.findClass own = some m.cls) (I : IX g s M H locs) (hlink : Cond.fieldLink own index (TX0 4).1 (TX0 4).2.1 (TX0 4).2.2.1 ∈ Ts) (hdg : decode cc pc = .ok (.getfield index, 3)) (kk : W p l e R s m args below meth c H locs cells slots Q (F0 m (pc + 3) ls (.ref (g.2.2.2 21) :: rest))) : W p l e R s m args below meth c H locs cells slots Q (F0 m pc ls (.ref (g.2.2.2 3) :: rest)) := by
  refine g_get (ci := 0) (C := RX0) (T := TX0) (n := 6) (v := .ref (g.2.2.2 21)) hx hb hts hin hown I 3 (by omega) (by omega) obX_3 rfl 4 (by decide) hlink ?_ hdg kk
  first | rfl | (rcases hz with rfl | rfl <;> rfl)
theorem xg_3_5 (hx : p.tables.exec = Jvm.exec) (hb : c.code = cc) {own : String} {index : Nat} {Ts : List Cond} (hts : ∀ w ∈ Ts, w.before args s = true) (hin : ∀ w ∈ wsX00, w ∈ Ts) (hown : s.vm.findClass own = some m.cls) (I : IX g s M H locs) (hlink : Cond.fieldLink own index (TX0 5).1 (TX0 5).2.1 (TX0 5).2.2.1 ∈ Ts) (hdg : decode cc pc = .ok (.getfield index, 3)) (kk : W p l e R s m args below meth c H locs cells slots Q (F0 m (pc + 3) ls (.ref (g.2.2.2 22) :: rest))) : W p l e R s m args below meth c H locs cells slots Q (F0 m pc ls (.ref (g.2.2.2 3) :: rest)) := by
  refine g_get (ci := 0) (C := RX0) (T := TX0) (n := 6) (v := .ref (g.2.2.2 22)) hx hb hts hin hown I 3 (by omega) (by omega) obX_3 rfl 5 (by decide) hlink ?_ hdg kk
  first | rfl | (rcases hz with rfl | rfl <;> rfl)
theorem xg_4_0 (hx : p.tables.exec = Jvm.exec) (hb : c.code = cc) {own : String} {index : Nat} {Ts : List Cond} (hts : ∀ w ∈ Ts, w.before args s = true) (hin : ∀ w ∈ wsX10, w ∈ Ts) (hown : s.vm.findClass own = some m.cls) (I : IX g s M H locs) (hlink : Cond.fieldLink own index (TX1 0).1 (TX1 0).2.1 (TX1 0).2.2.1 ∈ Ts) (hdg : decode cc pc = .ok (.getfield index, 3)) (kk : W p l e R s m args below meth c H locs cells slots Q (F0 m (pc + 3) ls (.ref (g.2.2.2 13) :: rest))) : W p l e R s m args below meth c H locs cells slots Q (F0 m pc ls (.ref (g.2.2.2 4) :: rest)) := by
  refine g_get (ci := 1) (C := RX1) (T := TX1) (n := 1) (v := .ref (g.2.2.2 13)) hx hb hts hin hown I 4 (by omega) (by omega) obX_4 rfl 0 (by decide) hlink ?_ hdg kk
  first | rfl | (rcases hz with rfl | rfl <;> rfl)
theorem xg_5_0 (hx : p.tables.exec = Jvm.exec) (hb : c.code = cc) {own : String} {index : Nat} {Ts : List Cond} (hts : ∀ w ∈ Ts, w.before args s = true) (hin : ∀ w ∈ wsX40, w ∈ Ts) (hown : s.vm.findClass own = some m.cls) (I : IX g s M H locs) (hlink : Cond.fieldLink own index (TX4 0).1 (TX4 0).2.1 (TX4 0).2.2.1 ∈ Ts) (hdg : decode cc pc = .ok (.getfield index, 3)) (kk : W p l e R s m args below meth c H locs cells slots Q (F0 m (pc + 3) ls (.ref (g.2.2.2 (8 + 0)) :: rest))) : W p l e R s m args below meth c H locs cells slots Q (F0 m pc ls (.ref (g.2.2.2 5) :: rest)) := by
  refine g_get (ci := 4) (C := RX4) (T := TX4) (n := 1) (v := .ref (g.2.2.2 (8 + 0))) hx hb hts hin hown I 5 (by omega) (by omega) obX_5 rfl 0 (by decide) hlink ?_ hdg kk
  first | rfl | (rcases hz with rfl | rfl <;> rfl)
theorem xg_6_0 (hx : p.tables.exec = Jvm.exec) (hb : c.code = cc) {own : String} {index : Nat} {Ts : List Cond} (hts : ∀ w ∈ Ts, w.before args s = true) (hin : ∀ w ∈ wsX60, w ∈ Ts) (hown : s.vm.findClass own = some m.cls) (I : IX g s M H locs) (hlink : Cond.fieldLink own index (TX6 0).1 (TX6 0).2.1 (TX6 0).2.2.1 ∈ Ts) (hdg : decode cc pc = .ok (.getfield index, 3)) (kk : W p l e R s m args below meth c H locs cells slots Q (F0 m (pc + 3) ls (.ref (g.2.2.2 14) :: rest))) : W p l e R s m args below meth c H locs cells slots Q (F0 m pc ls (.ref (g.2.2.2 6) :: rest)) := by
  refine g_get (ci := 6) (C := RX6) (T := TX6) (n := 5) (v := .ref (g.2.2.2 14)) hx hb hts hin hown I 6 (by omega) (by omega) obX_6 rfl 0 (by decide) hlink ?_ hdg kk
  first | rfl | (rcases hz with rfl | rfl <;> rfl)
theorem xg_6_1 (hx : p.tables.exec = Jvm.exec) (hb : c.code = cc) {own : String} {index : Nat} {Ts : List Cond} (hts : ∀ w ∈ Ts, w.before args s = true) (hin : ∀ w ∈ wsX60, w ∈ Ts) (hown : s.vm.findClass own = some m.cls) (I : IX g s M H locs) (hlink : Cond.fieldLink own index (TX6 1).1 (TX6 1).2.1 (TX6 1).2.2.1 ∈ Ts) (hdg : decode cc pc = .ok (.getfield index, 3)) (kk : W p l e R s m args below meth c H locs cells slots Q (F0 m (pc + 3) ls (.ref (g.2.2.2 23) :: rest))) : W p l e R s m args below meth c H locs cells slots Q (F0 m pc ls (.ref (g.2.2.2 6) :: rest)) := by
  refine g_get (ci := 6) (C := RX6) (T := TX6) (n := 5) (v := .ref (g.2.2.2 23)) hx hb hts hin hown I 6 (by omega) (by omega) obX_6 rfl 1 (by decide) hlink ?_ hdg kk
  first | rfl | (rcases hz with rfl | rfl <;> rfl)
theorem xg_6_2 (hx : p.tables.exec = Jvm.exec) (hb : c.code = cc) {own : String} {index : Nat} {Ts : List Cond} (hts : ∀ w ∈ Ts, w.before args s = true) (hin : ∀ w ∈ wsX60, w ∈ Ts) (hown : s.vm.findClass own = some m.cls) (I : IX g s M H locs) (hlink : Cond.fieldLink own index (TX6 2).1 (TX6 2).2.1 (TX6 2).2.2.1 ∈ Ts) (hdg : decode cc pc = .ok (.getfield index, 3)) (kk : W p l e R s m args below meth c H locs cells slots Q (F0 m (pc + 3) ls (.ref (g.2.2.2 24) :: rest))) : W p l e R s m args below meth c H locs cells slots Q (F0 m pc ls (.ref (g.2.2.2 6) :: rest)) := by
  refine g_get (ci := 6) (C := RX6) (T := TX6) (n := 5) (v := .ref (g.2.2.2 24)) hx hb hts hin hown I 6 (by omega) (by omega) obX_6 rfl 2 (by decide) hlink ?_ hdg kk
  first | rfl | (rcases hz with rfl | rfl <;> rfl)
theorem xg_6_3 (hx : p.tables.exec = Jvm.exec) (hb : c.code = cc) {own : String} {index : Nat} {Ts : List Cond} (hts : ∀ w ∈ Ts, w.before args s = true) (hin : ∀ w ∈ wsX60, w ∈ Ts) (hown : s.vm.findClass own = some m.cls) (I : IX g s M H locs) (hlink : Cond.fieldLink own index (TX6 3).1 (TX6 3).2.1 (TX6 3).2.2.1 ∈ Ts) (hdg : decode cc pc = .ok (.getfield index, 3)) (kk : W p l e R s m args below meth c H locs cells slots Q (F0 m (pc + 3) ls (.ref (g.2.2.2 25) :: rest))) : W p l e R s m args below meth c H locs cells slots Q (F0 m pc ls (.ref (g.2.2.2 6) :: rest)) := by
  refine g_get (ci := 6) (C := RX6) (T := TX6) (n := 5) (v := .ref (g.2.2.2 25)) hx hb hts hin hown I 6 (by omega) (by omega) obX_6 rfl 3 (by decide) hlink ?_ hdg kk
  first | rfl | (rcases hz with rfl | rfl <;> rfl)
theorem xg_6_4 (hx : p.tables.exec = Jvm.exec) (hb : c.code = cc) {own : String} {index : Nat} {Ts : List Cond} (hts : ∀ w ∈ Ts, w.before args s = true) (hin : ∀ w ∈ wsX60, w ∈ Ts) (hown : s.vm.findClass own = some m.cls) (I : IX g s M H locs) (hlink : Cond.fieldLink own index (TX6 4).1 (TX6 4).2.1 (TX6 4).2.2.1 ∈ Ts) (hdg : decode cc pc = .ok (.getfield index, 3)) (kk : W p l e R s m args below meth c H locs cells slots Q (F0 m (pc + 3) ls (.ref (g.2.2.2 26) :: rest))) : W p l e R s m args below meth c H locs cells slots Q (F0 m pc ls (.ref (g.2.2.2 6) :: rest)) := by
  refine g_get (ci := 6) (C := RX6) (T := TX6) (n := 5) (v := .ref (g.2.2.2 26)) hx hb hts hin hown I 6 (by omega) (by omega) obX_6 rfl 4 (by decide) hlink ?_ hdg kk
  first | rfl | (rcases hz with rfl | rfl <;> rfl)
theorem xg_7_0 (hx : p.tables.exec = Jvm.exec) (hb : c.code = cc) {own : String} {index : Nat} {Ts : List Cond} (hts : ∀ w ∈ Ts, w.before args s = true) (hin : ∀ w ∈ wsX70, w ∈ Ts) (hown : s.vm.findClass own = some m.cls) (I : IX g s M H locs) (hlink : Cond.fieldLink own index (TX7 0).1 (TX7 0).2.1 (TX7 0).2.2.1 ∈ Ts) (hdg : decode cc pc = .ok (.getfield index, 3)) (kk : W p l e R s m args below meth c H locs cells slots Q (F0 m (pc + 3) ls (.int (i32 (M 7 0)) :: rest))) : W p l e R s m args below meth c H locs cells slots Q (F0 m pc ls (.ref (g.2.2.2 7) :: rest)) := by
  refine g_get (ci := 7) (C := RX7) (T := TX7) (n := 3) (v := .int (i32 (M 7 0))) hx hb hts hin hown I 7 (by omega) (by omega) obX_7 rfl 0 (by decide) hlink ?_ hdg kk
  first | rfl | (rcases hz with rfl | rfl <;> rfl)
theorem xp_7_0 (hx : p.tables.exec = Jvm.exec) (hb : c.code = cc) {own : String} {index : Nat} {Ts : List Cond} (hts : ∀ w ∈ Ts, w.before args s = true) (hin : ∀ w ∈ wsX70, w ∈ Ts) (hown : s.vm.findClass own = some m.cls) (I : IX g s M H locs) (hlink : Cond.fieldLink own index (TX7 0).1 (TX7 0).2.1 (TX7 0).2.2.1 ∈ Ts) {x : Int} (hxr : inR x) (hdg : decode cc pc = .ok (.putfield index, 3)) (kk : ∀ (H1 : Heap) (locs1 : List Loc) (M1 : Mem), M1 = mset M 7 0 x → IX g s M1 H1 locs1 → W p l e R s m args below meth c H1 locs1 cells slots Q (F0 m (pc + 3) ls rest)) : W p l e R s m args below meth c H locs cells slots Q (F0 m pc ls (.int (i32 x) :: .ref (g.2.2.2 7) :: rest)) :=
  g_put (ci := 7) (C := RX7) (T := TX7) (n := 3) hx hb hts hin tyX7 tyX7_ok nmX7 hown I 7 (by omega) (by omega) obX_7 rfl 0 (by decide) hlink rfl hxr rfl (Nat.le_of_ble_eq_true rfl) (by rw [obX_7]; rfl) hdg (fun H1 locs1 I1 => kk H1 locs1 _ rfl I1)
theorem xg_7_1 (hx : p.tables.exec = Jvm.exec) (hb : c.code = cc) {own : String} {index : Nat} {Ts : List Cond} (hts : ∀ w ∈ Ts, w.before args s = true) (hin : ∀ w ∈ wsX70, w ∈ Ts) (hown : s.vm.findClass own = some m.cls) (I : IX g s M H locs) (hlink : Cond.fieldLink own index (TX7 1).1 (TX7 1).2.1 (TX7 1).2.2.1 ∈ Ts) (hdg : decode cc pc = .ok (.getfield index, 3)) (kk : W p l e R s m args below meth c H locs cells slots Q (F0 m (pc + 3) ls (.ref (g.2.2.2 27) :: rest))) : W p l e R s m args below meth c H locs cells slots Q (F0 m pc ls (.ref (g.2.2.2 7) :: rest)) := by
  refine g_get (ci := 7) (C := RX7) (T := TX7) (n := 3) (v := .ref (g.2.2.2 27)) hx hb hts hin hown I 7 (by omega) (by omega) obX_7 rfl 1 (by decide) hlink ?_ hdg kk
  first | rfl | (rcases hz with rfl | rfl <;> rfl)
theorem xg_7_2 (hx : p.tables.exec = Jvm.exec) (hb : c.code = cc) {own : String} {index : Nat} {Ts : List Cond} (hts : ∀ w ∈ Ts, w.before args s = true) (hin : ∀ w ∈ wsX70, w ∈ Ts) (hown : s.vm.findClass own = some m.cls) (I : IX g s M H locs) (hlink : Cond.fieldLink own index (TX7 2).1 (TX7 2).2.1 (TX7 2).2.2.1 ∈ Ts) (hdg : decode cc pc = .ok (.getfield index, 3)) (kk : W p l e R s m args below meth c H locs cells slots Q (F0 m (pc + 3) ls (.ref (g.2.2.2 (8 + 1)) :: rest))) : W p l e R s m args below meth c H locs cells slots Q (F0 m pc ls (.ref (g.2.2.2 7) :: rest)) := by
  refine g_get (ci := 7) (C := RX7) (T := TX7) (n := 3) (v := .ref (g.2.2.2 (8 + 1))) hx hb hts hin hown I 7 (by omega) (by omega) obX_7 rfl 2 (by decide) hlink ?_ hdg kk
  first | rfl | (rcases hz with rfl | rfl <;> rfl)
theorem xg_N_0 {z : Int} (hz : z = 0 ∨ z = 1) (hx : p.tables.exec = Jvm.exec) (hb : c.code = cc) {own : String} {index : Nat} {Ts : List Cond} (hts : ∀ w ∈ Ts, w.before args s = true) (hin : ∀ w ∈ wsX50, w ∈ Ts) (hown : s.vm.findClass own = some m.cls) (I : IX g s M H locs) (hlink : Cond.fieldLink own index (TX5 0).1 (TX5 0).2.1 (TX5 0).2.2.1 ∈ Ts) (hdg : decode cc pc = .ok (.getfield index, 3)) (kk : W p l e R s m args below meth c H locs cells slots Q (F0 m (pc + 3) ls (.int (i32 (M (8 + z) 0)) :: rest))) : W p l e R s m args below meth c H locs cells slots Q (F0 m pc ls (.ref (g.2.2.2 (8 + z)) :: rest)) := by
  refine g_get (ci := 5) (C := RX5) (T := TX5) (n := 9) (v := .int (i32 (M (8 + z) 0))) hx hb hts hin hown I (8 + z) (by omega) (by omega) (obX_N hz) rfl 0 (by decide) hlink ?_ hdg kk
  first | rfl | (rcases hz with rfl | rfl <;> rfl)
theorem xp_N_0 {z : Int} (hz : z = 0 ∨ z = 1) (hx : p.tables.exec = Jvm.exec) (hb : c.code = cc) {own : String} {index : Nat} {Ts : List Cond} (hts : ∀ w ∈ Ts, w.before args s = true) (hin : ∀ w ∈ wsX50, w ∈ Ts) (hown : s.vm.findClass own = some m.cls) (I : IX g s M H locs) (hlink : Cond.fieldLink own index (TX5 0).1 (TX5 0).2.1 (TX5 0).2.2.1 ∈ Ts) {x : Int} (hxr : inR x) (hdg : decode cc pc = .ok (.putfield index, 3)) (kk : ∀ (H1 : Heap) (locs1 : List Loc) (M1 : Mem), M1 = mset M (8 + z) 0 x → IX g s M1 H1 locs1 → W p l e R s m args below meth c H1 locs1 cells slots Q (F0 m (pc + 3) ls rest)) : W p l e R s m args below meth c H locs cells slots Q (F0 m pc ls (.int (i32 x) :: .ref (g.2.2.2 (8 + z)) :: rest)) :=
  g_put (ci := 5) (C := RX5) (T := TX5) (n := 9) hx hb hts hin tyX5 tyX5_ok nmX5 hown I (8 + z) (by omega) (by omega) (obX_N hz) rfl 0 (by decide) hlink rfl hxr rfl (Nat.le_of_ble_eq_true rfl) (by rw [(obX_N hz)]; rfl) hdg (fun H1 locs1 I1 => kk H1 locs1 _ rfl I1)
theorem xg_N_1 {z : Int} (hz : z = 0 ∨ z = 1) (hx : p.tables.exec = Jvm.exec) (hb : c.code = cc) {own : String} {index : Nat} {Ts : List Cond} (hts : ∀ w ∈ Ts, w.before args s = true) (hin : ∀ w ∈ wsX50, w ∈ Ts) (hown : s.vm.findClass own = some m.cls) (I : IX g s M H locs) (hlink : Cond.fieldLink own index (TX5 1).1 (TX5 1).2.1 (TX5 1).2.2.1 ∈ Ts) (hdg : decode cc pc = .ok (.getfield index, 3)) (kk : W p l e R s m args below meth c H locs cells slots Q (F0 m (pc + 3) ls (.int (i32 (M (8 + z) 1)) :: rest))) : W p l e R s m args below meth c H locs cells slots Q (F0 m pc ls (.ref (g.2.2.2 (8 + z)) :: rest)) := by
  refine g_get (ci := 5) (C := RX5) (T := TX5) (n := 9) (v := .int (i32 (M (8 + z) 1))) hx hb hts hin hown I (8 + z) (by omega) (by omega) (obX_N hz) rfl 1 (by decide) hlink ?_ hdg kk
  first | rfl | (rcases hz with rfl | rfl <;> rfl)
theorem xp_N_1 {z : Int} (hz : z = 0 ∨ z = 1) (hx : p.tables.exec = Jvm.exec) (hb : c.code = cc) {own : String} {index : Nat} {Ts : List Cond} (hts : ∀ w ∈ Ts, w.before args s = true) (hin : ∀ w ∈ wsX50, w ∈ Ts) (hown : s.vm.findClass own = some m.cls) (I : IX g s M H locs) (hlink : Cond.fieldLink own index (TX5 1).1 (TX5 1).2.1 (TX5 1).2.2.1 ∈ Ts) {x : Int} (hxr : inR x) (hdg : decode cc pc = .ok (.putfield index, 3)) (kk : ∀ (H1 : Heap) (locs1 : List Loc) (M1 : Mem), M1 = mset M (8 + z) 1 x → IX g s M1 H1 locs1 → W p l e R s m args below meth c H1 locs1 cells slots Q (F0 m (pc + 3) ls rest)) : W p l e R s m args below meth c H locs cells slots Q (F0 m pc ls (.int (i32 x) :: .ref (g.2.2.2 (8 + z)) :: rest)) :=
  g_put (ci := 5) (C := RX5) (T := TX5) (n := 9) hx hb hts hin tyX5 tyX5_ok nmX5 hown I (8 + z) (by omega) (by omega) (obX_N hz) rfl 1 (by decide) hlink rfl hxr rfl (Nat.le_of_ble_eq_true rfl) (by rw [(obX_N hz)]; rfl) hdg (fun H1 locs1 I1 => kk H1 locs1 _ rfl I1)
theorem xg_N_2 {z : Int} (hz : z = 0 ∨ z = 1) (hx : p.tables.exec = Jvm.exec) (hb : c.code = cc) {own : String} {index : Nat} {Ts : List Cond} (hts : ∀ w ∈ Ts, w.before args s = true) (hin : ∀ w ∈ wsX50, w ∈ Ts) (hown : s.vm.findClass own = some m.cls) (I : IX g s M H locs) (hlink : Cond.fieldLink own index (TX5 2).1 (TX5 2).2.1 (TX5 2).2.2.1 ∈ Ts) (hdg : decode cc pc = .ok (.getfield index, 3)) (kk : W p l e R s m args below meth c H locs cells slots Q (F0 m (pc + 3) ls (.int (i32 (M (8 + z) 2)) :: rest))) : W p l e R s m args below meth c H locs cells slots Q (F0 m pc ls (.ref (g.2.2.2 (8 + z)) :: rest)) := by
  refine g_get (ci := 5) (C := RX5) (T := TX5) (n := 9) (v := .int (i32 (M (8 + z) 2))) hx hb hts hin hown I (8 + z) (by omega) (by omega) (obX_N hz) rfl 2 (by decide) hlink ?_ hdg kk
  first | rfl | (rcases hz with rfl | rfl <;> rfl)
theorem xp_N_2 {z : Int} (hz : z = 0 ∨ z = 1) (hx : p.tables.exec = Jvm.exec) (hb : c.code = cc) {own : String} {index : Nat} {Ts : List Cond} (hts : ∀ w ∈ Ts, w.before args s = true) (hin : ∀ w ∈ wsX50, w ∈ Ts) (hown : s.vm.findClass own = some m.cls) (I : IX g s M H locs) (hlink : Cond.fieldLink own index (TX5 2).1 (TX5 2).2.1 (TX5 2).2.2.1 ∈ Ts) {x : Int} (hxr : inR x) (hdg : decode cc pc = .ok (.putfield index, 3)) (kk : ∀ (H1 : Heap) (locs1 : List Loc) (M1 : Mem), M1 = mset M (8 + z) 2 x → IX g s M1 H1 locs1 → W p l e R s m args below meth c H1 locs1 cells slots Q (F0 m (pc + 3) ls rest)) : W p l e R s m args below meth c H locs cells slots Q (F0 m pc ls (.int (i32 x) :: .ref (g.2.2.2 (8 + z)) :: rest)) :=
  g_put (ci := 5) (C := RX5) (T := TX5) (n := 9) hx hb hts hin tyX5 tyX5_ok nmX5 hown I (8 + z) (by omega) (by omega) (obX_N hz) rfl 2 (by decide) hlink rfl hxr rfl (Nat.le_of_ble_eq_true rfl) (by rw [(obX_N hz)]; rfl) hdg (fun H1 locs1 I1 => kk H1 locs1 _ rfl I1)
theorem xg_N_3 {z : Int} (hz : z = 0 ∨ z = 1) (hx : p.tables.exec = Jvm.exec) (hb : c.code = cc) {own : String} {index : Nat} {Ts : List Cond} (hts : ∀ w ∈ Ts, w.before args s = true) (hin : ∀ w ∈ wsX50, w ∈ Ts) (hown : s.vm.findClass own = some m.cls) (I : IX g s M H locs) (hlink : Cond.fieldLink own index (TX5 3).1 (TX5 3).2.1 (TX5 3).2.2.1 ∈ Ts) (hdg : decode cc pc = .ok (.getfield index, 3)) (kk : W p l e R s m args below meth c H locs cells slots Q (F0 m (pc + 3) ls (.ref (g.2.2.2 (28 + z)) :: rest))) : W p l e R s m args below meth c H locs cells slots Q (F0 m pc ls (.ref (g.2.2.2 (8 + z)) :: rest)) := by
  refine g_get (ci := 5) (C := RX5) (T := TX5) (n := 9) (v := .ref (g.2.2.2 (28 + z))) hx hb hts hin hown I (8 + z) (by omega) (by omega) (obX_N hz) rfl 3 (by decide) hlink ?_ hdg kk
  first | rfl | (rcases hz with rfl | rfl <;> rfl)
theorem xg_N_4 {z : Int} (hz : z = 0 ∨ z = 1) (hx : p.tables.exec = Jvm.exec) (hb : c.code = cc) {own : String} {index : Nat} {Ts : List Cond} (hts : ∀ w ∈ Ts, w.before args s = true) (hin : ∀ w ∈ wsX50, w ∈ Ts) (hown : s.vm.findClass own = some m.cls) (I : IX g s M H locs) (hlink : Cond.fieldLink own index (TX5 4).1 (TX5 4).2.1 (TX5 4).2.2.1 ∈ Ts) (hdg : decode cc pc = .ok (.getfield index, 3)) (kk : W p l e R s m args below meth c H locs cells slots Q (F0 m (pc + 3) ls (.ref (g.2.2.2 (30 + z)) :: rest))) : W p l e R s m args below meth c H locs cells slots Q (F0 m pc ls (.ref (g.2.2.2 (8 + z)) :: rest)) := by
  refine g_get (ci := 5) (C := RX5) (T := TX5) (n := 9) (v := .ref (g.2.2.2 (30 + z))) hx hb hts hin hown I (8 + z) (by omega) (by omega) (obX_N hz) rfl 4 (by decide) hlink ?_ hdg kk
  first | rfl | (rcases hz with rfl | rfl <;> rfl)
theorem xg_N_5 {z : Int} (hz : z = 0 ∨ z = 1) (hx : p.tables.exec = Jvm.exec) (hb : c.code = cc) {own : String} {index : Nat} {Ts : List Cond} (hts : ∀ w ∈ Ts, w.before args s = true) (hin : ∀ w ∈ wsX50, w ∈ Ts) (hown : s.vm.findClass own = some m.cls) (I : IX g s M H locs) (hlink : Cond.fieldLink own index (TX5 5).1 (TX5 5).2.1 (TX5 5).2.2.1 ∈ Ts) (hdg : decode cc pc = .ok (.getfield index, 3)) (kk : W p l e R s m args below meth c H locs cells slots Q (F0 m (pc + 3) ls (.ref (g.2.2.2 (32 + z)) :: rest))) : W p l e R s m args below meth c H locs cells slots Q (F0 m pc ls (.ref (g.2.2.2 (8 + z)) :: rest)) := by
  refine g_get (ci := 5) (C := RX5) (T := TX5) (n := 9) (v := .ref (g.2.2.2 (32 + z))) hx hb hts hin hown I (8 + z) (by omega) (by omega) (obX_N hz) rfl 5 (by decide) hlink ?_ hdg kk
  first | rfl | (rcases hz with rfl | rfl <;> rfl)
theorem xg_N_6 {z : Int} (hz : z = 0 ∨ z = 1) (hx : p.tables.exec = Jvm.exec) (hb : c.code = cc) {own : String} {index : Nat} {Ts : List Cond} (hts : ∀ w ∈ Ts, w.before args s = true) (hin : ∀ w ∈ wsX50, w ∈ Ts) (hown : s.vm.findClass own = some m.cls) (I : IX g s M H locs) (hlink : Cond.fieldLink own index (TX5 6).1 (TX5 6).2.1 (TX5 6).2.2.1 ∈ Ts) (hdg : decode cc pc = .ok (.getfield index, 3)) (kk : W p l e R s m args below meth c H locs cells slots Q (F0 m (pc + 3) ls (.ref (g.2.2.2 (34 + z)) :: rest))) : W p l e R s m args below meth c H locs cells slots Q (F0 m pc ls (.ref (g.2.2.2 (8 + z)) :: rest)) := by
  refine g_get (ci := 5) (C := RX5) (T := TX5) (n := 9) (v := .ref (g.2.2.2 (34 + z))) hx hb hts hin hown I (8 + z) (by omega) (by omega) (obX_N hz) rfl 6 (by decide) hlink ?_ hdg kk
  first | rfl | (rcases hz with rfl | rfl <;> rfl)
theorem xg_N_7 {z : Int} (hz : z = 0 ∨ z = 1) (hx : p.tables.exec = Jvm.exec) (hb : c.code = cc) {own : String} {index : Nat} {Ts : List Cond} (hts : ∀ w ∈ Ts, w.before args s = true) (hin : ∀ w ∈ wsX50, w ∈ Ts) (hown : s.vm.findClass own = some m.cls) (I : IX g s M H locs) (hlink : Cond.fieldLink own index (TX5 7).1 (TX5 7).2.1 (TX5 7).2.2.1 ∈ Ts) (hdg : decode cc pc = .ok (.getfield index, 3)) (kk : W p l e R s m args below meth c H locs cells slots Q (F0 m (pc + 3) ls (.ref (g.2.2.2 (36 + z)) :: rest))) : W p l e R s m args below meth c H locs cells slots Q (F0 m pc ls (.ref (g.2.2.2 (8 + z)) :: rest)) := by
  refine g_get (ci := 5) (C := RX5) (T := TX5) (n := 9) (v := .ref (g.2.2.2 (36 + z))) hx hb hts hin hown I (8 + z) (by omega) (by omega) (obX_N hz) rfl 7 (by decide) hlink ?_ hdg kk
  first | rfl | (rcases hz with rfl | rfl <;> rfl)
theorem xg_N_8 {z : Int} (hz : z = 0 ∨ z = 1) (hx : p.tables.exec = Jvm.exec) (hb : c.code = cc) {own : String} {index : Nat} {Ts : List Cond} (hts : ∀ w ∈ Ts, w.before args s = true) (hin : ∀ w ∈ wsX50, w ∈ Ts) (hown : s.vm.findClass own = some m.cls) (I : IX g s M H locs) (hlink : Cond.fieldLink own index (TX5 8).1 (TX5 8).2.1 (TX5 8).2.2.1 ∈ Ts) (hdg : decode cc pc = .ok (.getfield index, 3)) (kk : W p l e R s m args below meth c H locs cells slots Q (F0 m (pc + 3) ls (.ref (g.2.2.2 (38 + z)) :: rest))) : W p l e R s m args below meth c H locs cells slots Q (F0 m pc ls (.ref (g.2.2.2 (8 + z)) :: rest)) := by
  refine g_get (ci := 5) (C := RX5) (T := TX5) (n := 9) (v := .ref (g.2.2.2 (38 + z))) hx hb hts hin hown I (8 + z) (by omega) (by omega) (obX_N hz) rfl 8 (by decide) hlink ?_ hdg kk
  first | rfl | (rcases hz with rfl | rfl <;> rfl)
theorem rg_0_0 (hx : p.tables.exec = Jvm.exec) (hb : c.code = cc) {own : String} {index : Nat} {Ts : List Cond} (hts : ∀ w ∈ Ts, w.before args s = true) (hin : ∀ w ∈ wsX90, w ∈ Ts) (hown : s.vm.findClass own = some m.cls) (I : IR g s M H locs) (hlink : Cond.fieldLink own index (TX9 0).1 (TX9 0).2.1 (TX9 0).2.2.1 ∈ Ts) (hdg : decode cc pc = .ok (.getfield index, 3)) (kk : W p l e R s m args below meth c H locs cells slots Q (F0 m (pc + 3) ls (.int (i32 (M 0 0)) :: rest))) : W p l e R s m args below meth c H locs cells slots Q (F0 m pc ls (.ref (g.2.2.2 0) :: rest)) := by
  refine g_get (ci := 9) (C := RX9) (T := TX9) (n := 31) (v := .int (i32 (M 0 0))) hx hb hts hin hown I 0 (by omega) (by omega) obR_0 rfl 0 (by decide) hlink ?_ hdg kk
  first | rfl | (rcases hz with rfl | rfl <;> rfl)
theorem rp_0_0 (hx : p.tables.exec = Jvm.exec) (hb : c.code = cc) {own : String} {index : Nat} {Ts : List Cond} (hts : ∀ w ∈ Ts, w.before args s = true) (hin : ∀ w ∈ wsX90, w ∈ Ts) (hown : s.vm.findClass own = some m.cls) (I : IR g s M H locs) (hlink : Cond.fieldLink own index (TX9 0).1 (TX9 0).2.1 (TX9 0).2.2.1 ∈ Ts) {x : Int} (hxr : inR x) (hdg : decode cc pc = .ok (.putfield index, 3)) (kk : ∀ (H1 : Heap) (locs1 : List Loc) (M1 : Mem), M1 = mset M 0 0 x → IR g s M1 H1 locs1 → W p l e R s m args below meth c H1 locs1 cells slots Q (F0 m (pc + 3) ls rest)) : W p l e R s m args below meth c H locs cells slots Q (F0 m pc ls (.int (i32 x) :: .ref (g.2.2.2 0) :: rest)) :=
  g_put (ci := 9) (C := RX9) (T := TX9) (n := 31) hx hb hts hin tyX9 tyX9_ok nmX9 hown I 0 (by omega) (by omega) obR_0 rfl 0 (by decide) hlink rfl hxr rfl (Nat.le_of_ble_eq_true rfl) (by rw [obR_0]; rfl) hdg (fun H1 locs1 I1 => kk H1 locs1 _ rfl I1)
theorem rg_0_1 (hx : p.tables.exec = Jvm.exec) (hb : c.code = cc) {own : String} {index : Nat} {Ts : List Cond} (hts : ∀ w ∈ Ts, w.before args s = true) (hin : ∀ w ∈ wsX90, w ∈ Ts) (hown : s.vm.findClass own = some m.cls) (I : IR g s M H locs) (hlink : Cond.fieldLink own index (TX9 1).1 (TX9 1).2.1 (TX9 1).2.2.1 ∈ Ts) (hdg : decode cc pc = .ok (.getfield index, 3)) (kk : W p l e R s m args below meth c H locs cells slots Q (F0 m (pc + 3) ls (.int (i32 (M 0 1)) :: rest))) : W p l e R s m args below meth c H locs cells slots Q (F0 m pc ls (.ref (g.2.2.2 0) :: rest)) := by
  refine g_get (ci := 9) (C := RX9) (T := TX9) (n := 31) (v := .int (i32 (M 0 1))) hx hb hts hin hown I 0 (by omega) (by omega) obR_0 rfl 1 (by decide) hlink ?_ hdg kk
  first | rfl | (rcases hz with rfl | rfl <;> rfl)
theorem rp_0_1 (hx : p.tables.exec = Jvm.exec) (hb : c.code = cc) {own : String} {index : Nat} {Ts : List Cond} (hts : ∀ w ∈ Ts, w.before args s = true) (hin : ∀ w ∈ wsX90, w ∈ Ts) (hown : s.vm.findClass own = some m.cls) (I : IR g s M H locs) (hlink : Cond.fieldLink own index (TX9 1).1 (TX9 1).2.1 (TX9 1).2.2.1 ∈ Ts) {x : Int} (hxr : inR x) (hdg : decode cc pc = .ok (.putfield index, 3)) (kk : ∀ (H1 : Heap) (locs1 : List Loc) (M1 : Mem), M1 = mset M 0 1 x → IR g s M1 H1 locs1 → W p l e R s m args below meth c H1 locs1 cells slots Q (F0 m (pc + 3) ls rest)) : W p l e R s m args below meth c H locs cells slots Q (F0 m pc ls (.int (i32 x) :: .ref (g.2.2.2 0) :: rest)) :=
  g_put (ci := 9) (C := RX9) (T := TX9) (n := 31) hx hb hts hin tyX9 tyX9_ok nmX9 hown I 0 (by omega) (by omega) obR_0 rfl 1 (by decide) hlink rfl hxr rfl (Nat.le_of_ble_eq_true rfl) (by rw [obR_0]; rfl) hdg (fun H1 locs1 I1 => kk H1 locs1 _ rfl I1)
theorem rg_0_2 (hx : p.tables.exec = Jvm.exec) (hb : c.code = cc) {own : String} {index : Nat} {Ts : List Cond} (hts : ∀ w ∈ Ts, w.before args s = true) (hin : ∀ w ∈ wsX90, w ∈ Ts) (hown : s.vm.findClass own = some m.cls) (I : IR g s M H locs) (hlink : Cond.fieldLink own index (TX9 2).1 (TX9 2).2.1 (TX9 2).2.2.1 ∈ Ts) (hdg : decode cc pc = .ok (.getfield index, 3)) (kk : W p l e R s m args below meth c H locs cells slots Q (F0 m (pc + 3) ls (.ref (g.2.2.2 1) :: rest))) : W p l e R s m args below meth c H locs cells slots Q (F0 m pc ls (.ref (g.2.2.2 0) :: rest)) := by
  refine g_get (ci := 9) (C := RX9) (T := TX9) (n := 31) (v := .ref (g.2.2.2 1)) hx hb hts hin hown I 0 (by omega) (by omega) obR_0 rfl 2 (by decide) hlink ?_ hdg kk
  first | rfl | (rcases hz with rfl | rfl <;> rfl)
theorem rg_0_3 (hx : p.tables.exec = Jvm.exec) (hb : c.code = cc) {own : String} {index : Nat} {Ts : List Cond} (hts : ∀ w ∈ Ts, w.before args s = true) (hin : ∀ w ∈ wsX90, w ∈ Ts) (hown : s.vm.findClass own = some m.cls) (I : IR g s M H locs) (hlink : Cond.fieldLink own index (TX9 3).1 (TX9 3).2.1 (TX9 3).2.2.1 ∈ Ts) (hdg : decode cc pc = .ok (.getfield index, 3)) (kk : W p l e R s m args below meth c H locs cells slots Q (F0 m (pc + 3) ls (.ref (g.2.2.2 2) :: rest))) : W p l e R s m args below meth c H locs cells slots Q (F0 m pc ls (.ref (g.2.2.2 0) :: rest)) := by
  refine g_get (ci := 9) (C := RX9) (T := TX9) (n := 31) (v := .ref (g.2.2.2 2)) hx hb hts hin hown I 0 (by omega) (by omega) obR_0 rfl 3 (by decide) hlink ?_ hdg kk
  first | rfl | (rcases hz with rfl | rfl <;> rfl)
theorem rg_0_4 (hx : p.tables.exec = Jvm.exec) (hb : c.code = cc) {own : String} {index : Nat} {Ts : List Cond} (hts : ∀ w ∈ Ts, w.before args s = true) (hin : ∀ w ∈ wsX90, w ∈ Ts) (hown : s.vm.findClass own = some m.cls) (I : IR g s M H locs) (hlink : Cond.fieldLink own index (TX9 4).1 (TX9 4).2.1 (TX9 4).2.2.1 ∈ Ts) (hdg : decode cc pc = .ok (.getfield index, 3)) (kk : W p l e R s m args below meth c H locs cells slots Q (F0 m (pc + 3) ls (.ref (g.2.2.2 3) :: rest))) : W p l e R s m args below meth c H locs cells slots Q (F0 m pc ls (.ref (g.2.2.2 0) :: rest)) := by
  refine g_get (ci := 9) (C := RX9) (T := TX9) (n := 31) (v := .ref (g.2.2.2 3)) hx hb hts hin hown I 0 (by omega) (by omega) obR_0 rfl 4 (by decide) hlink ?_ hdg kk
  first | rfl | (rcases hz with rfl | rfl <;> rfl)
theorem rg_0_5 (hx : p.tables.exec = Jvm.exec) (hb : c.code = cc) {own : String} {index : Nat} {Ts : List Cond} (hts : ∀ w ∈ Ts, w.before args s = true) (hin : ∀ w ∈ wsX90, w ∈ Ts) (hown : s.vm.findClass own = some m.cls) (I : IR g s M H locs) (hlink : Cond.fieldLink own index (TX9 5).1 (TX9 5).2.1 (TX9 5).2.2.1 ∈ Ts) (hdg : decode cc pc = .ok (.getfield index, 3)) (kk : W p l e R s m args below meth c H locs cells slots Q (F0 m (pc + 3) ls (.int (i32 (M 0 5)) :: rest))) : W p l e R s m args below meth c H locs cells slots Q (F0 m pc ls (.ref (g.2.2.2 0) :: rest)) := by
  refine g_get (ci := 9) (C := RX9) (T := TX9) (n := 31) (v := .int (i32 (M 0 5))) hx hb hts hin hown I 0 (by omega) (by omega) obR_0 rfl 5 (by decide) hlink ?_ hdg kk
  first | rfl | (rcases hz with rfl | rfl <;> rfl)
theorem rp_0_5 (hx : p.tables.exec = Jvm.exec) (hb : c.code = cc) {own : String} {index : Nat} {Ts : List Cond} (hts : ∀ w ∈ Ts, w.before args s = true) (hin : ∀ w ∈ wsX90, w ∈ Ts) (hown : s.vm.findClass own = some m.cls) (I : IR g s M H locs) (hlink : Cond.fieldLink own index (TX9 5).1 (TX9 5).2.1 (TX9 5).2.2.1 ∈ Ts) {x : Int} (hxr : inR x) (hdg : decode cc pc = .ok (.putfield index, 3)) (kk : ∀ (H1 : Heap) (locs1 : List Loc) (M1 : Mem), M1 = mset M 0 5 x → IR g s M1 H1 locs1 → W p l e R s m args below meth c H1 locs1 cells slots Q (F0 m (pc + 3) ls rest)) : W p l e R s m args below meth c H locs cells slots Q (F0 m pc ls (.int (i32 x) :: .ref (g.2.2.2 0) :: rest)) :=
  g_put (ci := 9) (C := RX9) (T := TX9) (n := 31) hx hb hts hin tyX9 tyX9_ok nmX9 hown I 0 (by omega) (by omega) obR_0 rfl 5 (by decide) hlink rfl hxr rfl (Nat.le_of_ble_eq_true rfl) (by rw [obR_0]; rfl) hdg (fun H1 locs1 I1 => kk H1 locs1 _ rfl I1)
theorem rg_0_6 (hx : p.tables.exec = Jvm.exec) (hb : c.code = cc) {own : String} {index : Nat} {Ts : List Cond} (hts : ∀ w ∈ Ts, w.before args s = true) (hin : ∀ w ∈ wsX90, w ∈ Ts) (hown : s.vm.findClass own = some m.cls) (I : IR g s M H locs) (hlink : Cond.fieldLink own index (TX9 6).1 (TX9 6).2.1 (TX9 6).2.2.1 ∈ Ts) (hdg : decode cc pc = .ok (.getfield index, 3)) (kk : W p l e R s m args below meth c H locs cells slots Q (F0 m (pc + 3) ls (.ref (g.2.2.2 4) :: rest))) : W p l e R s m args below meth c H locs cells slots Q (F0 m pc ls (.ref (g.2.2.2 0) :: rest)) := by
  refine g_get (ci := 9) (C := RX9) (T := TX9) (n := 31) (v := .ref (g.2.2.2 4)) hx hb hts hin hown I 0 (by omega) (by omega) obR_0 rfl 6 (by decide) hlink ?_ hdg kk
  first | rfl | (rcases hz with rfl | rfl <;> rfl)
theorem rg_0_7 (hx : p.tables.exec = Jvm.exec) (hb : c.code = cc) {own : String} {index : Nat} {Ts : List Cond} (hts : ∀ w ∈ Ts, w.before args s = true) (hin : ∀ w ∈ wsX90, w ∈ Ts) (hown : s.vm.findClass own = some m.cls) (I : IR g s M H locs) (hlink : Cond.fieldLink own index (TX9 7).1 (TX9 7).2.1 (TX9 7).2.2.1 ∈ Ts) (hdg : decode cc pc = .ok (.getfield index, 3)) (kk : W p l e R s m args below meth c H locs cells slots Q (F0 m (pc + 3) ls (.ref (g.2.2.2 5) :: rest))) : W p l e R s m args below meth c H locs cells slots Q (F0 m pc ls (.ref (g.2.2.2 0) :: rest)) := by
  refine g_get (ci := 9) (C := RX9) (T := TX9) (n := 31) (v := .ref (g.2.2.2 5)) hx hb hts hin hown I 0 (by omega) (by omega) obR_0 rfl 7 (by decide) hlink ?_ hdg kk
  first | rfl | (rcases hz with rfl | rfl <;> rfl)
theorem rg_0_8 (hx : p.tables.exec = Jvm.exec) (hb : c.code = cc) {own : String} {index : Nat} {Ts : List Cond} (hts : ∀ w ∈ Ts, w.before args s = true) (hin : ∀ w ∈ wsX90, w ∈ Ts) (hown : s.vm.findClass own = some m.cls) (I : IR g s M H locs) (hlink : Cond.fieldLink own index (TX9 8).1 (TX9 8).2.1 (TX9 8).2.2.1 ∈ Ts) (hdg : decode cc pc = .ok (.getfield index, 3)) (kk : W p l e R s m args below meth c H locs cells slots Q (F0 m (pc + 3) ls (.ref (g.2.2.2 6) :: rest))) : W p l e R s m args below meth c H locs cells slots Q (F0 m pc ls (.ref (g.2.2.2 0) :: rest)) := by
  refine g_get (ci := 9) (C := RX9) (T := TX9) (n := 31) (v := .ref (g.2.2.2 6)) hx hb hts hin hown I 0 (by omega) (by omega) obR_0 rfl 8 (by decide) hlink ?_ hdg kk
  first | rfl | (rcases hz with rfl | rfl <;> rfl)
theorem rg_0_9 (hx : p.tables.exec = Jvm.exec) (hb : c.code = cc) {own : String} {index : Nat} {Ts : List Cond} (hts : ∀ w ∈ Ts, w.before args s = true) (hin : ∀ w ∈ wsX90, w ∈ Ts) (hown : s.vm.findClass own = some m.cls) (I : IR g s M H locs) (hlink : Cond.fieldLink own index (TX9 9).1 (TX9 9).2.1 (TX9 9).2.2.1 ∈ Ts) (hdg : decode cc pc = .ok (.getfield index, 3)) (kk : W p l e R s m args below meth c H locs cells slots Q (F0 m (pc + 3) ls (.int (i32 (M 0 9)) :: rest))) : W p l e R s m args below meth c H locs cells slots Q (F0 m pc ls (.ref (g.2.2.2 0) :: rest)) := by
  refine g_get (ci := 9) (C := RX9) (T := TX9) (n := 31) (v := .int (i32 (M 0 9))) hx hb hts hin hown I 0 (by omega) (by omega) obR_0 rfl 9 (by decide) hlink ?_ hdg kk
  first | rfl | (rcases hz with rfl | rfl <;> rfl)
theorem rp_0_9 (hx : p.tables.exec = Jvm.exec) (hb : c.code = cc) {own : String} {index : Nat} {Ts : List Cond} (hts : ∀ w ∈ Ts, w.before args s = true) (hin : ∀ w ∈ wsX90, w ∈ Ts) (hown : s.vm.findClass own = some m.cls) (I : IR g s M H locs) (hlink : Cond.fieldLink own index (TX9 9).1 (TX9 9).2.1 (TX9 9).2.2.1 ∈ Ts) {x : Int} (hxr : inR x) (hdg : decode cc pc = .ok (.putfield index, 3)) (kk : ∀ (H1 : Heap) (locs1 : List Loc) (M1 : Mem), M1 = mset M 0 9 x → IR g s M1 H1 locs1 → W p l e R s m args below meth c H1 locs1 cells slots Q (F0 m (pc + 3) ls rest)) : W p l e R s m args below meth c H locs cells slots Q (F0 m pc ls (.int (i32 x) :: .ref (g.2.2.2 0) :: rest)) :=
  g_put (ci := 9) (C := RX9) (T := TX9) (n := 31) hx hb hts hin tyX9 tyX9_ok nmX9 hown I 0 (by omega) (by omega) obR_0 rfl 9 (by decide) hlink rfl hxr rfl (Nat.le_of_ble_eq_true rfl) (by rw [obR_0]; rfl) hdg (fun H1 locs1 I1 => kk H1 locs1 _ rfl I1)
theorem rg_0_10 (hx : p.tables.exec = Jvm.exec) (hb : c.code = cc) {own : String} {index : Nat} {Ts : List Cond} (hts : ∀ w ∈ Ts, w.before args s = true) (hin : ∀ w ∈ wsX90, w ∈ Ts) (hown : s.vm.findClass own = some m.cls) (I : IR g s M H locs) (hlink : Cond.fieldLink own index (TX9 10).1 (TX9 10).2.1 (TX9 10).2.2.1 ∈ Ts) (hdg : decode cc pc = .ok (.getfield index, 3)) (kk : W p l e R s m args below meth c H locs cells slots Q (F0 m (pc + 3) ls (.int (i32 (M 0 10)) :: rest))) : W p l e R s m args below meth c H locs cells slots Q (F0 m pc ls (.ref (g.2.2.2 0) :: rest)) := by
  refine g_get (ci := 9) (C := RX9) (T := TX9) (n := 31) (v := .int (i32 (M 0 10))) hx hb hts hin hown I 0 (by omega) (by omega) obR_0 rfl 10 (by decide) hlink ?_ hdg kk
  first | rfl | (rcases hz with rfl | rfl <;> rfl)
theorem rp_0_10 (hx : p.tables.exec = Jvm.exec) (hb : c.code = cc) {own : String} {index : Nat} {Ts : List Cond} (hts : ∀ w ∈ Ts, w.before args s = true) (hin : ∀ w ∈ wsX90, w ∈ Ts) (hown : s.vm.findClass own = some m.cls) (I : IR g s M H locs) (hlink : Cond.fieldLink own index (TX9 10).1 (TX9 10).2.1 (TX9 10).2.2.1 ∈ Ts) {x : Int} (hxr : inR x) (hdg : decode cc pc = .ok (.putfield index, 3)) (kk : ∀ (H1 : Heap) (locs1 : List Loc) (M1 : Mem), M1 = mset M 0 10 x → IR g s M1 H1 locs1 → W p l e R s m args below meth c H1 locs1 cells slots Q (F0 m (pc + 3) ls rest)) : W p l e R s m args below meth c H locs cells slots Q (F0 m pc ls (.int (i32 x) :: .ref (g.2.2.2 0) :: rest)) :=
  g_put (ci := 9) (C := RX9) (T := TX9) (n := 31) hx hb hts hin tyX9 tyX9_ok nmX9 hown I 0 (by omega) (by omega) obR_0 rfl 10 (by decide) hlink rfl hxr rfl (Nat.le_of_ble_eq_true rfl) (by rw [obR_0]; rfl) hdg (fun H1 locs1 I1 => kk H1 locs1 _ rfl I1)
theorem rg_0_11 (hx : p.tables.exec = Jvm.exec) (hb : c.code = cc) {own : String} {index : Nat} {Ts : List Cond} (hts : ∀ w ∈ Ts, w.before args s = true) (hin : ∀ w ∈ wsX90, w ∈ Ts) (hown : s.vm.findClass own = some m.cls) (I : IR g s M H locs) (hlink : Cond.fieldLink own index (TX9 11).1 (TX9 11).2.1 (TX9 11).2.2.1 ∈ Ts) (hdg : decode cc pc = .ok (.getfield index, 3)) (kk : W p l e R s m args below meth c H locs cells slots Q (F0 m (pc + 3) ls (.ref (g.2.2.2 7) :: rest))) : W p l e R s m args below meth c H locs cells slots Q (F0 m pc ls (.ref (g.2.2.2 0) :: rest)) := by
  refine g_get (ci := 9) (C := RX9) (T := TX9) (n := 31) (v := .ref (g.2.2.2 7)) hx hb hts hin hown I 0 (by omega) (by omega) obR_0 rfl 11 (by decide) hlink ?_ hdg kk
  first | rfl | (rcases hz with rfl | rfl <;> rfl)
theorem rg_0_12 (hx : p.tables.exec = Jvm.exec) (hb : c.code = cc) {own : String} {index : Nat} {Ts : List Cond} (hts : ∀ w ∈ Ts, w.before args s = true) (hin : ∀ w ∈ wsX90, w ∈ Ts) (hown : s.vm.findClass own = some m.cls) (I : IR g s M H locs) (hlink : Cond.fieldLink own index (TX9 12).1 (TX9 12).2.1 (TX9 12).2.2.1 ∈ Ts) (hdg : decode cc pc = .ok (.getfield index, 3)) (kk : W p l e R s m args below meth c H locs cells slots Q (F0 m (pc + 3) ls (.ref (g.2.2.2 8) :: rest))) : W p l e R s m args below meth c H locs cells slots Q (F0 m pc ls (.ref (g.2.2.2 0) :: rest)) := by
  refine g_get (ci := 9) (C := RX9) (T := TX9) (n := 31) (v := .ref (g.2.2.2 8)) hx hb hts hin hown I 0 (by omega) (by omega) obR_0 rfl 12 (by decide) hlink ?_ hdg kk
  first | rfl | (rcases hz with rfl | rfl <;> rfl)
theorem rg_0_13 (hx : p.tables.exec = Jvm.exec) (hb : c.code = cc) {own : String} {index : Nat} {Ts : List Cond} (hts : ∀ w ∈ Ts, w.before args s = true) (hin : ∀ w ∈ wsX90, w ∈ Ts) (hown : s.vm.findClass own = some m.cls) (I : IR g s M H locs) (hlink : Cond.fieldLink own index (TX9 13).1 (TX9 13).2.1 (TX9 13).2.2.1 ∈ Ts) (hdg : decode cc pc = .ok (.getfield index, 3)) (kk : W p l e R s m args below meth c H locs cells slots Q (F0 m (pc + 3) ls (.ref (g.2.2.2 9) :: rest))) : W p l e R s m args below meth c H locs cells slots Q (F0 m pc ls (.ref (g.2.2.2 0) :: rest)) := by
  refine g_get (ci := 9) (C := RX9) (T := TX9) (n := 31) (v := .ref (g.2.2.2 9)) hx hb hts hin hown I 0 (by omega) (by omega) obR_0 rfl 13 (by decide) hlink ?_ hdg kk
  first | rfl | (rcases hz with rfl | rfl <;> rfl)
theorem rg_0_14 (hx : p.tables.exec = Jvm.exec) (hb : c.code = cc) {own : String} {index : Nat} {Ts : List Cond} (hts : ∀ w ∈ Ts, w.before args s = true) (hin : ∀ w ∈ wsX90, w ∈ Ts) (hown : s.vm.findClass own = some m.cls) (I : IR g s M H locs) (hlink : Cond.fieldLink own index (TX9 14).1 (TX9 14).2.1 (TX9 14).2.2.1 ∈ Ts) (hdg : decode cc pc = .ok (.getfield index, 3)) (kk : W p l e R s m args below meth c H locs cells slots Q (F0 m (pc + 3) ls (.ref (g.2.2.2 10) :: rest))) : W p l e R s m args below meth c H locs cells slots Q (F0 m pc ls (.ref (g.2.2.2 0) :: rest)) := by
  refine g_get (ci := 9) (C := RX9) (T := TX9) (n := 31) (v := .ref (g.2.2.2 10)) hx hb hts hin hown I 0 (by omega) (by omega) obR_0 rfl 14 (by decide) hlink ?_ hdg kk
  first | rfl | (rcases hz with rfl | rfl <;> rfl)
theorem rg_0_15 (hx : p.tables.exec = Jvm.exec) (hb : c.code = cc) {own : String} {index : Nat} {Ts : List Cond} (hts : ∀ w ∈ Ts, w.before args s = true) (hin : ∀ w ∈ wsX90, w ∈ Ts) (hown : s.vm.findClass own = some m.cls) (I : IR g s M H locs) (hlink : Cond.fieldLink own index (TX9 15).1 (TX9 15).2.1 (TX9 15).2.2.1 ∈ Ts) (hdg : decode cc pc = .ok (.getfield index, 3)) (kk : W p l e R s m args below meth c H locs cells slots Q (F0 m (pc + 3) ls (.ref (g.2.2.2 11) :: rest))) : W p l e R s m args below meth c H locs cells slots Q (F0 m pc ls (.ref (g.2.2.2 0) :: rest)) := by
  refine g_get (ci := 9) (C := RX9) (T := TX9) (n := 31) (v := .ref (g.2.2.2 11)) hx hb hts hin hown I 0 (by omega) (by omega) obR_0 rfl 15 (by decide) hlink ?_ hdg kk
  first | rfl | (rcases hz with rfl | rfl <;> rfl)
theorem rg_0_16 (hx : p.tables.exec = Jvm.exec) (hb : c.code = cc) {own : String} {index : Nat} {Ts : List Cond} (hts : ∀ w ∈ Ts, w.before args s = true) (hin : ∀ w ∈ wsX90, w ∈ Ts) (hown : s.vm.findClass own = some m.cls) (I : IR g s M H locs) (hlink : Cond.fieldLink own index (TX9 16).1 (TX9 16).2.1 (TX9 16).2.2.1 ∈ Ts) (hdg : decode cc pc = .ok (.getfield index, 3)) (kk : W p l e R s m args below meth c H locs cells slots Q (F0 m (pc + 3) ls (.ref (g.2.2.2 12) :: rest))) : W p l e R s m args below meth c H locs cells slots Q (F0 m pc ls (.ref (g.2.2.2 0) :: rest)) := by
  refine g_get (ci := 9) (C := RX9) (T := TX9) (n := 31) (v := .ref (g.2.2.2 12)) hx hb hts hin hown I 0 (by omega) (by omega) obR_0 rfl 16 (by decide) hlink ?_ hdg kk
  first | rfl | (rcases hz with rfl | rfl <;> rfl)
theorem rg_0_17 (hx : p.tables.exec = Jvm.exec) (hb : c.code = cc) {own : String} {index : Nat} {Ts : List Cond} (hts : ∀ w ∈ Ts, w.before args s = true) (hin : ∀ w ∈ wsX90, w ∈ Ts) (hown : s.vm.findClass own = some m.cls) (I : IR g s M H locs) (hlink : Cond.fieldLink own index (TX9 17).1 (TX9 17).2.1 (TX9 17).2.2.1 ∈ Ts) (hdg : decode cc pc = .ok (.getfield index, 3)) (kk : W p l e R s m args below meth c H locs cells slots Q (F0 m (pc + 3) ls (.ref (g.2.2.2 13) :: rest))) : W p l e R s m args below meth c H locs cells slots Q (F0 m pc ls (.ref (g.2.2.2 0) :: rest)) := by
  refine g_get (ci := 9) (C := RX9) (T := TX9) (n := 31) (v := .ref (g.2.2.2 13)) hx hb hts hin hown I 0 (by omega) (by omega) obR_0 rfl 17 (by decide) hlink ?_ hdg kk
  first | rfl | (rcases hz with rfl | rfl <;> rfl)
theorem rg_0_18 (hx : p.tables.exec = Jvm.exec) (hb : c.code = cc) {own : String} {index : Nat} {Ts : List Cond} (hts : ∀ w ∈ Ts, w.before args s = true) (hin : ∀ w ∈ wsX90, w ∈ Ts) (hown : s.vm.findClass own = some m.cls) (I : IR g s M H locs) (hlink : Cond.fieldLink own index (TX9 18).1 (TX9 18).2.1 (TX9 18).2.2.1 ∈ Ts) (hdg : decode cc pc = .ok (.getfield index, 3)) (kk : W p l e R s m args below meth c H locs cells slots Q (F0 m (pc + 3) ls (.ref (g.2.2.2 14) :: rest))) : W p l e R s m args below meth c H locs cells slots Q (F0 m pc ls (.ref (g.2.2.2 0) :: rest)) := by
  refine g_get (ci := 9) (C := RX9) (T := TX9) (n := 31) (v := .ref (g.2.2.2 14)) hx hb hts hin hown I 0 (by omega) (by omega) obR_0 rfl 18 (by decide) hlink ?_ hdg kk
  first | rfl | (rcases hz with rfl | rfl <;> rfl)
theorem rg_0_19 (hx : p.tables.exec = Jvm.exec) (hb : c.code = cc) {own : String} {index : Nat} {Ts : List Cond} (hts : ∀ w ∈ Ts, w.before args s = true) (hin : ∀ w ∈ wsX90, w ∈ Ts) (hown : s.vm.findClass own = some m.cls) (I : IR g s M H locs) (hlink : Cond.fieldLink own index (TX9 19).1 (TX9 19).2.1 (TX9 19).2.2.1 ∈ Ts) (hdg : decode cc pc = .ok (.getfield index, 3)) (kk : W p l e R s m args below meth c H locs cells slots Q (F0 m (pc + 3) ls (.ref (g.2.2.2 15) :: rest))) : W p l e R s m args below meth c H locs cells slots Q (F0 m pc ls (.ref (g.2.2.2 0) :: rest)) := by
  refine g_get (ci := 9) (C := RX9) (T := TX9) (n := 31) (v := .ref (g.2.2.2 15)) hx hb hts hin hown I 0 (by omega) (by omega) obR_0 rfl 19 (by decide) hlink ?_ hdg kk
  first | rfl | (rcases hz with rfl | rfl <;> rfl)
theorem rg_0_20 (hx : p.tables.exec = Jvm.exec) (hb : c.code = cc) {own : String} {index : Nat} {Ts : List Cond} (hts : ∀ w ∈ Ts, w.before args s = true) (hin : ∀ w ∈ wsX90, w ∈ Ts) (hown : s.vm.findClass own = some m.cls) (I : IR g s M H locs) (hlink : Cond.fieldLink own index (TX9 20).1 (TX9 20).2.1 (TX9 20).2.2.1 ∈ Ts) (hdg : decode cc pc = .ok (.getfield index, 3)) (kk : W p l e R s m args below meth c H locs cells slots Q (F0 m (pc + 3) ls (.ref (g.2.2.2 16) :: rest))) : W p l e R s m args below meth c H locs cells slots Q (F0 m pc ls (.ref (g.2.2.2 0) :: rest)) := by
  refine g_get (ci := 9) (C := RX9) (T := TX9) (n := 31) (v := .ref (g.2.2.2 16)) hx hb hts hin hown I 0 (by omega) (by omega) obR_0 rfl 20 (by decide) hlink ?_ hdg kk
  first | rfl | (rcases hz with rfl | rfl <;> rfl)
theorem rg_0_21 (hx : p.tables.exec = Jvm.exec) (hb : c.code = cc) {own : String} {index : Nat} {Ts : List Cond} (hts : ∀ w ∈ Ts, w.before args s = true) (hin : ∀ w ∈ wsX90, w ∈ Ts) (hown : s.vm.findClass own = some m.cls) (I : IR g s M H locs) (hlink : Cond.fieldLink own index (TX9 21).1 (TX9 21).2.1 (TX9 21).2.2.1 ∈ Ts) (hdg : decode cc pc = .ok (.getfield index, 3)) (kk : W p l e R s m args below meth c H locs cells slots Q (F0 m (pc + 3) ls (.ref (g.2.2.2 17) :: rest))) : W p l e R s m args below meth c H locs cells slots Q (F0 m pc ls (.ref (g.2.2.2 0) :: rest)) := by
  refine g_get (ci := 9) (C := RX9) (T := TX9) (n := 31) (v := .ref (g.2.2.2 17)) hx hb hts hin hown I 0 (by omega) (by omega) obR_0 rfl 21 (by decide) hlink ?_ hdg kk
  first | rfl | (rcases hz with rfl | rfl <;> rfl)
theorem rg_0_22 (hx : p.tables.exec = Jvm.exec) (hb : c.code = cc) {own : String} {index : Nat} {Ts : List Cond} (hts : ∀ w ∈ Ts, w.before args s = true) (hin : ∀ w ∈ wsX90, w ∈ Ts) (hown : s.vm.findClass own = some m.cls) (I : IR g s M H locs) (hlink : Cond.fieldLink own index (TX9 22).1 (TX9 22).2.1 (TX9 22).2.2.1 ∈ Ts) (hdg : decode cc pc = .ok (.getfield index, 3)) (kk : W p l e R s m args below meth c H locs cells slots Q (F0 m (pc + 3) ls (.ref (g.2.2.2 18) :: rest))) : W p l e R s m args below meth c H locs cells slots Q (F0 m pc ls (.ref (g.2.2.2 0) :: rest)) := by
  refine g_get (ci := 9) (C := RX9) (T := TX9) (n := 31) (v := .ref (g.2.2.2 18)) hx hb hts hin hown I 0 (by omega) (by omega) obR_0 rfl 22 (by decide) hlink ?_ hdg kk
  first | rfl | (rcases hz with rfl | rfl <;> rfl)
theorem rg_0_23 (hx : p.tables.exec = Jvm.exec) (hb : c.code = cc) {own : String} {index : Nat} {Ts : List Cond} (hts : ∀ w ∈ Ts, w.before args s = true) (hin : ∀ w ∈ wsX90, w ∈ Ts) (hown : s.vm.findClass own = some m.cls) (I : IR g s M H locs) (hlink : Cond.fieldLink own index (TX9 23).1 (TX9 23).2.1 (TX9 23).2.2.1 ∈ Ts) (hdg : decode cc pc = .ok (.getfield index, 3)) (kk : W p l e R s m args below meth c H locs cells slots Q (F0 m (pc + 3) ls (.ref (g.2.2.2 19) :: rest))) : W p l e R s m args below meth c H locs cells slots Q (F0 m pc ls (.ref (g.2.2.2 0) :: rest)) := by
  refine g_get (ci := 9) (C := RX9) (T := TX9) (n := 31) (v := .ref (g.2.2.2 19)) hx hb hts hin hown I 0 (by omega) (by omega) obR_0 rfl 23 (by decide) hlink ?_ hdg kk
  first | rfl | (rcases hz with rfl | rfl <;> rfl)
theorem rg_0_24 (hx : p.tables.exec = Jvm.exec) (hb : c.code = cc) {own : String} {index : Nat} {Ts : List Cond} (hts : ∀ w ∈ Ts, w.before args s = true) (hin : ∀ w ∈ wsX90, w ∈ Ts) (hown : s.vm.findClass own = some m.cls) (I : IR g s M H locs) (hlink : Cond.fieldLink own index (TX9 24).1 (TX9 24).2.1 (TX9 24).2.2.1 ∈ Ts) (hdg : decode cc pc = .ok (.getfield index, 3)) (kk : W p l e R s m args below meth c H locs cells slots Q (F0 m (pc + 3) ls (.int (i32 (M 0 24)) :: rest))) : W p l e R s m args below meth c H locs cells slots Q (F0 m pc ls (.ref (g.2.2.2 0) :: rest)) := by
  refine g_get (ci := 9) (C := RX9) (T := TX9) (n := 31) (v := .int (i32 (M 0 24))) hx hb hts hin hown I 0 (by omega) (by omega) obR_0 rfl 24 (by decide) hlink ?_ hdg kk
  first | rfl | (rcases hz with rfl | rfl <;> rfl)
theorem rp_0_24 (hx : p.tables.exec = Jvm.exec) (hb : c.code = cc) {own : String} {index : Nat} {Ts : List Cond} (hts : ∀ w ∈ Ts, w.before args s = true) (hin : ∀ w ∈ wsX90, w ∈ Ts) (hown : s.vm.findClass own = some m.cls) (I : IR g s M H locs) (hlink : Cond.fieldLink own index (TX9 24).1 (TX9 24).2.1 (TX9 24).2.2.1 ∈ Ts) {x : Int} (hxr : inR x) (hdg : decode cc pc = .ok (.putfield index, 3)) (kk : ∀ (H1 : Heap) (locs1 : List Loc) (M1 : Mem), M1 = mset M 0 24 x → IR g s M1 H1 locs1 → W p l e R s m args below meth c H1 locs1 cells slots Q (F0 m (pc + 3) ls rest)) : W p l e R s m args below meth c H locs cells slots Q (F0 m pc ls (.int (i32 x) :: .ref (g.2.2.2 0) :: rest)) :=
  g_put (ci := 9) (C := RX9) (T := TX9) (n := 31) hx hb hts hin tyX9 tyX9_ok nmX9 hown I 0 (by omega) (by omega) obR_0 rfl 24 (by decide) hlink rfl hxr rfl (Nat.le_of_ble_eq_true rfl) (by rw [obR_0]; rfl) hdg (fun H1 locs1 I1 => kk H1 locs1 _ rfl I1)
theorem rg_0_25 (hx : p.tables.exec = Jvm.exec) (hb : c.code = cc) {own : String} {index : Nat} {Ts : List Cond} (hts : ∀ w ∈ Ts, w.before args s = true) (hin : ∀ w ∈ wsX90, w ∈ Ts) (hown : s.vm.findClass own = some m.cls) (I : IR g s M H locs) (hlink : Cond.fieldLink own index (TX9 25).1 (TX9 25).2.1 (TX9 25).2.2.1 ∈ Ts) (hdg : decode cc pc = .ok (.getfield index, 3)) (kk : W p l e R s m args below meth c H locs cells slots Q (F0 m (pc + 3) ls (.ref (g.2.2.2 20) :: rest))) : W p l e R s m args below meth c H locs cells slots Q (F0 m pc ls (.ref (g.2.2.2 0) :: rest)) := by
  refine g_get (ci := 9) (C := RX9) (T := TX9) (n := 31) (v := .ref (g.2.2.2 20)) hx hb hts hin hown I 0 (by omega) (by omega) obR_0 rfl 25 (by decide) hlink ?_ hdg kk
  first | rfl | (rcases hz with rfl | rfl <;> rfl)
theorem rg_0_26 (hx : p.tables.exec = Jvm.exec) (hb : c.code = cc) {own : String} {index : Nat} {Ts : List Cond} (hts : ∀ w ∈ Ts, w.before args s = true) (hin : ∀ w ∈ wsX90, w ∈ Ts) (hown : s.vm.findClass own = some m.cls) (I : IR g s M H locs) (hlink : Cond.fieldLink own index (TX9 26).1 (TX9 26).2.1 (TX9 26).2.2.1 ∈ Ts) (hdg : decode cc pc = .ok (.getfield index, 3)) (kk : W p l e R s m args below meth c H locs cells slots Q (F0 m (pc + 3) ls (.ref (g.2.2.2 21) :: rest))) : W p l e R s m args below meth c H locs cells slots Q (F0 m pc ls (.ref (g.2.2.2 0) :: rest)) := by
  refine g_get (ci := 9) (C := RX9) (T := TX9) (n := 31) (v := .ref (g.2.2.2 21)) hx hb hts hin hown I 0 (by omega) (by omega) obR_0 rfl 26 (by decide) hlink ?_ hdg kk
  first | rfl | (rcases hz with rfl | rfl <;> rfl)
theorem rg_0_27 (hx : p.tables.exec = Jvm.exec) (hb : c.code = cc) {own : String} {index : Nat} {Ts : List Cond} (hts : ∀ w ∈ Ts, w.before args s = true) (hin : ∀ w ∈ wsX90, w ∈ Ts) (hown : s.vm.findClass own = some m.cls) (I : IR g s M H locs) (hlink : Cond.fieldLink own index (TX9 27).1 (TX9 27).2.1 (TX9 27).2.2.1 ∈ Ts) (hdg : decode cc pc = .ok (.getfield index, 3)) (kk : W p l e R s m args below meth c H locs cells slots Q (F0 m (pc + 3) ls (.ref (g.2.2.2 22) :: rest))) : W p l e R s m args below meth c H locs cells slots Q (F0 m pc ls (.ref (g.2.2.2 0) :: rest)) := by
  refine g_get (ci := 9) (C := RX9) (T := TX9) (n := 31) (v := .ref (g.2.2.2 22)) hx hb hts hin hown I 0 (by omega) (by omega) obR_0 rfl 27 (by decide) hlink ?_ hdg kk
  first | rfl | (rcases hz with rfl | rfl <;> rfl)
theorem rg_0_28 (hx : p.tables.exec = Jvm.exec) (hb : c.code = cc) {own : String} {index : Nat} {Ts : List Cond} (hts : ∀ w ∈ Ts, w.before args s = true) (hin : ∀ w ∈ wsX90, w ∈ Ts) (hown : s.vm.findClass own = some m.cls) (I : IR g s M H locs) (hlink : Cond.fieldLink own index (TX9 28).1 (TX9 28).2.1 (TX9 28).2.2.1 ∈ Ts) (hdg : decode cc pc = .ok (.getfield index, 3)) (kk : W p l e R s m args below meth c H locs cells slots Q (F0 m (pc + 3) ls (.ref (g.2.2.2 23) :: rest))) : W p l e R s m args below meth c H locs cells slots Q (F0 m pc ls (.ref (g.2.2.2 0) :: rest)) := by
  refine g_get (ci := 9) (C := RX9) (T := TX9) (n := 31) (v := .ref (g.2.2.2 23)) hx hb hts hin hown I 0 (by omega) (by omega) obR_0 rfl 28 (by decide) hlink ?_ hdg kk
  first | rfl | (rcases hz with rfl | rfl <;> rfl)
theorem rg_0_29 (hx : p.tables.exec = Jvm.exec) (hb : c.code = cc) {own : String} {index : Nat} {Ts : List Cond} (hts : ∀ w ∈ Ts, w.before args s = true) (hin : ∀ w ∈ wsX90, w ∈ Ts) (hown : s.vm.findClass own = some m.cls) (I : IR g s M H locs) (hlink : Cond.fieldLink own index (TX9 29).1 (TX9 29).2.1 (TX9 29).2.2.1 ∈ Ts) (hdg : decode cc pc = .ok (.getfield index, 3)) (kk : W p l e R s m args below meth c H locs cells slots Q (F0 m (pc + 3) ls (.ref (g.2.2.2 24) :: rest))) : W p l e R s m args below meth c H locs cells slots Q (F0 m pc ls (.ref (g.2.2.2 0) :: rest)) := by
  refine g_get (ci := 9) (C := RX9) (T := TX9) (n := 31) (v := .ref (g.2.2.2 24)) hx hb hts hin hown I 0 (by omega) (by omega) obR_0 rfl 29 (by decide) hlink ?_ hdg kk
  first | rfl | (rcases hz with rfl | rfl <;> rfl)
theorem rg_0_30 (hx : p.tables.exec = Jvm.exec) (hb : c.code = cc) {own : String} {index : Nat} {Ts : List Cond} (hts : ∀ w ∈ Ts, w.before args s = true) (hin : ∀ w ∈ wsX90, w ∈ Ts) (hown : s.vm.findClass own = some m.cls) (I : IR g s M H locs) (hlink : Cond.fieldLink own index (TX9 30).1 (TX9 30).2.1 (TX9 30).2.2.1 ∈ Ts) (hdg : decode cc pc = .ok (.getfield index, 3)) (kk : W p l e R s m args below meth c H locs cells slots Q (F0 m (pc + 3) ls (.ref (g.2.2.2 25) :: rest))) : W p l e R s m args below meth c H locs cells slots Q (F0 m pc ls (.ref (g.2.2.2 0) :: rest)) := by
  refine g_get (ci := 9) (C := RX9) (T := TX9) (n := 31) (v := .ref (g.2.2.2 25)) hx hb hts hin hown I 0 (by omega) (by omega) obR_0 rfl 30 (by decide) hlink ?_ hdg kk
  first | rfl | (rcases hz with rfl | rfl <;> rfl)
theorem x_copy (hx : p.tables.exec = Jvm.exec) (hb : c.code = cc) (hml : c.maxLocals = ls.size) {own : String} {index : Nat} {Ts : List Cond} (hts : ∀ w ∈ Ts, w.before args s = true) (hown : s.vm.findClass own = some m.cls) (h1 : Cond.methodLink own index arraycopyName ∈ Ts) (h2 : Cond.native arraycopyName ∈ Ts) (h3 : Cond.static arraycopyName ∈ Ts) (h4 : Cond.initialized "java/lang/System" ∈ Ts) (I : IX g s M H locs) (r0 r1 : Int) (e0 : lenX r0 = 10) (e1 : lenX r1 = 10) {n : Int} (hn : 0 ≤ n ∧ n ≤ 10) (hframes : 1 ≤ R.frames) (hlocals : (rest.map fun v => v.category).sum + (nativeFrameWords "java/lang/System" "arraycopy" 5 + 11) ≤ R.locals) (hdg : decode cc pc = .ok (.invokestatic index, 3)) (kk : ∀ (H1 : Heap) (locs1 : List Loc) (M1 : Mem), M1 = mcopy M r0 r1 n → IX g s M1 H1 locs1 → W p l e R s m args below meth c H1 locs1 cells slots Q (F0 m (pc + 3) ls rest)) : W p l e R s m args below meth c H locs cells slots Q (F0 m pc ls (.int (i32 n) :: .int (i32 0) :: .ref (g.2.2.2 r1) :: .int (i32 0) :: .ref (g.2.2.2 r0) :: rest)) := by
  have l0 := lenX_in (k := r0) (by omega)
  have l1 := lenX_in (k := r1) (by omega)
  have q0 : ((r0.toNat : Nat) : Int) = r0 := Int.toNat_of_nonneg (by omega)
  have q1 : ((r1.toNat : Nat) : Int) = r1 := Int.toNat_of_nonneg (by omega)
  have hnr : inR n := ⟨by omega, by omega⟩
  have hc : (i32 n).toNatClampNeg = n.toNat := Int32.toNatClampNeg_ofInt_of_le (by omega) (by omega)
  have hz : (i32 0).toNatClampNeg = 0 := by decide
  refine va_copyi (ty := .int) (f := rowf M r0.toNat) (g := rowf M r1.toNat) hx hb hml hown (hts _ h1) (hts _ h2) (hts _ h3) (hts _ h4) I.1 I.2.1 I.2.2.1 I.2.2.2.1 r0.toNat r1.toNat 0 0 (by rw [gw_get (by omega), cellX_row l0.1, q0]) (by rw [gw_get (by omega), cellX_row l1.1, q1]) rfl rfl rfl (by decide) (by decide) (fun q => by have := (i32_lt hnr (show inR 0 by decide)).mp q; omega) (by rw [hz, hc, e0]; omega) (by rw [hz, hc, e1]; omega) (fun _ _ => rfl) hframes hlocals hdg (fun H1 locs1 hP hD hS => ?_)
  have hset : (gw 88 g.2.2.2 (cellX g) M).set r1.toNat (g.2.2.2 r1, .inl (g.2.1, (lenX r1).toNat, .inl (va_cpy (rowf M r0.toNat) (rowf M r1.toNat) (i32 0).toNatClampNeg (i32 0).toNatClampNeg (i32 n).toNatClampNeg))) = gw 88 g.2.2.2 (cellX g) (mcopy M r0 r1 n) := by
    have hs := gw_set (N := 88) (ad := g.2.2.2) (cell := cellX g) (M := M) (M' := mcopy M r0 (r1.toNat : Nat) n) (k := r1.toNat) (by omega) rfl (fun j hj => rowf_ner hj)
    rw [q1, cellX_row l1.1] at hs
    rw [← hs]
    congr 5
    refine congrArg Sum.inl ?_
    funext j
    unfold mcopy va_cpy rowf
    rw [q0, q1, msetr_s, hz, hc]
    by_cases hj : j < n.toNat
    · rw [if_pos ⟨by omega, by omega⟩, if_pos ⟨by omega, by omega⟩]
      congr 1
      simp
    · rw [if_neg (by omega), if_neg (by omega)]
  rw [hset] at hP hD
  refine kk H1 locs1 _ rfl ⟨I.1, hP, hD, hS, msetr_R I.2.2.2.2 (fun j => ?_)⟩
  split
  · exact I.2.2.2.2 _ _
  · exact I.2.2.2.2 _ _
theorem lenX_R (k : Int) : inR (lenX k) := ⟨by have := lenX_le k; omega, by have := lenX_le k; omega⟩
end MW
end
section
def lw_g : List Cond := lw_tbl.filter goodWord
theorem wl_X3_measure : Cond.selects RX3 yX3_measure yX3_measure ∈ lw_g := List.mem_filter.mpr ⟨List.mem_of_getElem? (i := 0) (by decide +kernel), rfl⟩
theorem wl_X3_measureRoads : Cond.selects RX3 yX3_measureRoads yX3_measureRoads ∈ lw_g := List.mem_filter.mpr ⟨List.mem_of_getElem? (i := 1) (by decide +kernel), rfl⟩
theorem wl_X3_shortenBy : Cond.selects RX3 yX3_shortenBy yX3_shortenBy ∈ lw_g := List.mem_filter.mpr ⟨List.mem_of_getElem? (i := 2) (by decide +kernel), rfl⟩
theorem wl_X8_noteChange : Cond.selects RX8 yX8_noteChange yX8_noteChange ∈ lw_g := List.mem_filter.mpr ⟨List.mem_of_getElem? (i := 3) (by decide +kernel), rfl⟩
theorem wl_X8_forgetResults : Cond.selects RX8 yX8_forgetResults yX8_forgetResults ∈ lw_g := List.mem_filter.mpr ⟨List.mem_of_getElem? (i := 4) (by decide +kernel), rfl⟩
theorem wl_X8_takeBack : Cond.selects RX8 yX8_takeBack yX8_takeBack ∈ lw_g := List.mem_filter.mpr ⟨List.mem_of_getElem? (i := 5) (by decide +kernel), rfl⟩
theorem wl_X8_refusalOfMoving : Cond.selects RX8 yX8_refusalOfMoving yX8_refusalOfMoving ∈ lw_g := List.mem_filter.mpr ⟨List.mem_of_getElem? (i := 6) (by decide +kernel), rfl⟩
theorem wl_X8_leastCost : Cond.selects RX8 yX8_leastCost yX8_leastCost ∈ lw_g := List.mem_filter.mpr ⟨List.mem_of_getElem? (i := 7) (by decide +kernel), rfl⟩
theorem wl_X4_joinSource : Cond.selects RX4 yX4_joinSource yX4_joinSource ∈ lw_g := List.mem_filter.mpr ⟨List.mem_of_getElem? (i := 8) (by decide +kernel), rfl⟩
theorem wl_X5_addArc : Cond.selects RX5 yX5_addArc yX5_addArc ∈ lw_g := List.mem_filter.mpr ⟨List.mem_of_getElem? (i := 9) (by decide +kernel), rfl⟩
theorem wl_X4_joinSink : Cond.selects RX4 yX4_joinSink yX4_joinSink ∈ lw_g := List.mem_filter.mpr ⟨List.mem_of_getElem? (i := 10) (by decide +kernel), rfl⟩
theorem wl_X5_search : Cond.selects RX5 yX5_search yX5_search ∈ lw_g := List.mem_filter.mpr ⟨List.mem_of_getElem? (i := 11) (by decide +kernel), rfl⟩
theorem wl_X5_relax : Cond.selects RX5 yX5_relax yX5_relax ∈ lw_g := List.mem_filter.mpr ⟨List.mem_of_getElem? (i := 12) (by decide +kernel), rfl⟩
theorem wl_X5_carry : Cond.selects RX5 yX5_carry yX5_carry ∈ lw_g := List.mem_filter.mpr ⟨List.mem_of_getElem? (i := 13) (by decide +kernel), rfl⟩
theorem wl_X8_refusalAtPlaces : Cond.selects RX8 yX8_refusalAtPlaces yX8_refusalAtPlaces ∈ lw_g := List.mem_filter.mpr ⟨List.mem_of_getElem? (i := 14) (by decide +kernel), rfl⟩
theorem wl_X8_makePlan : Cond.selects RX8 yX8_makePlan yX8_makePlan ∈ lw_g := List.mem_filter.mpr ⟨List.mem_of_getElem? (i := 15) (by decide +kernel), rfl⟩
theorem wl_X6_takeGoods : Cond.selects RX6 yX6_takeGoods yX6_takeGoods ∈ lw_g := List.mem_filter.mpr ⟨List.mem_of_getElem? (i := 16) (by decide +kernel), rfl⟩
theorem wl_X6_raiseHeights : Cond.selects RX6 yX6_raiseHeights yX6_raiseHeights ∈ lw_g := List.mem_filter.mpr ⟨List.mem_of_getElem? (i := 17) (by decide +kernel), rfl⟩
theorem wl_X6_lowerHeights : Cond.selects RX6 yX6_lowerHeights yX6_lowerHeights ∈ lw_g := List.mem_filter.mpr ⟨List.mem_of_getElem? (i := 18) (by decide +kernel), rfl⟩
theorem wl_X6_putFirst : Cond.selects RX6 yX6_putFirst yX6_putFirst ∈ lw_g := List.mem_filter.mpr ⟨List.mem_of_getElem? (i := 19) (by decide +kernel), rfl⟩
theorem wl_X6_isTight : Cond.selects RX6 yX6_isTight yX6_isTight ∈ lw_g := List.mem_filter.mpr ⟨List.mem_of_getElem? (i := 20) (by decide +kernel), rfl⟩
theorem wl_X6_findRing : Cond.selects RX6 yX6_findRing yX6_findRing ∈ lw_g := List.mem_filter.mpr ⟨List.mem_of_getElem? (i := 21) (by decide +kernel), rfl⟩
theorem wl_X6_reachColumns : Cond.selects RX6 yX6_reachColumns yX6_reachColumns ∈ lw_g := List.mem_filter.mpr ⟨List.mem_of_getElem? (i := 22) (by decide +kernel), rfl⟩
theorem wl_X6_turnRing : Cond.selects RX6 yX6_turnRing yX6_turnRing ∈ lw_g := List.mem_filter.mpr ⟨List.mem_of_getElem? (i := 23) (by decide +kernel), rfl⟩
theorem wl_X6_ringAmount : Cond.selects RX6 yX6_ringAmount yX6_ringAmount ∈ lw_g := List.mem_filter.mpr ⟨List.mem_of_getElem? (i := 24) (by decide +kernel), rfl⟩
theorem wl_X8_makeReach : Cond.selects RX8 yX8_makeReach yX8_makeReach ∈ lw_g := List.mem_filter.mpr ⟨List.mem_of_getElem? (i := 25) (by decide +kernel), rfl⟩
theorem wl_X7_joinEnds : Cond.selects RX7 yX7_joinEnds yX7_joinEnds ∈ lw_g := List.mem_filter.mpr ⟨List.mem_of_getElem? (i := 26) (by decide +kernel), rfl⟩
theorem wl_X7_joinDistance : Cond.selects RX7 yX7_joinDistance yX7_joinDistance ∈ lw_g := List.mem_filter.mpr ⟨List.mem_of_getElem? (i := 27) (by decide +kernel), rfl⟩
theorem wl_X7_noteStuck : Cond.selects RX7 yX7_noteStuck yX7_noteStuck ∈ lw_g := List.mem_filter.mpr ⟨List.mem_of_getElem? (i := 28) (by decide +kernel), rfl⟩
theorem wl_X9_keep : Cond.selects RX9 yX9_keep yX9_keep ∈ lw_g := List.mem_filter.mpr ⟨List.mem_of_getElem? (i := 29) (by decide +kernel), rfl⟩
theorem wl_X9_isPlace : Cond.selects RX9 yX9_isPlace yX9_isPlace ∈ lw_g := List.mem_filter.mpr ⟨List.mem_of_getElem? (i := 30) (by decide +kernel), rfl⟩
theorem wl_X9_isHeap : Cond.selects RX9 yX9_isHeap yX9_isHeap ∈ lw_g := List.mem_filter.mpr ⟨List.mem_of_getElem? (i := 31) (by decide +kernel), rfl⟩
theorem wl_X9_findFar : Cond.selects RX9 yX9_findFar yX9_findFar ∈ lw_g := List.mem_filter.mpr ⟨List.mem_of_getElem? (i := 32) (by decide +kernel), rfl⟩
theorem wl_X9_nextTo : Cond.selects RX9 yX9_nextTo yX9_nextTo ∈ lw_g := List.mem_filter.mpr ⟨List.mem_of_getElem? (i := 33) (by decide +kernel), rfl⟩
theorem wl_X9_sumOf : Cond.selects RX9 yX9_sumOf yX9_sumOf ∈ lw_g := List.mem_filter.mpr ⟨List.mem_of_getElem? (i := 34) (by decide +kernel), rfl⟩
theorem wl_X9_against : Cond.selects RX9 yX9_against yX9_against ∈ lw_g := List.mem_filter.mpr ⟨List.mem_of_getElem? (i := 35) (by decide +kernel), rfl⟩
theorem wl_X9_isJoined : Cond.selects RX9 yX9_isJoined yX9_isJoined ∈ lw_g := List.mem_filter.mpr ⟨List.mem_of_getElem? (i := 36) (by decide +kernel), rfl⟩
theorem wl_X9_solve : Cond.selects RX9 yX9_solve yX9_solve ∈ lw_g := List.mem_filter.mpr ⟨List.mem_of_getElem? (i := 37) (by decide +kernel), rfl⟩
theorem wl_X9_begin : Cond.selects RX9 yX9_begin yX9_begin ∈ lw_g := List.mem_filter.mpr ⟨List.mem_of_getElem? (i := 38) (by decide +kernel), rfl⟩
theorem wl_X9_findWay : Cond.selects RX9 yX9_findWay yX9_findWay ∈ lw_g := List.mem_filter.mpr ⟨List.mem_of_getElem? (i := 39) (by decide +kernel), rfl⟩
theorem wl_X9_go : Cond.selects RX9 yX9_go yX9_go ∈ lw_g := List.mem_filter.mpr ⟨List.mem_of_getElem? (i := 40) (by decide +kernel), rfl⟩
theorem wl_X9_costOf : Cond.selects RX9 yX9_costOf yX9_costOf ∈ lw_g := List.mem_filter.mpr ⟨List.mem_of_getElem? (i := 41) (by decide +kernel), rfl⟩
theorem wl_X9_findPlan : Cond.selects RX9 yX9_findPlan yX9_findPlan ∈ lw_g := List.mem_filter.mpr ⟨List.mem_of_getElem? (i := 42) (by decide +kernel), rfl⟩
theorem wl_X9_findHeights : Cond.selects RX9 yX9_findHeights yX9_findHeights ∈ lw_g := List.mem_filter.mpr ⟨List.mem_of_getElem? (i := 43) (by decide +kernel), rfl⟩
theorem wl_X9_loosen : Cond.selects RX9 yX9_loosen yX9_loosen ∈ lw_g := List.mem_filter.mpr ⟨List.mem_of_getElem? (i := 44) (by decide +kernel), rfl⟩
theorem wl_X9_isTight : Cond.selects RX9 yX9_isTight yX9_isTight ∈ lw_g := List.mem_filter.mpr ⟨List.mem_of_getElem? (i := 45) (by decide +kernel), rfl⟩
theorem wl_X9_canTurn : Cond.selects RX9 yX9_canTurn yX9_canTurn ∈ lw_g := List.mem_filter.mpr ⟨List.mem_of_getElem? (i := 46) (by decide +kernel), rfl⟩
theorem wl_X9_turn : Cond.selects RX9 yX9_turn yX9_turn ∈ lw_g := List.mem_filter.mpr ⟨List.mem_of_getElem? (i := 47) (by decide +kernel), rfl⟩
theorem wl_X9_findFarthest : Cond.selects RX9 yX9_findFarthest yX9_findFarthest ∈ lw_g := List.mem_filter.mpr ⟨List.mem_of_getElem? (i := 48) (by decide +kernel), rfl⟩
theorem wl_X9_fits : Cond.selects RX9 yX9_fits yX9_fits ∈ lw_g := List.mem_filter.mpr ⟨List.mem_of_getElem? (i := 49) (by decide +kernel), rfl⟩
theorem wl_X9_reach : Cond.selects RX9 yX9_reach yX9_reach ∈ lw_g := List.mem_filter.mpr ⟨List.mem_of_getElem? (i := 50) (by decide +kernel), rfl⟩
theorem wl_X9_arc : Cond.selects RX9 yX9_arc yX9_arc ∈ lw_g := List.mem_filter.mpr ⟨List.mem_of_getElem? (i := 51) (by decide +kernel), rfl⟩
theorem wl_X9_hasNetWay : Cond.selects RX9 yX9_hasNetWay yX9_hasNetWay ∈ lw_g := List.mem_filter.mpr ⟨List.mem_of_getElem? (i := 52) (by decide +kernel), rfl⟩
theorem wl_X9_goNet : Cond.selects RX9 yX9_goNet yX9_goNet ∈ lw_g := List.mem_filter.mpr ⟨List.mem_of_getElem? (i := 53) (by decide +kernel), rfl⟩
theorem wl_X9_drafted : Cond.selects RX9 yX9_drafted yX9_drafted ∈ lw_g := List.mem_filter.mpr ⟨List.mem_of_getElem? (i := 54) (by decide +kernel), rfl⟩
theorem wn_L : Cond.initialized RL ∈ lw_g := List.mem_filter.mpr ⟨List.mem_of_getElem? (i := 55) (by decide +kernel), rfl⟩
theorem wn_X8 : Cond.initialized RX8 ∈ lw_g := List.mem_filter.mpr ⟨List.mem_of_getElem? (i := 56) (by decide +kernel), rfl⟩
theorem wn_X3 : Cond.initialized RX3 ∈ lw_g := List.mem_filter.mpr ⟨List.mem_of_getElem? (i := 57) (by decide +kernel), rfl⟩
theorem wn_X2 : Cond.initialized RX2 ∈ lw_g := List.mem_filter.mpr ⟨List.mem_of_getElem? (i := 58) (by decide +kernel), rfl⟩
theorem wn_X0 : Cond.initialized RX0 ∈ lw_g := List.mem_filter.mpr ⟨List.mem_of_getElem? (i := 59) (by decide +kernel), rfl⟩
theorem wn_X1 : Cond.initialized RX1 ∈ lw_g := List.mem_filter.mpr ⟨List.mem_of_getElem? (i := 60) (by decide +kernel), rfl⟩
theorem wn_X4 : Cond.initialized RX4 ∈ lw_g := List.mem_filter.mpr ⟨List.mem_of_getElem? (i := 61) (by decide +kernel), rfl⟩
theorem wn_X5 : Cond.initialized RX5 ∈ lw_g := List.mem_filter.mpr ⟨List.mem_of_getElem? (i := 62) (by decide +kernel), rfl⟩
theorem wn_X6 : Cond.initialized RX6 ∈ lw_g := List.mem_filter.mpr ⟨List.mem_of_getElem? (i := 63) (by decide +kernel), rfl⟩
theorem wn_X7 : Cond.initialized RX7 ∈ lw_g := List.mem_filter.mpr ⟨List.mem_of_getElem? (i := 64) (by decide +kernel), rfl⟩
theorem wn_X9 : Cond.initialized RX9 ∈ lw_g := List.mem_filter.mpr ⟨List.mem_of_getElem? (i := 65) (by decide +kernel), rfl⟩
theorem wn_J7 : Cond.initialized "java/util/Arrays" ∈ lw_g := List.mem_filter.mpr ⟨List.mem_of_getElem? (i := 66) (by decide +kernel), rfl⟩
theorem wn_J9 : Cond.initialized "java/lang/Math" ∈ lw_g := List.mem_filter.mpr ⟨List.mem_of_getElem? (i := 67) (by decide +kernel), rfl⟩
theorem wn_J10 : Cond.initialized "java/lang/System" ∈ lw_g := List.mem_filter.mpr ⟨List.mem_of_getElem? (i := 68) (by decide +kernel), rfl⟩
theorem wq_L_7 : Cond.classLink RL 7 RX8 ∈ lw_g := List.mem_filter.mpr ⟨List.mem_of_getElem? (i := 69) (by decide +kernel), rfl⟩
theorem wb_X8 : Cond.instantiable RX8 12 ∈ lw_g := List.mem_filter.mpr ⟨List.mem_of_getElem? (i := 70) (by decide +kernel), rfl⟩
theorem wm_L_9 : Cond.methodLink RL 9 yX8_init ∈ lw_g := List.mem_filter.mpr ⟨List.mem_of_getElem? (i := 71) (by decide +kernel), rfl⟩
theorem wi_X8_init : Cond.instanceMethod yX8_init ∈ lw_g := List.mem_filter.mpr ⟨List.mem_of_getElem? (i := 72) (by decide +kernel), rfl⟩
theorem wc_X8_init : Cond.code yX8_init cX8_init 1 none ∈ lw_g := List.mem_filter.mpr ⟨List.mem_of_getElem? (i := 73) (by decide +kernel), rfl⟩
theorem wm_X8_3 : Cond.methodLink RX8 3 objectInit ∈ lw_g := List.mem_filter.mpr ⟨List.mem_of_getElem? (i := 74) (by decide +kernel), rfl⟩
theorem wi_obj : Cond.instanceMethod objectInit ∈ lw_g := List.mem_filter.mpr ⟨List.mem_of_getElem? (i := 75) (by decide +kernel), rfl⟩
theorem wc_obj : Cond.code objectInit ⟨#[0xb1]⟩ 1 none ∈ lw_g := List.mem_filter.mpr ⟨List.mem_of_getElem? (i := 76) (by decide +kernel), rfl⟩
theorem wq_X8_9 : Cond.classLink RX8 9 RX3 ∈ lw_g := List.mem_filter.mpr ⟨List.mem_of_getElem? (i := 77) (by decide +kernel), rfl⟩
theorem wb_X3 : Cond.instantiable RX3 8 ∈ lw_g := List.mem_filter.mpr ⟨List.mem_of_getElem? (i := 78) (by decide +kernel), rfl⟩
theorem wm_X8_11 : Cond.methodLink RX8 11 yX3_init ∈ lw_g := List.mem_filter.mpr ⟨List.mem_of_getElem? (i := 79) (by decide +kernel), rfl⟩
theorem wi_X3_init : Cond.instanceMethod yX3_init ∈ lw_g := List.mem_filter.mpr ⟨List.mem_of_getElem? (i := 80) (by decide +kernel), rfl⟩
theorem wc_X3_init : Cond.code yX3_init cX3_init 2 none ∈ lw_g := List.mem_filter.mpr ⟨List.mem_of_getElem? (i := 81) (by decide +kernel), rfl⟩
theorem wm_X3_3 : Cond.methodLink RX3 3 objectInit ∈ lw_g := List.mem_filter.mpr ⟨List.mem_of_getElem? (i := 82) (by decide +kernel), rfl⟩
theorem wq_X3_24 : Cond.classLink RX3 24 "[[I" ∈ lw_g := List.mem_filter.mpr ⟨List.mem_of_getElem? (i := 83) (by decide +kernel), rfl⟩
theorem wo_int : Cond.arrayOver (.array .int) ∈ lw_tbl := List.mem_of_getElem? (i := 84) (by decide +kernel)
theorem wf_X7_22 : Cond.fieldLink RX7 22 "HeapMover$Land" "places" "I" ∈ lw_g := List.mem_filter.mpr ⟨List.mem_of_getElem? (i := 85) (by decide +kernel), rfl⟩
theorem wf_X8_74 : Cond.fieldLink RX8 74 "HeapMover$Land" "places" "I" ∈ lw_g := List.mem_filter.mpr ⟨List.mem_of_getElem? (i := 86) (by decide +kernel), rfl⟩
theorem wf_X3_32 : Cond.fieldLink RX3 32 "HeapMover$Land" "places" "I" ∈ lw_g := List.mem_filter.mpr ⟨List.mem_of_getElem? (i := 87) (by decide +kernel), rfl⟩
theorem wf_X4_21 : Cond.fieldLink RX4 21 "HeapMover$Land" "places" "I" ∈ lw_g := List.mem_filter.mpr ⟨List.mem_of_getElem? (i := 88) (by decide +kernel), rfl⟩
theorem wf_X6_35 : Cond.fieldLink RX6 35 "HeapMover$Land" "places" "I" ∈ lw_g := List.mem_filter.mpr ⟨List.mem_of_getElem? (i := 89) (by decide +kernel), rfl⟩
theorem wf_X1_22 : Cond.fieldLink RX1 22 "HeapMover$Land" "places" "I" ∈ lw_g := List.mem_filter.mpr ⟨List.mem_of_getElem? (i := 90) (by decide +kernel), rfl⟩
theorem wf_X8_89 : Cond.fieldLink RX8 89 "HeapMover$Land" "roads" "I" ∈ lw_g := List.mem_filter.mpr ⟨List.mem_of_getElem? (i := 91) (by decide +kernel), rfl⟩
theorem wf_X3_39 : Cond.fieldLink RX3 39 "HeapMover$Land" "roads" "I" ∈ lw_g := List.mem_filter.mpr ⟨List.mem_of_getElem? (i := 92) (by decide +kernel), rfl⟩
theorem wf_X3_9 : Cond.fieldLink RX3 9 "HeapMover$Land" "starts" "[I" ∈ lw_g := List.mem_filter.mpr ⟨List.mem_of_getElem? (i := 93) (by decide +kernel), rfl⟩
theorem wf_X3_15 : Cond.fieldLink RX3 15 "HeapMover$Land" "ends" "[I" ∈ lw_g := List.mem_filter.mpr ⟨List.mem_of_getElem? (i := 94) (by decide +kernel), rfl⟩
theorem wf_X3_18 : Cond.fieldLink RX3 18 "HeapMover$Land" "lengths" "[I" ∈ lw_g := List.mem_filter.mpr ⟨List.mem_of_getElem? (i := 95) (by decide +kernel), rfl⟩
theorem wf_X3_21 : Cond.fieldLink RX3 21 "HeapMover$Land" "bounds" "[I" ∈ lw_g := List.mem_filter.mpr ⟨List.mem_of_getElem? (i := 96) (by decide +kernel), rfl⟩
theorem wf_X4_54 : Cond.fieldLink RX4 54 "HeapMover$Land" "bounds" "[I" ∈ lw_g := List.mem_filter.mpr ⟨List.mem_of_getElem? (i := 97) (by decide +kernel), rfl⟩
theorem wf_X8_105 : Cond.fieldLink RX8 105 "HeapMover$Land" "bounds" "[I" ∈ lw_g := List.mem_filter.mpr ⟨List.mem_of_getElem? (i := 98) (by decide +kernel), rfl⟩
theorem wf_X3_26 : Cond.fieldLink RX3 26 "HeapMover$Land" "directs" "[[I" ∈ lw_g := List.mem_filter.mpr ⟨List.mem_of_getElem? (i := 99) (by decide +kernel), rfl⟩
theorem wf_X4_58 : Cond.fieldLink RX4 58 "HeapMover$Land" "directs" "[[I" ∈ lw_g := List.mem_filter.mpr ⟨List.mem_of_getElem? (i := 100) (by decide +kernel), rfl⟩
theorem wf_X3_29 : Cond.fieldLink RX3 29 "HeapMover$Land" "distances" "[[I" ∈ lw_g := List.mem_filter.mpr ⟨List.mem_of_getElem? (i := 101) (by decide +kernel), rfl⟩
theorem wf_X4_32 : Cond.fieldLink RX4 32 "HeapMover$Land" "distances" "[[I" ∈ lw_g := List.mem_filter.mpr ⟨List.mem_of_getElem? (i := 102) (by decide +kernel), rfl⟩
theorem wf_X6_56 : Cond.fieldLink RX6 56 "HeapMover$Land" "distances" "[[I" ∈ lw_g := List.mem_filter.mpr ⟨List.mem_of_getElem? (i := 103) (by decide +kernel), rfl⟩
theorem wf_X7_66 : Cond.fieldLink RX7 66 "HeapMover$Land" "distances" "[[I" ∈ lw_g := List.mem_filter.mpr ⟨List.mem_of_getElem? (i := 104) (by decide +kernel), rfl⟩
theorem wf_X1_28 : Cond.fieldLink RX1 28 "HeapMover$Land" "distances" "[[I" ∈ lw_g := List.mem_filter.mpr ⟨List.mem_of_getElem? (i := 105) (by decide +kernel), rfl⟩
theorem wf_X8_122 : Cond.fieldLink RX8 122 "HeapMover$Land" "distances" "[[I" ∈ lw_g := List.mem_filter.mpr ⟨List.mem_of_getElem? (i := 106) (by decide +kernel), rfl⟩
theorem wy_int : Cond.arrayClass .int ∈ lw_g := List.mem_filter.mpr ⟨List.mem_of_getElem? (i := 124) (by decide +kernel), rfl⟩
theorem wq_X8_16 : Cond.classLink RX8 16 RX2 ∈ lw_g := List.mem_filter.mpr ⟨List.mem_of_getElem? (i := 125) (by decide +kernel), rfl⟩
theorem wb_X2 : Cond.instantiable RX2 2 ∈ lw_g := List.mem_filter.mpr ⟨List.mem_of_getElem? (i := 126) (by decide +kernel), rfl⟩
theorem wt_X8_18 : Cond.methodLinkNest RX8 18 yX2_init "HeapMover" ∈ lw_tbl := List.mem_of_getElem? (i := 127) (by decide +kernel)
theorem wi_X2_init : Cond.instanceMethod yX2_init ∈ lw_g := List.mem_filter.mpr ⟨List.mem_of_getElem? (i := 128) (by decide +kernel), rfl⟩
theorem wc_X2_init : Cond.code yX2_init cX2_init 1 none ∈ lw_g := List.mem_filter.mpr ⟨List.mem_of_getElem? (i := 129) (by decide +kernel), rfl⟩
theorem wm_X2_3 : Cond.methodLink RX2 3 objectInit ∈ lw_g := List.mem_filter.mpr ⟨List.mem_of_getElem? (i := 130) (by decide +kernel), rfl⟩
theorem wq_X2_9 : Cond.classLink RX2 9 "[[I" ∈ lw_g := List.mem_filter.mpr ⟨List.mem_of_getElem? (i := 131) (by decide +kernel), rfl⟩
theorem wf_X2_16 : Cond.fieldLink RX2 16 "HeapMover$Heaps" "made" "I" ∈ lw_g := List.mem_filter.mpr ⟨List.mem_of_getElem? (i := 132) (by decide +kernel), rfl⟩
theorem wf_X8_96 : Cond.fieldLink RX8 96 "HeapMover$Heaps" "made" "I" ∈ lw_g := List.mem_filter.mpr ⟨List.mem_of_getElem? (i := 133) (by decide +kernel), rfl⟩
theorem wf_X2_11 : Cond.fieldLink RX2 11 "HeapMover$Heaps" "amounts" "[[I" ∈ lw_g := List.mem_filter.mpr ⟨List.mem_of_getElem? (i := 134) (by decide +kernel), rfl⟩
theorem wf_X8_100 : Cond.fieldLink RX8 100 "HeapMover$Heaps" "amounts" "[[I" ∈ lw_g := List.mem_filter.mpr ⟨List.mem_of_getElem? (i := 135) (by decide +kernel), rfl⟩
theorem wq_X8_23 : Cond.classLink RX8 23 RX0 ∈ lw_g := List.mem_filter.mpr ⟨List.mem_of_getElem? (i := 141) (by decide +kernel), rfl⟩
theorem wb_X0 : Cond.instantiable RX0 6 ∈ lw_g := List.mem_filter.mpr ⟨List.mem_of_getElem? (i := 142) (by decide +kernel), rfl⟩
theorem wt_X8_25 : Cond.methodLinkNest RX8 25 yX0_init "HeapMover" ∈ lw_tbl := List.mem_of_getElem? (i := 143) (by decide +kernel)
theorem wi_X0_init : Cond.instanceMethod yX0_init ∈ lw_g := List.mem_filter.mpr ⟨List.mem_of_getElem? (i := 144) (by decide +kernel), rfl⟩
theorem wc_X0_init : Cond.code yX0_init cX0_init 1 none ∈ lw_g := List.mem_filter.mpr ⟨List.mem_of_getElem? (i := 145) (by decide +kernel), rfl⟩
theorem wm_X0_3 : Cond.methodLink RX0 3 objectInit ∈ lw_g := List.mem_filter.mpr ⟨List.mem_of_getElem? (i := 146) (by decide +kernel), rfl⟩
theorem wf_X0_28 : Cond.fieldLink RX0 28 "HeapMover$Changes" "kept" "I" ∈ lw_g := List.mem_filter.mpr ⟨List.mem_of_getElem? (i := 147) (by decide +kernel), rfl⟩
theorem wf_X8_109 : Cond.fieldLink RX8 109 "HeapMover$Changes" "kept" "I" ∈ lw_g := List.mem_filter.mpr ⟨List.mem_of_getElem? (i := 148) (by decide +kernel), rfl⟩
theorem wf_X0_24 : Cond.fieldLink RX0 24 "HeapMover$Changes" "oldest" "I" ∈ lw_g := List.mem_filter.mpr ⟨List.mem_of_getElem? (i := 149) (by decide +kernel), rfl⟩
theorem wf_X0_9 : Cond.fieldLink RX0 9 "HeapMover$Changes" "kinds" "[I" ∈ lw_g := List.mem_filter.mpr ⟨List.mem_of_getElem? (i := 150) (by decide +kernel), rfl⟩
theorem wf_X8_228 : Cond.fieldLink RX8 228 "HeapMover$Changes" "kinds" "[I" ∈ lw_g := List.mem_filter.mpr ⟨List.mem_of_getElem? (i := 151) (by decide +kernel), rfl⟩
theorem wf_X0_15 : Cond.fieldLink RX0 15 "HeapMover$Changes" "firsts" "[I" ∈ lw_g := List.mem_filter.mpr ⟨List.mem_of_getElem? (i := 152) (by decide +kernel), rfl⟩
theorem wf_X8_222 : Cond.fieldLink RX8 222 "HeapMover$Changes" "firsts" "[I" ∈ lw_g := List.mem_filter.mpr ⟨List.mem_of_getElem? (i := 153) (by decide +kernel), rfl⟩
theorem wf_X0_18 : Cond.fieldLink RX0 18 "HeapMover$Changes" "seconds" "[I" ∈ lw_g := List.mem_filter.mpr ⟨List.mem_of_getElem? (i := 154) (by decide +kernel), rfl⟩
theorem wf_X8_225 : Cond.fieldLink RX8 225 "HeapMover$Changes" "seconds" "[I" ∈ lw_g := List.mem_filter.mpr ⟨List.mem_of_getElem? (i := 155) (by decide +kernel), rfl⟩
theorem wf_X0_21 : Cond.fieldLink RX0 21 "HeapMover$Changes" "befores" "[I" ∈ lw_g := List.mem_filter.mpr ⟨List.mem_of_getElem? (i := 156) (by decide +kernel), rfl⟩
theorem wf_X8_240 : Cond.fieldLink RX8 240 "HeapMover$Changes" "befores" "[I" ∈ lw_g := List.mem_filter.mpr ⟨List.mem_of_getElem? (i := 157) (by decide +kernel), rfl⟩
theorem wq_X8_30 : Cond.classLink RX8 30 RX1 ∈ lw_g := List.mem_filter.mpr ⟨List.mem_of_getElem? (i := 171) (by decide +kernel), rfl⟩
theorem wb_X1 : Cond.instantiable RX1 1 ∈ lw_g := List.mem_filter.mpr ⟨List.mem_of_getElem? (i := 172) (by decide +kernel), rfl⟩
theorem wt_X8_32 : Cond.methodLinkNest RX8 32 yX1_init "HeapMover" ∈ lw_tbl := List.mem_of_getElem? (i := 173) (by decide +kernel)
theorem wi_X1_init : Cond.instanceMethod yX1_init ∈ lw_g := List.mem_filter.mpr ⟨List.mem_of_getElem? (i := 174) (by decide +kernel), rfl⟩
theorem wc_X1_init : Cond.code yX1_init cX1_init 1 none ∈ lw_g := List.mem_filter.mpr ⟨List.mem_of_getElem? (i := 175) (by decide +kernel), rfl⟩
theorem wm_X1_3 : Cond.methodLink RX1 3 objectInit ∈ lw_g := List.mem_filter.mpr ⟨List.mem_of_getElem? (i := 176) (by decide +kernel), rfl⟩
theorem wq_X1_9 : Cond.classLink RX1 9 "[[I" ∈ lw_g := List.mem_filter.mpr ⟨List.mem_of_getElem? (i := 177) (by decide +kernel), rfl⟩
theorem wf_X1_11 : Cond.fieldLink RX1 11 "HeapMover$Draft" "numbers" "[[I" ∈ lw_g := List.mem_filter.mpr ⟨List.mem_of_getElem? (i := 178) (by decide +kernel), rfl⟩
theorem wf_X8_189 : Cond.fieldLink RX8 189 "HeapMover$Draft" "numbers" "[[I" ∈ lw_g := List.mem_filter.mpr ⟨List.mem_of_getElem? (i := 179) (by decide +kernel), rfl⟩
theorem wq_X8_37 : Cond.classLink RX8 37 RX4 ∈ lw_g := List.mem_filter.mpr ⟨List.mem_of_getElem? (i := 183) (by decide +kernel), rfl⟩
theorem wb_X4 : Cond.instantiable RX4 1 ∈ lw_g := List.mem_filter.mpr ⟨List.mem_of_getElem? (i := 184) (by decide +kernel), rfl⟩
theorem wt_X8_39 : Cond.methodLinkNest RX8 39 yX4_init "HeapMover" ∈ lw_tbl := List.mem_of_getElem? (i := 185) (by decide +kernel)
theorem wi_X4_init : Cond.instanceMethod yX4_init ∈ lw_g := List.mem_filter.mpr ⟨List.mem_of_getElem? (i := 186) (by decide +kernel), rfl⟩
theorem wc_X4_init : Cond.code yX4_init cX4_init 1 none ∈ lw_g := List.mem_filter.mpr ⟨List.mem_of_getElem? (i := 187) (by decide +kernel), rfl⟩
theorem wm_X4_3 : Cond.methodLink RX4 3 objectInit ∈ lw_g := List.mem_filter.mpr ⟨List.mem_of_getElem? (i := 188) (by decide +kernel), rfl⟩
theorem wq_X4_9 : Cond.classLink RX4 9 RX5 ∈ lw_g := List.mem_filter.mpr ⟨List.mem_of_getElem? (i := 189) (by decide +kernel), rfl⟩
theorem wb_X5 : Cond.instantiable RX5 9 ∈ lw_g := List.mem_filter.mpr ⟨List.mem_of_getElem? (i := 190) (by decide +kernel), rfl⟩
theorem wt_X4_11 : Cond.methodLinkNest RX4 11 yX5_init "HeapMover" ∈ lw_tbl := List.mem_of_getElem? (i := 191) (by decide +kernel)
theorem wi_X5_init : Cond.instanceMethod yX5_init ∈ lw_g := List.mem_filter.mpr ⟨List.mem_of_getElem? (i := 192) (by decide +kernel), rfl⟩
theorem wc_X5_init : Cond.code yX5_init cX5_init 1 none ∈ lw_g := List.mem_filter.mpr ⟨List.mem_of_getElem? (i := 193) (by decide +kernel), rfl⟩
theorem wm_X5_3 : Cond.methodLink RX5 3 objectInit ∈ lw_g := List.mem_filter.mpr ⟨List.mem_of_getElem? (i := 194) (by decide +kernel), rfl⟩
theorem wf_X5_30 : Cond.fieldLink RX5 30 "HeapMover$Network" "arcs" "I" ∈ lw_g := List.mem_filter.mpr ⟨List.mem_of_getElem? (i := 195) (by decide +kernel), rfl⟩
theorem wf_X6_71 : Cond.fieldLink RX6 71 "HeapMover$Network" "arcs" "I" ∈ lw_g := List.mem_filter.mpr ⟨List.mem_of_getElem? (i := 196) (by decide +kernel), rfl⟩
theorem wf_X5_34 : Cond.fieldLink RX5 34 "HeapMover$Network" "moved" "I" ∈ lw_g := List.mem_filter.mpr ⟨List.mem_of_getElem? (i := 197) (by decide +kernel), rfl⟩
theorem wf_X7_49 : Cond.fieldLink RX7 49 "HeapMover$Network" "moved" "I" ∈ lw_g := List.mem_filter.mpr ⟨List.mem_of_getElem? (i := 198) (by decide +kernel), rfl⟩
theorem wf_X4_61 : Cond.fieldLink RX4 61 "HeapMover$Network" "moved" "I" ∈ lw_g := List.mem_filter.mpr ⟨List.mem_of_getElem? (i := 199) (by decide +kernel), rfl⟩
theorem wf_X5_37 : Cond.fieldLink RX5 37 "HeapMover$Network" "spent" "I" ∈ lw_g := List.mem_filter.mpr ⟨List.mem_of_getElem? (i := 200) (by decide +kernel), rfl⟩
theorem wf_X4_51 : Cond.fieldLink RX4 51 "HeapMover$Network" "spent" "I" ∈ lw_g := List.mem_filter.mpr ⟨List.mem_of_getElem? (i := 201) (by decide +kernel), rfl⟩
theorem wf_X5_9 : Cond.fieldLink RX5 9 "HeapMover$Network" "tails" "[I" ∈ lw_g := List.mem_filter.mpr ⟨List.mem_of_getElem? (i := 202) (by decide +kernel), rfl⟩
theorem wf_X6_76 : Cond.fieldLink RX6 76 "HeapMover$Network" "tails" "[I" ∈ lw_g := List.mem_filter.mpr ⟨List.mem_of_getElem? (i := 203) (by decide +kernel), rfl⟩
theorem wf_X5_15 : Cond.fieldLink RX5 15 "HeapMover$Network" "heads" "[I" ∈ lw_g := List.mem_filter.mpr ⟨List.mem_of_getElem? (i := 204) (by decide +kernel), rfl⟩
theorem wf_X6_79 : Cond.fieldLink RX6 79 "HeapMover$Network" "heads" "[I" ∈ lw_g := List.mem_filter.mpr ⟨List.mem_of_getElem? (i := 205) (by decide +kernel), rfl⟩
theorem wf_X5_18 : Cond.fieldLink RX5 18 "HeapMover$Network" "rooms" "[I" ∈ lw_g := List.mem_filter.mpr ⟨List.mem_of_getElem? (i := 206) (by decide +kernel), rfl⟩
theorem wf_X6_82 : Cond.fieldLink RX6 82 "HeapMover$Network" "rooms" "[I" ∈ lw_g := List.mem_filter.mpr ⟨List.mem_of_getElem? (i := 207) (by decide +kernel), rfl⟩
theorem wf_X5_21 : Cond.fieldLink RX5 21 "HeapMover$Network" "prices" "[I" ∈ lw_g := List.mem_filter.mpr ⟨List.mem_of_getElem? (i := 208) (by decide +kernel), rfl⟩
theorem wf_X5_24 : Cond.fieldLink RX5 24 "HeapMover$Network" "costs" "[I" ∈ lw_g := List.mem_filter.mpr ⟨List.mem_of_getElem? (i := 209) (by decide +kernel), rfl⟩
theorem wf_X5_27 : Cond.fieldLink RX5 27 "HeapMover$Network" "lastArcs" "[I" ∈ lw_g := List.mem_filter.mpr ⟨List.mem_of_getElem? (i := 210) (by decide +kernel), rfl⟩
theorem wf_X4_12 : Cond.fieldLink RX4 12 "HeapMover$Mover" "network" "LHeapMover$Network;" ∈ lw_g := List.mem_filter.mpr ⟨List.mem_of_getElem? (i := 230) (by decide +kernel), rfl⟩
theorem wf_X6_41 : Cond.fieldLink RX6 41 "HeapMover$Mover" "network" "LHeapMover$Network;" ∈ lw_g := List.mem_filter.mpr ⟨List.mem_of_getElem? (i := 231) (by decide +kernel), rfl⟩
theorem wq_X8_44 : Cond.classLink RX8 44 RX6 ∈ lw_g := List.mem_filter.mpr ⟨List.mem_of_getElem? (i := 235) (by decide +kernel), rfl⟩
theorem wb_X6 : Cond.instantiable RX6 5 ∈ lw_g := List.mem_filter.mpr ⟨List.mem_of_getElem? (i := 236) (by decide +kernel), rfl⟩
theorem wt_X8_46 : Cond.methodLinkNest RX8 46 yX6_init "HeapMover" ∈ lw_tbl := List.mem_of_getElem? (i := 237) (by decide +kernel)
theorem wi_X6_init : Cond.instanceMethod yX6_init ∈ lw_g := List.mem_filter.mpr ⟨List.mem_of_getElem? (i := 238) (by decide +kernel), rfl⟩
theorem wc_X6_init : Cond.code yX6_init cX6_init 1 none ∈ lw_g := List.mem_filter.mpr ⟨List.mem_of_getElem? (i := 239) (by decide +kernel), rfl⟩
theorem wm_X6_3 : Cond.methodLink RX6 3 objectInit ∈ lw_g := List.mem_filter.mpr ⟨List.mem_of_getElem? (i := 240) (by decide +kernel), rfl⟩
theorem wq_X6_9 : Cond.classLink RX6 9 "[[I" ∈ lw_g := List.mem_filter.mpr ⟨List.mem_of_getElem? (i := 241) (by decide +kernel), rfl⟩
theorem wf_X6_11 : Cond.fieldLink RX6 11 "HeapMover$Planner" "goods" "[[I" ∈ lw_g := List.mem_filter.mpr ⟨List.mem_of_getElem? (i := 242) (by decide +kernel), rfl⟩
theorem wf_X8_148 : Cond.fieldLink RX8 148 "HeapMover$Planner" "goods" "[[I" ∈ lw_g := List.mem_filter.mpr ⟨List.mem_of_getElem? (i := 243) (by decide +kernel), rfl⟩
theorem wf_X6_16 : Cond.fieldLink RX6 16 "HeapMover$Planner" "heights" "[I" ∈ lw_g := List.mem_filter.mpr ⟨List.mem_of_getElem? (i := 244) (by decide +kernel), rfl⟩
theorem wf_X8_156 : Cond.fieldLink RX8 156 "HeapMover$Planner" "heights" "[I" ∈ lw_g := List.mem_filter.mpr ⟨List.mem_of_getElem? (i := 245) (by decide +kernel), rfl⟩
theorem wf_X6_20 : Cond.fieldLink RX6 20 "HeapMover$Planner" "rowFrom" "[I" ∈ lw_g := List.mem_filter.mpr ⟨List.mem_of_getElem? (i := 246) (by decide +kernel), rfl⟩
theorem wf_X6_23 : Cond.fieldLink RX6 23 "HeapMover$Planner" "columnFrom" "[I" ∈ lw_g := List.mem_filter.mpr ⟨List.mem_of_getElem? (i := 247) (by decide +kernel), rfl⟩
theorem wf_X6_26 : Cond.fieldLink RX6 26 "HeapMover$Planner" "columns" "[I" ∈ lw_g := List.mem_filter.mpr ⟨List.mem_of_getElem? (i := 248) (by decide +kernel), rfl⟩
theorem wq_X8_51 : Cond.classLink RX8 51 RX7 ∈ lw_g := List.mem_filter.mpr ⟨List.mem_of_getElem? (i := 260) (by decide +kernel), rfl⟩
theorem wb_X7 : Cond.instantiable RX7 3 ∈ lw_g := List.mem_filter.mpr ⟨List.mem_of_getElem? (i := 261) (by decide +kernel), rfl⟩
theorem wt_X8_53 : Cond.methodLinkNest RX8 53 yX7_init "HeapMover" ∈ lw_tbl := List.mem_of_getElem? (i := 262) (by decide +kernel)
theorem wi_X7_init : Cond.instanceMethod yX7_init ∈ lw_g := List.mem_filter.mpr ⟨List.mem_of_getElem? (i := 263) (by decide +kernel), rfl⟩
theorem wc_X7_init : Cond.code yX7_init cX7_init 1 none ∈ lw_g := List.mem_filter.mpr ⟨List.mem_of_getElem? (i := 264) (by decide +kernel), rfl⟩
theorem wm_X7_3 : Cond.methodLink RX7 3 objectInit ∈ lw_g := List.mem_filter.mpr ⟨List.mem_of_getElem? (i := 265) (by decide +kernel), rfl⟩
theorem wq_X7_15 : Cond.classLink RX7 15 RX5 ∈ lw_g := List.mem_filter.mpr ⟨List.mem_of_getElem? (i := 266) (by decide +kernel), rfl⟩
theorem wt_X7_17 : Cond.methodLinkNest RX7 17 yX5_init "HeapMover" ∈ lw_tbl := List.mem_of_getElem? (i := 267) (by decide +kernel)
theorem wf_X7_38 : Cond.fieldLink RX7 38 "HeapMover$Reach" "farthest" "I" ∈ lw_g := List.mem_filter.mpr ⟨List.mem_of_getElem? (i := 268) (by decide +kernel), rfl⟩
theorem wf_X8_166 : Cond.fieldLink RX8 166 "HeapMover$Reach" "farthest" "I" ∈ lw_g := List.mem_filter.mpr ⟨List.mem_of_getElem? (i := 269) (by decide +kernel), rfl⟩
theorem wf_X7_9 : Cond.fieldLink RX7 9 "HeapMover$Reach" "stuck" "[I" ∈ lw_g := List.mem_filter.mpr ⟨List.mem_of_getElem? (i := 270) (by decide +kernel), rfl⟩
theorem wf_X8_169 : Cond.fieldLink RX8 169 "HeapMover$Reach" "stuck" "[I" ∈ lw_g := List.mem_filter.mpr ⟨List.mem_of_getElem? (i := 271) (by decide +kernel), rfl⟩
theorem wf_X7_18 : Cond.fieldLink RX7 18 "HeapMover$Reach" "network" "LHeapMover$Network;" ∈ lw_g := List.mem_filter.mpr ⟨List.mem_of_getElem? (i := 272) (by decide +kernel), rfl⟩
theorem wf_X8_12 : Cond.fieldLink RX8 12 "HeapMover" "land" "LHeapMover$Land;" ∈ lw_g := List.mem_filter.mpr ⟨List.mem_of_getElem? (i := 280) (by decide +kernel), rfl⟩
theorem wf_X8_19 : Cond.fieldLink RX8 19 "HeapMover" "heaps" "LHeapMover$Heaps;" ∈ lw_g := List.mem_filter.mpr ⟨List.mem_of_getElem? (i := 281) (by decide +kernel), rfl⟩
theorem wf_X8_26 : Cond.fieldLink RX8 26 "HeapMover" "changes" "LHeapMover$Changes;" ∈ lw_g := List.mem_filter.mpr ⟨List.mem_of_getElem? (i := 282) (by decide +kernel), rfl⟩
theorem wf_X8_33 : Cond.fieldLink RX8 33 "HeapMover" "drafted" "LHeapMover$Draft;" ∈ lw_g := List.mem_filter.mpr ⟨List.mem_of_getElem? (i := 283) (by decide +kernel), rfl⟩
theorem wf_X8_40 : Cond.fieldLink RX8 40 "HeapMover" "mover" "LHeapMover$Mover;" ∈ lw_g := List.mem_filter.mpr ⟨List.mem_of_getElem? (i := 284) (by decide +kernel), rfl⟩
theorem wf_X8_47 : Cond.fieldLink RX8 47 "HeapMover" "planner" "LHeapMover$Planner;" ∈ lw_g := List.mem_filter.mpr ⟨List.mem_of_getElem? (i := 285) (by decide +kernel), rfl⟩
theorem wf_X8_54 : Cond.fieldLink RX8 54 "HeapMover" "reach" "LHeapMover$Reach;" ∈ lw_g := List.mem_filter.mpr ⟨List.mem_of_getElem? (i := 286) (by decide +kernel), rfl⟩
theorem wf_X8_58 : Cond.fieldLink RX8 58 "HeapMover" "plannedFrom" "I" ∈ lw_g := List.mem_filter.mpr ⟨List.mem_of_getElem? (i := 287) (by decide +kernel), rfl⟩
theorem wf_X8_62 : Cond.fieldLink RX8 62 "HeapMover" "plannedTo" "I" ∈ lw_g := List.mem_filter.mpr ⟨List.mem_of_getElem? (i := 288) (by decide +kernel), rfl⟩
theorem wf_X8_65 : Cond.fieldLink RX8 65 "HeapMover" "reachedFrom" "I" ∈ lw_g := List.mem_filter.mpr ⟨List.mem_of_getElem? (i := 289) (by decide +kernel), rfl⟩
theorem wf_X8_68 : Cond.fieldLink RX8 68 "HeapMover" "reachedTo" "I" ∈ lw_g := List.mem_filter.mpr ⟨List.mem_of_getElem? (i := 290) (by decide +kernel), rfl⟩
theorem wf_X8_71 : Cond.fieldLink RX8 71 "HeapMover" "told" "I" ∈ lw_g := List.mem_filter.mpr ⟨List.mem_of_getElem? (i := 291) (by decide +kernel), rfl⟩
theorem wm_L_13 : Cond.methodLink RL 13 yX8_place ∈ lw_g := List.mem_filter.mpr ⟨List.mem_of_getElem? (i := 317) (by decide +kernel), rfl⟩
theorem wi_X8_place : Cond.instanceMethod yX8_place ∈ lw_g := List.mem_filter.mpr ⟨List.mem_of_getElem? (i := 318) (by decide +kernel), rfl⟩
theorem wl_X8_place : Cond.selects RX8 yX8_place yX8_place ∈ lw_g := List.mem_filter.mpr ⟨List.mem_of_getElem? (i := 319) (by decide +kernel), rfl⟩
theorem wc_X8_place : Cond.code yX8_place cX8_place 2 (some .int) ∈ lw_g := List.mem_filter.mpr ⟨List.mem_of_getElem? (i := 320) (by decide +kernel), rfl⟩
theorem wm_X8_77 : Cond.methodLink RX8 77 yX3_addPlace ∈ lw_g := List.mem_filter.mpr ⟨List.mem_of_getElem? (i := 321) (by decide +kernel), rfl⟩
theorem wi_X3_addPlace : Cond.instanceMethod yX3_addPlace ∈ lw_g := List.mem_filter.mpr ⟨List.mem_of_getElem? (i := 322) (by decide +kernel), rfl⟩
theorem wl_X3_addPlace : Cond.selects RX3 yX3_addPlace yX3_addPlace ∈ lw_g := List.mem_filter.mpr ⟨List.mem_of_getElem? (i := 323) (by decide +kernel), rfl⟩
theorem wc_X3_addPlace : Cond.code yX3_addPlace cX3_addPlace 2 (some .int) ∈ lw_g := List.mem_filter.mpr ⟨List.mem_of_getElem? (i := 324) (by decide +kernel), rfl⟩
theorem wm_X3_36 : Cond.methodLink RX3 36 yX3_measure ∈ lw_g := List.mem_filter.mpr ⟨List.mem_of_getElem? (i := 325) (by decide +kernel), rfl⟩
theorem wi_X3_measure : Cond.instanceMethod yX3_measure ∈ lw_g := List.mem_filter.mpr ⟨List.mem_of_getElem? (i := 327) (by decide +kernel), rfl⟩
theorem wc_X3_measure : Cond.code yX3_measure cX3_measure 3 none ∈ lw_g := List.mem_filter.mpr ⟨List.mem_of_getElem? (i := 328) (by decide +kernel), rfl⟩
theorem wm_X3_43 : Cond.methodLink RX3 43 yX3_measureRoads ∈ lw_g := List.mem_filter.mpr ⟨List.mem_of_getElem? (i := 329) (by decide +kernel), rfl⟩
theorem wi_X3_measureRoads : Cond.instanceMethod yX3_measureRoads ∈ lw_g := List.mem_filter.mpr ⟨List.mem_of_getElem? (i := 331) (by decide +kernel), rfl⟩
theorem wc_X3_measureRoads : Cond.code yX3_measureRoads cX3_measureRoads 5 none ∈ lw_g := List.mem_filter.mpr ⟨List.mem_of_getElem? (i := 332) (by decide +kernel), rfl⟩
theorem wk_X3_42 : Cond.constant RX3 42 (1000000) ∈ lw_g := List.mem_filter.mpr ⟨List.mem_of_getElem? (i := 333) (by decide +kernel), rfl⟩
theorem wm_X3_56 : Cond.methodLink RX3 56 yJ7_fill_53178 ∈ lw_g := List.mem_filter.mpr ⟨List.mem_of_getElem? (i := 334) (by decide +kernel), rfl⟩
theorem wa_J7_fill_53178 : Cond.static yJ7_fill_53178 ∈ lw_g := List.mem_filter.mpr ⟨List.mem_of_getElem? (i := 335) (by decide +kernel), rfl⟩
theorem wc_J7_fill_53178 : Cond.code yJ7_fill_53178 cJ7_fill_53178 4 none ∈ lw_g := List.mem_filter.mpr ⟨List.mem_of_getElem? (i := 336) (by decide +kernel), rfl⟩
theorem wm_X3_62 : Cond.methodLink RX3 62 Lib.Math.min.name ∈ lw_g := List.mem_filter.mpr ⟨List.mem_of_getElem? (i := 337) (by decide +kernel), rfl⟩
theorem wa_min : Cond.static Lib.Math.min.name ∈ lw_g := List.mem_filter.mpr ⟨List.mem_of_getElem? (i := 338) (by decide +kernel), rfl⟩
theorem wc_min : Cond.code Lib.Math.min.name Lib.Math.min.code 2 (some .int) ∈ lw_g := List.mem_filter.mpr ⟨List.mem_of_getElem? (i := 339) (by decide +kernel), rfl⟩
theorem wm_X3_46 : Cond.methodLink RX3 46 arraycopyName ∈ lw_g := List.mem_filter.mpr ⟨List.mem_of_getElem? (i := 340) (by decide +kernel), rfl⟩
theorem wa_acopy : Cond.static arraycopyName ∈ lw_g := List.mem_filter.mpr ⟨List.mem_of_getElem? (i := 341) (by decide +kernel), rfl⟩
theorem wv_acopy : Cond.native arraycopyName ∈ lw_g := List.mem_filter.mpr ⟨List.mem_of_getElem? (i := 342) (by decide +kernel), rfl⟩
theorem wm_X3_52 : Cond.methodLink RX3 52 yX3_shortenBy ∈ lw_g := List.mem_filter.mpr ⟨List.mem_of_getElem? (i := 343) (by decide +kernel), rfl⟩
theorem wi_X3_shortenBy : Cond.instanceMethod yX3_shortenBy ∈ lw_g := List.mem_filter.mpr ⟨List.mem_of_getElem? (i := 345) (by decide +kernel), rfl⟩
theorem wc_X3_shortenBy : Cond.code yX3_shortenBy cX3_shortenBy 6 none ∈ lw_g := List.mem_filter.mpr ⟨List.mem_of_getElem? (i := 346) (by decide +kernel), rfl⟩
theorem wm_X8_81 : Cond.methodLink RX8 81 yX8_noteChange ∈ lw_g := List.mem_filter.mpr ⟨List.mem_of_getElem? (i := 347) (by decide +kernel), rfl⟩
theorem wi_X8_noteChange : Cond.instanceMethod yX8_noteChange ∈ lw_g := List.mem_filter.mpr ⟨List.mem_of_getElem? (i := 349) (by decide +kernel), rfl⟩
theorem wc_X8_noteChange : Cond.code yX8_noteChange cX8_noteChange 5 none ∈ lw_g := List.mem_filter.mpr ⟨List.mem_of_getElem? (i := 350) (by decide +kernel), rfl⟩
theorem wm_X8_219 : Cond.methodLink RX8 219 yX0_keep ∈ lw_g := List.mem_filter.mpr ⟨List.mem_of_getElem? (i := 351) (by decide +kernel), rfl⟩
theorem wi_X0_keep : Cond.instanceMethod yX0_keep ∈ lw_g := List.mem_filter.mpr ⟨List.mem_of_getElem? (i := 352) (by decide +kernel), rfl⟩
theorem wl_X0_keep : Cond.selects RX0 yX0_keep yX0_keep ∈ lw_g := List.mem_filter.mpr ⟨List.mem_of_getElem? (i := 353) (by decide +kernel), rfl⟩
theorem wc_X0_keep : Cond.code yX0_keep cX0_keep 6 none ∈ lw_g := List.mem_filter.mpr ⟨List.mem_of_getElem? (i := 354) (by decide +kernel), rfl⟩
theorem wm_X8_119 : Cond.methodLink RX8 119 yX8_forgetResults ∈ lw_g := List.mem_filter.mpr ⟨List.mem_of_getElem? (i := 355) (by decide +kernel), rfl⟩
theorem wi_X8_forgetResults : Cond.instanceMethod yX8_forgetResults ∈ lw_g := List.mem_filter.mpr ⟨List.mem_of_getElem? (i := 357) (by decide +kernel), rfl⟩
theorem wc_X8_forgetResults : Cond.code yX8_forgetResults cX8_forgetResults 1 none ∈ lw_g := List.mem_filter.mpr ⟨List.mem_of_getElem? (i := 358) (by decide +kernel), rfl⟩
theorem wm_L_18 : Cond.methodLink RL 18 yX8_road ∈ lw_g := List.mem_filter.mpr ⟨List.mem_of_getElem? (i := 359) (by decide +kernel), rfl⟩
theorem wi_X8_road : Cond.instanceMethod yX8_road ∈ lw_g := List.mem_filter.mpr ⟨List.mem_of_getElem? (i := 360) (by decide +kernel), rfl⟩
theorem wl_X8_road : Cond.selects RX8 yX8_road yX8_road ∈ lw_g := List.mem_filter.mpr ⟨List.mem_of_getElem? (i := 361) (by decide +kernel), rfl⟩
theorem wc_X8_road : Cond.code yX8_road cX8_road 5 (some .int) ∈ lw_g := List.mem_filter.mpr ⟨List.mem_of_getElem? (i := 362) (by decide +kernel), rfl⟩
theorem wm_X8_85 : Cond.methodLink RX8 85 yX3_has ∈ lw_g := List.mem_filter.mpr ⟨List.mem_of_getElem? (i := 363) (by decide +kernel), rfl⟩
theorem wi_X3_has : Cond.instanceMethod yX3_has ∈ lw_g := List.mem_filter.mpr ⟨List.mem_of_getElem? (i := 364) (by decide +kernel), rfl⟩
theorem wl_X3_has : Cond.selects RX3 yX3_has yX3_has ∈ lw_g := List.mem_filter.mpr ⟨List.mem_of_getElem? (i := 365) (by decide +kernel), rfl⟩
theorem wc_X3_has : Cond.code yX3_has cX3_has 2 (some .boolean) ∈ lw_g := List.mem_filter.mpr ⟨List.mem_of_getElem? (i := 366) (by decide +kernel), rfl⟩
theorem wm_X8_92 : Cond.methodLink RX8 92 yX3_addRoad ∈ lw_g := List.mem_filter.mpr ⟨List.mem_of_getElem? (i := 367) (by decide +kernel), rfl⟩
theorem wi_X3_addRoad : Cond.instanceMethod yX3_addRoad ∈ lw_g := List.mem_filter.mpr ⟨List.mem_of_getElem? (i := 368) (by decide +kernel), rfl⟩
theorem wl_X3_addRoad : Cond.selects RX3 yX3_addRoad yX3_addRoad ∈ lw_g := List.mem_filter.mpr ⟨List.mem_of_getElem? (i := 369) (by decide +kernel), rfl⟩
theorem wc_X3_addRoad : Cond.code yX3_addRoad cX3_addRoad 5 (some .int) ∈ lw_g := List.mem_filter.mpr ⟨List.mem_of_getElem? (i := 370) (by decide +kernel), rfl⟩
theorem wm_L_23 : Cond.methodLink RL 23 yX8_heap ∈ lw_g := List.mem_filter.mpr ⟨List.mem_of_getElem? (i := 371) (by decide +kernel), rfl⟩
theorem wi_X8_heap : Cond.instanceMethod yX8_heap ∈ lw_g := List.mem_filter.mpr ⟨List.mem_of_getElem? (i := 372) (by decide +kernel), rfl⟩
theorem wl_X8_heap : Cond.selects RX8 yX8_heap yX8_heap ∈ lw_g := List.mem_filter.mpr ⟨List.mem_of_getElem? (i := 373) (by decide +kernel), rfl⟩
theorem wc_X8_heap : Cond.code yX8_heap cX8_heap 2 (some .int) ∈ lw_g := List.mem_filter.mpr ⟨List.mem_of_getElem? (i := 374) (by decide +kernel), rfl⟩
theorem wm_L_27 : Cond.methodLink RL 27 yX8_set ∈ lw_g := List.mem_filter.mpr ⟨List.mem_of_getElem? (i := 375) (by decide +kernel), rfl⟩
theorem wi_X8_set : Cond.instanceMethod yX8_set ∈ lw_g := List.mem_filter.mpr ⟨List.mem_of_getElem? (i := 376) (by decide +kernel), rfl⟩
theorem wl_X8_set : Cond.selects RX8 yX8_set yX8_set ∈ lw_g := List.mem_filter.mpr ⟨List.mem_of_getElem? (i := 377) (by decide +kernel), rfl⟩
theorem wc_X8_set : Cond.code yX8_set cX8_set 5 (some .int) ∈ lw_g := List.mem_filter.mpr ⟨List.mem_of_getElem? (i := 378) (by decide +kernel), rfl⟩
theorem wm_X8_99 : Cond.methodLink RX8 99 yX2_has ∈ lw_g := List.mem_filter.mpr ⟨List.mem_of_getElem? (i := 379) (by decide +kernel), rfl⟩
theorem wi_X2_has : Cond.instanceMethod yX2_has ∈ lw_g := List.mem_filter.mpr ⟨List.mem_of_getElem? (i := 380) (by decide +kernel), rfl⟩
theorem wl_X2_has : Cond.selects RX2 yX2_has yX2_has ∈ lw_g := List.mem_filter.mpr ⟨List.mem_of_getElem? (i := 381) (by decide +kernel), rfl⟩
theorem wc_X2_has : Cond.code yX2_has cX2_has 2 (some .boolean) ∈ lw_g := List.mem_filter.mpr ⟨List.mem_of_getElem? (i := 382) (by decide +kernel), rfl⟩
theorem wm_L_31 : Cond.methodLink RL 31 yX8_gate ∈ lw_g := List.mem_filter.mpr ⟨List.mem_of_getElem? (i := 383) (by decide +kernel), rfl⟩
theorem wi_X8_gate : Cond.instanceMethod yX8_gate ∈ lw_g := List.mem_filter.mpr ⟨List.mem_of_getElem? (i := 384) (by decide +kernel), rfl⟩
theorem wl_X8_gate : Cond.selects RX8 yX8_gate yX8_gate ∈ lw_g := List.mem_filter.mpr ⟨List.mem_of_getElem? (i := 385) (by decide +kernel), rfl⟩
theorem wc_X8_gate : Cond.code yX8_gate cX8_gate 4 (some .int) ∈ lw_g := List.mem_filter.mpr ⟨List.mem_of_getElem? (i := 386) (by decide +kernel), rfl⟩
theorem wk_X8_104 : Cond.constant RX8 104 (100000) ∈ lw_g := List.mem_filter.mpr ⟨List.mem_of_getElem? (i := 387) (by decide +kernel), rfl⟩
theorem wm_L_36 : Cond.methodLink RL 36 yX8_undo ∈ lw_g := List.mem_filter.mpr ⟨List.mem_of_getElem? (i := 388) (by decide +kernel), rfl⟩
theorem wi_X8_undo : Cond.instanceMethod yX8_undo ∈ lw_g := List.mem_filter.mpr ⟨List.mem_of_getElem? (i := 389) (by decide +kernel), rfl⟩
theorem wl_X8_undo : Cond.selects RX8 yX8_undo yX8_undo ∈ lw_g := List.mem_filter.mpr ⟨List.mem_of_getElem? (i := 390) (by decide +kernel), rfl⟩
theorem wc_X8_undo : Cond.code yX8_undo cX8_undo 1 (some .int) ∈ lw_g := List.mem_filter.mpr ⟨List.mem_of_getElem? (i := 391) (by decide +kernel), rfl⟩
theorem wm_X8_112 : Cond.methodLink RX8 112 yX0_dropLatest ∈ lw_g := List.mem_filter.mpr ⟨List.mem_of_getElem? (i := 392) (by decide +kernel), rfl⟩
theorem wi_X0_dropLatest : Cond.instanceMethod yX0_dropLatest ∈ lw_g := List.mem_filter.mpr ⟨List.mem_of_getElem? (i := 393) (by decide +kernel), rfl⟩
theorem wl_X0_dropLatest : Cond.selects RX0 yX0_dropLatest yX0_dropLatest ∈ lw_g := List.mem_filter.mpr ⟨List.mem_of_getElem? (i := 394) (by decide +kernel), rfl⟩
theorem wc_X0_dropLatest : Cond.code yX0_dropLatest cX0_dropLatest 1 (some .int) ∈ lw_g := List.mem_filter.mpr ⟨List.mem_of_getElem? (i := 395) (by decide +kernel), rfl⟩
theorem wm_X8_115 : Cond.methodLink RX8 115 yX8_takeBack ∈ lw_g := List.mem_filter.mpr ⟨List.mem_of_getElem? (i := 396) (by decide +kernel), rfl⟩
theorem wi_X8_takeBack : Cond.instanceMethod yX8_takeBack ∈ lw_g := List.mem_filter.mpr ⟨List.mem_of_getElem? (i := 398) (by decide +kernel), rfl⟩
theorem wc_X8_takeBack : Cond.code yX8_takeBack cX8_takeBack 4 none ∈ lw_g := List.mem_filter.mpr ⟨List.mem_of_getElem? (i := 399) (by decide +kernel), rfl⟩
theorem wm_X8_231 : Cond.methodLink RX8 231 yX3_dropPlace ∈ lw_g := List.mem_filter.mpr ⟨List.mem_of_getElem? (i := 400) (by decide +kernel), rfl⟩
theorem wi_X3_dropPlace : Cond.instanceMethod yX3_dropPlace ∈ lw_g := List.mem_filter.mpr ⟨List.mem_of_getElem? (i := 401) (by decide +kernel), rfl⟩
theorem wl_X3_dropPlace : Cond.selects RX3 yX3_dropPlace yX3_dropPlace ∈ lw_g := List.mem_filter.mpr ⟨List.mem_of_getElem? (i := 402) (by decide +kernel), rfl⟩
theorem wc_X3_dropPlace : Cond.code yX3_dropPlace cX3_dropPlace 1 none ∈ lw_g := List.mem_filter.mpr ⟨List.mem_of_getElem? (i := 403) (by decide +kernel), rfl⟩
theorem wm_X8_234 : Cond.methodLink RX8 234 yX1_wipePlace ∈ lw_g := List.mem_filter.mpr ⟨List.mem_of_getElem? (i := 404) (by decide +kernel), rfl⟩
theorem wi_X1_wipePlace : Cond.instanceMethod yX1_wipePlace ∈ lw_g := List.mem_filter.mpr ⟨List.mem_of_getElem? (i := 405) (by decide +kernel), rfl⟩
theorem wl_X1_wipePlace : Cond.selects RX1 yX1_wipePlace yX1_wipePlace ∈ lw_g := List.mem_filter.mpr ⟨List.mem_of_getElem? (i := 406) (by decide +kernel), rfl⟩
theorem wc_X1_wipePlace : Cond.code yX1_wipePlace cX1_wipePlace 3 none ∈ lw_g := List.mem_filter.mpr ⟨List.mem_of_getElem? (i := 407) (by decide +kernel), rfl⟩
theorem wm_X8_237 : Cond.methodLink RX8 237 yX3_dropRoad ∈ lw_g := List.mem_filter.mpr ⟨List.mem_of_getElem? (i := 408) (by decide +kernel), rfl⟩
theorem wi_X3_dropRoad : Cond.instanceMethod yX3_dropRoad ∈ lw_g := List.mem_filter.mpr ⟨List.mem_of_getElem? (i := 409) (by decide +kernel), rfl⟩
theorem wl_X3_dropRoad : Cond.selects RX3 yX3_dropRoad yX3_dropRoad ∈ lw_g := List.mem_filter.mpr ⟨List.mem_of_getElem? (i := 410) (by decide +kernel), rfl⟩
theorem wc_X3_dropRoad : Cond.code yX3_dropRoad cX3_dropRoad 1 none ∈ lw_g := List.mem_filter.mpr ⟨List.mem_of_getElem? (i := 411) (by decide +kernel), rfl⟩
theorem wm_L_40 : Cond.methodLink RL 40 yX8_apart ∈ lw_g := List.mem_filter.mpr ⟨List.mem_of_getElem? (i := 412) (by decide +kernel), rfl⟩
theorem wi_X8_apart : Cond.instanceMethod yX8_apart ∈ lw_g := List.mem_filter.mpr ⟨List.mem_of_getElem? (i := 413) (by decide +kernel), rfl⟩
theorem wl_X8_apart : Cond.selects RX8 yX8_apart yX8_apart ∈ lw_g := List.mem_filter.mpr ⟨List.mem_of_getElem? (i := 414) (by decide +kernel), rfl⟩
theorem wc_X8_apart : Cond.code yX8_apart cX8_apart 4 (some .int) ∈ lw_g := List.mem_filter.mpr ⟨List.mem_of_getElem? (i := 415) (by decide +kernel), rfl⟩
theorem wk_X8_125 : Cond.constant RX8 125 (1000000) ∈ lw_g := List.mem_filter.mpr ⟨List.mem_of_getElem? (i := 416) (by decide +kernel), rfl⟩
theorem wm_L_44 : Cond.methodLink RL 44 yX8_next ∈ lw_g := List.mem_filter.mpr ⟨List.mem_of_getElem? (i := 417) (by decide +kernel), rfl⟩
theorem wi_X8_next : Cond.instanceMethod yX8_next ∈ lw_g := List.mem_filter.mpr ⟨List.mem_of_getElem? (i := 418) (by decide +kernel), rfl⟩
theorem wl_X8_next : Cond.selects RX8 yX8_next yX8_next ∈ lw_g := List.mem_filter.mpr ⟨List.mem_of_getElem? (i := 419) (by decide +kernel), rfl⟩
theorem wc_X8_next : Cond.code yX8_next cX8_next 3 (some .int) ∈ lw_g := List.mem_filter.mpr ⟨List.mem_of_getElem? (i := 420) (by decide +kernel), rfl⟩
theorem wm_X8_126 : Cond.methodLink RX8 126 yX3_placeBehind ∈ lw_g := List.mem_filter.mpr ⟨List.mem_of_getElem? (i := 421) (by decide +kernel), rfl⟩
theorem wi_X3_placeBehind : Cond.instanceMethod yX3_placeBehind ∈ lw_g := List.mem_filter.mpr ⟨List.mem_of_getElem? (i := 422) (by decide +kernel), rfl⟩
theorem wl_X3_placeBehind : Cond.selects RX3 yX3_placeBehind yX3_placeBehind ∈ lw_g := List.mem_filter.mpr ⟨List.mem_of_getElem? (i := 423) (by decide +kernel), rfl⟩
theorem wc_X3_placeBehind : Cond.code yX3_placeBehind cX3_placeBehind 4 (some .int) ∈ lw_g := List.mem_filter.mpr ⟨List.mem_of_getElem? (i := 424) (by decide +kernel), rfl⟩
theorem wm_L_48 : Cond.methodLink RL 48 yX8_amount ∈ lw_g := List.mem_filter.mpr ⟨List.mem_of_getElem? (i := 425) (by decide +kernel), rfl⟩
theorem wi_X8_amount : Cond.instanceMethod yX8_amount ∈ lw_g := List.mem_filter.mpr ⟨List.mem_of_getElem? (i := 426) (by decide +kernel), rfl⟩
theorem wl_X8_amount : Cond.selects RX8 yX8_amount yX8_amount ∈ lw_g := List.mem_filter.mpr ⟨List.mem_of_getElem? (i := 427) (by decide +kernel), rfl⟩
theorem wc_X8_amount : Cond.code yX8_amount cX8_amount 3 (some .int) ∈ lw_g := List.mem_filter.mpr ⟨List.mem_of_getElem? (i := 428) (by decide +kernel), rfl⟩
theorem wm_L_52 : Cond.methodLink RL 52 yX8_sum ∈ lw_g := List.mem_filter.mpr ⟨List.mem_of_getElem? (i := 429) (by decide +kernel), rfl⟩
theorem wi_X8_sum : Cond.instanceMethod yX8_sum ∈ lw_g := List.mem_filter.mpr ⟨List.mem_of_getElem? (i := 430) (by decide +kernel), rfl⟩
theorem wl_X8_sum : Cond.selects RX8 yX8_sum yX8_sum ∈ lw_g := List.mem_filter.mpr ⟨List.mem_of_getElem? (i := 431) (by decide +kernel), rfl⟩
theorem wc_X8_sum : Cond.code yX8_sum cX8_sum 2 (some .int) ∈ lw_g := List.mem_filter.mpr ⟨List.mem_of_getElem? (i := 432) (by decide +kernel), rfl⟩
theorem wm_X8_130 : Cond.methodLink RX8 130 yX2_total ∈ lw_g := List.mem_filter.mpr ⟨List.mem_of_getElem? (i := 433) (by decide +kernel), rfl⟩
theorem wi_X2_total : Cond.instanceMethod yX2_total ∈ lw_g := List.mem_filter.mpr ⟨List.mem_of_getElem? (i := 434) (by decide +kernel), rfl⟩
theorem wl_X2_total : Cond.selects RX2 yX2_total yX2_total ∈ lw_g := List.mem_filter.mpr ⟨List.mem_of_getElem? (i := 435) (by decide +kernel), rfl⟩
theorem wc_X2_total : Cond.code yX2_total cX2_total 4 (some .int) ∈ lw_g := List.mem_filter.mpr ⟨List.mem_of_getElem? (i := 436) (by decide +kernel), rfl⟩
theorem wm_L_57 : Cond.methodLink RL 57 yX8_least ∈ lw_g := List.mem_filter.mpr ⟨List.mem_of_getElem? (i := 437) (by decide +kernel), rfl⟩
theorem wi_X8_least : Cond.instanceMethod yX8_least ∈ lw_g := List.mem_filter.mpr ⟨List.mem_of_getElem? (i := 438) (by decide +kernel), rfl⟩
theorem wl_X8_least : Cond.selects RX8 yX8_least yX8_least ∈ lw_g := List.mem_filter.mpr ⟨List.mem_of_getElem? (i := 439) (by decide +kernel), rfl⟩
theorem wc_X8_least : Cond.code yX8_least cX8_least 4 (some .int) ∈ lw_g := List.mem_filter.mpr ⟨List.mem_of_getElem? (i := 440) (by decide +kernel), rfl⟩
theorem wm_X8_134 : Cond.methodLink RX8 134 yX8_refusalOfMoving ∈ lw_g := List.mem_filter.mpr ⟨List.mem_of_getElem? (i := 441) (by decide +kernel), rfl⟩
theorem wi_X8_refusalOfMoving : Cond.instanceMethod yX8_refusalOfMoving ∈ lw_g := List.mem_filter.mpr ⟨List.mem_of_getElem? (i := 443) (by decide +kernel), rfl⟩
theorem wc_X8_refusalOfMoving : Cond.code yX8_refusalOfMoving cX8_refusalOfMoving 3 (some .int) ∈ lw_g := List.mem_filter.mpr ⟨List.mem_of_getElem? (i := 444) (by decide +kernel), rfl⟩
theorem wm_X8_177 : Cond.methodLink RX8 177 yX3_isJoined ∈ lw_g := List.mem_filter.mpr ⟨List.mem_of_getElem? (i := 445) (by decide +kernel), rfl⟩
theorem wi_X3_isJoined : Cond.instanceMethod yX3_isJoined ∈ lw_g := List.mem_filter.mpr ⟨List.mem_of_getElem? (i := 446) (by decide +kernel), rfl⟩
theorem wl_X3_isJoined : Cond.selects RX3 yX3_isJoined yX3_isJoined ∈ lw_g := List.mem_filter.mpr ⟨List.mem_of_getElem? (i := 447) (by decide +kernel), rfl⟩
theorem wc_X3_isJoined : Cond.code yX3_isJoined cX3_isJoined 2 (some .boolean) ∈ lw_g := List.mem_filter.mpr ⟨List.mem_of_getElem? (i := 448) (by decide +kernel), rfl⟩
theorem wm_X8_137 : Cond.methodLink RX8 137 yX8_leastCost ∈ lw_g := List.mem_filter.mpr ⟨List.mem_of_getElem? (i := 449) (by decide +kernel), rfl⟩
theorem wi_X8_leastCost : Cond.instanceMethod yX8_leastCost ∈ lw_g := List.mem_filter.mpr ⟨List.mem_of_getElem? (i := 451) (by decide +kernel), rfl⟩
theorem wc_X8_leastCost : Cond.code yX8_leastCost cX8_leastCost 3 (some .int) ∈ lw_g := List.mem_filter.mpr ⟨List.mem_of_getElem? (i := 452) (by decide +kernel), rfl⟩
theorem wm_X8_181 : Cond.methodLink RX8 181 yX4_cheapest ∈ lw_g := List.mem_filter.mpr ⟨List.mem_of_getElem? (i := 453) (by decide +kernel), rfl⟩
theorem wi_X4_cheapest : Cond.instanceMethod yX4_cheapest ∈ lw_g := List.mem_filter.mpr ⟨List.mem_of_getElem? (i := 454) (by decide +kernel), rfl⟩
theorem wl_X4_cheapest : Cond.selects RX4 yX4_cheapest yX4_cheapest ∈ lw_g := List.mem_filter.mpr ⟨List.mem_of_getElem? (i := 455) (by decide +kernel), rfl⟩
theorem wc_X4_cheapest : Cond.code yX4_cheapest cX4_cheapest 7 (some .int) ∈ lw_g := List.mem_filter.mpr ⟨List.mem_of_getElem? (i := 456) (by decide +kernel), rfl⟩
theorem wm_X4_18 : Cond.methodLink RX4 18 yX5_empty ∈ lw_g := List.mem_filter.mpr ⟨List.mem_of_getElem? (i := 457) (by decide +kernel), rfl⟩
theorem wi_X5_empty : Cond.instanceMethod yX5_empty ∈ lw_g := List.mem_filter.mpr ⟨List.mem_of_getElem? (i := 458) (by decide +kernel), rfl⟩
theorem wl_X5_empty : Cond.selects RX5 yX5_empty yX5_empty ∈ lw_g := List.mem_filter.mpr ⟨List.mem_of_getElem? (i := 459) (by decide +kernel), rfl⟩
theorem wc_X5_empty : Cond.code yX5_empty cX5_empty 1 none ∈ lw_g := List.mem_filter.mpr ⟨List.mem_of_getElem? (i := 460) (by decide +kernel), rfl⟩
theorem wm_X4_27 : Cond.methodLink RX4 27 yX4_joinSource ∈ lw_g := List.mem_filter.mpr ⟨List.mem_of_getElem? (i := 461) (by decide +kernel), rfl⟩
theorem wi_X4_joinSource : Cond.instanceMethod yX4_joinSource ∈ lw_g := List.mem_filter.mpr ⟨List.mem_of_getElem? (i := 463) (by decide +kernel), rfl⟩
theorem wc_X4_joinSource : Cond.code yX4_joinSource cX4_joinSource 6 (some .int) ∈ lw_g := List.mem_filter.mpr ⟨List.mem_of_getElem? (i := 464) (by decide +kernel), rfl⟩
theorem wm_X4_36 : Cond.methodLink RX4 36 yX5_join ∈ lw_g := List.mem_filter.mpr ⟨List.mem_of_getElem? (i := 465) (by decide +kernel), rfl⟩
theorem wi_X5_join : Cond.instanceMethod yX5_join ∈ lw_g := List.mem_filter.mpr ⟨List.mem_of_getElem? (i := 466) (by decide +kernel), rfl⟩
theorem wl_X5_join : Cond.selects RX5 yX5_join yX5_join ∈ lw_g := List.mem_filter.mpr ⟨List.mem_of_getElem? (i := 467) (by decide +kernel), rfl⟩
theorem wc_X5_join : Cond.code yX5_join cX5_join 5 none ∈ lw_g := List.mem_filter.mpr ⟨List.mem_of_getElem? (i := 468) (by decide +kernel), rfl⟩
theorem wm_X5_40 : Cond.methodLink RX5 40 yX5_addArc ∈ lw_g := List.mem_filter.mpr ⟨List.mem_of_getElem? (i := 469) (by decide +kernel), rfl⟩
theorem wi_X5_addArc : Cond.instanceMethod yX5_addArc ∈ lw_g := List.mem_filter.mpr ⟨List.mem_of_getElem? (i := 471) (by decide +kernel), rfl⟩
theorem wc_X5_addArc : Cond.code yX5_addArc cX5_addArc 5 none ∈ lw_g := List.mem_filter.mpr ⟨List.mem_of_getElem? (i := 472) (by decide +kernel), rfl⟩
theorem wk_X4_31 : Cond.constant RX4 31 (1000000) ∈ lw_g := List.mem_filter.mpr ⟨List.mem_of_getElem? (i := 473) (by decide +kernel), rfl⟩
theorem wm_X4_40 : Cond.methodLink RX4 40 yX4_joinSink ∈ lw_g := List.mem_filter.mpr ⟨List.mem_of_getElem? (i := 474) (by decide +kernel), rfl⟩
theorem wi_X4_joinSink : Cond.instanceMethod yX4_joinSink ∈ lw_g := List.mem_filter.mpr ⟨List.mem_of_getElem? (i := 476) (by decide +kernel), rfl⟩
theorem wc_X4_joinSink : Cond.code yX4_joinSink cX4_joinSink 5 none ∈ lw_g := List.mem_filter.mpr ⟨List.mem_of_getElem? (i := 477) (by decide +kernel), rfl⟩
theorem wm_X4_44 : Cond.methodLink RX4 44 yX4_staying ∈ lw_g := List.mem_filter.mpr ⟨List.mem_of_getElem? (i := 478) (by decide +kernel), rfl⟩
theorem wa_X4_staying : Cond.static yX4_staying ∈ lw_g := List.mem_filter.mpr ⟨List.mem_of_getElem? (i := 479) (by decide +kernel), rfl⟩
theorem wc_X4_staying : Cond.code yX4_staying cX4_staying 5 (some .int) ∈ lw_g := List.mem_filter.mpr ⟨List.mem_of_getElem? (i := 480) (by decide +kernel), rfl⟩
theorem wm_X4_64 : Cond.methodLink RX4 64 Lib.Math.min.name ∈ lw_g := List.mem_filter.mpr ⟨List.mem_of_getElem? (i := 481) (by decide +kernel), rfl⟩
theorem wm_X4_47 : Cond.methodLink RX4 47 yX5_push ∈ lw_g := List.mem_filter.mpr ⟨List.mem_of_getElem? (i := 482) (by decide +kernel), rfl⟩
theorem wi_X5_push : Cond.instanceMethod yX5_push ∈ lw_g := List.mem_filter.mpr ⟨List.mem_of_getElem? (i := 483) (by decide +kernel), rfl⟩
theorem wl_X5_push : Cond.selects RX5 yX5_push yX5_push ∈ lw_g := List.mem_filter.mpr ⟨List.mem_of_getElem? (i := 484) (by decide +kernel), rfl⟩
theorem wc_X5_push : Cond.code yX5_push cX5_push 3 none ∈ lw_g := List.mem_filter.mpr ⟨List.mem_of_getElem? (i := 485) (by decide +kernel), rfl⟩
theorem wm_X5_44 : Cond.methodLink RX5 44 yX5_search ∈ lw_g := List.mem_filter.mpr ⟨List.mem_of_getElem? (i := 486) (by decide +kernel), rfl⟩
theorem wi_X5_search : Cond.instanceMethod yX5_search ∈ lw_g := List.mem_filter.mpr ⟨List.mem_of_getElem? (i := 488) (by decide +kernel), rfl⟩
theorem wc_X5_search : Cond.code yX5_search cX5_search 2 (some .boolean) ∈ lw_g := List.mem_filter.mpr ⟨List.mem_of_getElem? (i := 489) (by decide +kernel), rfl⟩
theorem wk_X5_52 : Cond.constant RX5 52 (1000000) ∈ lw_g := List.mem_filter.mpr ⟨List.mem_of_getElem? (i := 490) (by decide +kernel), rfl⟩
theorem wm_X5_53 : Cond.methodLink RX5 53 yJ7_fill_53178 ∈ lw_g := List.mem_filter.mpr ⟨List.mem_of_getElem? (i := 491) (by decide +kernel), rfl⟩
theorem wm_X5_59 : Cond.methodLink RX5 59 yX5_relax ∈ lw_g := List.mem_filter.mpr ⟨List.mem_of_getElem? (i := 492) (by decide +kernel), rfl⟩
theorem wi_X5_relax : Cond.instanceMethod yX5_relax ∈ lw_g := List.mem_filter.mpr ⟨List.mem_of_getElem? (i := 494) (by decide +kernel), rfl⟩
theorem wc_X5_relax : Cond.code yX5_relax cX5_relax 4 (some .boolean) ∈ lw_g := List.mem_filter.mpr ⟨List.mem_of_getElem? (i := 495) (by decide +kernel), rfl⟩
theorem wm_X5_62 : Cond.methodLink RX5 62 yX5_isReached ∈ lw_g := List.mem_filter.mpr ⟨List.mem_of_getElem? (i := 496) (by decide +kernel), rfl⟩
theorem wi_X5_isReached : Cond.instanceMethod yX5_isReached ∈ lw_g := List.mem_filter.mpr ⟨List.mem_of_getElem? (i := 497) (by decide +kernel), rfl⟩
theorem wl_X5_isReached : Cond.selects RX5 yX5_isReached yX5_isReached ∈ lw_g := List.mem_filter.mpr ⟨List.mem_of_getElem? (i := 498) (by decide +kernel), rfl⟩
theorem wc_X5_isReached : Cond.code yX5_isReached cX5_isReached 2 (some .boolean) ∈ lw_g := List.mem_filter.mpr ⟨List.mem_of_getElem? (i := 499) (by decide +kernel), rfl⟩
theorem wm_X5_48 : Cond.methodLink RX5 48 yX5_carry ∈ lw_g := List.mem_filter.mpr ⟨List.mem_of_getElem? (i := 500) (by decide +kernel), rfl⟩
theorem wi_X5_carry : Cond.instanceMethod yX5_carry ∈ lw_g := List.mem_filter.mpr ⟨List.mem_of_getElem? (i := 502) (by decide +kernel), rfl⟩
theorem wc_X5_carry : Cond.code yX5_carry cX5_carry 5 none ∈ lw_g := List.mem_filter.mpr ⟨List.mem_of_getElem? (i := 503) (by decide +kernel), rfl⟩
theorem wm_X5_66 : Cond.methodLink RX5 66 Lib.Math.min.name ∈ lw_g := List.mem_filter.mpr ⟨List.mem_of_getElem? (i := 504) (by decide +kernel), rfl⟩
theorem wm_L_61 : Cond.methodLink RL 61 yX8_plan ∈ lw_g := List.mem_filter.mpr ⟨List.mem_of_getElem? (i := 505) (by decide +kernel), rfl⟩
theorem wi_X8_plan : Cond.instanceMethod yX8_plan ∈ lw_g := List.mem_filter.mpr ⟨List.mem_of_getElem? (i := 506) (by decide +kernel), rfl⟩
theorem wl_X8_plan : Cond.selects RX8 yX8_plan yX8_plan ∈ lw_g := List.mem_filter.mpr ⟨List.mem_of_getElem? (i := 507) (by decide +kernel), rfl⟩
theorem wc_X8_plan : Cond.code yX8_plan cX8_plan 6 (some .int) ∈ lw_g := List.mem_filter.mpr ⟨List.mem_of_getElem? (i := 508) (by decide +kernel), rfl⟩
theorem wm_X8_140 : Cond.methodLink RX8 140 yX8_refusalAtPlaces ∈ lw_g := List.mem_filter.mpr ⟨List.mem_of_getElem? (i := 509) (by decide +kernel), rfl⟩
theorem wi_X8_refusalAtPlaces : Cond.instanceMethod yX8_refusalAtPlaces ∈ lw_g := List.mem_filter.mpr ⟨List.mem_of_getElem? (i := 511) (by decide +kernel), rfl⟩
theorem wc_X8_refusalAtPlaces : Cond.code yX8_refusalAtPlaces cX8_refusalAtPlaces 5 (some .int) ∈ lw_g := List.mem_filter.mpr ⟨List.mem_of_getElem? (i := 512) (by decide +kernel), rfl⟩
theorem wm_X8_144 : Cond.methodLink RX8 144 yX8_makePlan ∈ lw_g := List.mem_filter.mpr ⟨List.mem_of_getElem? (i := 513) (by decide +kernel), rfl⟩
theorem wi_X8_makePlan : Cond.instanceMethod yX8_makePlan ∈ lw_g := List.mem_filter.mpr ⟨List.mem_of_getElem? (i := 515) (by decide +kernel), rfl⟩
theorem wc_X8_makePlan : Cond.code yX8_makePlan cX8_makePlan 3 none ∈ lw_g := List.mem_filter.mpr ⟨List.mem_of_getElem? (i := 516) (by decide +kernel), rfl⟩
theorem wm_X8_212 : Cond.methodLink RX8 212 yX6_make ∈ lw_g := List.mem_filter.mpr ⟨List.mem_of_getElem? (i := 517) (by decide +kernel), rfl⟩
theorem wi_X6_make : Cond.instanceMethod yX6_make ∈ lw_g := List.mem_filter.mpr ⟨List.mem_of_getElem? (i := 518) (by decide +kernel), rfl⟩
theorem wl_X6_make : Cond.selects RX6 yX6_make yX6_make ∈ lw_g := List.mem_filter.mpr ⟨List.mem_of_getElem? (i := 519) (by decide +kernel), rfl⟩
theorem wc_X6_make : Cond.code yX6_make cX6_make 6 none ∈ lw_g := List.mem_filter.mpr ⟨List.mem_of_getElem? (i := 520) (by decide +kernel), rfl⟩
theorem wm_X6_29 : Cond.methodLink RX6 29 yX4_cheapest ∈ lw_g := List.mem_filter.mpr ⟨List.mem_of_getElem? (i := 521) (by decide +kernel), rfl⟩
theorem wm_X6_45 : Cond.methodLink RX6 45 yX6_takeGoods ∈ lw_g := List.mem_filter.mpr ⟨List.mem_of_getElem? (i := 522) (by decide +kernel), rfl⟩
theorem wi_X6_takeGoods : Cond.instanceMethod yX6_takeGoods ∈ lw_g := List.mem_filter.mpr ⟨List.mem_of_getElem? (i := 524) (by decide +kernel), rfl⟩
theorem wc_X6_takeGoods : Cond.code yX6_takeGoods cX6_takeGoods 8 none ∈ lw_g := List.mem_filter.mpr ⟨List.mem_of_getElem? (i := 525) (by decide +kernel), rfl⟩
theorem wm_X6_59 : Cond.methodLink RX6 59 yJ7_fill_53178 ∈ lw_g := List.mem_filter.mpr ⟨List.mem_of_getElem? (i := 526) (by decide +kernel), rfl⟩
theorem wm_X6_65 : Cond.methodLink RX6 65 Lib.Math.min.name ∈ lw_g := List.mem_filter.mpr ⟨List.mem_of_getElem? (i := 527) (by decide +kernel), rfl⟩
theorem wm_X6_49 : Cond.methodLink RX6 49 yX6_raiseHeights ∈ lw_g := List.mem_filter.mpr ⟨List.mem_of_getElem? (i := 528) (by decide +kernel), rfl⟩
theorem wi_X6_raiseHeights : Cond.instanceMethod yX6_raiseHeights ∈ lw_g := List.mem_filter.mpr ⟨List.mem_of_getElem? (i := 530) (by decide +kernel), rfl⟩
theorem wc_X6_raiseHeights : Cond.code yX6_raiseHeights cX6_raiseHeights 3 none ∈ lw_g := List.mem_filter.mpr ⟨List.mem_of_getElem? (i := 531) (by decide +kernel), rfl⟩
theorem wm_X6_85 : Cond.methodLink RX6 85 yX6_lowerHeights ∈ lw_g := List.mem_filter.mpr ⟨List.mem_of_getElem? (i := 532) (by decide +kernel), rfl⟩
theorem wi_X6_lowerHeights : Cond.instanceMethod yX6_lowerHeights ∈ lw_g := List.mem_filter.mpr ⟨List.mem_of_getElem? (i := 534) (by decide +kernel), rfl⟩
theorem wc_X6_lowerHeights : Cond.code yX6_lowerHeights cX6_lowerHeights 6 (some .boolean) ∈ lw_g := List.mem_filter.mpr ⟨List.mem_of_getElem? (i := 535) (by decide +kernel), rfl⟩
theorem wm_X6_53 : Cond.methodLink RX6 53 yX6_putFirst ∈ lw_g := List.mem_filter.mpr ⟨List.mem_of_getElem? (i := 536) (by decide +kernel), rfl⟩
theorem wi_X6_putFirst : Cond.instanceMethod yX6_putFirst ∈ lw_g := List.mem_filter.mpr ⟨List.mem_of_getElem? (i := 538) (by decide +kernel), rfl⟩
theorem wc_X6_putFirst : Cond.code yX6_putFirst cX6_putFirst 6 none ∈ lw_g := List.mem_filter.mpr ⟨List.mem_of_getElem? (i := 539) (by decide +kernel), rfl⟩
theorem wm_X6_89 : Cond.methodLink RX6 89 yX6_isTight ∈ lw_g := List.mem_filter.mpr ⟨List.mem_of_getElem? (i := 540) (by decide +kernel), rfl⟩
theorem wi_X6_isTight : Cond.instanceMethod yX6_isTight ∈ lw_g := List.mem_filter.mpr ⟨List.mem_of_getElem? (i := 542) (by decide +kernel), rfl⟩
theorem wc_X6_isTight : Cond.code yX6_isTight cX6_isTight 4 (some .boolean) ∈ lw_g := List.mem_filter.mpr ⟨List.mem_of_getElem? (i := 543) (by decide +kernel), rfl⟩
theorem wm_X6_93 : Cond.methodLink RX6 93 yX6_cell ∈ lw_g := List.mem_filter.mpr ⟨List.mem_of_getElem? (i := 544) (by decide +kernel), rfl⟩
theorem wa_X6_cell : Cond.static yX6_cell ∈ lw_g := List.mem_filter.mpr ⟨List.mem_of_getElem? (i := 545) (by decide +kernel), rfl⟩
theorem wc_X6_cell : Cond.code yX6_cell cX6_cell 2 (some .int) ∈ lw_g := List.mem_filter.mpr ⟨List.mem_of_getElem? (i := 546) (by decide +kernel), rfl⟩
theorem wm_X6_96 : Cond.methodLink RX6 96 yX6_findRing ∈ lw_g := List.mem_filter.mpr ⟨List.mem_of_getElem? (i := 547) (by decide +kernel), rfl⟩
theorem wi_X6_findRing : Cond.instanceMethod yX6_findRing ∈ lw_g := List.mem_filter.mpr ⟨List.mem_of_getElem? (i := 549) (by decide +kernel), rfl⟩
theorem wc_X6_findRing : Cond.code yX6_findRing cX6_findRing 10 (some .boolean) ∈ lw_g := List.mem_filter.mpr ⟨List.mem_of_getElem? (i := 550) (by decide +kernel), rfl⟩
theorem wm_X6_104 : Cond.methodLink RX6 104 yX6_reachColumns ∈ lw_g := List.mem_filter.mpr ⟨List.mem_of_getElem? (i := 551) (by decide +kernel), rfl⟩
theorem wi_X6_reachColumns : Cond.instanceMethod yX6_reachColumns ∈ lw_g := List.mem_filter.mpr ⟨List.mem_of_getElem? (i := 553) (by decide +kernel), rfl⟩
theorem wc_X6_reachColumns : Cond.code yX6_reachColumns cX6_reachColumns 7 (some .int) ∈ lw_g := List.mem_filter.mpr ⟨List.mem_of_getElem? (i := 554) (by decide +kernel), rfl⟩
theorem wm_X6_100 : Cond.methodLink RX6 100 yX6_turnRing ∈ lw_g := List.mem_filter.mpr ⟨List.mem_of_getElem? (i := 555) (by decide +kernel), rfl⟩
theorem wi_X6_turnRing : Cond.instanceMethod yX6_turnRing ∈ lw_g := List.mem_filter.mpr ⟨List.mem_of_getElem? (i := 557) (by decide +kernel), rfl⟩
theorem wc_X6_turnRing : Cond.code yX6_turnRing cX6_turnRing 7 none ∈ lw_g := List.mem_filter.mpr ⟨List.mem_of_getElem? (i := 558) (by decide +kernel), rfl⟩
theorem wm_X6_108 : Cond.methodLink RX6 108 yX6_ringAmount ∈ lw_g := List.mem_filter.mpr ⟨List.mem_of_getElem? (i := 559) (by decide +kernel), rfl⟩
theorem wi_X6_ringAmount : Cond.instanceMethod yX6_ringAmount ∈ lw_g := List.mem_filter.mpr ⟨List.mem_of_getElem? (i := 561) (by decide +kernel), rfl⟩
theorem wc_X6_ringAmount : Cond.code yX6_ringAmount cX6_ringAmount 7 (some .int) ∈ lw_g := List.mem_filter.mpr ⟨List.mem_of_getElem? (i := 562) (by decide +kernel), rfl⟩
theorem wm_L_66 : Cond.methodLink RL 66 yX8_alone ∈ lw_g := List.mem_filter.mpr ⟨List.mem_of_getElem? (i := 563) (by decide +kernel), rfl⟩
theorem wi_X8_alone : Cond.instanceMethod yX8_alone ∈ lw_g := List.mem_filter.mpr ⟨List.mem_of_getElem? (i := 564) (by decide +kernel), rfl⟩
theorem wl_X8_alone : Cond.selects RX8 yX8_alone yX8_alone ∈ lw_g := List.mem_filter.mpr ⟨List.mem_of_getElem? (i := 565) (by decide +kernel), rfl⟩
theorem wc_X8_alone : Cond.code yX8_alone cX8_alone 4 (some .int) ∈ lw_g := List.mem_filter.mpr ⟨List.mem_of_getElem? (i := 566) (by decide +kernel), rfl⟩
theorem wm_X8_151 : Cond.methodLink RX8 151 yX6_hasOther ∈ lw_g := List.mem_filter.mpr ⟨List.mem_of_getElem? (i := 567) (by decide +kernel), rfl⟩
theorem wi_X6_hasOther : Cond.instanceMethod yX6_hasOther ∈ lw_g := List.mem_filter.mpr ⟨List.mem_of_getElem? (i := 568) (by decide +kernel), rfl⟩
theorem wl_X6_hasOther : Cond.selects RX6 yX6_hasOther yX6_hasOther ∈ lw_g := List.mem_filter.mpr ⟨List.mem_of_getElem? (i := 569) (by decide +kernel), rfl⟩
theorem wc_X6_hasOther : Cond.code yX6_hasOther cX6_hasOther 4 (some .boolean) ∈ lw_g := List.mem_filter.mpr ⟨List.mem_of_getElem? (i := 570) (by decide +kernel), rfl⟩
theorem wm_L_70 : Cond.methodLink RL 70 yX8_height ∈ lw_g := List.mem_filter.mpr ⟨List.mem_of_getElem? (i := 571) (by decide +kernel), rfl⟩
theorem wi_X8_height : Cond.instanceMethod yX8_height ∈ lw_g := List.mem_filter.mpr ⟨List.mem_of_getElem? (i := 572) (by decide +kernel), rfl⟩
theorem wl_X8_height : Cond.selects RX8 yX8_height yX8_height ∈ lw_g := List.mem_filter.mpr ⟨List.mem_of_getElem? (i := 573) (by decide +kernel), rfl⟩
theorem wc_X8_height : Cond.code yX8_height cX8_height 4 (some .int) ∈ lw_g := List.mem_filter.mpr ⟨List.mem_of_getElem? (i := 574) (by decide +kernel), rfl⟩
theorem wk_X8_155 : Cond.constant RX8 155 (-2147483648) ∈ lw_g := List.mem_filter.mpr ⟨List.mem_of_getElem? (i := 575) (by decide +kernel), rfl⟩
theorem wm_L_74 : Cond.methodLink RL 74 yX8_load ∈ lw_g := List.mem_filter.mpr ⟨List.mem_of_getElem? (i := 576) (by decide +kernel), rfl⟩
theorem wi_X8_load : Cond.instanceMethod yX8_load ∈ lw_g := List.mem_filter.mpr ⟨List.mem_of_getElem? (i := 577) (by decide +kernel), rfl⟩
theorem wl_X8_load : Cond.selects RX8 yX8_load yX8_load ∈ lw_g := List.mem_filter.mpr ⟨List.mem_of_getElem? (i := 578) (by decide +kernel), rfl⟩
theorem wc_X8_load : Cond.code yX8_load cX8_load 6 (some .int) ∈ lw_g := List.mem_filter.mpr ⟨List.mem_of_getElem? (i := 579) (by decide +kernel), rfl⟩
theorem wm_X8_159 : Cond.methodLink RX8 159 yX6_carried ∈ lw_g := List.mem_filter.mpr ⟨List.mem_of_getElem? (i := 580) (by decide +kernel), rfl⟩
theorem wi_X6_carried : Cond.instanceMethod yX6_carried ∈ lw_g := List.mem_filter.mpr ⟨List.mem_of_getElem? (i := 581) (by decide +kernel), rfl⟩
theorem wl_X6_carried : Cond.selects RX6 yX6_carried yX6_carried ∈ lw_g := List.mem_filter.mpr ⟨List.mem_of_getElem? (i := 582) (by decide +kernel), rfl⟩
theorem wc_X6_carried : Cond.code yX6_carried cX6_carried 7 (some .int) ∈ lw_g := List.mem_filter.mpr ⟨List.mem_of_getElem? (i := 583) (by decide +kernel), rfl⟩
theorem wm_X6_111 : Cond.methodLink RX6 111 yX3_placeBehind ∈ lw_g := List.mem_filter.mpr ⟨List.mem_of_getElem? (i := 584) (by decide +kernel), rfl⟩
theorem wm_X6_114 : Cond.methodLink RX6 114 yX6_passes ∈ lw_g := List.mem_filter.mpr ⟨List.mem_of_getElem? (i := 585) (by decide +kernel), rfl⟩
theorem wa_X6_passes : Cond.static yX6_passes ∈ lw_g := List.mem_filter.mpr ⟨List.mem_of_getElem? (i := 586) (by decide +kernel), rfl⟩
theorem wc_X6_passes : Cond.code yX6_passes cX6_passes 6 (some .boolean) ∈ lw_g := List.mem_filter.mpr ⟨List.mem_of_getElem? (i := 587) (by decide +kernel), rfl⟩
theorem wm_L_78 : Cond.methodLink RL 78 yX8_far ∈ lw_g := List.mem_filter.mpr ⟨List.mem_of_getElem? (i := 588) (by decide +kernel), rfl⟩
theorem wi_X8_far : Cond.instanceMethod yX8_far ∈ lw_g := List.mem_filter.mpr ⟨List.mem_of_getElem? (i := 589) (by decide +kernel), rfl⟩
theorem wl_X8_far : Cond.selects RX8 yX8_far yX8_far ∈ lw_g := List.mem_filter.mpr ⟨List.mem_of_getElem? (i := 590) (by decide +kernel), rfl⟩
theorem wc_X8_far : Cond.code yX8_far cX8_far 4 (some .int) ∈ lw_g := List.mem_filter.mpr ⟨List.mem_of_getElem? (i := 591) (by decide +kernel), rfl⟩
theorem wm_X8_163 : Cond.methodLink RX8 163 yX8_makeReach ∈ lw_g := List.mem_filter.mpr ⟨List.mem_of_getElem? (i := 592) (by decide +kernel), rfl⟩
theorem wi_X8_makeReach : Cond.instanceMethod yX8_makeReach ∈ lw_g := List.mem_filter.mpr ⟨List.mem_of_getElem? (i := 594) (by decide +kernel), rfl⟩
theorem wc_X8_makeReach : Cond.code yX8_makeReach cX8_makeReach 3 none ∈ lw_g := List.mem_filter.mpr ⟨List.mem_of_getElem? (i := 595) (by decide +kernel), rfl⟩
theorem wm_X8_216 : Cond.methodLink RX8 216 yX7_make ∈ lw_g := List.mem_filter.mpr ⟨List.mem_of_getElem? (i := 596) (by decide +kernel), rfl⟩
theorem wi_X7_make : Cond.instanceMethod yX7_make ∈ lw_g := List.mem_filter.mpr ⟨List.mem_of_getElem? (i := 597) (by decide +kernel), rfl⟩
theorem wl_X7_make : Cond.selects RX7 yX7_make yX7_make ∈ lw_g := List.mem_filter.mpr ⟨List.mem_of_getElem? (i := 598) (by decide +kernel), rfl⟩
theorem wc_X7_make : Cond.code yX7_make cX7_make 6 none ∈ lw_g := List.mem_filter.mpr ⟨List.mem_of_getElem? (i := 599) (by decide +kernel), rfl⟩
theorem wm_X7_28 : Cond.methodLink RX7 28 yX7_joinEnds ∈ lw_g := List.mem_filter.mpr ⟨List.mem_of_getElem? (i := 600) (by decide +kernel), rfl⟩
theorem wi_X7_joinEnds : Cond.instanceMethod yX7_joinEnds ∈ lw_g := List.mem_filter.mpr ⟨List.mem_of_getElem? (i := 602) (by decide +kernel), rfl⟩
theorem wc_X7_joinEnds : Cond.code yX7_joinEnds cX7_joinEnds 5 none ∈ lw_g := List.mem_filter.mpr ⟨List.mem_of_getElem? (i := 603) (by decide +kernel), rfl⟩
theorem wm_X7_59 : Cond.methodLink RX7 59 yX5_empty ∈ lw_g := List.mem_filter.mpr ⟨List.mem_of_getElem? (i := 604) (by decide +kernel), rfl⟩
theorem wm_X7_62 : Cond.methodLink RX7 62 yX5_join ∈ lw_g := List.mem_filter.mpr ⟨List.mem_of_getElem? (i := 605) (by decide +kernel), rfl⟩
theorem wm_X7_32 : Cond.methodLink RX7 32 yJ7_fill_53178 ∈ lw_g := List.mem_filter.mpr ⟨List.mem_of_getElem? (i := 606) (by decide +kernel), rfl⟩
theorem wm_X7_41 : Cond.methodLink RX7 41 yX7_joinDistance ∈ lw_g := List.mem_filter.mpr ⟨List.mem_of_getElem? (i := 607) (by decide +kernel), rfl⟩
theorem wi_X7_joinDistance : Cond.instanceMethod yX7_joinDistance ∈ lw_g := List.mem_filter.mpr ⟨List.mem_of_getElem? (i := 609) (by decide +kernel), rfl⟩
theorem wc_X7_joinDistance : Cond.code yX7_joinDistance cX7_joinDistance 6 none ∈ lw_g := List.mem_filter.mpr ⟨List.mem_of_getElem? (i := 610) (by decide +kernel), rfl⟩
theorem wk_X7_70 : Cond.constant RX7 70 (1000000) ∈ lw_g := List.mem_filter.mpr ⟨List.mem_of_getElem? (i := 611) (by decide +kernel), rfl⟩
theorem wm_X7_45 : Cond.methodLink RX7 45 yX5_push ∈ lw_g := List.mem_filter.mpr ⟨List.mem_of_getElem? (i := 612) (by decide +kernel), rfl⟩
theorem wm_X7_52 : Cond.methodLink RX7 52 yX7_noteStuck ∈ lw_g := List.mem_filter.mpr ⟨List.mem_of_getElem? (i := 613) (by decide +kernel), rfl⟩
theorem wi_X7_noteStuck : Cond.instanceMethod yX7_noteStuck ∈ lw_g := List.mem_filter.mpr ⟨List.mem_of_getElem? (i := 615) (by decide +kernel), rfl⟩
theorem wc_X7_noteStuck : Cond.code yX7_noteStuck cX7_noteStuck 3 none ∈ lw_g := List.mem_filter.mpr ⟨List.mem_of_getElem? (i := 616) (by decide +kernel), rfl⟩
theorem wm_X7_71 : Cond.methodLink RX7 71 yX5_isReached ∈ lw_g := List.mem_filter.mpr ⟨List.mem_of_getElem? (i := 617) (by decide +kernel), rfl⟩
theorem wm_X7_55 : Cond.methodLink RX7 55 yX7_distanceAbove ∈ lw_g := List.mem_filter.mpr ⟨List.mem_of_getElem? (i := 618) (by decide +kernel), rfl⟩
theorem wa_X7_distanceAbove : Cond.static yX7_distanceAbove ∈ lw_g := List.mem_filter.mpr ⟨List.mem_of_getElem? (i := 619) (by decide +kernel), rfl⟩
theorem wc_X7_distanceAbove : Cond.code yX7_distanceAbove cX7_distanceAbove 5 (some .int) ∈ lw_g := List.mem_filter.mpr ⟨List.mem_of_getElem? (i := 620) (by decide +kernel), rfl⟩
theorem wm_X7_75 : Cond.methodLink RX7 75 Lib.Math.min.name ∈ lw_g := List.mem_filter.mpr ⟨List.mem_of_getElem? (i := 621) (by decide +kernel), rfl⟩
theorem wm_L_82 : Cond.methodLink RL 82 yX8_shown ∈ lw_g := List.mem_filter.mpr ⟨List.mem_of_getElem? (i := 622) (by decide +kernel), rfl⟩
theorem wi_X8_shown : Cond.instanceMethod yX8_shown ∈ lw_g := List.mem_filter.mpr ⟨List.mem_of_getElem? (i := 623) (by decide +kernel), rfl⟩
theorem wl_X8_shown : Cond.selects RX8 yX8_shown yX8_shown ∈ lw_g := List.mem_filter.mpr ⟨List.mem_of_getElem? (i := 624) (by decide +kernel), rfl⟩
theorem wc_X8_shown : Cond.code yX8_shown cX8_shown 5 (some .int) ∈ lw_g := List.mem_filter.mpr ⟨List.mem_of_getElem? (i := 625) (by decide +kernel), rfl⟩
theorem wm_L_86 : Cond.methodLink RL 86 yX8_some ∈ lw_g := List.mem_filter.mpr ⟨List.mem_of_getElem? (i := 626) (by decide +kernel), rfl⟩
theorem wi_X8_some : Cond.instanceMethod yX8_some ∈ lw_g := List.mem_filter.mpr ⟨List.mem_of_getElem? (i := 627) (by decide +kernel), rfl⟩
theorem wl_X8_some : Cond.selects RX8 yX8_some yX8_some ∈ lw_g := List.mem_filter.mpr ⟨List.mem_of_getElem? (i := 628) (by decide +kernel), rfl⟩
theorem wc_X8_some : Cond.code yX8_some cX8_some 4 (some .int) ∈ lw_g := List.mem_filter.mpr ⟨List.mem_of_getElem? (i := 629) (by decide +kernel), rfl⟩
theorem wm_X8_172 : Cond.methodLink RX8 172 Lib.Math.min.name ∈ lw_g := List.mem_filter.mpr ⟨List.mem_of_getElem? (i := 630) (by decide +kernel), rfl⟩
theorem wm_L_90 : Cond.methodLink RL 90 yX8_gated ∈ lw_g := List.mem_filter.mpr ⟨List.mem_of_getElem? (i := 631) (by decide +kernel), rfl⟩
theorem wi_X8_gated : Cond.instanceMethod yX8_gated ∈ lw_g := List.mem_filter.mpr ⟨List.mem_of_getElem? (i := 632) (by decide +kernel), rfl⟩
theorem wl_X8_gated : Cond.selects RX8 yX8_gated yX8_gated ∈ lw_g := List.mem_filter.mpr ⟨List.mem_of_getElem? (i := 633) (by decide +kernel), rfl⟩
theorem wc_X8_gated : Cond.code yX8_gated cX8_gated 4 (some .int) ∈ lw_g := List.mem_filter.mpr ⟨List.mem_of_getElem? (i := 634) (by decide +kernel), rfl⟩
theorem wm_X8_185 : Cond.methodLink RX8 185 yX4_cheapestThroughGates ∈ lw_g := List.mem_filter.mpr ⟨List.mem_of_getElem? (i := 635) (by decide +kernel), rfl⟩
theorem wi_X4_cheapestThroughGates : Cond.instanceMethod yX4_cheapestThroughGates ∈ lw_g := List.mem_filter.mpr ⟨List.mem_of_getElem? (i := 636) (by decide +kernel), rfl⟩
theorem wl_X4_cheapestThroughGates : Cond.selects RX4 yX4_cheapestThroughGates yX4_cheapestThroughGates ∈ lw_g := List.mem_filter.mpr ⟨List.mem_of_getElem? (i := 637) (by decide +kernel), rfl⟩
theorem wc_X4_cheapestThroughGates : Cond.code yX4_cheapestThroughGates cX4_cheapestThroughGates 8 (some .int) ∈ lw_g := List.mem_filter.mpr ⟨List.mem_of_getElem? (i := 638) (by decide +kernel), rfl⟩
theorem wm_L_94 : Cond.methodLink RL 94 yX8_draft ∈ lw_g := List.mem_filter.mpr ⟨List.mem_of_getElem? (i := 639) (by decide +kernel), rfl⟩
theorem wi_X8_draft : Cond.instanceMethod yX8_draft ∈ lw_g := List.mem_filter.mpr ⟨List.mem_of_getElem? (i := 640) (by decide +kernel), rfl⟩
theorem wl_X8_draft : Cond.selects RX8 yX8_draft yX8_draft ∈ lw_g := List.mem_filter.mpr ⟨List.mem_of_getElem? (i := 641) (by decide +kernel), rfl⟩
theorem wc_X8_draft : Cond.code yX8_draft cX8_draft 5 (some .int) ∈ lw_g := List.mem_filter.mpr ⟨List.mem_of_getElem? (i := 642) (by decide +kernel), rfl⟩
theorem wm_L_98 : Cond.methodLink RL 98 yX8_clear ∈ lw_g := List.mem_filter.mpr ⟨List.mem_of_getElem? (i := 643) (by decide +kernel), rfl⟩
theorem wi_X8_clear : Cond.instanceMethod yX8_clear ∈ lw_g := List.mem_filter.mpr ⟨List.mem_of_getElem? (i := 644) (by decide +kernel), rfl⟩
theorem wl_X8_clear : Cond.selects RX8 yX8_clear yX8_clear ∈ lw_g := List.mem_filter.mpr ⟨List.mem_of_getElem? (i := 645) (by decide +kernel), rfl⟩
theorem wc_X8_clear : Cond.code yX8_clear cX8_clear 2 (some .int) ∈ lw_g := List.mem_filter.mpr ⟨List.mem_of_getElem? (i := 646) (by decide +kernel), rfl⟩
theorem wm_X8_192 : Cond.methodLink RX8 192 yX1_others ∈ lw_g := List.mem_filter.mpr ⟨List.mem_of_getElem? (i := 647) (by decide +kernel), rfl⟩
theorem wi_X1_others : Cond.instanceMethod yX1_others ∈ lw_g := List.mem_filter.mpr ⟨List.mem_of_getElem? (i := 648) (by decide +kernel), rfl⟩
theorem wl_X1_others : Cond.selects RX1 yX1_others yX1_others ∈ lw_g := List.mem_filter.mpr ⟨List.mem_of_getElem? (i := 649) (by decide +kernel), rfl⟩
theorem wc_X1_others : Cond.code yX1_others cX1_others 4 (some .int) ∈ lw_g := List.mem_filter.mpr ⟨List.mem_of_getElem? (i := 650) (by decide +kernel), rfl⟩
theorem wm_X8_195 : Cond.methodLink RX8 195 yX1_wipe ∈ lw_g := List.mem_filter.mpr ⟨List.mem_of_getElem? (i := 651) (by decide +kernel), rfl⟩
theorem wi_X1_wipe : Cond.instanceMethod yX1_wipe ∈ lw_g := List.mem_filter.mpr ⟨List.mem_of_getElem? (i := 652) (by decide +kernel), rfl⟩
theorem wl_X1_wipe : Cond.selects RX1 yX1_wipe yX1_wipe ∈ lw_g := List.mem_filter.mpr ⟨List.mem_of_getElem? (i := 653) (by decide +kernel), rfl⟩
theorem wc_X1_wipe : Cond.code yX1_wipe cX1_wipe 2 none ∈ lw_g := List.mem_filter.mpr ⟨List.mem_of_getElem? (i := 654) (by decide +kernel), rfl⟩
theorem wm_X1_16 : Cond.methodLink RX1 16 yJ7_fill_53178 ∈ lw_g := List.mem_filter.mpr ⟨List.mem_of_getElem? (i := 655) (by decide +kernel), rfl⟩
theorem wm_L_102 : Cond.methodLink RL 102 yX8_copy ∈ lw_g := List.mem_filter.mpr ⟨List.mem_of_getElem? (i := 656) (by decide +kernel), rfl⟩
theorem wi_X8_copy : Cond.instanceMethod yX8_copy ∈ lw_g := List.mem_filter.mpr ⟨List.mem_of_getElem? (i := 657) (by decide +kernel), rfl⟩
theorem wl_X8_copy : Cond.selects RX8 yX8_copy yX8_copy ∈ lw_g := List.mem_filter.mpr ⟨List.mem_of_getElem? (i := 658) (by decide +kernel), rfl⟩
theorem wc_X8_copy : Cond.code yX8_copy cX8_copy 6 (some .int) ∈ lw_g := List.mem_filter.mpr ⟨List.mem_of_getElem? (i := 659) (by decide +kernel), rfl⟩
theorem wm_L_106 : Cond.methodLink RL 106 yX8_judge ∈ lw_g := List.mem_filter.mpr ⟨List.mem_of_getElem? (i := 660) (by decide +kernel), rfl⟩
theorem wi_X8_judge : Cond.instanceMethod yX8_judge ∈ lw_g := List.mem_filter.mpr ⟨List.mem_of_getElem? (i := 661) (by decide +kernel), rfl⟩
theorem wl_X8_judge : Cond.selects RX8 yX8_judge yX8_judge ∈ lw_g := List.mem_filter.mpr ⟨List.mem_of_getElem? (i := 662) (by decide +kernel), rfl⟩
theorem wc_X8_judge : Cond.code yX8_judge cX8_judge 5 (some .int) ∈ lw_g := List.mem_filter.mpr ⟨List.mem_of_getElem? (i := 663) (by decide +kernel), rfl⟩
theorem wm_X8_198 : Cond.methodLink RX8 198 yX1_firstWrongFrom ∈ lw_g := List.mem_filter.mpr ⟨List.mem_of_getElem? (i := 664) (by decide +kernel), rfl⟩
theorem wi_X1_firstWrongFrom : Cond.instanceMethod yX1_firstWrongFrom ∈ lw_g := List.mem_filter.mpr ⟨List.mem_of_getElem? (i := 665) (by decide +kernel), rfl⟩
theorem wl_X1_firstWrongFrom : Cond.selects RX1 yX1_firstWrongFrom yX1_firstWrongFrom ∈ lw_g := List.mem_filter.mpr ⟨List.mem_of_getElem? (i := 666) (by decide +kernel), rfl⟩
theorem wc_X1_firstWrongFrom : Cond.code yX1_firstWrongFrom cX1_firstWrongFrom 6 (some .int) ∈ lw_g := List.mem_filter.mpr ⟨List.mem_of_getElem? (i := 667) (by decide +kernel), rfl⟩
theorem wm_X8_202 : Cond.methodLink RX8 202 yX1_firstWrongTo ∈ lw_g := List.mem_filter.mpr ⟨List.mem_of_getElem? (i := 668) (by decide +kernel), rfl⟩
theorem wi_X1_firstWrongTo : Cond.instanceMethod yX1_firstWrongTo ∈ lw_g := List.mem_filter.mpr ⟨List.mem_of_getElem? (i := 669) (by decide +kernel), rfl⟩
theorem wl_X1_firstWrongTo : Cond.selects RX1 yX1_firstWrongTo yX1_firstWrongTo ∈ lw_g := List.mem_filter.mpr ⟨List.mem_of_getElem? (i := 670) (by decide +kernel), rfl⟩
theorem wc_X1_firstWrongTo : Cond.code yX1_firstWrongTo cX1_firstWrongTo 6 (some .int) ∈ lw_g := List.mem_filter.mpr ⟨List.mem_of_getElem? (i := 671) (by decide +kernel), rfl⟩
theorem wm_X8_205 : Cond.methodLink RX8 205 yX1_cost ∈ lw_g := List.mem_filter.mpr ⟨List.mem_of_getElem? (i := 672) (by decide +kernel), rfl⟩
theorem wi_X1_cost : Cond.instanceMethod yX1_cost ∈ lw_g := List.mem_filter.mpr ⟨List.mem_of_getElem? (i := 673) (by decide +kernel), rfl⟩
theorem wl_X1_cost : Cond.selects RX1 yX1_cost yX1_cost ∈ lw_g := List.mem_filter.mpr ⟨List.mem_of_getElem? (i := 674) (by decide +kernel), rfl⟩
theorem wc_X1_cost : Cond.code yX1_cost cX1_cost 5 (some .int) ∈ lw_g := List.mem_filter.mpr ⟨List.mem_of_getElem? (i := 675) (by decide +kernel), rfl⟩
theorem wm_L_110 : Cond.methodLink RL 110 yX8_beside ∈ lw_g := List.mem_filter.mpr ⟨List.mem_of_getElem? (i := 676) (by decide +kernel), rfl⟩
theorem wi_X8_beside : Cond.instanceMethod yX8_beside ∈ lw_g := List.mem_filter.mpr ⟨List.mem_of_getElem? (i := 677) (by decide +kernel), rfl⟩
theorem wl_X8_beside : Cond.selects RX8 yX8_beside yX8_beside ∈ lw_g := List.mem_filter.mpr ⟨List.mem_of_getElem? (i := 678) (by decide +kernel), rfl⟩
theorem wc_X8_beside : Cond.code yX8_beside cX8_beside 1 (some .int) ∈ lw_g := List.mem_filter.mpr ⟨List.mem_of_getElem? (i := 679) (by decide +kernel), rfl⟩
theorem wm_L_114 : Cond.methodLink RL 114 yX8_count ∈ lw_g := List.mem_filter.mpr ⟨List.mem_of_getElem? (i := 680) (by decide +kernel), rfl⟩
theorem wi_X8_count : Cond.instanceMethod yX8_count ∈ lw_g := List.mem_filter.mpr ⟨List.mem_of_getElem? (i := 681) (by decide +kernel), rfl⟩
theorem wl_X8_count : Cond.selects RX8 yX8_count yX8_count ∈ lw_g := List.mem_filter.mpr ⟨List.mem_of_getElem? (i := 682) (by decide +kernel), rfl⟩
theorem wc_X8_count : Cond.code yX8_count cX8_count 2 (some .int) ∈ lw_g := List.mem_filter.mpr ⟨List.mem_of_getElem? (i := 683) (by decide +kernel), rfl⟩
theorem wm_X8_209 : Cond.methodLink RX8 209 yX3_gates ∈ lw_g := List.mem_filter.mpr ⟨List.mem_of_getElem? (i := 684) (by decide +kernel), rfl⟩
theorem wi_X3_gates : Cond.instanceMethod yX3_gates ∈ lw_g := List.mem_filter.mpr ⟨List.mem_of_getElem? (i := 685) (by decide +kernel), rfl⟩
theorem wl_X3_gates : Cond.selects RX3 yX3_gates yX3_gates ∈ lw_g := List.mem_filter.mpr ⟨List.mem_of_getElem? (i := 686) (by decide +kernel), rfl⟩
theorem wc_X3_gates : Cond.code yX3_gates cX3_gates 3 (some .int) ∈ lw_g := List.mem_filter.mpr ⟨List.mem_of_getElem? (i := 687) (by decide +kernel), rfl⟩
theorem wq_L_10 : Cond.classLink RL 10 RX9 ∈ lw_g := List.mem_filter.mpr ⟨List.mem_of_getElem? (i := 688) (by decide +kernel), rfl⟩
theorem wb_X9 : Cond.instantiable RX9 31 ∈ lw_g := List.mem_filter.mpr ⟨List.mem_of_getElem? (i := 689) (by decide +kernel), rfl⟩
theorem wm_L_12 : Cond.methodLink RL 12 yX9_init ∈ lw_g := List.mem_filter.mpr ⟨List.mem_of_getElem? (i := 690) (by decide +kernel), rfl⟩
theorem wi_X9_init : Cond.instanceMethod yX9_init ∈ lw_g := List.mem_filter.mpr ⟨List.mem_of_getElem? (i := 691) (by decide +kernel), rfl⟩
theorem wc_X9_init : Cond.code yX9_init cX9_init 2 none ∈ lw_g := List.mem_filter.mpr ⟨List.mem_of_getElem? (i := 692) (by decide +kernel), rfl⟩
theorem wm_X9_1 : Cond.methodLink RX9 1 objectInit ∈ lw_g := List.mem_filter.mpr ⟨List.mem_of_getElem? (i := 693) (by decide +kernel), rfl⟩
theorem wf_X9_86 : Cond.fieldLink RX9 86 "HeapMoverModel" "places" "I" ∈ lw_g := List.mem_filter.mpr ⟨List.mem_of_getElem? (i := 694) (by decide +kernel), rfl⟩
theorem wf_X9_108 : Cond.fieldLink RX9 108 "HeapMoverModel" "roads" "I" ∈ lw_g := List.mem_filter.mpr ⟨List.mem_of_getElem? (i := 695) (by decide +kernel), rfl⟩
theorem wf_X9_7 : Cond.fieldLink RX9 7 "HeapMoverModel" "roadU" "[I" ∈ lw_g := List.mem_filter.mpr ⟨List.mem_of_getElem? (i := 696) (by decide +kernel), rfl⟩
theorem wf_X9_13 : Cond.fieldLink RX9 13 "HeapMoverModel" "roadV" "[I" ∈ lw_g := List.mem_filter.mpr ⟨List.mem_of_getElem? (i := 697) (by decide +kernel), rfl⟩
theorem wf_X9_16 : Cond.fieldLink RX9 16 "HeapMoverModel" "roadLength" "[I" ∈ lw_g := List.mem_filter.mpr ⟨List.mem_of_getElem? (i := 698) (by decide +kernel), rfl⟩
theorem wf_X9_94 : Cond.fieldLink RX9 94 "HeapMoverModel" "heaps" "I" ∈ lw_g := List.mem_filter.mpr ⟨List.mem_of_getElem? (i := 699) (by decide +kernel), rfl⟩
theorem wf_X9_19 : Cond.fieldLink RX9 19 "HeapMoverModel" "amounts" "[I" ∈ lw_g := List.mem_filter.mpr ⟨List.mem_of_getElem? (i := 700) (by decide +kernel), rfl⟩
theorem wf_X9_22 : Cond.fieldLink RX9 22 "HeapMoverModel" "bounds" "[I" ∈ lw_g := List.mem_filter.mpr ⟨List.mem_of_getElem? (i := 701) (by decide +kernel), rfl⟩
theorem wf_X9_25 : Cond.fieldLink RX9 25 "HeapMoverModel" "drafts" "[I" ∈ lw_g := List.mem_filter.mpr ⟨List.mem_of_getElem? (i := 702) (by decide +kernel), rfl⟩
theorem wf_X9_199 : Cond.fieldLink RX9 199 "HeapMoverModel" "beside" "I" ∈ lw_g := List.mem_filter.mpr ⟨List.mem_of_getElem? (i := 703) (by decide +kernel), rfl⟩
theorem wf_X9_97 : Cond.fieldLink RX9 97 "HeapMoverModel" "kept" "I" ∈ lw_g := List.mem_filter.mpr ⟨List.mem_of_getElem? (i := 704) (by decide +kernel), rfl⟩
theorem wf_X9_28 : Cond.fieldLink RX9 28 "HeapMoverModel" "keptWhat" "[I" ∈ lw_g := List.mem_filter.mpr ⟨List.mem_of_getElem? (i := 705) (by decide +kernel), rfl⟩
theorem wf_X9_31 : Cond.fieldLink RX9 31 "HeapMoverModel" "keptAt" "[I" ∈ lw_g := List.mem_filter.mpr ⟨List.mem_of_getElem? (i := 706) (by decide +kernel), rfl⟩
theorem wf_X9_34 : Cond.fieldLink RX9 34 "HeapMoverModel" "keptWas" "[I" ∈ lw_g := List.mem_filter.mpr ⟨List.mem_of_getElem? (i := 707) (by decide +kernel), rfl⟩
theorem wf_X9_37 : Cond.fieldLink RX9 37 "HeapMoverModel" "far" "[I" ∈ lw_g := List.mem_filter.mpr ⟨List.mem_of_getElem? (i := 708) (by decide +kernel), rfl⟩
theorem wf_X9_40 : Cond.fieldLink RX9 40 "HeapMoverModel" "flow" "[I" ∈ lw_g := List.mem_filter.mpr ⟨List.mem_of_getElem? (i := 709) (by decide +kernel), rfl⟩
theorem wf_X9_43 : Cond.fieldLink RX9 43 "HeapMoverModel" "supply" "[I" ∈ lw_g := List.mem_filter.mpr ⟨List.mem_of_getElem? (i := 710) (by decide +kernel), rfl⟩
theorem wf_X9_46 : Cond.fieldLink RX9 46 "HeapMoverModel" "demand" "[I" ∈ lw_g := List.mem_filter.mpr ⟨List.mem_of_getElem? (i := 711) (by decide +kernel), rfl⟩
theorem wf_X9_49 : Cond.fieldLink RX9 49 "HeapMoverModel" "heights" "[I" ∈ lw_g := List.mem_filter.mpr ⟨List.mem_of_getElem? (i := 712) (by decide +kernel), rfl⟩
theorem wf_X9_52 : Cond.fieldLink RX9 52 "HeapMoverModel" "dear" "[I" ∈ lw_g := List.mem_filter.mpr ⟨List.mem_of_getElem? (i := 713) (by decide +kernel), rfl⟩
theorem wf_X9_55 : Cond.fieldLink RX9 55 "HeapMoverModel" "came" "[I" ∈ lw_g := List.mem_filter.mpr ⟨List.mem_of_getElem? (i := 714) (by decide +kernel), rfl⟩
theorem wf_X9_58 : Cond.fieldLink RX9 58 "HeapMoverModel" "isFixed" "[Z" ∈ lw_g := List.mem_filter.mpr ⟨List.mem_of_getElem? (i := 715) (by decide +kernel), rfl⟩
theorem wf_X9_62 : Cond.fieldLink RX9 62 "HeapMoverModel" "isSeen" "[Z" ∈ lw_g := List.mem_filter.mpr ⟨List.mem_of_getElem? (i := 716) (by decide +kernel), rfl⟩
theorem wf_X9_65 : Cond.fieldLink RX9 65 "HeapMoverModel" "queue" "[I" ∈ lw_g := List.mem_filter.mpr ⟨List.mem_of_getElem? (i := 717) (by decide +kernel), rfl⟩
theorem wf_X9_182 : Cond.fieldLink RX9 182 "HeapMoverModel" "arcs" "I" ∈ lw_g := List.mem_filter.mpr ⟨List.mem_of_getElem? (i := 718) (by decide +kernel), rfl⟩
theorem wf_X9_68 : Cond.fieldLink RX9 68 "HeapMoverModel" "arcFrom" "[I" ∈ lw_g := List.mem_filter.mpr ⟨List.mem_of_getElem? (i := 719) (by decide +kernel), rfl⟩
theorem wf_X9_71 : Cond.fieldLink RX9 71 "HeapMoverModel" "arcTo" "[I" ∈ lw_g := List.mem_filter.mpr ⟨List.mem_of_getElem? (i := 720) (by decide +kernel), rfl⟩
theorem wf_X9_74 : Cond.fieldLink RX9 74 "HeapMoverModel" "arcRoom" "[I" ∈ lw_g := List.mem_filter.mpr ⟨List.mem_of_getElem? (i := 721) (by decide +kernel), rfl⟩
theorem wf_X9_77 : Cond.fieldLink RX9 77 "HeapMoverModel" "arcCost" "[I" ∈ lw_g := List.mem_filter.mpr ⟨List.mem_of_getElem? (i := 722) (by decide +kernel), rfl⟩
theorem wf_X9_80 : Cond.fieldLink RX9 80 "HeapMoverModel" "netDear" "[I" ∈ lw_g := List.mem_filter.mpr ⟨List.mem_of_getElem? (i := 723) (by decide +kernel), rfl⟩
theorem wf_X9_83 : Cond.fieldLink RX9 83 "HeapMoverModel" "netCame" "[I" ∈ lw_g := List.mem_filter.mpr ⟨List.mem_of_getElem? (i := 724) (by decide +kernel), rfl⟩
theorem wy_boolean : Cond.arrayClass .boolean ∈ lw_g := List.mem_filter.mpr ⟨List.mem_of_getElem? (i := 788) (by decide +kernel), rfl⟩
theorem wm_L_17 : Cond.methodLink RL 17 yX9_place ∈ lw_g := List.mem_filter.mpr ⟨List.mem_of_getElem? (i := 789) (by decide +kernel), rfl⟩
theorem wi_X9_place : Cond.instanceMethod yX9_place ∈ lw_g := List.mem_filter.mpr ⟨List.mem_of_getElem? (i := 790) (by decide +kernel), rfl⟩
theorem wl_X9_place : Cond.selects RX9 yX9_place yX9_place ∈ lw_g := List.mem_filter.mpr ⟨List.mem_of_getElem? (i := 791) (by decide +kernel), rfl⟩
theorem wc_X9_place : Cond.code yX9_place cX9_place 2 (some .int) ∈ lw_g := List.mem_filter.mpr ⟨List.mem_of_getElem? (i := 792) (by decide +kernel), rfl⟩
theorem wm_X9_100 : Cond.methodLink RX9 100 yX9_keep ∈ lw_g := List.mem_filter.mpr ⟨List.mem_of_getElem? (i := 793) (by decide +kernel), rfl⟩
theorem wi_X9_keep : Cond.instanceMethod yX9_keep ∈ lw_g := List.mem_filter.mpr ⟨List.mem_of_getElem? (i := 795) (by decide +kernel), rfl⟩
theorem wc_X9_keep : Cond.code yX9_keep cX9_keep 5 none ∈ lw_g := List.mem_filter.mpr ⟨List.mem_of_getElem? (i := 796) (by decide +kernel), rfl⟩
theorem wm_L_22 : Cond.methodLink RL 22 yX9_road ∈ lw_g := List.mem_filter.mpr ⟨List.mem_of_getElem? (i := 797) (by decide +kernel), rfl⟩
theorem wi_X9_road : Cond.instanceMethod yX9_road ∈ lw_g := List.mem_filter.mpr ⟨List.mem_of_getElem? (i := 798) (by decide +kernel), rfl⟩
theorem wl_X9_road : Cond.selects RX9 yX9_road yX9_road ∈ lw_g := List.mem_filter.mpr ⟨List.mem_of_getElem? (i := 799) (by decide +kernel), rfl⟩
theorem wc_X9_road : Cond.code yX9_road cX9_road 4 (some .int) ∈ lw_g := List.mem_filter.mpr ⟨List.mem_of_getElem? (i := 800) (by decide +kernel), rfl⟩
theorem wm_X9_104 : Cond.methodLink RX9 104 yX9_isPlace ∈ lw_g := List.mem_filter.mpr ⟨List.mem_of_getElem? (i := 801) (by decide +kernel), rfl⟩
theorem wi_X9_isPlace : Cond.instanceMethod yX9_isPlace ∈ lw_g := List.mem_filter.mpr ⟨List.mem_of_getElem? (i := 803) (by decide +kernel), rfl⟩
theorem wc_X9_isPlace : Cond.code yX9_isPlace cX9_isPlace 2 (some .boolean) ∈ lw_g := List.mem_filter.mpr ⟨List.mem_of_getElem? (i := 804) (by decide +kernel), rfl⟩
theorem wm_X9_90 : Cond.methodLink RX9 90 yX9_in ∈ lw_g := List.mem_filter.mpr ⟨List.mem_of_getElem? (i := 805) (by decide +kernel), rfl⟩
theorem wa_X9_in : Cond.static yX9_in ∈ lw_g := List.mem_filter.mpr ⟨List.mem_of_getElem? (i := 806) (by decide +kernel), rfl⟩
theorem wc_X9_in : Cond.code yX9_in cX9_in 3 (some .boolean) ∈ lw_g := List.mem_filter.mpr ⟨List.mem_of_getElem? (i := 807) (by decide +kernel), rfl⟩
theorem wm_L_26 : Cond.methodLink RL 26 yX9_heap ∈ lw_g := List.mem_filter.mpr ⟨List.mem_of_getElem? (i := 808) (by decide +kernel), rfl⟩
theorem wi_X9_heap : Cond.instanceMethod yX9_heap ∈ lw_g := List.mem_filter.mpr ⟨List.mem_of_getElem? (i := 809) (by decide +kernel), rfl⟩
theorem wl_X9_heap : Cond.selects RX9 yX9_heap yX9_heap ∈ lw_g := List.mem_filter.mpr ⟨List.mem_of_getElem? (i := 810) (by decide +kernel), rfl⟩
theorem wc_X9_heap : Cond.code yX9_heap cX9_heap 2 (some .int) ∈ lw_g := List.mem_filter.mpr ⟨List.mem_of_getElem? (i := 811) (by decide +kernel), rfl⟩
theorem wm_L_30 : Cond.methodLink RL 30 yX9_set ∈ lw_g := List.mem_filter.mpr ⟨List.mem_of_getElem? (i := 812) (by decide +kernel), rfl⟩
theorem wi_X9_set : Cond.instanceMethod yX9_set ∈ lw_g := List.mem_filter.mpr ⟨List.mem_of_getElem? (i := 813) (by decide +kernel), rfl⟩
theorem wl_X9_set : Cond.selects RX9 yX9_set yX9_set ∈ lw_g := List.mem_filter.mpr ⟨List.mem_of_getElem? (i := 814) (by decide +kernel), rfl⟩
theorem wc_X9_set : Cond.code yX9_set cX9_set 6 (some .int) ∈ lw_g := List.mem_filter.mpr ⟨List.mem_of_getElem? (i := 815) (by decide +kernel), rfl⟩
theorem wm_X9_111 : Cond.methodLink RX9 111 yX9_isHeap ∈ lw_g := List.mem_filter.mpr ⟨List.mem_of_getElem? (i := 816) (by decide +kernel), rfl⟩
theorem wi_X9_isHeap : Cond.instanceMethod yX9_isHeap ∈ lw_g := List.mem_filter.mpr ⟨List.mem_of_getElem? (i := 818) (by decide +kernel), rfl⟩
theorem wc_X9_isHeap : Cond.code yX9_isHeap cX9_isHeap 2 (some .boolean) ∈ lw_g := List.mem_filter.mpr ⟨List.mem_of_getElem? (i := 819) (by decide +kernel), rfl⟩
theorem wm_L_35 : Cond.methodLink RL 35 yX9_gate ∈ lw_g := List.mem_filter.mpr ⟨List.mem_of_getElem? (i := 820) (by decide +kernel), rfl⟩
theorem wi_X9_gate : Cond.instanceMethod yX9_gate ∈ lw_g := List.mem_filter.mpr ⟨List.mem_of_getElem? (i := 821) (by decide +kernel), rfl⟩
theorem wl_X9_gate : Cond.selects RX9 yX9_gate yX9_gate ∈ lw_g := List.mem_filter.mpr ⟨List.mem_of_getElem? (i := 822) (by decide +kernel), rfl⟩
theorem wc_X9_gate : Cond.code yX9_gate cX9_gate 4 (some .int) ∈ lw_g := List.mem_filter.mpr ⟨List.mem_of_getElem? (i := 823) (by decide +kernel), rfl⟩
theorem wk_X9_114 : Cond.constant RX9 114 (100000) ∈ lw_g := List.mem_filter.mpr ⟨List.mem_of_getElem? (i := 824) (by decide +kernel), rfl⟩
theorem wm_L_39 : Cond.methodLink RL 39 yX9_undo ∈ lw_g := List.mem_filter.mpr ⟨List.mem_of_getElem? (i := 825) (by decide +kernel), rfl⟩
theorem wi_X9_undo : Cond.instanceMethod yX9_undo ∈ lw_g := List.mem_filter.mpr ⟨List.mem_of_getElem? (i := 826) (by decide +kernel), rfl⟩
theorem wl_X9_undo : Cond.selects RX9 yX9_undo yX9_undo ∈ lw_g := List.mem_filter.mpr ⟨List.mem_of_getElem? (i := 827) (by decide +kernel), rfl⟩
theorem wc_X9_undo : Cond.code yX9_undo cX9_undo 4 (some .int) ∈ lw_g := List.mem_filter.mpr ⟨List.mem_of_getElem? (i := 828) (by decide +kernel), rfl⟩
theorem wm_L_43 : Cond.methodLink RL 43 yX9_apart ∈ lw_g := List.mem_filter.mpr ⟨List.mem_of_getElem? (i := 829) (by decide +kernel), rfl⟩
theorem wi_X9_apart : Cond.instanceMethod yX9_apart ∈ lw_g := List.mem_filter.mpr ⟨List.mem_of_getElem? (i := 830) (by decide +kernel), rfl⟩
theorem wl_X9_apart : Cond.selects RX9 yX9_apart yX9_apart ∈ lw_g := List.mem_filter.mpr ⟨List.mem_of_getElem? (i := 831) (by decide +kernel), rfl⟩
theorem wc_X9_apart : Cond.code yX9_apart cX9_apart 3 (some .int) ∈ lw_g := List.mem_filter.mpr ⟨List.mem_of_getElem? (i := 832) (by decide +kernel), rfl⟩
theorem wm_X9_116 : Cond.methodLink RX9 116 yX9_findFar ∈ lw_g := List.mem_filter.mpr ⟨List.mem_of_getElem? (i := 833) (by decide +kernel), rfl⟩
theorem wi_X9_findFar : Cond.instanceMethod yX9_findFar ∈ lw_g := List.mem_filter.mpr ⟨List.mem_of_getElem? (i := 835) (by decide +kernel), rfl⟩
theorem wc_X9_findFar : Cond.code yX9_findFar cX9_findFar 5 none ∈ lw_g := List.mem_filter.mpr ⟨List.mem_of_getElem? (i := 836) (by decide +kernel), rfl⟩
theorem wk_X9_115 : Cond.constant RX9 115 (1000000000) ∈ lw_g := List.mem_filter.mpr ⟨List.mem_of_getElem? (i := 837) (by decide +kernel), rfl⟩
theorem wm_L_47 : Cond.methodLink RL 47 yX9_next ∈ lw_g := List.mem_filter.mpr ⟨List.mem_of_getElem? (i := 838) (by decide +kernel), rfl⟩
theorem wi_X9_next : Cond.instanceMethod yX9_next ∈ lw_g := List.mem_filter.mpr ⟨List.mem_of_getElem? (i := 839) (by decide +kernel), rfl⟩
theorem wl_X9_next : Cond.selects RX9 yX9_next yX9_next ∈ lw_g := List.mem_filter.mpr ⟨List.mem_of_getElem? (i := 840) (by decide +kernel), rfl⟩
theorem wc_X9_next : Cond.code yX9_next cX9_next 3 (some .int) ∈ lw_g := List.mem_filter.mpr ⟨List.mem_of_getElem? (i := 841) (by decide +kernel), rfl⟩
theorem wm_X9_119 : Cond.methodLink RX9 119 yX9_nextTo ∈ lw_g := List.mem_filter.mpr ⟨List.mem_of_getElem? (i := 842) (by decide +kernel), rfl⟩
theorem wi_X9_nextTo : Cond.instanceMethod yX9_nextTo ∈ lw_g := List.mem_filter.mpr ⟨List.mem_of_getElem? (i := 844) (by decide +kernel), rfl⟩
theorem wc_X9_nextTo : Cond.code yX9_nextTo cX9_nextTo 7 (some .int) ∈ lw_g := List.mem_filter.mpr ⟨List.mem_of_getElem? (i := 845) (by decide +kernel), rfl⟩
theorem wm_L_51 : Cond.methodLink RL 51 yX9_amount ∈ lw_g := List.mem_filter.mpr ⟨List.mem_of_getElem? (i := 846) (by decide +kernel), rfl⟩
theorem wi_X9_amount : Cond.instanceMethod yX9_amount ∈ lw_g := List.mem_filter.mpr ⟨List.mem_of_getElem? (i := 847) (by decide +kernel), rfl⟩
theorem wl_X9_amount : Cond.selects RX9 yX9_amount yX9_amount ∈ lw_g := List.mem_filter.mpr ⟨List.mem_of_getElem? (i := 848) (by decide +kernel), rfl⟩
theorem wc_X9_amount : Cond.code yX9_amount cX9_amount 3 (some .int) ∈ lw_g := List.mem_filter.mpr ⟨List.mem_of_getElem? (i := 849) (by decide +kernel), rfl⟩
theorem wm_L_56 : Cond.methodLink RL 56 yX9_sum ∈ lw_g := List.mem_filter.mpr ⟨List.mem_of_getElem? (i := 850) (by decide +kernel), rfl⟩
theorem wi_X9_sum : Cond.instanceMethod yX9_sum ∈ lw_g := List.mem_filter.mpr ⟨List.mem_of_getElem? (i := 851) (by decide +kernel), rfl⟩
theorem wl_X9_sum : Cond.selects RX9 yX9_sum yX9_sum ∈ lw_g := List.mem_filter.mpr ⟨List.mem_of_getElem? (i := 852) (by decide +kernel), rfl⟩
theorem wc_X9_sum : Cond.code yX9_sum cX9_sum 2 (some .int) ∈ lw_g := List.mem_filter.mpr ⟨List.mem_of_getElem? (i := 853) (by decide +kernel), rfl⟩
theorem wm_X9_123 : Cond.methodLink RX9 123 yX9_sumOf ∈ lw_g := List.mem_filter.mpr ⟨List.mem_of_getElem? (i := 854) (by decide +kernel), rfl⟩
theorem wi_X9_sumOf : Cond.instanceMethod yX9_sumOf ∈ lw_g := List.mem_filter.mpr ⟨List.mem_of_getElem? (i := 856) (by decide +kernel), rfl⟩
theorem wc_X9_sumOf : Cond.code yX9_sumOf cX9_sumOf 4 (some .int) ∈ lw_g := List.mem_filter.mpr ⟨List.mem_of_getElem? (i := 857) (by decide +kernel), rfl⟩
theorem wm_L_60 : Cond.methodLink RL 60 yX9_least ∈ lw_g := List.mem_filter.mpr ⟨List.mem_of_getElem? (i := 858) (by decide +kernel), rfl⟩
theorem wi_X9_least : Cond.instanceMethod yX9_least ∈ lw_g := List.mem_filter.mpr ⟨List.mem_of_getElem? (i := 859) (by decide +kernel), rfl⟩
theorem wl_X9_least : Cond.selects RX9 yX9_least yX9_least ∈ lw_g := List.mem_filter.mpr ⟨List.mem_of_getElem? (i := 860) (by decide +kernel), rfl⟩
theorem wc_X9_least : Cond.code yX9_least cX9_least 4 (some .int) ∈ lw_g := List.mem_filter.mpr ⟨List.mem_of_getElem? (i := 861) (by decide +kernel), rfl⟩
theorem wm_X9_146 : Cond.methodLink RX9 146 yX9_against ∈ lw_g := List.mem_filter.mpr ⟨List.mem_of_getElem? (i := 862) (by decide +kernel), rfl⟩
theorem wi_X9_against : Cond.instanceMethod yX9_against ∈ lw_g := List.mem_filter.mpr ⟨List.mem_of_getElem? (i := 864) (by decide +kernel), rfl⟩
theorem wc_X9_against : Cond.code yX9_against cX9_against 3 (some .int) ∈ lw_g := List.mem_filter.mpr ⟨List.mem_of_getElem? (i := 865) (by decide +kernel), rfl⟩
theorem wm_X9_142 : Cond.methodLink RX9 142 yX9_isJoined ∈ lw_g := List.mem_filter.mpr ⟨List.mem_of_getElem? (i := 866) (by decide +kernel), rfl⟩
theorem wi_X9_isJoined : Cond.instanceMethod yX9_isJoined ∈ lw_g := List.mem_filter.mpr ⟨List.mem_of_getElem? (i := 868) (by decide +kernel), rfl⟩
theorem wc_X9_isJoined : Cond.code yX9_isJoined cX9_isJoined 3 (some .boolean) ∈ lw_g := List.mem_filter.mpr ⟨List.mem_of_getElem? (i := 869) (by decide +kernel), rfl⟩
theorem wm_X9_149 : Cond.methodLink RX9 149 yX9_solve ∈ lw_g := List.mem_filter.mpr ⟨List.mem_of_getElem? (i := 870) (by decide +kernel), rfl⟩
theorem wi_X9_solve : Cond.instanceMethod yX9_solve ∈ lw_g := List.mem_filter.mpr ⟨List.mem_of_getElem? (i := 872) (by decide +kernel), rfl⟩
theorem wc_X9_solve : Cond.code yX9_solve cX9_solve 6 (some .int) ∈ lw_g := List.mem_filter.mpr ⟨List.mem_of_getElem? (i := 873) (by decide +kernel), rfl⟩
theorem wm_X9_127 : Cond.methodLink RX9 127 yX9_begin ∈ lw_g := List.mem_filter.mpr ⟨List.mem_of_getElem? (i := 874) (by decide +kernel), rfl⟩
theorem wi_X9_begin : Cond.instanceMethod yX9_begin ∈ lw_g := List.mem_filter.mpr ⟨List.mem_of_getElem? (i := 876) (by decide +kernel), rfl⟩
theorem wc_X9_begin : Cond.code yX9_begin cX9_begin 4 none ∈ lw_g := List.mem_filter.mpr ⟨List.mem_of_getElem? (i := 877) (by decide +kernel), rfl⟩
theorem wm_X9_131 : Cond.methodLink RX9 131 yX9_findWay ∈ lw_g := List.mem_filter.mpr ⟨List.mem_of_getElem? (i := 878) (by decide +kernel), rfl⟩
theorem wi_X9_findWay : Cond.instanceMethod yX9_findWay ∈ lw_g := List.mem_filter.mpr ⟨List.mem_of_getElem? (i := 880) (by decide +kernel), rfl⟩
theorem wc_X9_findWay : Cond.code yX9_findWay cX9_findWay 5 (some .int) ∈ lw_g := List.mem_filter.mpr ⟨List.mem_of_getElem? (i := 881) (by decide +kernel), rfl⟩
theorem wm_X9_135 : Cond.methodLink RX9 135 yX9_go ∈ lw_g := List.mem_filter.mpr ⟨List.mem_of_getElem? (i := 882) (by decide +kernel), rfl⟩
theorem wi_X9_go : Cond.instanceMethod yX9_go ∈ lw_g := List.mem_filter.mpr ⟨List.mem_of_getElem? (i := 884) (by decide +kernel), rfl⟩
theorem wc_X9_go : Cond.code yX9_go cX9_go 6 (some .int) ∈ lw_g := List.mem_filter.mpr ⟨List.mem_of_getElem? (i := 885) (by decide +kernel), rfl⟩
theorem wm_X9_138 : Cond.methodLink RX9 138 yX9_costOf ∈ lw_g := List.mem_filter.mpr ⟨List.mem_of_getElem? (i := 886) (by decide +kernel), rfl⟩
theorem wi_X9_costOf : Cond.instanceMethod yX9_costOf ∈ lw_g := List.mem_filter.mpr ⟨List.mem_of_getElem? (i := 888) (by decide +kernel), rfl⟩
theorem wc_X9_costOf : Cond.code yX9_costOf cX9_costOf 5 (some .int) ∈ lw_g := List.mem_filter.mpr ⟨List.mem_of_getElem? (i := 889) (by decide +kernel), rfl⟩
theorem wm_L_65 : Cond.methodLink RL 65 yX9_plan ∈ lw_g := List.mem_filter.mpr ⟨List.mem_of_getElem? (i := 890) (by decide +kernel), rfl⟩
theorem wi_X9_plan : Cond.instanceMethod yX9_plan ∈ lw_g := List.mem_filter.mpr ⟨List.mem_of_getElem? (i := 891) (by decide +kernel), rfl⟩
theorem wl_X9_plan : Cond.selects RX9 yX9_plan yX9_plan ∈ lw_g := List.mem_filter.mpr ⟨List.mem_of_getElem? (i := 892) (by decide +kernel), rfl⟩
theorem wc_X9_plan : Cond.code yX9_plan cX9_plan 6 (some .int) ∈ lw_g := List.mem_filter.mpr ⟨List.mem_of_getElem? (i := 893) (by decide +kernel), rfl⟩
theorem wm_X9_169 : Cond.methodLink RX9 169 yX9_findPlan ∈ lw_g := List.mem_filter.mpr ⟨List.mem_of_getElem? (i := 894) (by decide +kernel), rfl⟩
theorem wi_X9_findPlan : Cond.instanceMethod yX9_findPlan ∈ lw_g := List.mem_filter.mpr ⟨List.mem_of_getElem? (i := 896) (by decide +kernel), rfl⟩
theorem wc_X9_findPlan : Cond.code yX9_findPlan cX9_findPlan 6 none ∈ lw_g := List.mem_filter.mpr ⟨List.mem_of_getElem? (i := 897) (by decide +kernel), rfl⟩
theorem wm_X9_157 : Cond.methodLink RX9 157 yX9_findHeights ∈ lw_g := List.mem_filter.mpr ⟨List.mem_of_getElem? (i := 898) (by decide +kernel), rfl⟩
theorem wi_X9_findHeights : Cond.instanceMethod yX9_findHeights ∈ lw_g := List.mem_filter.mpr ⟨List.mem_of_getElem? (i := 900) (by decide +kernel), rfl⟩
theorem wc_X9_findHeights : Cond.code yX9_findHeights cX9_findHeights 5 none ∈ lw_g := List.mem_filter.mpr ⟨List.mem_of_getElem? (i := 901) (by decide +kernel), rfl⟩
theorem wm_X9_160 : Cond.methodLink RX9 160 yX9_loosen ∈ lw_g := List.mem_filter.mpr ⟨List.mem_of_getElem? (i := 902) (by decide +kernel), rfl⟩
theorem wi_X9_loosen : Cond.instanceMethod yX9_loosen ∈ lw_g := List.mem_filter.mpr ⟨List.mem_of_getElem? (i := 904) (by decide +kernel), rfl⟩
theorem wc_X9_loosen : Cond.code yX9_loosen cX9_loosen 2 none ∈ lw_g := List.mem_filter.mpr ⟨List.mem_of_getElem? (i := 905) (by decide +kernel), rfl⟩
theorem wm_X9_153 : Cond.methodLink RX9 153 yX9_isTight ∈ lw_g := List.mem_filter.mpr ⟨List.mem_of_getElem? (i := 906) (by decide +kernel), rfl⟩
theorem wi_X9_isTight : Cond.instanceMethod yX9_isTight ∈ lw_g := List.mem_filter.mpr ⟨List.mem_of_getElem? (i := 908) (by decide +kernel), rfl⟩
theorem wc_X9_isTight : Cond.code yX9_isTight cX9_isTight 3 (some .boolean) ∈ lw_g := List.mem_filter.mpr ⟨List.mem_of_getElem? (i := 909) (by decide +kernel), rfl⟩
theorem wm_X9_163 : Cond.methodLink RX9 163 yX9_canTurn ∈ lw_g := List.mem_filter.mpr ⟨List.mem_of_getElem? (i := 910) (by decide +kernel), rfl⟩
theorem wi_X9_canTurn : Cond.instanceMethod yX9_canTurn ∈ lw_g := List.mem_filter.mpr ⟨List.mem_of_getElem? (i := 912) (by decide +kernel), rfl⟩
theorem wc_X9_canTurn : Cond.code yX9_canTurn cX9_canTurn 10 (some .boolean) ∈ lw_g := List.mem_filter.mpr ⟨List.mem_of_getElem? (i := 913) (by decide +kernel), rfl⟩
theorem wm_X9_166 : Cond.methodLink RX9 166 yX9_turn ∈ lw_g := List.mem_filter.mpr ⟨List.mem_of_getElem? (i := 914) (by decide +kernel), rfl⟩
theorem wi_X9_turn : Cond.instanceMethod yX9_turn ∈ lw_g := List.mem_filter.mpr ⟨List.mem_of_getElem? (i := 916) (by decide +kernel), rfl⟩
theorem wc_X9_turn : Cond.code yX9_turn cX9_turn 6 none ∈ lw_g := List.mem_filter.mpr ⟨List.mem_of_getElem? (i := 917) (by decide +kernel), rfl⟩
theorem wm_L_69 : Cond.methodLink RL 69 yX9_alone ∈ lw_g := List.mem_filter.mpr ⟨List.mem_of_getElem? (i := 918) (by decide +kernel), rfl⟩
theorem wi_X9_alone : Cond.instanceMethod yX9_alone ∈ lw_g := List.mem_filter.mpr ⟨List.mem_of_getElem? (i := 919) (by decide +kernel), rfl⟩
theorem wl_X9_alone : Cond.selects RX9 yX9_alone yX9_alone ∈ lw_g := List.mem_filter.mpr ⟨List.mem_of_getElem? (i := 920) (by decide +kernel), rfl⟩
theorem wc_X9_alone : Cond.code yX9_alone cX9_alone 6 (some .int) ∈ lw_g := List.mem_filter.mpr ⟨List.mem_of_getElem? (i := 921) (by decide +kernel), rfl⟩
theorem wm_L_73 : Cond.methodLink RL 73 yX9_height ∈ lw_g := List.mem_filter.mpr ⟨List.mem_of_getElem? (i := 922) (by decide +kernel), rfl⟩
theorem wi_X9_height : Cond.instanceMethod yX9_height ∈ lw_g := List.mem_filter.mpr ⟨List.mem_of_getElem? (i := 923) (by decide +kernel), rfl⟩
theorem wl_X9_height : Cond.selects RX9 yX9_height yX9_height ∈ lw_g := List.mem_filter.mpr ⟨List.mem_of_getElem? (i := 924) (by decide +kernel), rfl⟩
theorem wc_X9_height : Cond.code yX9_height cX9_height 5 (some .int) ∈ lw_g := List.mem_filter.mpr ⟨List.mem_of_getElem? (i := 925) (by decide +kernel), rfl⟩
theorem wk_X9_172 : Cond.constant RX9 172 (-2147483648) ∈ lw_g := List.mem_filter.mpr ⟨List.mem_of_getElem? (i := 926) (by decide +kernel), rfl⟩
theorem wm_L_77 : Cond.methodLink RL 77 yX9_load ∈ lw_g := List.mem_filter.mpr ⟨List.mem_of_getElem? (i := 927) (by decide +kernel), rfl⟩
theorem wi_X9_load : Cond.instanceMethod yX9_load ∈ lw_g := List.mem_filter.mpr ⟨List.mem_of_getElem? (i := 928) (by decide +kernel), rfl⟩
theorem wl_X9_load : Cond.selects RX9 yX9_load yX9_load ∈ lw_g := List.mem_filter.mpr ⟨List.mem_of_getElem? (i := 929) (by decide +kernel), rfl⟩
theorem wc_X9_load : Cond.code yX9_load cX9_load 11 (some .int) ∈ lw_g := List.mem_filter.mpr ⟨List.mem_of_getElem? (i := 930) (by decide +kernel), rfl⟩
theorem wm_L_81 : Cond.methodLink RL 81 yX9_far ∈ lw_g := List.mem_filter.mpr ⟨List.mem_of_getElem? (i := 931) (by decide +kernel), rfl⟩
theorem wi_X9_far : Cond.instanceMethod yX9_far ∈ lw_g := List.mem_filter.mpr ⟨List.mem_of_getElem? (i := 932) (by decide +kernel), rfl⟩
theorem wl_X9_far : Cond.selects RX9 yX9_far yX9_far ∈ lw_g := List.mem_filter.mpr ⟨List.mem_of_getElem? (i := 933) (by decide +kernel), rfl⟩
theorem wc_X9_far : Cond.code yX9_far cX9_far 4 (some .int) ∈ lw_g := List.mem_filter.mpr ⟨List.mem_of_getElem? (i := 934) (by decide +kernel), rfl⟩
theorem wm_X9_179 : Cond.methodLink RX9 179 yX9_findFarthest ∈ lw_g := List.mem_filter.mpr ⟨List.mem_of_getElem? (i := 935) (by decide +kernel), rfl⟩
theorem wi_X9_findFarthest : Cond.instanceMethod yX9_findFarthest ∈ lw_g := List.mem_filter.mpr ⟨List.mem_of_getElem? (i := 937) (by decide +kernel), rfl⟩
theorem wc_X9_findFarthest : Cond.code yX9_findFarthest cX9_findFarthest 8 (some .int) ∈ lw_g := List.mem_filter.mpr ⟨List.mem_of_getElem? (i := 938) (by decide +kernel), rfl⟩
theorem wm_X9_176 : Cond.methodLink RX9 176 yX9_fits ∈ lw_g := List.mem_filter.mpr ⟨List.mem_of_getElem? (i := 939) (by decide +kernel), rfl⟩
theorem wi_X9_fits : Cond.instanceMethod yX9_fits ∈ lw_g := List.mem_filter.mpr ⟨List.mem_of_getElem? (i := 941) (by decide +kernel), rfl⟩
theorem wc_X9_fits : Cond.code yX9_fits cX9_fits 7 (some .boolean) ∈ lw_g := List.mem_filter.mpr ⟨List.mem_of_getElem? (i := 942) (by decide +kernel), rfl⟩
theorem wm_X9_173 : Cond.methodLink RX9 173 yX9_reach ∈ lw_g := List.mem_filter.mpr ⟨List.mem_of_getElem? (i := 943) (by decide +kernel), rfl⟩
theorem wi_X9_reach : Cond.instanceMethod yX9_reach ∈ lw_g := List.mem_filter.mpr ⟨List.mem_of_getElem? (i := 945) (by decide +kernel), rfl⟩
theorem wc_X9_reach : Cond.code yX9_reach cX9_reach 8 (some .int) ∈ lw_g := List.mem_filter.mpr ⟨List.mem_of_getElem? (i := 946) (by decide +kernel), rfl⟩
theorem wm_L_85 : Cond.methodLink RL 85 yX9_shown ∈ lw_g := List.mem_filter.mpr ⟨List.mem_of_getElem? (i := 947) (by decide +kernel), rfl⟩
theorem wi_X9_shown : Cond.instanceMethod yX9_shown ∈ lw_g := List.mem_filter.mpr ⟨List.mem_of_getElem? (i := 948) (by decide +kernel), rfl⟩
theorem wl_X9_shown : Cond.selects RX9 yX9_shown yX9_shown ∈ lw_g := List.mem_filter.mpr ⟨List.mem_of_getElem? (i := 949) (by decide +kernel), rfl⟩
theorem wc_X9_shown : Cond.code yX9_shown cX9_shown 7 (some .int) ∈ lw_g := List.mem_filter.mpr ⟨List.mem_of_getElem? (i := 950) (by decide +kernel), rfl⟩
theorem wm_L_89 : Cond.methodLink RL 89 yX9_some ∈ lw_g := List.mem_filter.mpr ⟨List.mem_of_getElem? (i := 951) (by decide +kernel), rfl⟩
theorem wi_X9_some : Cond.instanceMethod yX9_some ∈ lw_g := List.mem_filter.mpr ⟨List.mem_of_getElem? (i := 952) (by decide +kernel), rfl⟩
theorem wl_X9_some : Cond.selects RX9 yX9_some yX9_some ∈ lw_g := List.mem_filter.mpr ⟨List.mem_of_getElem? (i := 953) (by decide +kernel), rfl⟩
theorem wc_X9_some : Cond.code yX9_some cX9_some 6 (some .int) ∈ lw_g := List.mem_filter.mpr ⟨List.mem_of_getElem? (i := 954) (by decide +kernel), rfl⟩
theorem wm_L_93 : Cond.methodLink RL 93 yX9_gated ∈ lw_g := List.mem_filter.mpr ⟨List.mem_of_getElem? (i := 955) (by decide +kernel), rfl⟩
theorem wi_X9_gated : Cond.instanceMethod yX9_gated ∈ lw_g := List.mem_filter.mpr ⟨List.mem_of_getElem? (i := 956) (by decide +kernel), rfl⟩
theorem wl_X9_gated : Cond.selects RX9 yX9_gated yX9_gated ∈ lw_g := List.mem_filter.mpr ⟨List.mem_of_getElem? (i := 957) (by decide +kernel), rfl⟩
theorem wc_X9_gated : Cond.code yX9_gated cX9_gated 8 (some .int) ∈ lw_g := List.mem_filter.mpr ⟨List.mem_of_getElem? (i := 958) (by decide +kernel), rfl⟩
theorem wm_X9_185 : Cond.methodLink RX9 185 yX9_arc ∈ lw_g := List.mem_filter.mpr ⟨List.mem_of_getElem? (i := 959) (by decide +kernel), rfl⟩
theorem wi_X9_arc : Cond.instanceMethod yX9_arc ∈ lw_g := List.mem_filter.mpr ⟨List.mem_of_getElem? (i := 961) (by decide +kernel), rfl⟩
theorem wc_X9_arc : Cond.code yX9_arc cX9_arc 5 none ∈ lw_g := List.mem_filter.mpr ⟨List.mem_of_getElem? (i := 962) (by decide +kernel), rfl⟩
theorem wm_X9_189 : Cond.methodLink RX9 189 yX9_hasNetWay ∈ lw_g := List.mem_filter.mpr ⟨List.mem_of_getElem? (i := 963) (by decide +kernel), rfl⟩
theorem wi_X9_hasNetWay : Cond.instanceMethod yX9_hasNetWay ∈ lw_g := List.mem_filter.mpr ⟨List.mem_of_getElem? (i := 965) (by decide +kernel), rfl⟩
theorem wc_X9_hasNetWay : Cond.code yX9_hasNetWay cX9_hasNetWay 4 (some .boolean) ∈ lw_g := List.mem_filter.mpr ⟨List.mem_of_getElem? (i := 966) (by decide +kernel), rfl⟩
theorem wm_X9_192 : Cond.methodLink RX9 192 yX9_goNet ∈ lw_g := List.mem_filter.mpr ⟨List.mem_of_getElem? (i := 967) (by decide +kernel), rfl⟩
theorem wi_X9_goNet : Cond.instanceMethod yX9_goNet ∈ lw_g := List.mem_filter.mpr ⟨List.mem_of_getElem? (i := 969) (by decide +kernel), rfl⟩
theorem wc_X9_goNet : Cond.code yX9_goNet cX9_goNet 4 (some .int) ∈ lw_g := List.mem_filter.mpr ⟨List.mem_of_getElem? (i := 970) (by decide +kernel), rfl⟩
theorem wm_L_97 : Cond.methodLink RL 97 yX9_draft ∈ lw_g := List.mem_filter.mpr ⟨List.mem_of_getElem? (i := 971) (by decide +kernel), rfl⟩
theorem wi_X9_draft : Cond.instanceMethod yX9_draft ∈ lw_g := List.mem_filter.mpr ⟨List.mem_of_getElem? (i := 972) (by decide +kernel), rfl⟩
theorem wl_X9_draft : Cond.selects RX9 yX9_draft yX9_draft ∈ lw_g := List.mem_filter.mpr ⟨List.mem_of_getElem? (i := 973) (by decide +kernel), rfl⟩
theorem wc_X9_draft : Cond.code yX9_draft cX9_draft 5 (some .int) ∈ lw_g := List.mem_filter.mpr ⟨List.mem_of_getElem? (i := 974) (by decide +kernel), rfl⟩
theorem wm_L_101 : Cond.methodLink RL 101 yX9_clear ∈ lw_g := List.mem_filter.mpr ⟨List.mem_of_getElem? (i := 975) (by decide +kernel), rfl⟩
theorem wi_X9_clear : Cond.instanceMethod yX9_clear ∈ lw_g := List.mem_filter.mpr ⟨List.mem_of_getElem? (i := 976) (by decide +kernel), rfl⟩
theorem wl_X9_clear : Cond.selects RX9 yX9_clear yX9_clear ∈ lw_g := List.mem_filter.mpr ⟨List.mem_of_getElem? (i := 977) (by decide +kernel), rfl⟩
theorem wc_X9_clear : Cond.code yX9_clear cX9_clear 3 (some .int) ∈ lw_g := List.mem_filter.mpr ⟨List.mem_of_getElem? (i := 978) (by decide +kernel), rfl⟩
theorem wm_L_105 : Cond.methodLink RL 105 yX9_copy ∈ lw_g := List.mem_filter.mpr ⟨List.mem_of_getElem? (i := 979) (by decide +kernel), rfl⟩
theorem wi_X9_copy : Cond.instanceMethod yX9_copy ∈ lw_g := List.mem_filter.mpr ⟨List.mem_of_getElem? (i := 980) (by decide +kernel), rfl⟩
theorem wl_X9_copy : Cond.selects RX9 yX9_copy yX9_copy ∈ lw_g := List.mem_filter.mpr ⟨List.mem_of_getElem? (i := 981) (by decide +kernel), rfl⟩
theorem wc_X9_copy : Cond.code yX9_copy cX9_copy 6 (some .int) ∈ lw_g := List.mem_filter.mpr ⟨List.mem_of_getElem? (i := 982) (by decide +kernel), rfl⟩
theorem wm_L_109 : Cond.methodLink RL 109 yX9_judge ∈ lw_g := List.mem_filter.mpr ⟨List.mem_of_getElem? (i := 983) (by decide +kernel), rfl⟩
theorem wi_X9_judge : Cond.instanceMethod yX9_judge ∈ lw_g := List.mem_filter.mpr ⟨List.mem_of_getElem? (i := 984) (by decide +kernel), rfl⟩
theorem wl_X9_judge : Cond.selects RX9 yX9_judge yX9_judge ∈ lw_g := List.mem_filter.mpr ⟨List.mem_of_getElem? (i := 985) (by decide +kernel), rfl⟩
theorem wc_X9_judge : Cond.code yX9_judge cX9_judge 6 (some .int) ∈ lw_g := List.mem_filter.mpr ⟨List.mem_of_getElem? (i := 986) (by decide +kernel), rfl⟩
theorem wm_X9_195 : Cond.methodLink RX9 195 yX9_drafted ∈ lw_g := List.mem_filter.mpr ⟨List.mem_of_getElem? (i := 987) (by decide +kernel), rfl⟩
theorem wi_X9_drafted : Cond.instanceMethod yX9_drafted ∈ lw_g := List.mem_filter.mpr ⟨List.mem_of_getElem? (i := 989) (by decide +kernel), rfl⟩
theorem wc_X9_drafted : Cond.code yX9_drafted cX9_drafted 5 (some .int) ∈ lw_g := List.mem_filter.mpr ⟨List.mem_of_getElem? (i := 990) (by decide +kernel), rfl⟩
theorem wm_L_113 : Cond.methodLink RL 113 yX9_beside ∈ lw_g := List.mem_filter.mpr ⟨List.mem_of_getElem? (i := 991) (by decide +kernel), rfl⟩
theorem wi_X9_beside : Cond.instanceMethod yX9_beside ∈ lw_g := List.mem_filter.mpr ⟨List.mem_of_getElem? (i := 992) (by decide +kernel), rfl⟩
theorem wl_X9_beside : Cond.selects RX9 yX9_beside yX9_beside ∈ lw_g := List.mem_filter.mpr ⟨List.mem_of_getElem? (i := 993) (by decide +kernel), rfl⟩
theorem wc_X9_beside : Cond.code yX9_beside cX9_beside 1 (some .int) ∈ lw_g := List.mem_filter.mpr ⟨List.mem_of_getElem? (i := 994) (by decide +kernel), rfl⟩
theorem wm_L_117 : Cond.methodLink RL 117 yX9_count ∈ lw_g := List.mem_filter.mpr ⟨List.mem_of_getElem? (i := 995) (by decide +kernel), rfl⟩
theorem wi_X9_count : Cond.instanceMethod yX9_count ∈ lw_g := List.mem_filter.mpr ⟨List.mem_of_getElem? (i := 996) (by decide +kernel), rfl⟩
theorem wl_X9_count : Cond.selects RX9 yX9_count yX9_count ∈ lw_g := List.mem_filter.mpr ⟨List.mem_of_getElem? (i := 997) (by decide +kernel), rfl⟩
theorem wc_X9_count : Cond.code yX9_count cX9_count 4 (some .int) ∈ lw_g := List.mem_filter.mpr ⟨List.mem_of_getElem? (i := 998) (by decide +kernel), rfl⟩
theorem wv_X0 : ∀ w ∈ wsX00, w ∈ lw_tbl := by decide +kernel
theorem wu_X0 : ∀ w ∈ wsX00, w ∈ lw_g := fun w h => List.mem_filter.mpr ⟨wv_X0 w h, List.all_eq_true.mp (show wsX00.all goodWord = true by decide +kernel) w h⟩
theorem wv_X1 : ∀ w ∈ wsX10, w ∈ lw_tbl := by decide +kernel
theorem wu_X1 : ∀ w ∈ wsX10, w ∈ lw_g := fun w h => List.mem_filter.mpr ⟨wv_X1 w h, List.all_eq_true.mp (show wsX10.all goodWord = true by decide +kernel) w h⟩
theorem wv_X2 : ∀ w ∈ wsX20, w ∈ lw_tbl := by decide +kernel
theorem wu_X2 : ∀ w ∈ wsX20, w ∈ lw_g := fun w h => List.mem_filter.mpr ⟨wv_X2 w h, List.all_eq_true.mp (show wsX20.all goodWord = true by decide +kernel) w h⟩
theorem wv_X3 : ∀ w ∈ wsX30, w ∈ lw_tbl := by decide +kernel
theorem wu_X3 : ∀ w ∈ wsX30, w ∈ lw_g := fun w h => List.mem_filter.mpr ⟨wv_X3 w h, List.all_eq_true.mp (show wsX30.all goodWord = true by decide +kernel) w h⟩
theorem wv_X4 : ∀ w ∈ wsX40, w ∈ lw_tbl := by decide +kernel
theorem wu_X4 : ∀ w ∈ wsX40, w ∈ lw_g := fun w h => List.mem_filter.mpr ⟨wv_X4 w h, List.all_eq_true.mp (show wsX40.all goodWord = true by decide +kernel) w h⟩
theorem wv_X5 : ∀ w ∈ wsX50, w ∈ lw_tbl := by decide +kernel
theorem wu_X5 : ∀ w ∈ wsX50, w ∈ lw_g := fun w h => List.mem_filter.mpr ⟨wv_X5 w h, List.all_eq_true.mp (show wsX50.all goodWord = true by decide +kernel) w h⟩
theorem wv_X6 : ∀ w ∈ wsX60, w ∈ lw_tbl := by decide +kernel
theorem wu_X6 : ∀ w ∈ wsX60, w ∈ lw_g := fun w h => List.mem_filter.mpr ⟨wv_X6 w h, List.all_eq_true.mp (show wsX60.all goodWord = true by decide +kernel) w h⟩
theorem wv_X7 : ∀ w ∈ wsX70, w ∈ lw_tbl := by decide +kernel
theorem wu_X7 : ∀ w ∈ wsX70, w ∈ lw_g := fun w h => List.mem_filter.mpr ⟨wv_X7 w h, List.all_eq_true.mp (show wsX70.all goodWord = true by decide +kernel) w h⟩
theorem wv_X8 : ∀ w ∈ wsX80, w ∈ lw_tbl := by decide +kernel
theorem wu_X8 : ∀ w ∈ wsX80, w ∈ lw_g := fun w h => List.mem_filter.mpr ⟨wv_X8 w h, List.all_eq_true.mp (show wsX80.all goodWord = true by decide +kernel) w h⟩
theorem wv_X9 : ∀ w ∈ wsX90, w ∈ lw_tbl := by decide +kernel
theorem wu_X9 : ∀ w ∈ wsX90, w ∈ lw_g := fun w h => List.mem_filter.mpr ⟨wv_X9 w h, List.all_eq_true.mp (show wsX90.all goodWord = true by decide +kernel) w h⟩
theorem wd_X0_init : yX0_init.cls ≠ "java/lang/invoke/MethodHandle" ∧ yX0_init.cls ≠ "java/lang/invoke/VarHandle" ∧ (parseMethodDescriptor yX0_init.desc).map (fun d => d.parameters.length) = some 0 := by decide +kernel
theorem wd_X0_keep : yX0_keep.cls = RX0 ∧ yX0_keep.cls ≠ "java/lang/invoke/MethodHandle" ∧ yX0_keep.cls ≠ "java/lang/invoke/VarHandle" ∧ (parseMethodDescriptor yX0_keep.desc).map (fun d => d.parameters.length) = some 4 := by decide +kernel
theorem wd_X0_dropLatest : yX0_dropLatest.cls = RX0 ∧ yX0_dropLatest.cls ≠ "java/lang/invoke/MethodHandle" ∧ yX0_dropLatest.cls ≠ "java/lang/invoke/VarHandle" ∧ (parseMethodDescriptor yX0_dropLatest.desc).map (fun d => d.parameters.length) = some 0 := by decide +kernel
theorem wd_X1_init : yX1_init.cls ≠ "java/lang/invoke/MethodHandle" ∧ yX1_init.cls ≠ "java/lang/invoke/VarHandle" ∧ (parseMethodDescriptor yX1_init.desc).map (fun d => d.parameters.length) = some 0 := by decide +kernel
theorem wd_X1_wipe : yX1_wipe.cls = RX1 ∧ yX1_wipe.cls ≠ "java/lang/invoke/MethodHandle" ∧ yX1_wipe.cls ≠ "java/lang/invoke/VarHandle" ∧ (parseMethodDescriptor yX1_wipe.desc).map (fun d => d.parameters.length) = some 0 := by decide +kernel
theorem wd_X1_wipePlace : yX1_wipePlace.cls = RX1 ∧ yX1_wipePlace.cls ≠ "java/lang/invoke/MethodHandle" ∧ yX1_wipePlace.cls ≠ "java/lang/invoke/VarHandle" ∧ (parseMethodDescriptor yX1_wipePlace.desc).map (fun d => d.parameters.length) = some 1 := by decide +kernel
theorem wd_X1_others : yX1_others.cls = RX1 ∧ yX1_others.cls ≠ "java/lang/invoke/MethodHandle" ∧ yX1_others.cls ≠ "java/lang/invoke/VarHandle" ∧ (parseMethodDescriptor yX1_others.desc).map (fun d => d.parameters.length) = some 0 := by decide +kernel
theorem wd_X1_firstWrongFrom : yX1_firstWrongFrom.cls = RX1 ∧ yX1_firstWrongFrom.cls ≠ "java/lang/invoke/MethodHandle" ∧ yX1_firstWrongFrom.cls ≠ "java/lang/invoke/VarHandle" ∧ (parseMethodDescriptor yX1_firstWrongFrom.desc).map (fun d => d.parameters.length) = some 2 := by decide +kernel
theorem wd_X1_firstWrongTo : yX1_firstWrongTo.cls = RX1 ∧ yX1_firstWrongTo.cls ≠ "java/lang/invoke/MethodHandle" ∧ yX1_firstWrongTo.cls ≠ "java/lang/invoke/VarHandle" ∧ (parseMethodDescriptor yX1_firstWrongTo.desc).map (fun d => d.parameters.length) = some 2 := by decide +kernel
theorem wd_X1_cost : yX1_cost.cls = RX1 ∧ yX1_cost.cls ≠ "java/lang/invoke/MethodHandle" ∧ yX1_cost.cls ≠ "java/lang/invoke/VarHandle" ∧ (parseMethodDescriptor yX1_cost.desc).map (fun d => d.parameters.length) = some 1 := by decide +kernel
theorem wd_X2_init : yX2_init.cls ≠ "java/lang/invoke/MethodHandle" ∧ yX2_init.cls ≠ "java/lang/invoke/VarHandle" ∧ (parseMethodDescriptor yX2_init.desc).map (fun d => d.parameters.length) = some 0 := by decide +kernel
theorem wd_X2_has : yX2_has.cls = RX2 ∧ yX2_has.cls ≠ "java/lang/invoke/MethodHandle" ∧ yX2_has.cls ≠ "java/lang/invoke/VarHandle" ∧ (parseMethodDescriptor yX2_has.desc).map (fun d => d.parameters.length) = some 1 := by decide +kernel
theorem wd_X2_total : yX2_total.cls = RX2 ∧ yX2_total.cls ≠ "java/lang/invoke/MethodHandle" ∧ yX2_total.cls ≠ "java/lang/invoke/VarHandle" ∧ (parseMethodDescriptor yX2_total.desc).map (fun d => d.parameters.length) = some 1 := by decide +kernel
theorem wd_X3_init : yX3_init.cls ≠ "java/lang/invoke/MethodHandle" ∧ yX3_init.cls ≠ "java/lang/invoke/VarHandle" ∧ (parseMethodDescriptor yX3_init.desc).map (fun d => d.parameters.length) = some 0 := by decide +kernel
theorem wd_X3_has : yX3_has.cls = RX3 ∧ yX3_has.cls ≠ "java/lang/invoke/MethodHandle" ∧ yX3_has.cls ≠ "java/lang/invoke/VarHandle" ∧ (parseMethodDescriptor yX3_has.desc).map (fun d => d.parameters.length) = some 1 := by decide +kernel
theorem wd_X3_addPlace : yX3_addPlace.cls = RX3 ∧ yX3_addPlace.cls ≠ "java/lang/invoke/MethodHandle" ∧ yX3_addPlace.cls ≠ "java/lang/invoke/VarHandle" ∧ (parseMethodDescriptor yX3_addPlace.desc).map (fun d => d.parameters.length) = some 0 := by decide +kernel
theorem wd_X3_dropPlace : yX3_dropPlace.cls = RX3 ∧ yX3_dropPlace.cls ≠ "java/lang/invoke/MethodHandle" ∧ yX3_dropPlace.cls ≠ "java/lang/invoke/VarHandle" ∧ (parseMethodDescriptor yX3_dropPlace.desc).map (fun d => d.parameters.length) = some 0 := by decide +kernel
theorem wd_X3_addRoad : yX3_addRoad.cls = RX3 ∧ yX3_addRoad.cls ≠ "java/lang/invoke/MethodHandle" ∧ yX3_addRoad.cls ≠ "java/lang/invoke/VarHandle" ∧ (parseMethodDescriptor yX3_addRoad.desc).map (fun d => d.parameters.length) = some 3 := by decide +kernel
theorem wd_X3_dropRoad : yX3_dropRoad.cls = RX3 ∧ yX3_dropRoad.cls ≠ "java/lang/invoke/MethodHandle" ∧ yX3_dropRoad.cls ≠ "java/lang/invoke/VarHandle" ∧ (parseMethodDescriptor yX3_dropRoad.desc).map (fun d => d.parameters.length) = some 0 := by decide +kernel
theorem wd_X3_gates : yX3_gates.cls = RX3 ∧ yX3_gates.cls ≠ "java/lang/invoke/MethodHandle" ∧ yX3_gates.cls ≠ "java/lang/invoke/VarHandle" ∧ (parseMethodDescriptor yX3_gates.desc).map (fun d => d.parameters.length) = some 0 := by decide +kernel
theorem wd_X3_isJoined : yX3_isJoined.cls = RX3 ∧ yX3_isJoined.cls ≠ "java/lang/invoke/MethodHandle" ∧ yX3_isJoined.cls ≠ "java/lang/invoke/VarHandle" ∧ (parseMethodDescriptor yX3_isJoined.desc).map (fun d => d.parameters.length) = some 0 := by decide +kernel
theorem wd_X3_placeBehind : yX3_placeBehind.cls = RX3 ∧ yX3_placeBehind.cls ≠ "java/lang/invoke/MethodHandle" ∧ yX3_placeBehind.cls ≠ "java/lang/invoke/VarHandle" ∧ (parseMethodDescriptor yX3_placeBehind.desc).map (fun d => d.parameters.length) = some 2 := by decide +kernel
theorem wd_X3_measure : yX3_measure.cls = RX3 ∧ yX3_measure.cls ≠ "java/lang/invoke/MethodHandle" ∧ yX3_measure.cls ≠ "java/lang/invoke/VarHandle" ∧ (parseMethodDescriptor yX3_measure.desc).map (fun d => d.parameters.length) = some 0 := by decide +kernel
theorem wd_X3_measureRoads : yX3_measureRoads.cls = RX3 ∧ yX3_measureRoads.cls ≠ "java/lang/invoke/MethodHandle" ∧ yX3_measureRoads.cls ≠ "java/lang/invoke/VarHandle" ∧ (parseMethodDescriptor yX3_measureRoads.desc).map (fun d => d.parameters.length) = some 0 := by decide +kernel
theorem wd_X3_shortenBy : yX3_shortenBy.cls = RX3 ∧ yX3_shortenBy.cls ≠ "java/lang/invoke/MethodHandle" ∧ yX3_shortenBy.cls ≠ "java/lang/invoke/VarHandle" ∧ (parseMethodDescriptor yX3_shortenBy.desc).map (fun d => d.parameters.length) = some 2 := by decide +kernel
theorem wd_X4_init : yX4_init.cls ≠ "java/lang/invoke/MethodHandle" ∧ yX4_init.cls ≠ "java/lang/invoke/VarHandle" ∧ (parseMethodDescriptor yX4_init.desc).map (fun d => d.parameters.length) = some 0 := by decide +kernel
theorem wd_X4_cheapest : yX4_cheapest.cls = RX4 ∧ yX4_cheapest.cls ≠ "java/lang/invoke/MethodHandle" ∧ yX4_cheapest.cls ≠ "java/lang/invoke/VarHandle" ∧ (parseMethodDescriptor yX4_cheapest.desc).map (fun d => d.parameters.length) = some 4 := by decide +kernel
theorem wd_X4_cheapestThroughGates : yX4_cheapestThroughGates.cls = RX4 ∧ yX4_cheapestThroughGates.cls ≠ "java/lang/invoke/MethodHandle" ∧ yX4_cheapestThroughGates.cls ≠ "java/lang/invoke/VarHandle" ∧ (parseMethodDescriptor yX4_cheapestThroughGates.desc).map (fun d => d.parameters.length) = some 3 := by decide +kernel
theorem wd_X4_joinSource : yX4_joinSource.cls = RX4 ∧ yX4_joinSource.cls ≠ "java/lang/invoke/MethodHandle" ∧ yX4_joinSource.cls ≠ "java/lang/invoke/VarHandle" ∧ (parseMethodDescriptor yX4_joinSource.desc).map (fun d => d.parameters.length) = some 3 := by decide +kernel
theorem wd_X4_joinSink : yX4_joinSink.cls = RX4 ∧ yX4_joinSink.cls ≠ "java/lang/invoke/MethodHandle" ∧ yX4_joinSink.cls ≠ "java/lang/invoke/VarHandle" ∧ (parseMethodDescriptor yX4_joinSink.desc).map (fun d => d.parameters.length) = some 3 := by decide +kernel
theorem wd_X4_staying : yX4_staying.cls ≠ "java/lang/invoke/MethodHandle" ∧ yX4_staying.cls ≠ "java/lang/invoke/VarHandle" ∧ (parseMethodDescriptor yX4_staying.desc).map (fun d => d.parameters.length) = some 3 := by decide +kernel
theorem wd_X5_init : yX5_init.cls ≠ "java/lang/invoke/MethodHandle" ∧ yX5_init.cls ≠ "java/lang/invoke/VarHandle" ∧ (parseMethodDescriptor yX5_init.desc).map (fun d => d.parameters.length) = some 0 := by decide +kernel
theorem wd_X5_empty : yX5_empty.cls = RX5 ∧ yX5_empty.cls ≠ "java/lang/invoke/MethodHandle" ∧ yX5_empty.cls ≠ "java/lang/invoke/VarHandle" ∧ (parseMethodDescriptor yX5_empty.desc).map (fun d => d.parameters.length) = some 0 := by decide +kernel
theorem wd_X5_join : yX5_join.cls = RX5 ∧ yX5_join.cls ≠ "java/lang/invoke/MethodHandle" ∧ yX5_join.cls ≠ "java/lang/invoke/VarHandle" ∧ (parseMethodDescriptor yX5_join.desc).map (fun d => d.parameters.length) = some 4 := by decide +kernel
theorem wd_X5_push : yX5_push.cls = RX5 ∧ yX5_push.cls ≠ "java/lang/invoke/MethodHandle" ∧ yX5_push.cls ≠ "java/lang/invoke/VarHandle" ∧ (parseMethodDescriptor yX5_push.desc).map (fun d => d.parameters.length) = some 1 := by decide +kernel
theorem wd_X5_isReached : yX5_isReached.cls = RX5 ∧ yX5_isReached.cls ≠ "java/lang/invoke/MethodHandle" ∧ yX5_isReached.cls ≠ "java/lang/invoke/VarHandle" ∧ (parseMethodDescriptor yX5_isReached.desc).map (fun d => d.parameters.length) = some 1 := by decide +kernel
theorem wd_X5_addArc : yX5_addArc.cls = RX5 ∧ yX5_addArc.cls ≠ "java/lang/invoke/MethodHandle" ∧ yX5_addArc.cls ≠ "java/lang/invoke/VarHandle" ∧ (parseMethodDescriptor yX5_addArc.desc).map (fun d => d.parameters.length) = some 4 := by decide +kernel
theorem wd_X5_search : yX5_search.cls = RX5 ∧ yX5_search.cls ≠ "java/lang/invoke/MethodHandle" ∧ yX5_search.cls ≠ "java/lang/invoke/VarHandle" ∧ (parseMethodDescriptor yX5_search.desc).map (fun d => d.parameters.length) = some 0 := by decide +kernel
theorem wd_X5_relax : yX5_relax.cls = RX5 ∧ yX5_relax.cls ≠ "java/lang/invoke/MethodHandle" ∧ yX5_relax.cls ≠ "java/lang/invoke/VarHandle" ∧ (parseMethodDescriptor yX5_relax.desc).map (fun d => d.parameters.length) = some 0 := by decide +kernel
theorem wd_X5_carry : yX5_carry.cls = RX5 ∧ yX5_carry.cls ≠ "java/lang/invoke/MethodHandle" ∧ yX5_carry.cls ≠ "java/lang/invoke/VarHandle" ∧ (parseMethodDescriptor yX5_carry.desc).map (fun d => d.parameters.length) = some 1 := by decide +kernel
theorem wd_X6_init : yX6_init.cls ≠ "java/lang/invoke/MethodHandle" ∧ yX6_init.cls ≠ "java/lang/invoke/VarHandle" ∧ (parseMethodDescriptor yX6_init.desc).map (fun d => d.parameters.length) = some 0 := by decide +kernel
theorem wd_X6_make : yX6_make.cls = RX6 ∧ yX6_make.cls ≠ "java/lang/invoke/MethodHandle" ∧ yX6_make.cls ≠ "java/lang/invoke/VarHandle" ∧ (parseMethodDescriptor yX6_make.desc).map (fun d => d.parameters.length) = some 5 := by decide +kernel
theorem wd_X6_isTight : yX6_isTight.cls = RX6 ∧ yX6_isTight.cls ≠ "java/lang/invoke/MethodHandle" ∧ yX6_isTight.cls ≠ "java/lang/invoke/VarHandle" ∧ (parseMethodDescriptor yX6_isTight.desc).map (fun d => d.parameters.length) = some 3 := by decide +kernel
theorem wd_X6_takeGoods : yX6_takeGoods.cls = RX6 ∧ yX6_takeGoods.cls ≠ "java/lang/invoke/MethodHandle" ∧ yX6_takeGoods.cls ≠ "java/lang/invoke/VarHandle" ∧ (parseMethodDescriptor yX6_takeGoods.desc).map (fun d => d.parameters.length) = some 4 := by decide +kernel
theorem wd_X6_raiseHeights : yX6_raiseHeights.cls = RX6 ∧ yX6_raiseHeights.cls ≠ "java/lang/invoke/MethodHandle" ∧ yX6_raiseHeights.cls ≠ "java/lang/invoke/VarHandle" ∧ (parseMethodDescriptor yX6_raiseHeights.desc).map (fun d => d.parameters.length) = some 1 := by decide +kernel
theorem wd_X6_lowerHeights : yX6_lowerHeights.cls = RX6 ∧ yX6_lowerHeights.cls ≠ "java/lang/invoke/MethodHandle" ∧ yX6_lowerHeights.cls ≠ "java/lang/invoke/VarHandle" ∧ (parseMethodDescriptor yX6_lowerHeights.desc).map (fun d => d.parameters.length) = some 1 := by decide +kernel
theorem wd_X6_putFirst : yX6_putFirst.cls = RX6 ∧ yX6_putFirst.cls ≠ "java/lang/invoke/MethodHandle" ∧ yX6_putFirst.cls ≠ "java/lang/invoke/VarHandle" ∧ (parseMethodDescriptor yX6_putFirst.desc).map (fun d => d.parameters.length) = some 1 := by decide +kernel
theorem wd_X6_hasOther : yX6_hasOther.cls = RX6 ∧ yX6_hasOther.cls ≠ "java/lang/invoke/MethodHandle" ∧ yX6_hasOther.cls ≠ "java/lang/invoke/VarHandle" ∧ (parseMethodDescriptor yX6_hasOther.desc).map (fun d => d.parameters.length) = some 1 := by decide +kernel
theorem wd_X6_cell : yX6_cell.cls ≠ "java/lang/invoke/MethodHandle" ∧ yX6_cell.cls ≠ "java/lang/invoke/VarHandle" ∧ (parseMethodDescriptor yX6_cell.desc).map (fun d => d.parameters.length) = some 2 := by decide +kernel
theorem wd_X6_findRing : yX6_findRing.cls = RX6 ∧ yX6_findRing.cls ≠ "java/lang/invoke/MethodHandle" ∧ yX6_findRing.cls ≠ "java/lang/invoke/VarHandle" ∧ (parseMethodDescriptor yX6_findRing.desc).map (fun d => d.parameters.length) = some 4 := by decide +kernel
theorem wd_X6_reachColumns : yX6_reachColumns.cls = RX6 ∧ yX6_reachColumns.cls ≠ "java/lang/invoke/MethodHandle" ∧ yX6_reachColumns.cls ≠ "java/lang/invoke/VarHandle" ∧ (parseMethodDescriptor yX6_reachColumns.desc).map (fun d => d.parameters.length) = some 4 := by decide +kernel
theorem wd_X6_turnRing : yX6_turnRing.cls = RX6 ∧ yX6_turnRing.cls ≠ "java/lang/invoke/MethodHandle" ∧ yX6_turnRing.cls ≠ "java/lang/invoke/VarHandle" ∧ (parseMethodDescriptor yX6_turnRing.desc).map (fun d => d.parameters.length) = some 2 := by decide +kernel
theorem wd_X6_ringAmount : yX6_ringAmount.cls = RX6 ∧ yX6_ringAmount.cls ≠ "java/lang/invoke/MethodHandle" ∧ yX6_ringAmount.cls ≠ "java/lang/invoke/VarHandle" ∧ (parseMethodDescriptor yX6_ringAmount.desc).map (fun d => d.parameters.length) = some 2 := by decide +kernel
theorem wd_X6_carried : yX6_carried.cls = RX6 ∧ yX6_carried.cls ≠ "java/lang/invoke/MethodHandle" ∧ yX6_carried.cls ≠ "java/lang/invoke/VarHandle" ∧ (parseMethodDescriptor yX6_carried.desc).map (fun d => d.parameters.length) = some 3 := by decide +kernel
theorem wd_X6_passes : yX6_passes.cls ≠ "java/lang/invoke/MethodHandle" ∧ yX6_passes.cls ≠ "java/lang/invoke/VarHandle" ∧ (parseMethodDescriptor yX6_passes.desc).map (fun d => d.parameters.length) = some 4 := by decide +kernel
theorem wd_X7_init : yX7_init.cls ≠ "java/lang/invoke/MethodHandle" ∧ yX7_init.cls ≠ "java/lang/invoke/VarHandle" ∧ (parseMethodDescriptor yX7_init.desc).map (fun d => d.parameters.length) = some 0 := by decide +kernel
theorem wd_X7_make : yX7_make.cls = RX7 ∧ yX7_make.cls ≠ "java/lang/invoke/MethodHandle" ∧ yX7_make.cls ≠ "java/lang/invoke/VarHandle" ∧ (parseMethodDescriptor yX7_make.desc).map (fun d => d.parameters.length) = some 4 := by decide +kernel
theorem wd_X7_joinEnds : yX7_joinEnds.cls = RX7 ∧ yX7_joinEnds.cls ≠ "java/lang/invoke/MethodHandle" ∧ yX7_joinEnds.cls ≠ "java/lang/invoke/VarHandle" ∧ (parseMethodDescriptor yX7_joinEnds.desc).map (fun d => d.parameters.length) = some 3 := by decide +kernel
theorem wd_X7_joinDistance : yX7_joinDistance.cls = RX7 ∧ yX7_joinDistance.cls ≠ "java/lang/invoke/MethodHandle" ∧ yX7_joinDistance.cls ≠ "java/lang/invoke/VarHandle" ∧ (parseMethodDescriptor yX7_joinDistance.desc).map (fun d => d.parameters.length) = some 3 := by decide +kernel
theorem wd_X7_noteStuck : yX7_noteStuck.cls = RX7 ∧ yX7_noteStuck.cls ≠ "java/lang/invoke/MethodHandle" ∧ yX7_noteStuck.cls ≠ "java/lang/invoke/VarHandle" ∧ (parseMethodDescriptor yX7_noteStuck.desc).map (fun d => d.parameters.length) = some 1 := by decide +kernel
theorem wd_X7_distanceAbove : yX7_distanceAbove.cls ≠ "java/lang/invoke/MethodHandle" ∧ yX7_distanceAbove.cls ≠ "java/lang/invoke/VarHandle" ∧ (parseMethodDescriptor yX7_distanceAbove.desc).map (fun d => d.parameters.length) = some 2 := by decide +kernel
theorem wd_X8_init : yX8_init.cls ≠ "java/lang/invoke/MethodHandle" ∧ yX8_init.cls ≠ "java/lang/invoke/VarHandle" ∧ (parseMethodDescriptor yX8_init.desc).map (fun d => d.parameters.length) = some 0 := by decide +kernel
theorem wd_X8_place : yX8_place.cls = RX8 ∧ yX8_place.cls ≠ "java/lang/invoke/MethodHandle" ∧ yX8_place.cls ≠ "java/lang/invoke/VarHandle" ∧ (parseMethodDescriptor yX8_place.desc).map (fun d => d.parameters.length) = some 0 := by decide +kernel
theorem wd_X8_road : yX8_road.cls = RX8 ∧ yX8_road.cls ≠ "java/lang/invoke/MethodHandle" ∧ yX8_road.cls ≠ "java/lang/invoke/VarHandle" ∧ (parseMethodDescriptor yX8_road.desc).map (fun d => d.parameters.length) = some 3 := by decide +kernel
theorem wd_X8_heap : yX8_heap.cls = RX8 ∧ yX8_heap.cls ≠ "java/lang/invoke/MethodHandle" ∧ yX8_heap.cls ≠ "java/lang/invoke/VarHandle" ∧ (parseMethodDescriptor yX8_heap.desc).map (fun d => d.parameters.length) = some 0 := by decide +kernel
theorem wd_X8_set : yX8_set.cls = RX8 ∧ yX8_set.cls ≠ "java/lang/invoke/MethodHandle" ∧ yX8_set.cls ≠ "java/lang/invoke/VarHandle" ∧ (parseMethodDescriptor yX8_set.desc).map (fun d => d.parameters.length) = some 3 := by decide +kernel
theorem wd_X8_gate : yX8_gate.cls = RX8 ∧ yX8_gate.cls ≠ "java/lang/invoke/MethodHandle" ∧ yX8_gate.cls ≠ "java/lang/invoke/VarHandle" ∧ (parseMethodDescriptor yX8_gate.desc).map (fun d => d.parameters.length) = some 2 := by decide +kernel
theorem wd_X8_undo : yX8_undo.cls = RX8 ∧ yX8_undo.cls ≠ "java/lang/invoke/MethodHandle" ∧ yX8_undo.cls ≠ "java/lang/invoke/VarHandle" ∧ (parseMethodDescriptor yX8_undo.desc).map (fun d => d.parameters.length) = some 0 := by decide +kernel
theorem wd_X8_apart : yX8_apart.cls = RX8 ∧ yX8_apart.cls ≠ "java/lang/invoke/MethodHandle" ∧ yX8_apart.cls ≠ "java/lang/invoke/VarHandle" ∧ (parseMethodDescriptor yX8_apart.desc).map (fun d => d.parameters.length) = some 2 := by decide +kernel
theorem wd_X8_next : yX8_next.cls = RX8 ∧ yX8_next.cls ≠ "java/lang/invoke/MethodHandle" ∧ yX8_next.cls ≠ "java/lang/invoke/VarHandle" ∧ (parseMethodDescriptor yX8_next.desc).map (fun d => d.parameters.length) = some 2 := by decide +kernel
theorem wd_X8_amount : yX8_amount.cls = RX8 ∧ yX8_amount.cls ≠ "java/lang/invoke/MethodHandle" ∧ yX8_amount.cls ≠ "java/lang/invoke/VarHandle" ∧ (parseMethodDescriptor yX8_amount.desc).map (fun d => d.parameters.length) = some 2 := by decide +kernel
theorem wd_X8_sum : yX8_sum.cls = RX8 ∧ yX8_sum.cls ≠ "java/lang/invoke/MethodHandle" ∧ yX8_sum.cls ≠ "java/lang/invoke/VarHandle" ∧ (parseMethodDescriptor yX8_sum.desc).map (fun d => d.parameters.length) = some 1 := by decide +kernel
theorem wd_X8_least : yX8_least.cls = RX8 ∧ yX8_least.cls ≠ "java/lang/invoke/MethodHandle" ∧ yX8_least.cls ≠ "java/lang/invoke/VarHandle" ∧ (parseMethodDescriptor yX8_least.desc).map (fun d => d.parameters.length) = some 2 := by decide +kernel
theorem wd_X8_plan : yX8_plan.cls = RX8 ∧ yX8_plan.cls ≠ "java/lang/invoke/MethodHandle" ∧ yX8_plan.cls ≠ "java/lang/invoke/VarHandle" ∧ (parseMethodDescriptor yX8_plan.desc).map (fun d => d.parameters.length) = some 4 := by decide +kernel
theorem wd_X8_alone : yX8_alone.cls = RX8 ∧ yX8_alone.cls ≠ "java/lang/invoke/MethodHandle" ∧ yX8_alone.cls ≠ "java/lang/invoke/VarHandle" ∧ (parseMethodDescriptor yX8_alone.desc).map (fun d => d.parameters.length) = some 2 := by decide +kernel
theorem wd_X8_height : yX8_height.cls = RX8 ∧ yX8_height.cls ≠ "java/lang/invoke/MethodHandle" ∧ yX8_height.cls ≠ "java/lang/invoke/VarHandle" ∧ (parseMethodDescriptor yX8_height.desc).map (fun d => d.parameters.length) = some 3 := by decide +kernel
theorem wd_X8_load : yX8_load.cls = RX8 ∧ yX8_load.cls ≠ "java/lang/invoke/MethodHandle" ∧ yX8_load.cls ≠ "java/lang/invoke/VarHandle" ∧ (parseMethodDescriptor yX8_load.desc).map (fun d => d.parameters.length) = some 4 := by decide +kernel
theorem wd_X8_far : yX8_far.cls = RX8 ∧ yX8_far.cls ≠ "java/lang/invoke/MethodHandle" ∧ yX8_far.cls ≠ "java/lang/invoke/VarHandle" ∧ (parseMethodDescriptor yX8_far.desc).map (fun d => d.parameters.length) = some 2 := by decide +kernel
theorem wd_X8_shown : yX8_shown.cls = RX8 ∧ yX8_shown.cls ≠ "java/lang/invoke/MethodHandle" ∧ yX8_shown.cls ≠ "java/lang/invoke/VarHandle" ∧ (parseMethodDescriptor yX8_shown.desc).map (fun d => d.parameters.length) = some 3 := by decide +kernel
theorem wd_X8_some : yX8_some.cls = RX8 ∧ yX8_some.cls ≠ "java/lang/invoke/MethodHandle" ∧ yX8_some.cls ≠ "java/lang/invoke/VarHandle" ∧ (parseMethodDescriptor yX8_some.desc).map (fun d => d.parameters.length) = some 3 := by decide +kernel
theorem wd_X8_gated : yX8_gated.cls = RX8 ∧ yX8_gated.cls ≠ "java/lang/invoke/MethodHandle" ∧ yX8_gated.cls ≠ "java/lang/invoke/VarHandle" ∧ (parseMethodDescriptor yX8_gated.desc).map (fun d => d.parameters.length) = some 2 := by decide +kernel
theorem wd_X8_draft : yX8_draft.cls = RX8 ∧ yX8_draft.cls ≠ "java/lang/invoke/MethodHandle" ∧ yX8_draft.cls ≠ "java/lang/invoke/VarHandle" ∧ (parseMethodDescriptor yX8_draft.desc).map (fun d => d.parameters.length) = some 3 := by decide +kernel
theorem wd_X8_clear : yX8_clear.cls = RX8 ∧ yX8_clear.cls ≠ "java/lang/invoke/MethodHandle" ∧ yX8_clear.cls ≠ "java/lang/invoke/VarHandle" ∧ (parseMethodDescriptor yX8_clear.desc).map (fun d => d.parameters.length) = some 0 := by decide +kernel
theorem wd_X8_copy : yX8_copy.cls = RX8 ∧ yX8_copy.cls ≠ "java/lang/invoke/MethodHandle" ∧ yX8_copy.cls ≠ "java/lang/invoke/VarHandle" ∧ (parseMethodDescriptor yX8_copy.desc).map (fun d => d.parameters.length) = some 2 := by decide +kernel
theorem wd_X8_judge : yX8_judge.cls = RX8 ∧ yX8_judge.cls ≠ "java/lang/invoke/MethodHandle" ∧ yX8_judge.cls ≠ "java/lang/invoke/VarHandle" ∧ (parseMethodDescriptor yX8_judge.desc).map (fun d => d.parameters.length) = some 2 := by decide +kernel
theorem wd_X8_beside : yX8_beside.cls = RX8 ∧ yX8_beside.cls ≠ "java/lang/invoke/MethodHandle" ∧ yX8_beside.cls ≠ "java/lang/invoke/VarHandle" ∧ (parseMethodDescriptor yX8_beside.desc).map (fun d => d.parameters.length) = some 0 := by decide +kernel
theorem wd_X8_count : yX8_count.cls = RX8 ∧ yX8_count.cls ≠ "java/lang/invoke/MethodHandle" ∧ yX8_count.cls ≠ "java/lang/invoke/VarHandle" ∧ (parseMethodDescriptor yX8_count.desc).map (fun d => d.parameters.length) = some 1 := by decide +kernel
theorem wd_X8_refusalOfMoving : yX8_refusalOfMoving.cls = RX8 ∧ yX8_refusalOfMoving.cls ≠ "java/lang/invoke/MethodHandle" ∧ yX8_refusalOfMoving.cls ≠ "java/lang/invoke/VarHandle" ∧ (parseMethodDescriptor yX8_refusalOfMoving.desc).map (fun d => d.parameters.length) = some 2 := by decide +kernel
theorem wd_X8_refusalAtPlaces : yX8_refusalAtPlaces.cls = RX8 ∧ yX8_refusalAtPlaces.cls ≠ "java/lang/invoke/MethodHandle" ∧ yX8_refusalAtPlaces.cls ≠ "java/lang/invoke/VarHandle" ∧ (parseMethodDescriptor yX8_refusalAtPlaces.desc).map (fun d => d.parameters.length) = some 4 := by decide +kernel
theorem wd_X8_leastCost : yX8_leastCost.cls = RX8 ∧ yX8_leastCost.cls ≠ "java/lang/invoke/MethodHandle" ∧ yX8_leastCost.cls ≠ "java/lang/invoke/VarHandle" ∧ (parseMethodDescriptor yX8_leastCost.desc).map (fun d => d.parameters.length) = some 2 := by decide +kernel
theorem wd_X8_makePlan : yX8_makePlan.cls = RX8 ∧ yX8_makePlan.cls ≠ "java/lang/invoke/MethodHandle" ∧ yX8_makePlan.cls ≠ "java/lang/invoke/VarHandle" ∧ (parseMethodDescriptor yX8_makePlan.desc).map (fun d => d.parameters.length) = some 2 := by decide +kernel
theorem wd_X8_makeReach : yX8_makeReach.cls = RX8 ∧ yX8_makeReach.cls ≠ "java/lang/invoke/MethodHandle" ∧ yX8_makeReach.cls ≠ "java/lang/invoke/VarHandle" ∧ (parseMethodDescriptor yX8_makeReach.desc).map (fun d => d.parameters.length) = some 2 := by decide +kernel
theorem wd_X8_noteChange : yX8_noteChange.cls = RX8 ∧ yX8_noteChange.cls ≠ "java/lang/invoke/MethodHandle" ∧ yX8_noteChange.cls ≠ "java/lang/invoke/VarHandle" ∧ (parseMethodDescriptor yX8_noteChange.desc).map (fun d => d.parameters.length) = some 4 := by decide +kernel
theorem wd_X8_forgetResults : yX8_forgetResults.cls = RX8 ∧ yX8_forgetResults.cls ≠ "java/lang/invoke/MethodHandle" ∧ yX8_forgetResults.cls ≠ "java/lang/invoke/VarHandle" ∧ (parseMethodDescriptor yX8_forgetResults.desc).map (fun d => d.parameters.length) = some 0 := by decide +kernel
theorem wd_X8_takeBack : yX8_takeBack.cls = RX8 ∧ yX8_takeBack.cls ≠ "java/lang/invoke/MethodHandle" ∧ yX8_takeBack.cls ≠ "java/lang/invoke/VarHandle" ∧ (parseMethodDescriptor yX8_takeBack.desc).map (fun d => d.parameters.length) = some 1 := by decide +kernel
theorem wd_X9_init : yX9_init.cls ≠ "java/lang/invoke/MethodHandle" ∧ yX9_init.cls ≠ "java/lang/invoke/VarHandle" ∧ (parseMethodDescriptor yX9_init.desc).map (fun d => d.parameters.length) = some 0 := by decide +kernel
theorem wd_X9_in : yX9_in.cls ≠ "java/lang/invoke/MethodHandle" ∧ yX9_in.cls ≠ "java/lang/invoke/VarHandle" ∧ (parseMethodDescriptor yX9_in.desc).map (fun d => d.parameters.length) = some 3 := by decide +kernel
theorem wd_X9_isPlace : yX9_isPlace.cls = RX9 ∧ yX9_isPlace.cls ≠ "java/lang/invoke/MethodHandle" ∧ yX9_isPlace.cls ≠ "java/lang/invoke/VarHandle" ∧ (parseMethodDescriptor yX9_isPlace.desc).map (fun d => d.parameters.length) = some 1 := by decide +kernel
theorem wd_X9_isHeap : yX9_isHeap.cls = RX9 ∧ yX9_isHeap.cls ≠ "java/lang/invoke/MethodHandle" ∧ yX9_isHeap.cls ≠ "java/lang/invoke/VarHandle" ∧ (parseMethodDescriptor yX9_isHeap.desc).map (fun d => d.parameters.length) = some 1 := by decide +kernel
theorem wd_X9_keep : yX9_keep.cls = RX9 ∧ yX9_keep.cls ≠ "java/lang/invoke/MethodHandle" ∧ yX9_keep.cls ≠ "java/lang/invoke/VarHandle" ∧ (parseMethodDescriptor yX9_keep.desc).map (fun d => d.parameters.length) = some 3 := by decide +kernel
theorem wd_X9_place : yX9_place.cls = RX9 ∧ yX9_place.cls ≠ "java/lang/invoke/MethodHandle" ∧ yX9_place.cls ≠ "java/lang/invoke/VarHandle" ∧ (parseMethodDescriptor yX9_place.desc).map (fun d => d.parameters.length) = some 0 := by decide +kernel
theorem wd_X9_road : yX9_road.cls = RX9 ∧ yX9_road.cls ≠ "java/lang/invoke/MethodHandle" ∧ yX9_road.cls ≠ "java/lang/invoke/VarHandle" ∧ (parseMethodDescriptor yX9_road.desc).map (fun d => d.parameters.length) = some 3 := by decide +kernel
theorem wd_X9_heap : yX9_heap.cls = RX9 ∧ yX9_heap.cls ≠ "java/lang/invoke/MethodHandle" ∧ yX9_heap.cls ≠ "java/lang/invoke/VarHandle" ∧ (parseMethodDescriptor yX9_heap.desc).map (fun d => d.parameters.length) = some 0 := by decide +kernel
theorem wd_X9_set : yX9_set.cls = RX9 ∧ yX9_set.cls ≠ "java/lang/invoke/MethodHandle" ∧ yX9_set.cls ≠ "java/lang/invoke/VarHandle" ∧ (parseMethodDescriptor yX9_set.desc).map (fun d => d.parameters.length) = some 3 := by decide +kernel
theorem wd_X9_gate : yX9_gate.cls = RX9 ∧ yX9_gate.cls ≠ "java/lang/invoke/MethodHandle" ∧ yX9_gate.cls ≠ "java/lang/invoke/VarHandle" ∧ (parseMethodDescriptor yX9_gate.desc).map (fun d => d.parameters.length) = some 2 := by decide +kernel
theorem wd_X9_undo : yX9_undo.cls = RX9 ∧ yX9_undo.cls ≠ "java/lang/invoke/MethodHandle" ∧ yX9_undo.cls ≠ "java/lang/invoke/VarHandle" ∧ (parseMethodDescriptor yX9_undo.desc).map (fun d => d.parameters.length) = some 0 := by decide +kernel
theorem wd_X9_findFar : yX9_findFar.cls = RX9 ∧ yX9_findFar.cls ≠ "java/lang/invoke/MethodHandle" ∧ yX9_findFar.cls ≠ "java/lang/invoke/VarHandle" ∧ (parseMethodDescriptor yX9_findFar.desc).map (fun d => d.parameters.length) = some 0 := by decide +kernel
theorem wd_X9_isJoined : yX9_isJoined.cls = RX9 ∧ yX9_isJoined.cls ≠ "java/lang/invoke/MethodHandle" ∧ yX9_isJoined.cls ≠ "java/lang/invoke/VarHandle" ∧ (parseMethodDescriptor yX9_isJoined.desc).map (fun d => d.parameters.length) = some 0 := by decide +kernel
theorem wd_X9_apart : yX9_apart.cls = RX9 ∧ yX9_apart.cls ≠ "java/lang/invoke/MethodHandle" ∧ yX9_apart.cls ≠ "java/lang/invoke/VarHandle" ∧ (parseMethodDescriptor yX9_apart.desc).map (fun d => d.parameters.length) = some 2 := by decide +kernel
theorem wd_X9_nextTo : yX9_nextTo.cls = RX9 ∧ yX9_nextTo.cls ≠ "java/lang/invoke/MethodHandle" ∧ yX9_nextTo.cls ≠ "java/lang/invoke/VarHandle" ∧ (parseMethodDescriptor yX9_nextTo.desc).map (fun d => d.parameters.length) = some 2 := by decide +kernel
theorem wd_X9_next : yX9_next.cls = RX9 ∧ yX9_next.cls ≠ "java/lang/invoke/MethodHandle" ∧ yX9_next.cls ≠ "java/lang/invoke/VarHandle" ∧ (parseMethodDescriptor yX9_next.desc).map (fun d => d.parameters.length) = some 2 := by decide +kernel
theorem wd_X9_amount : yX9_amount.cls = RX9 ∧ yX9_amount.cls ≠ "java/lang/invoke/MethodHandle" ∧ yX9_amount.cls ≠ "java/lang/invoke/VarHandle" ∧ (parseMethodDescriptor yX9_amount.desc).map (fun d => d.parameters.length) = some 2 := by decide +kernel
theorem wd_X9_sumOf : yX9_sumOf.cls = RX9 ∧ yX9_sumOf.cls ≠ "java/lang/invoke/MethodHandle" ∧ yX9_sumOf.cls ≠ "java/lang/invoke/VarHandle" ∧ (parseMethodDescriptor yX9_sumOf.desc).map (fun d => d.parameters.length) = some 1 := by decide +kernel
theorem wd_X9_sum : yX9_sum.cls = RX9 ∧ yX9_sum.cls ≠ "java/lang/invoke/MethodHandle" ∧ yX9_sum.cls ≠ "java/lang/invoke/VarHandle" ∧ (parseMethodDescriptor yX9_sum.desc).map (fun d => d.parameters.length) = some 1 := by decide +kernel
theorem wd_X9_begin : yX9_begin.cls = RX9 ∧ yX9_begin.cls ≠ "java/lang/invoke/MethodHandle" ∧ yX9_begin.cls ≠ "java/lang/invoke/VarHandle" ∧ (parseMethodDescriptor yX9_begin.desc).map (fun d => d.parameters.length) = some 2 := by decide +kernel
theorem wd_X9_findWay : yX9_findWay.cls = RX9 ∧ yX9_findWay.cls ≠ "java/lang/invoke/MethodHandle" ∧ yX9_findWay.cls ≠ "java/lang/invoke/VarHandle" ∧ (parseMethodDescriptor yX9_findWay.desc).map (fun d => d.parameters.length) = some 0 := by decide +kernel
theorem wd_X9_go : yX9_go.cls = RX9 ∧ yX9_go.cls ≠ "java/lang/invoke/MethodHandle" ∧ yX9_go.cls ≠ "java/lang/invoke/VarHandle" ∧ (parseMethodDescriptor yX9_go.desc).map (fun d => d.parameters.length) = some 2 := by decide +kernel
theorem wd_X9_costOf : yX9_costOf.cls = RX9 ∧ yX9_costOf.cls ≠ "java/lang/invoke/MethodHandle" ∧ yX9_costOf.cls ≠ "java/lang/invoke/VarHandle" ∧ (parseMethodDescriptor yX9_costOf.desc).map (fun d => d.parameters.length) = some 1 := by decide +kernel
theorem wd_X9_solve : yX9_solve.cls = RX9 ∧ yX9_solve.cls ≠ "java/lang/invoke/MethodHandle" ∧ yX9_solve.cls ≠ "java/lang/invoke/VarHandle" ∧ (parseMethodDescriptor yX9_solve.desc).map (fun d => d.parameters.length) = some 3 := by decide +kernel
theorem wd_X9_against : yX9_against.cls = RX9 ∧ yX9_against.cls ≠ "java/lang/invoke/MethodHandle" ∧ yX9_against.cls ≠ "java/lang/invoke/VarHandle" ∧ (parseMethodDescriptor yX9_against.desc).map (fun d => d.parameters.length) = some 2 := by decide +kernel
theorem wd_X9_least : yX9_least.cls = RX9 ∧ yX9_least.cls ≠ "java/lang/invoke/MethodHandle" ∧ yX9_least.cls ≠ "java/lang/invoke/VarHandle" ∧ (parseMethodDescriptor yX9_least.desc).map (fun d => d.parameters.length) = some 2 := by decide +kernel
theorem wd_X9_findHeights : yX9_findHeights.cls = RX9 ∧ yX9_findHeights.cls ≠ "java/lang/invoke/MethodHandle" ∧ yX9_findHeights.cls ≠ "java/lang/invoke/VarHandle" ∧ (parseMethodDescriptor yX9_findHeights.desc).map (fun d => d.parameters.length) = some 0 := by decide +kernel
theorem wd_X9_isTight : yX9_isTight.cls = RX9 ∧ yX9_isTight.cls ≠ "java/lang/invoke/MethodHandle" ∧ yX9_isTight.cls ≠ "java/lang/invoke/VarHandle" ∧ (parseMethodDescriptor yX9_isTight.desc).map (fun d => d.parameters.length) = some 2 := by decide +kernel
theorem wd_X9_canTurn : yX9_canTurn.cls = RX9 ∧ yX9_canTurn.cls ≠ "java/lang/invoke/MethodHandle" ∧ yX9_canTurn.cls ≠ "java/lang/invoke/VarHandle" ∧ (parseMethodDescriptor yX9_canTurn.desc).map (fun d => d.parameters.length) = some 2 := by decide +kernel
theorem wd_X9_turn : yX9_turn.cls = RX9 ∧ yX9_turn.cls ≠ "java/lang/invoke/MethodHandle" ∧ yX9_turn.cls ≠ "java/lang/invoke/VarHandle" ∧ (parseMethodDescriptor yX9_turn.desc).map (fun d => d.parameters.length) = some 2 := by decide +kernel
theorem wd_X9_loosen : yX9_loosen.cls = RX9 ∧ yX9_loosen.cls ≠ "java/lang/invoke/MethodHandle" ∧ yX9_loosen.cls ≠ "java/lang/invoke/VarHandle" ∧ (parseMethodDescriptor yX9_loosen.desc).map (fun d => d.parameters.length) = some 0 := by decide +kernel
theorem wd_X9_findPlan : yX9_findPlan.cls = RX9 ∧ yX9_findPlan.cls ≠ "java/lang/invoke/MethodHandle" ∧ yX9_findPlan.cls ≠ "java/lang/invoke/VarHandle" ∧ (parseMethodDescriptor yX9_findPlan.desc).map (fun d => d.parameters.length) = some 2 := by decide +kernel
theorem wd_X9_plan : yX9_plan.cls = RX9 ∧ yX9_plan.cls ≠ "java/lang/invoke/MethodHandle" ∧ yX9_plan.cls ≠ "java/lang/invoke/VarHandle" ∧ (parseMethodDescriptor yX9_plan.desc).map (fun d => d.parameters.length) = some 4 := by decide +kernel
theorem wd_X9_alone : yX9_alone.cls = RX9 ∧ yX9_alone.cls ≠ "java/lang/invoke/MethodHandle" ∧ yX9_alone.cls ≠ "java/lang/invoke/VarHandle" ∧ (parseMethodDescriptor yX9_alone.desc).map (fun d => d.parameters.length) = some 2 := by decide +kernel
theorem wd_X9_height : yX9_height.cls = RX9 ∧ yX9_height.cls ≠ "java/lang/invoke/MethodHandle" ∧ yX9_height.cls ≠ "java/lang/invoke/VarHandle" ∧ (parseMethodDescriptor yX9_height.desc).map (fun d => d.parameters.length) = some 3 := by decide +kernel
theorem wd_X9_load : yX9_load.cls = RX9 ∧ yX9_load.cls ≠ "java/lang/invoke/MethodHandle" ∧ yX9_load.cls ≠ "java/lang/invoke/VarHandle" ∧ (parseMethodDescriptor yX9_load.desc).map (fun d => d.parameters.length) = some 4 := by decide +kernel
theorem wd_X9_fits : yX9_fits.cls = RX9 ∧ yX9_fits.cls ≠ "java/lang/invoke/MethodHandle" ∧ yX9_fits.cls ≠ "java/lang/invoke/VarHandle" ∧ (parseMethodDescriptor yX9_fits.desc).map (fun d => d.parameters.length) = some 3 := by decide +kernel
theorem wd_X9_reach : yX9_reach.cls = RX9 ∧ yX9_reach.cls ≠ "java/lang/invoke/MethodHandle" ∧ yX9_reach.cls ≠ "java/lang/invoke/VarHandle" ∧ (parseMethodDescriptor yX9_reach.desc).map (fun d => d.parameters.length) = some 1 := by decide +kernel
theorem wd_X9_findFarthest : yX9_findFarthest.cls = RX9 ∧ yX9_findFarthest.cls ≠ "java/lang/invoke/MethodHandle" ∧ yX9_findFarthest.cls ≠ "java/lang/invoke/VarHandle" ∧ (parseMethodDescriptor yX9_findFarthest.desc).map (fun d => d.parameters.length) = some 2 := by decide +kernel
theorem wd_X9_far : yX9_far.cls = RX9 ∧ yX9_far.cls ≠ "java/lang/invoke/MethodHandle" ∧ yX9_far.cls ≠ "java/lang/invoke/VarHandle" ∧ (parseMethodDescriptor yX9_far.desc).map (fun d => d.parameters.length) = some 2 := by decide +kernel
theorem wd_X9_shown : yX9_shown.cls = RX9 ∧ yX9_shown.cls ≠ "java/lang/invoke/MethodHandle" ∧ yX9_shown.cls ≠ "java/lang/invoke/VarHandle" ∧ (parseMethodDescriptor yX9_shown.desc).map (fun d => d.parameters.length) = some 3 := by decide +kernel
theorem wd_X9_some : yX9_some.cls = RX9 ∧ yX9_some.cls ≠ "java/lang/invoke/MethodHandle" ∧ yX9_some.cls ≠ "java/lang/invoke/VarHandle" ∧ (parseMethodDescriptor yX9_some.desc).map (fun d => d.parameters.length) = some 3 := by decide +kernel
theorem wd_X9_arc : yX9_arc.cls = RX9 ∧ yX9_arc.cls ≠ "java/lang/invoke/MethodHandle" ∧ yX9_arc.cls ≠ "java/lang/invoke/VarHandle" ∧ (parseMethodDescriptor yX9_arc.desc).map (fun d => d.parameters.length) = some 4 := by decide +kernel
theorem wd_X9_hasNetWay : yX9_hasNetWay.cls = RX9 ∧ yX9_hasNetWay.cls ≠ "java/lang/invoke/MethodHandle" ∧ yX9_hasNetWay.cls ≠ "java/lang/invoke/VarHandle" ∧ (parseMethodDescriptor yX9_hasNetWay.desc).map (fun d => d.parameters.length) = some 0 := by decide +kernel
theorem wd_X9_goNet : yX9_goNet.cls = RX9 ∧ yX9_goNet.cls ≠ "java/lang/invoke/MethodHandle" ∧ yX9_goNet.cls ≠ "java/lang/invoke/VarHandle" ∧ (parseMethodDescriptor yX9_goNet.desc).map (fun d => d.parameters.length) = some 0 := by decide +kernel
theorem wd_X9_gated : yX9_gated.cls = RX9 ∧ yX9_gated.cls ≠ "java/lang/invoke/MethodHandle" ∧ yX9_gated.cls ≠ "java/lang/invoke/VarHandle" ∧ (parseMethodDescriptor yX9_gated.desc).map (fun d => d.parameters.length) = some 2 := by decide +kernel
theorem wd_X9_draft : yX9_draft.cls = RX9 ∧ yX9_draft.cls ≠ "java/lang/invoke/MethodHandle" ∧ yX9_draft.cls ≠ "java/lang/invoke/VarHandle" ∧ (parseMethodDescriptor yX9_draft.desc).map (fun d => d.parameters.length) = some 3 := by decide +kernel
theorem wd_X9_clear : yX9_clear.cls = RX9 ∧ yX9_clear.cls ≠ "java/lang/invoke/MethodHandle" ∧ yX9_clear.cls ≠ "java/lang/invoke/VarHandle" ∧ (parseMethodDescriptor yX9_clear.desc).map (fun d => d.parameters.length) = some 0 := by decide +kernel
theorem wd_X9_copy : yX9_copy.cls = RX9 ∧ yX9_copy.cls ≠ "java/lang/invoke/MethodHandle" ∧ yX9_copy.cls ≠ "java/lang/invoke/VarHandle" ∧ (parseMethodDescriptor yX9_copy.desc).map (fun d => d.parameters.length) = some 2 := by decide +kernel
theorem wd_X9_drafted : yX9_drafted.cls = RX9 ∧ yX9_drafted.cls ≠ "java/lang/invoke/MethodHandle" ∧ yX9_drafted.cls ≠ "java/lang/invoke/VarHandle" ∧ (parseMethodDescriptor yX9_drafted.desc).map (fun d => d.parameters.length) = some 2 := by decide +kernel
theorem wd_X9_judge : yX9_judge.cls = RX9 ∧ yX9_judge.cls ≠ "java/lang/invoke/MethodHandle" ∧ yX9_judge.cls ≠ "java/lang/invoke/VarHandle" ∧ (parseMethodDescriptor yX9_judge.desc).map (fun d => d.parameters.length) = some 2 := by decide +kernel
theorem wd_X9_beside : yX9_beside.cls = RX9 ∧ yX9_beside.cls ≠ "java/lang/invoke/MethodHandle" ∧ yX9_beside.cls ≠ "java/lang/invoke/VarHandle" ∧ (parseMethodDescriptor yX9_beside.desc).map (fun d => d.parameters.length) = some 0 := by decide +kernel
theorem wd_X9_count : yX9_count.cls = RX9 ∧ yX9_count.cls ≠ "java/lang/invoke/MethodHandle" ∧ yX9_count.cls ≠ "java/lang/invoke/VarHandle" ∧ (parseMethodDescriptor yX9_count.desc).map (fun d => d.parameters.length) = some 1 := by decide +kernel
theorem wd_J7_fill_53178 : yJ7_fill_53178.cls ≠ "java/lang/invoke/MethodHandle" ∧ yJ7_fill_53178.cls ≠ "java/lang/invoke/VarHandle" ∧ (parseMethodDescriptor yJ7_fill_53178.desc).map (fun d => d.parameters.length) = some 2 := by decide +kernel
theorem gd_c {w : Cond} (h : w ∈ lw_g) : w ∈ lw_g ∧ ((w.onTables && w.keeps) = true ∨ ∃ ty, w = .arrayClass ty) := ⟨h, good_of_word (List.mem_filter.mp h).2⟩
theorem gd_s {y : MethodName} {cc : ByteArray} {mL : Nat} {ret : Option FieldType} (h5 : Cond.code y cc mL ret ∈ lw_g) : GoodIn lw_g (Cond.code y cc mL ret :: lw_g) := fun w hw => (List.mem_cons.mp hw).elim (fun e => e ▸ gd_c h5) (fun h => gd_c h)
theorem gd_V {own C : String} {idx : Nat} {y : MethodName} {cc : ByteArray} {mL : Nat} {ret : Option FieldType} (h1 : Cond.methodLink own idx y ∈ lw_g) (h2 : Cond.instanceMethod y ∈ lw_g) (h3 : Cond.selects C y y ∈ lw_g) (h4 : Cond.initialized C ∈ lw_g) (h5 : Cond.code y cc mL ret ∈ lw_g) : GoodIn lw_g (wsV own idx C y (Cond.code y cc mL ret :: lw_g)) := by
  intro w hw
  unfold wsV at hw
  rcases List.mem_append.mp hw with h | h
  · simp only [List.mem_cons, List.not_mem_nil, or_false] at h
    rcases h with rfl | rfl | rfl | rfl
    · exact gd_c h1
    · exact gd_c h2
    · exact gd_c h3
    · exact gd_c h4
  · exact gd_s h5 w h
theorem gd_S {own : String} {idx : Nat} {y : MethodName} {cc : ByteArray} {mL : Nat} {ret : Option FieldType} (h1 : Cond.methodLink own idx y ∈ lw_g) (h2 : Cond.static y ∈ lw_g) (h4 : Cond.initialized y.cls ∈ lw_g) (h5 : Cond.code y cc mL ret ∈ lw_g) : GoodIn lw_g (va_wsS own idx y (Cond.code y cc mL ret :: lw_g)) := by
  intro w hw
  unfold va_wsS at hw
  rcases List.mem_append.mp hw with h | h
  · simp only [List.mem_cons, List.not_mem_nil, or_false] at h
    rcases h with rfl | rfl | rfl
    · exact gd_c h1
    · exact gd_c h2
    · exact gd_c h4
  · exact gd_s h5 w h
end
