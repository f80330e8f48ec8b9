section
-- ===== PART A: goes FIRST, ahead of the names: the tables' words, and 'selects' of the private methods out of them =====
/-- a private method of a class that the tables say can be made, by its rows of tables_1 -/
def lw_okq (q : MethodName × Nat) : Prop := (q.1.cls ≠ "java/lang/invoke/MethodHandle" ∧ q.1.cls ≠ "java/lang/invoke/VarHandle") ∧ Cond.instantiable q.1.cls q.2 ∈ tables_1 ∧ Cond.privateMethod q.1 ∈ tables_1 ∧ Cond.instanceMethod q.1 ∈ tables_1
theorem lw_p0 : lw_okq (⟨"FairDesk$Goods", "putAllBack", "()V"⟩, 8) := ⟨⟨by decide +kernel, by decide +kernel⟩, List.mem_of_getElem? (i := 26) (by decide +kernel), List.mem_of_getElem? (i := 92) (by decide +kernel), List.mem_of_getElem? (i := 93) (by decide +kernel)⟩
theorem lw_p1 : lw_okq (⟨"FairDesk$Goods", "lowestUnenvied", "()I"⟩, 8) := ⟨⟨by decide +kernel, by decide +kernel⟩, List.mem_of_getElem? (i := 26) (by decide +kernel), List.mem_of_getElem? (i := 238) (by decide +kernel), List.mem_of_getElem? (i := 239) (by decide +kernel)⟩
theorem lw_p2 : lw_okq (⟨"FairDesk$Goods", "lowestEnvier", "(I)I"⟩, 8) := ⟨⟨by decide +kernel, by decide +kernel⟩, List.mem_of_getElem? (i := 26) (by decide +kernel), List.mem_of_getElem? (i := 242) (by decide +kernel), List.mem_of_getElem? (i := 243) (by decide +kernel)⟩
theorem lw_p3 : lw_okq (⟨"FairDesk$Goods", "dearestHeld", "(II)I"⟩, 8) := ⟨⟨by decide +kernel, by decide +kernel⟩, List.mem_of_getElem? (i := 26) (by decide +kernel), List.mem_of_getElem? (i := 254) (by decide +kernel), List.mem_of_getElem? (i := 255) (by decide +kernel)⟩
theorem lw_p4 : lw_okq (⟨"FairDesk$Goods", "turnCircle", "()V"⟩, 8) := ⟨⟨by decide +kernel, by decide +kernel⟩, List.mem_of_getElem? (i := 26) (by decide +kernel), List.mem_of_getElem? (i := 262) (by decide +kernel), List.mem_of_getElem? (i := 263) (by decide +kernel)⟩
theorem lw_p5 : lw_okq (⟨"FairDesk$CakeTable", "halve", "(III)V"⟩, 12) := ⟨⟨by decide +kernel, by decide +kernel⟩, List.mem_of_getElem? (i := 170) (by decide +kernel), List.mem_of_getElem? (i := 284) (by decide +kernel), List.mem_of_getElem? (i := 285) (by decide +kernel)⟩
theorem lw_p6 : lw_okq (⟨"FairDesk$CakeTable", "weigh", "(ILFairDesk$Fraction;LFairDesk$Fraction;LFairDesk$Fraction;)V"⟩, 12) := ⟨⟨by decide +kernel, by decide +kernel⟩, List.mem_of_getElem? (i := 170) (by decide +kernel), List.mem_of_getElem? (i := 288) (by decide +kernel), List.mem_of_getElem? (i := 289) (by decide +kernel)⟩
theorem lw_p7 : lw_okq (⟨"FairDesk$CakeTable", "mark", "(ILFairDesk$Fraction;)V"⟩, 12) := ⟨⟨by decide +kernel, by decide +kernel⟩, List.mem_of_getElem? (i := 170) (by decide +kernel), List.mem_of_getElem? (i := 311) (by decide +kernel), List.mem_of_getElem? (i := 312) (by decide +kernel)⟩
theorem lw_p8 : lw_okq (⟨"FairDesk$CakeTable", "sortByMarks", "(II)V"⟩, 12) := ⟨⟨by decide +kernel, by decide +kernel⟩, List.mem_of_getElem? (i := 170) (by decide +kernel), List.mem_of_getElem? (i := 319) (by decide +kernel), List.mem_of_getElem? (i := 320) (by decide +kernel)⟩
theorem lw_p9 : lw_okq (⟨"FairDesk$CakeTable", "isMarkedBefore", "(II)Z"⟩, 12) := ⟨⟨by decide +kernel, by decide +kernel⟩, List.mem_of_getElem? (i := 170) (by decide +kernel), List.mem_of_getElem? (i := 323) (by decide +kernel), List.mem_of_getElem? (i := 324) (by decide +kernel)⟩
theorem lw_p10 : lw_okq (⟨"FairDesk$CakeTable", "markNthParts", "()V"⟩, 12) := ⟨⟨by decide +kernel, by decide +kernel⟩, List.mem_of_getElem? (i := 170) (by decide +kernel), List.mem_of_getElem? (i := 335) (by decide +kernel), List.mem_of_getElem? (i := 336) (by decide +kernel)⟩
theorem lw_p11 : lw_okq (⟨"FairDesk$CakeTable", "leastMarked", "()I"⟩, 12) := ⟨⟨by decide +kernel, by decide +kernel⟩, List.mem_of_getElem? (i := 170) (by decide +kernel), List.mem_of_getElem? (i := 339) (by decide +kernel), List.mem_of_getElem? (i := 340) (by decide +kernel)⟩
theorem lw_p12 : lw_okq (⟨"FairDesk$CakeTable", "serveUpToMark", "(I)V"⟩, 12) := ⟨⟨by decide +kernel, by decide +kernel⟩, List.mem_of_getElem? (i := 170) (by decide +kernel), List.mem_of_getElem? (i := 343) (by decide +kernel), List.mem_of_getElem? (i := 344) (by decide +kernel)⟩
theorem lw_p13 : lw_okq (⟨"java/lang/Throwable", "fillInStackTrace", "(I)Ljava/lang/Throwable;"⟩, 6) := ⟨⟨by decide +kernel, by decide +kernel⟩, List.mem_of_getElem? (i := 396) (by decide +kernel), List.mem_of_getElem? (i := 394) (by decide +kernel), List.mem_of_getElem? (i := 395) (by decide +kernel)⟩
theorem lw_p14 : lw_okq (⟨"FairDesk", "isPerson", "(I)Z"⟩, 4) := ⟨⟨by decide +kernel, by decide +kernel⟩, List.mem_of_getElem? (i := 18) (by decide +kernel), List.mem_of_getElem? (i := 464) (by decide +kernel), List.mem_of_getElem? (i := 465) (by decide +kernel)⟩
theorem lw_p15 : lw_okq (⟨"FairDesk", "isItem", "(I)Z"⟩, 4) := ⟨⟨by decide +kernel, by decide +kernel⟩, List.mem_of_getElem? (i := 18) (by decide +kernel), List.mem_of_getElem? (i := 468) (by decide +kernel), List.mem_of_getElem? (i := 469) (by decide +kernel)⟩
def lw_privs_1 : List (MethodName × Nat) := [(⟨"FairDesk$Goods", "putAllBack", "()V"⟩, 8), (⟨"FairDesk$Goods", "lowestUnenvied", "()I"⟩, 8), (⟨"FairDesk$Goods", "lowestEnvier", "(I)I"⟩, 8), (⟨"FairDesk$Goods", "dearestHeld", "(II)I"⟩, 8), (⟨"FairDesk$Goods", "turnCircle", "()V"⟩, 8), (⟨"FairDesk$CakeTable", "halve", "(III)V"⟩, 12), (⟨"FairDesk$CakeTable", "weigh", "(ILFairDesk$Fraction;LFairDesk$Fraction;LFairDesk$Fraction;)V"⟩, 12), (⟨"FairDesk$CakeTable", "mark", "(ILFairDesk$Fraction;)V"⟩, 12), (⟨"FairDesk$CakeTable", "sortByMarks", "(II)V"⟩, 12), (⟨"FairDesk$CakeTable", "isMarkedBefore", "(II)Z"⟩, 12), (⟨"FairDesk$CakeTable", "markNthParts", "()V"⟩, 12), (⟨"FairDesk$CakeTable", "leastMarked", "()I"⟩, 12), (⟨"FairDesk$CakeTable", "serveUpToMark", "(I)V"⟩, 12), (⟨"java/lang/Throwable", "fillInStackTrace", "(I)Ljava/lang/Throwable;"⟩, 6), (⟨"FairDesk", "isPerson", "(I)Z"⟩, 4), (⟨"FairDesk", "isItem", "(I)Z"⟩, 4)]
theorem lw_r1 : ∀ q ∈ lw_privs_1, lw_okq q := List.forall_mem_cons.mpr ⟨lw_p0, List.forall_mem_cons.mpr ⟨lw_p1, List.forall_mem_cons.mpr ⟨lw_p2, List.forall_mem_cons.mpr ⟨lw_p3, List.forall_mem_cons.mpr ⟨lw_p4, List.forall_mem_cons.mpr ⟨lw_p5, List.forall_mem_cons.mpr ⟨lw_p6, List.forall_mem_cons.mpr ⟨lw_p7, List.forall_mem_cons.mpr ⟨lw_p8, List.forall_mem_cons.mpr ⟨lw_p9, List.forall_mem_cons.mpr ⟨lw_p10, List.forall_mem_cons.mpr ⟨lw_p11, List.forall_mem_cons.mpr ⟨lw_p12, List.forall_mem_cons.mpr ⟨lw_p13, List.forall_mem_cons.mpr ⟨lw_p14, List.forall_mem_cons.mpr ⟨lw_p15, fun _ h => absurd h List.not_mem_nil⟩⟩⟩⟩⟩⟩⟩⟩⟩⟩⟩⟩⟩⟩⟩⟩
theorem lw_p16 : lw_okq (⟨"FairDesk$Goods", "dearestLeft", "(I)I"⟩, 8) := ⟨⟨by decide +kernel, by decide +kernel⟩, List.mem_of_getElem? (i := 26) (by decide +kernel), List.mem_of_getElem? (i := 508) (by decide +kernel), List.mem_of_getElem? (i := 509) (by decide +kernel)⟩
theorem lw_p17 : lw_okq (⟨"FairDesk$ProductSearch", "tryItem", "(I)V"⟩, 9) := ⟨⟨by decide +kernel, by decide +kernel⟩, List.mem_of_getElem? (i := 34) (by decide +kernel), List.mem_of_getElem? (i := 549) (by decide +kernel), List.mem_of_getElem? (i := 550) (by decide +kernel)⟩
theorem lw_p18 : lw_okq (⟨"FairDesk$BundleSearch", "tryItem", "(III)V"⟩, 5) := ⟨⟨by decide +kernel, by decide +kernel⟩, List.mem_of_getElem? (i := 70) (by decide +kernel), List.mem_of_getElem? (i := 615) (by decide +kernel), List.mem_of_getElem? (i := 616) (by decide +kernel)⟩
theorem lw_p19 : lw_okq (⟨"FairDesk$House", "tryRooms", "(III)V"⟩, 9) := ⟨⟨by decide +kernel, by decide +kernel⟩, List.mem_of_getElem? (i := 121) (by decide +kernel), List.mem_of_getElem? (i := 665) (by decide +kernel), List.mem_of_getElem? (i := 666) (by decide +kernel)⟩
theorem lw_p20 : lw_okq (⟨"FairDesk$House", "findLeads", "()V"⟩, 9) := ⟨⟨by decide +kernel, by decide +kernel⟩, List.mem_of_getElem? (i := 121) (by decide +kernel), List.mem_of_getElem? (i := 670) (by decide +kernel), List.mem_of_getElem? (i := 671) (by decide +kernel)⟩
theorem lw_p21 : lw_okq (⟨"FairDesk$House", "setRents", "()V"⟩, 9) := ⟨⟨by decide +kernel, by decide +kernel⟩, List.mem_of_getElem? (i := 121) (by decide +kernel), List.mem_of_getElem? (i := 675) (by decide +kernel), List.mem_of_getElem? (i := 676) (by decide +kernel)⟩
theorem lw_p22 : lw_okq (⟨"FairDeskModel", "fresh", "(I)V"⟩, 27) := ⟨⟨by decide +kernel, by decide +kernel⟩, List.mem_of_getElem? (i := 758) (by decide +kernel), List.mem_of_getElem? (i := 764) (by decide +kernel), List.mem_of_getElem? (i := 765) (by decide +kernel)⟩
theorem lw_p23 : lw_okq (⟨"FairDeskModel", "putBack", "()V"⟩, 27) := ⟨⟨by decide +kernel, by decide +kernel⟩, List.mem_of_getElem? (i := 758) (by decide +kernel), List.mem_of_getElem? (i := 863) (by decide +kernel), List.mem_of_getElem? (i := 864) (by decide +kernel)⟩
theorem lw_p24 : lw_okq (⟨"FairDeskModel", "noPerson", "(I)Z"⟩, 27) := ⟨⟨by decide +kernel, by decide +kernel⟩, List.mem_of_getElem? (i := 758) (by decide +kernel), List.mem_of_getElem? (i := 871) (by decide +kernel), List.mem_of_getElem? (i := 872) (by decide +kernel)⟩
theorem lw_p25 : lw_okq (⟨"FairDeskModel", "noItem", "(I)Z"⟩, 27) := ⟨⟨by decide +kernel, by decide +kernel⟩, List.mem_of_getElem? (i := 758) (by decide +kernel), List.mem_of_getElem? (i := 875) (by decide +kernel), List.mem_of_getElem? (i := 876) (by decide +kernel)⟩
theorem lw_p26 : lw_okq (⟨"FairDeskModel", "free", "()I"⟩, 27) := ⟨⟨by decide +kernel, by decide +kernel⟩, List.mem_of_getElem? (i := 758) (by decide +kernel), List.mem_of_getElem? (i := 887) (by decide +kernel), List.mem_of_getElem? (i := 888) (by decide +kernel)⟩
theorem lw_p27 : lw_okq (⟨"FairDeskModel", "envies", "(II)Z"⟩, 27) := ⟨⟨by decide +kernel, by decide +kernel⟩, List.mem_of_getElem? (i := 758) (by decide +kernel), List.mem_of_getElem? (i := 891) (by decide +kernel), List.mem_of_getElem? (i := 892) (by decide +kernel)⟩
theorem lw_p28 : lw_okq (⟨"FairDeskModel", "worthOf", "(II)I"⟩, 27) := ⟨⟨by decide +kernel, by decide +kernel⟩, List.mem_of_getElem? (i := 758) (by decide +kernel), List.mem_of_getElem? (i := 895) (by decide +kernel), List.mem_of_getElem? (i := 896) (by decide +kernel)⟩
theorem lw_p29 : lw_okq (⟨"FairDeskModel", "turnCircle", "()V"⟩, 27) := ⟨⟨by decide +kernel, by decide +kernel⟩, List.mem_of_getElem? (i := 758) (by decide +kernel), List.mem_of_getElem? (i := 899) (by decide +kernel), List.mem_of_getElem? (i := 900) (by decide +kernel)⟩
theorem lw_p30 : lw_okq (⟨"FairDeskModel", "ways", "()I"⟩, 27) := ⟨⟨by decide +kernel, by decide +kernel⟩, List.mem_of_getElem? (i := 758) (by decide +kernel), List.mem_of_getElem? (i := 907) (by decide +kernel), List.mem_of_getElem? (i := 908) (by decide +kernel)⟩
theorem lw_p31 : lw_okq (⟨"FairDeskModel", "theWay", "(I)V"⟩, 27) := ⟨⟨by decide +kernel, by decide +kernel⟩, List.mem_of_getElem? (i := 758) (by decide +kernel), List.mem_of_getElem? (i := 912) (by decide +kernel), List.mem_of_getElem? (i := 913) (by decide +kernel)⟩
def lw_privs_2 : List (MethodName × Nat) := [(⟨"FairDesk$Goods", "dearestLeft", "(I)I"⟩, 8), (⟨"FairDesk$ProductSearch", "tryItem", "(I)V"⟩, 9), (⟨"FairDesk$BundleSearch", "tryItem", "(III)V"⟩, 5), (⟨"FairDesk$House", "tryRooms", "(III)V"⟩, 9), (⟨"FairDesk$House", "findLeads", "()V"⟩, 9), (⟨"FairDesk$House", "setRents", "()V"⟩, 9), (⟨"FairDeskModel", "fresh", "(I)V"⟩, 27), (⟨"FairDeskModel", "putBack", "()V"⟩, 27), (⟨"FairDeskModel", "noPerson", "(I)Z"⟩, 27), (⟨"FairDeskModel", "noItem", "(I)Z"⟩, 27), (⟨"FairDeskModel", "free", "()I"⟩, 27), (⟨"FairDeskModel", "envies", "(II)Z"⟩, 27), (⟨"FairDeskModel", "worthOf", "(II)I"⟩, 27), (⟨"FairDeskModel", "turnCircle", "()V"⟩, 27), (⟨"FairDeskModel", "ways", "()I"⟩, 27), (⟨"FairDeskModel", "theWay", "(I)V"⟩, 27)]
theorem lw_r2 : ∀ q ∈ lw_privs_2, lw_okq q := List.forall_mem_cons.mpr ⟨lw_p16, List.forall_mem_cons.mpr ⟨lw_p17, List.forall_mem_cons.mpr ⟨lw_p18, List.forall_mem_cons.mpr ⟨lw_p19, List.forall_mem_cons.mpr ⟨lw_p20, List.forall_mem_cons.mpr ⟨lw_p21, List.forall_mem_cons.mpr ⟨lw_p22, List.forall_mem_cons.mpr ⟨lw_p23, List.forall_mem_cons.mpr ⟨lw_p24, List.forall_mem_cons.mpr ⟨lw_p25, List.forall_mem_cons.mpr ⟨lw_p26, List.forall_mem_cons.mpr ⟨lw_p27, List.forall_mem_cons.mpr ⟨lw_p28, List.forall_mem_cons.mpr ⟨lw_p29, List.forall_mem_cons.mpr ⟨lw_p30, List.forall_mem_cons.mpr ⟨lw_p31, fun _ h => absurd h List.not_mem_nil⟩⟩⟩⟩⟩⟩⟩⟩⟩⟩⟩⟩⟩⟩⟩⟩
theorem lw_p32 : lw_okq (⟨"FairDeskModel", "theRooms", "(I)V"⟩, 27) := ⟨⟨by decide +kernel, by decide +kernel⟩, List.mem_of_getElem? (i := 758) (by decide +kernel), List.mem_of_getElem? (i := 950) (by decide +kernel), List.mem_of_getElem? (i := 951) (by decide +kernel)⟩
theorem lw_p33 : lw_okq (⟨"FairDeskModel", "findMore", "()V"⟩, 27) := ⟨⟨by decide +kernel, by decide +kernel⟩, List.mem_of_getElem? (i := 758) (by decide +kernel), List.mem_of_getElem? (i := 954) (by decide +kernel), List.mem_of_getElem? (i := 955) (by decide +kernel)⟩
theorem lw_p34 : lw_okq (⟨"FairDeskModel", "is", "(JJ)V"⟩, 27) := ⟨⟨by decide +kernel, by decide +kernel⟩, List.mem_of_getElem? (i := 758) (by decide +kernel), List.mem_of_getElem? (i := 958) (by decide +kernel), List.mem_of_getElem? (i := 959) (by decide +kernel)⟩
theorem lw_p35 : lw_okq (⟨"FairDeskModel", "halves", "()V"⟩, 27) := ⟨⟨by decide +kernel, by decide +kernel⟩, List.mem_of_getElem? (i := 758) (by decide +kernel), List.mem_of_getElem? (i := 981) (by decide +kernel), List.mem_of_getElem? (i := 982) (by decide +kernel)⟩
theorem lw_p36 : lw_okq (⟨"FairDeskModel", "takes", "(IJJJJ)V"⟩, 27) := ⟨⟨by decide +kernel, by decide +kernel⟩, List.mem_of_getElem? (i := 758) (by decide +kernel), List.mem_of_getElem? (i := 985) (by decide +kernel), List.mem_of_getElem? (i := 986) (by decide +kernel)⟩
theorem lw_p37 : lw_okq (⟨"FairDeskModel", "firstHalf", "(II)I"⟩, 27) := ⟨⟨by decide +kernel, by decide +kernel⟩, List.mem_of_getElem? (i := 758) (by decide +kernel), List.mem_of_getElem? (i := 992) (by decide +kernel), List.mem_of_getElem? (i := 993) (by decide +kernel)⟩
theorem lw_p38 : lw_okq (⟨"FairDeskModel", "stretch", "(IJJJJ)V"⟩, 27) := ⟨⟨by decide +kernel, by decide +kernel⟩, List.mem_of_getElem? (i := 758) (by decide +kernel), List.mem_of_getElem? (i := 996) (by decide +kernel), List.mem_of_getElem? (i := 997) (by decide +kernel)⟩
theorem lw_p39 : lw_okq (⟨"FairDeskModel", "add", "(JJ)V"⟩, 27) := ⟨⟨by decide +kernel, by decide +kernel⟩, List.mem_of_getElem? (i := 758) (by decide +kernel), List.mem_of_getElem? (i := 1000) (by decide +kernel), List.mem_of_getElem? (i := 1001) (by decide +kernel)⟩
theorem lw_p40 : lw_okq (⟨"FairDeskModel", "mark", "(IJJJJ)V"⟩, 27) := ⟨⟨by decide +kernel, by decide +kernel⟩, List.mem_of_getElem? (i := 758) (by decide +kernel), List.mem_of_getElem? (i := 1004) (by decide +kernel), List.mem_of_getElem? (i := 1005) (by decide +kernel)⟩
theorem lw_p41 : lw_okq (⟨"FairDeskModel", "leastMarks", "()V"⟩, 27) := ⟨⟨by decide +kernel, by decide +kernel⟩, List.mem_of_getElem? (i := 758) (by decide +kernel), List.mem_of_getElem? (i := 1008) (by decide +kernel), List.mem_of_getElem? (i := 1009) (by decide +kernel)⟩
def lw_privs_3 : List (MethodName × Nat) := [(⟨"FairDeskModel", "theRooms", "(I)V"⟩, 27), (⟨"FairDeskModel", "findMore", "()V"⟩, 27), (⟨"FairDeskModel", "is", "(JJ)V"⟩, 27), (⟨"FairDeskModel", "halves", "()V"⟩, 27), (⟨"FairDeskModel", "takes", "(IJJJJ)V"⟩, 27), (⟨"FairDeskModel", "firstHalf", "(II)I"⟩, 27), (⟨"FairDeskModel", "stretch", "(IJJJJ)V"⟩, 27), (⟨"FairDeskModel", "add", "(JJ)V"⟩, 27), (⟨"FairDeskModel", "mark", "(IJJJJ)V"⟩, 27), (⟨"FairDeskModel", "leastMarks", "()V"⟩, 27)]
theorem lw_r3 : ∀ q ∈ lw_privs_3, lw_okq q := List.forall_mem_cons.mpr ⟨lw_p32, List.forall_mem_cons.mpr ⟨lw_p33, List.forall_mem_cons.mpr ⟨lw_p34, List.forall_mem_cons.mpr ⟨lw_p35, List.forall_mem_cons.mpr ⟨lw_p36, List.forall_mem_cons.mpr ⟨lw_p37, List.forall_mem_cons.mpr ⟨lw_p38, List.forall_mem_cons.mpr ⟨lw_p39, List.forall_mem_cons.mpr ⟨lw_p40, List.forall_mem_cons.mpr ⟨lw_p41, fun _ h => absurd h List.not_mem_nil⟩⟩⟩⟩⟩⟩⟩⟩⟩⟩
def lw_privs : List (MethodName × Nat) := lw_privs_1 ++ (lw_privs_2 ++ (lw_privs_3))
def lw_tbl : List Cond := k2_sels lw_privs ++ tables_1
theorem lw_privs_ok : ∀ q ∈ lw_privs, lw_okq q := by
  show ∀ q ∈ lw_privs_1 ++ (lw_privs_2 ++ (lw_privs_3)), lw_okq q
  exact List.forall_mem_append.mpr ⟨lw_r1, List.forall_mem_append.mpr ⟨lw_r2, lw_r3⟩⟩
-- ===== end of PART A; then your names; then what follows =====
end
section
/-! The names of this claim for the little machine, written by a program (wip/whole/src/names.py) out of the Statement. -/
def mm_ws : List Cond := lw_tbl.filter goodWord
theorem mm_m {w : Cond} (i : Nat) (h : lw_tbl[i]? = some w) (hg : goodWord w = true) : w ∈ mm_ws := List.mem_filter.mpr ⟨List.mem_of_getElem? h, hg⟩
theorem mm_good (w : Cond) (h : w ∈ mm_ws) : (w.onTables && w.keeps) = true ∨ ∃ ty, w = .arrayClass ty := good_of_word (List.mem_filter.mp h).2
def mm_T0 : u_T := fun k => match k with
  | 0 => ("FairDesk", "goods", "LFairDesk$Goods;", true)
  | 1 => ("FairDesk", "house", "LFairDesk$House;", true)
  | 2 => ("FairDesk", "cakeTable", "LFairDesk$CakeTable;", true)
  | _ => ("FairDesk", "peopleCount", "I", false)
def mm_ty0 : Nat → FieldType := fun k => match k with
  | 0 => .object "FairDesk$Goods"
  | 1 => .object "FairDesk$House"
  | 2 => .object "FairDesk$CakeTable"
  | _ => .int
def mm_T1 : u_T := fun k => match k with
  | 0 => ("FairDesk$BundleSearch", "bundles", "I", false)
  | 1 => ("FairDesk$BundleSearch", "items", "I", false)
  | 2 => ("FairDesk$BundleSearch", "values", "[I", false)
  | 3 => ("FairDesk$BundleSearch", "best", "I", false)
  | _ => ("FairDesk$BundleSearch", "sums", "[I", true)
def mm_ty1 : Nat → FieldType := fun k => match k with
  | 0 => .int
  | 1 => .int
  | 2 => .array .int
  | 3 => .int
  | _ => .array .int
def mm_T2 : u_T := fun k => match k with
  | 0 => ("FairDesk$CakeTable", "people", "I", false)
  | 1 => ("FairDesk$CakeTable", "length", "I", false)
  | 2 => ("FairDesk$CakeTable", "wasCut", "Z", false)
  | 3 => ("FairDesk$CakeTable", "densities", "[[I", true)
  | 4 => ("FairDesk$CakeTable", "begins", "[LFairDesk$Fraction;", true)
  | 5 => ("FairDesk$CakeTable", "ends", "[LFairDesk$Fraction;", true)
  | 6 => ("FairDesk$CakeTable", "marks", "[LFairDesk$Fraction;", true)
  | 7 => ("FairDesk$CakeTable", "served", "[Z", true)
  | 8 => ("FairDesk$CakeTable", "order", "[I", true)
  | 9 => ("FairDesk$CakeTable", "here", "LFairDesk$Fraction;", true)
  | 10 => ("FairDesk$CakeTable", "amount", "LFairDesk$Fraction;", true)
  | _ => ("FairDesk$CakeTable", "tasted", "LFairDesk$Fraction;", true)
def mm_ty2 : Nat → FieldType := fun k => match k with
  | 0 => .int
  | 1 => .int
  | 2 => .boolean
  | 3 => .array (.array .int)
  | 4 => .array (.object "FairDesk$Fraction")
  | 5 => .array (.object "FairDesk$Fraction")
  | 6 => .array (.object "FairDesk$Fraction")
  | 7 => .array .boolean
  | 8 => .array .int
  | 9 => .object "FairDesk$Fraction"
  | 10 => .object "FairDesk$Fraction"
  | _ => .object "FairDesk$Fraction"
def mm_T3 : u_T := fun k => match k with
  | 0 => ("FairDesk$Fraction", "top", "J", false)
  | _ => ("FairDesk$Fraction", "bottom", "J", false)
def mm_ty3 : Nat → FieldType := fun k => match k with
  | 0 => .long
  | _ => .long
def mm_T4 : u_T := fun k => match k with
  | 0 => ("FairDesk$Goods", "people", "I", false)
  | 1 => ("FairDesk$Goods", "items", "I", false)
  | 2 => ("FairDesk$Goods", "values", "[[I", true)
  | 3 => ("FairDesk$Goods", "holders", "[I", true)
  | 4 => ("FairDesk$Goods", "enviers", "[I", true)
  | 5 => ("FairDesk$Goods", "takers", "[I", true)
  | 6 => ("FairDesk$Goods", "productSearch", "LFairDesk$ProductSearch;", true)
  | _ => ("FairDesk$Goods", "bundleSearch", "LFairDesk$BundleSearch;", true)
def mm_ty4 : Nat → FieldType := fun k => match k with
  | 0 => .int
  | 1 => .int
  | 2 => .array (.array .int)
  | 3 => .array .int
  | 4 => .array .int
  | 5 => .array .int
  | 6 => .object "FairDesk$ProductSearch"
  | _ => .object "FairDesk$BundleSearch"
def mm_T5 : u_T := fun k => match k with
  | 0 => ("FairDesk$House", "people", "I", false)
  | 1 => ("FairDesk$House", "totalRent", "I", false)
  | 2 => ("FairDesk$House", "divided", "Z", false)
  | 3 => ("FairDesk$House", "bestSum", "I", false)
  | 4 => ("FairDesk$House", "values", "[[I", true)
  | 5 => ("FairDesk$House", "roomsTried", "[I", true)
  | 6 => ("FairDesk$House", "roomsGot", "[I", true)
  | 7 => ("FairDesk$House", "leads", "[I", true)
  | _ => ("FairDesk$House", "rents", "[LFairDesk$Fraction;", true)
def mm_ty5 : Nat → FieldType := fun k => match k with
  | 0 => .int
  | 1 => .int
  | 2 => .boolean
  | 3 => .int
  | 4 => .array (.array .int)
  | 5 => .array .int
  | 6 => .array .int
  | 7 => .array .int
  | _ => .array (.object "FairDesk$Fraction")
def mm_T6 : u_T := fun k => match k with
  | 0 => ("FairDesk$ProductSearch", "people", "I", false)
  | 1 => ("FairDesk$ProductSearch", "items", "I", false)
  | 2 => ("FairDesk$ProductSearch", "values", "[[I", false)
  | 3 => ("FairDesk$ProductSearch", "bestHolders", "[I", false)
  | 4 => ("FairDesk$ProductSearch", "bestCount", "I", false)
  | 5 => ("FairDesk$ProductSearch", "bestProduct", "J", false)
  | 6 => ("FairDesk$ProductSearch", "holders", "[I", true)
  | 7 => ("FairDesk$ProductSearch", "held", "[I", true)
  | _ => ("FairDesk$ProductSearch", "rest", "[[I", true)
def mm_ty6 : Nat → FieldType := fun k => match k with
  | 0 => .int
  | 1 => .int
  | 2 => .array (.array .int)
  | 3 => .array .int
  | 4 => .int
  | 5 => .long
  | 6 => .array .int
  | 7 => .array .int
  | _ => .array (.array .int)
def mm_T7 : u_T := fun k => match k with
  | 0 => ("FairDeskModel", "thrownCode", "I", false)
  | 1 => ("FairDeskModel", "people", "I", false)
  | 2 => ("FairDeskModel", "items", "I", false)
  | 3 => ("FairDeskModel", "values", "[I", true)
  | 4 => ("FairDeskModel", "holder", "[I", true)
  | 5 => ("FairDeskModel", "way", "[I", true)
  | 6 => ("FairDeskModel", "worths", "[I", true)
  | 7 => ("FairDeskModel", "rooms", "[I", true)
  | 8 => ("FairDeskModel", "total", "I", false)
  | 9 => ("FairDeskModel", "divided", "Z", false)
  | 10 => ("FairDeskModel", "roomOf", "[I", true)
  | 11 => ("FairDeskModel", "tryRoom", "[I", true)
  | 12 => ("FairDeskModel", "more", "[I", true)
  | 13 => ("FairDeskModel", "rentAbove", "[J", true)
  | 14 => ("FairDeskModel", "rentBelow", "[J", true)
  | 15 => ("FairDeskModel", "length", "I", false)
  | 16 => ("FairDeskModel", "density", "[I", true)
  | 17 => ("FairDeskModel", "isCut", "Z", false)
  | 18 => ("FairDeskModel", "fromAbove", "[J", true)
  | 19 => ("FairDeskModel", "fromBelow", "[J", true)
  | 20 => ("FairDeskModel", "toAbove", "[J", true)
  | 21 => ("FairDeskModel", "toBelow", "[J", true)
  | 22 => ("FairDeskModel", "markAbove", "[J", true)
  | 23 => ("FairDeskModel", "markBelow", "[J", true)
  | 24 => ("FairDeskModel", "above", "J", false)
  | 25 => ("FairDeskModel", "below", "J", false)
  | _ => ("FairDeskModel", "group", "[I", true)
def mm_ty7 : Nat → FieldType := fun k => match k with
  | 0 => .int
  | 1 => .int
  | 2 => .int
  | 3 => .array .int
  | 4 => .array .int
  | 5 => .array .int
  | 6 => .array .int
  | 7 => .array .int
  | 8 => .int
  | 9 => .boolean
  | 10 => .array .int
  | 11 => .array .int
  | 12 => .array .int
  | 13 => .array .long
  | 14 => .array .long
  | 15 => .int
  | 16 => .array .int
  | 17 => .boolean
  | 18 => .array .long
  | 19 => .array .long
  | 20 => .array .long
  | 21 => .array .long
  | 22 => .array .long
  | 23 => .array .long
  | 24 => .long
  | 25 => .long
  | _ => .array .int
abbrev mm_cl : List vw_C := [("FairDesk", mm_T0, 4), ("FairDesk$BundleSearch", mm_T1, 5), ("FairDesk$CakeTable", mm_T2, 12), ("FairDesk$Fraction", mm_T3, 2), ("FairDesk$Goods", mm_T4, 8), ("FairDesk$House", mm_T5, 9), ("FairDesk$ProductSearch", mm_T6, 9), ("FairDeskModel", mm_T7, 27)]
def mm_fty (ci k : Nat) : FieldType := match ci with
  | 0 => mm_ty0 k
  | 1 => mm_ty1 k
  | 2 => mm_ty2 k
  | 3 => mm_ty3 k
  | 4 => mm_ty4 k
  | 5 => mm_ty5 k
  | 6 => mm_ty6 k
  | _ => mm_ty7 k
def mm_def (ci : Nat) : List Value := match ci with
  | 0 => [.null, .null, .null, .int 0]
  | 1 => [.int 0, .int 0, .null, .int 0, .null]
  | 2 => [.int 0, .int 0, .int 0, .null, .null, .null, .null, .null, .null, .null, .null, .null]
  | 3 => [.long 0, .long 0]
  | 4 => [.int 0, .int 0, .null, .null, .null, .null, .null, .null]
  | 5 => [.int 0, .int 0, .int 0, .int 0, .null, .null, .null, .null, .null]
  | 6 => [.int 0, .int 0, .null, .null, .int 0, .long 0, .null, .null, .null]
  | _ => [.int 0, .int 0, .int 0, .null, .null, .null, .null, .null, .int 0, .int 0, .null, .null, .null, .null, .null, .int 0, .null, .int 0, .null, .null, .null, .null, .null, .null, .long 0, .long 0, .null]
abbrev mm_arr : List FieldType := [.int, .long, .boolean, .object "FairDesk$Fraction", .array .int]
def mm_akd (k : Nat) : Nat := match k with
  | 50 => 1
  | 51 => 2
  | 52 => 3
  | 53 => 4
  | 54 => 4
  | 99 => 1
  | _ => 0
def mm_comp (k : Nat) : Nat := match k with
  | 53 => 3
  | _ => 200
def mm_ownC (k : Nat) : String := match k with
  | 0 => "FairDesk"
  | 1 => "FairDesk$BundleSearch"
  | 2 => "FairDesk$CakeTable"
  | 3 => "FairDesk$Fraction"
  | 4 => "FairDesk$Goods"
  | 5 => "FairDesk$House"
  | 6 => "FairDesk$ProductSearch"
  | 7 => "FairDeskModel"
  | _ => "FairDeskLaw"
def mm_xn (x : Nat) : String := match x with
  | 0 => "java/lang/IllegalArgumentException"
  | 1 => "java/lang/IndexOutOfBoundsException"
  | _ => "java/lang/IllegalStateException"
def mm_cn (j : Nat) : Nat := match j with
  | 0 => 0
  | 1 => 0
  | 2 => 0
  | 3 => 0
  | 4 => 0
  | 5 => 0
  | 6 => 0
  | 7 => 0
  | 8 => 0
  | 9 => 0
  | 10 => 0
  | 11 => 0
  | 12 => 0
  | 13 => 0
  | 14 => 0
  | 15 => 0
  | 16 => 0
  | 17 => 0
  | 18 => 0
  | 19 => 0
  | 20 => 0
  | 21 => 0
  | 22 => 0
  | 23 => 0
  | 24 => 1
  | 25 => 1
  | 26 => 1
  | 27 => 2
  | 28 => 2
  | 29 => 2
  | 30 => 2
  | 31 => 2
  | 32 => 2
  | 33 => 2
  | 34 => 2
  | 35 => 2
  | 36 => 2
  | 37 => 2
  | 38 => 2
  | 39 => 2
  | 40 => 2
  | 41 => 2
  | 42 => 2
  | 43 => 2
  | 44 => 2
  | 45 => 3
  | 46 => 3
  | 47 => 3
  | 48 => 3
  | 49 => 3
  | 50 => 3
  | 51 => 3
  | 52 => 3
  | 53 => 3
  | 54 => 4
  | 55 => 4
  | 56 => 4
  | 57 => 4
  | 58 => 4
  | 59 => 4
  | 60 => 4
  | 61 => 4
  | 62 => 4
  | 63 => 4
  | 64 => 4
  | 65 => 4
  | 66 => 4
  | 67 => 4
  | 68 => 4
  | 69 => 4
  | 70 => 4
  | 71 => 4
  | 72 => 4
  | 73 => 4
  | 74 => 5
  | 75 => 5
  | 76 => 5
  | 77 => 5
  | 78 => 5
  | 79 => 5
  | 80 => 5
  | 81 => 5
  | 82 => 5
  | 83 => 5
  | 84 => 5
  | 85 => 5
  | 86 => 6
  | 87 => 6
  | 88 => 6
  | 89 => 6
  | 90 => 7
  | 91 => 7
  | 92 => 7
  | 93 => 7
  | 94 => 7
  | 95 => 7
  | 96 => 7
  | 97 => 7
  | 98 => 7
  | 99 => 7
  | 100 => 7
  | 101 => 7
  | 102 => 7
  | 103 => 7
  | 104 => 7
  | 105 => 7
  | 106 => 7
  | 107 => 7
  | 108 => 7
  | 109 => 7
  | 110 => 7
  | 111 => 7
  | 112 => 7
  | 113 => 7
  | 114 => 7
  | 115 => 7
  | 116 => 7
  | 117 => 7
  | 118 => 7
  | 119 => 7
  | 120 => 7
  | 121 => 7
  | 122 => 7
  | 123 => 7
  | 124 => 7
  | 125 => 7
  | 126 => 7
  | 127 => 7
  | 128 => 7
  | 129 => 7
  | 130 => 7
  | 131 => 7
  | 132 => 7
  | 133 => 7
  | 134 => 8
  | 135 => 8
  | 136 => 8
  | 137 => 8
  | 138 => 8
  | 139 => 8
  | 140 => 8
  | 141 => 8
  | 142 => 8
  | 143 => 8
  | 144 => 8
  | 145 => 8
  | 146 => 8
  | 147 => 8
  | 148 => 8
  | 149 => 8
  | 150 => 8
  | 151 => 8
  | _ => 8
def mm_cls (j : Nat) : Nat := match j with
  | 0 => 0
  | 1 => 0
  | 2 => 0
  | 3 => 0
  | 4 => 0
  | 5 => 0
  | 6 => 0
  | 7 => 0
  | 8 => 0
  | 9 => 0
  | 10 => 0
  | 11 => 0
  | 12 => 0
  | 13 => 0
  | 14 => 0
  | 15 => 0
  | 16 => 0
  | 17 => 0
  | 18 => 0
  | 19 => 0
  | 20 => 0
  | 21 => 0
  | 22 => 0
  | 23 => 0
  | 24 => 1
  | 25 => 1
  | 26 => 1
  | 27 => 2
  | 28 => 2
  | 29 => 2
  | 30 => 2
  | 31 => 2
  | 32 => 2
  | 33 => 2
  | 34 => 2
  | 35 => 2
  | 36 => 2
  | 37 => 2
  | 38 => 2
  | 39 => 2
  | 40 => 2
  | 41 => 2
  | 42 => 2
  | 43 => 2
  | 44 => 2
  | 45 => 3
  | 46 => 3
  | 47 => 3
  | 48 => 3
  | 49 => 3
  | 50 => 3
  | 51 => 3
  | 52 => 3
  | 53 => 3
  | 54 => 4
  | 55 => 4
  | 56 => 4
  | 57 => 4
  | 58 => 4
  | 59 => 4
  | 60 => 4
  | 61 => 4
  | 62 => 4
  | 63 => 4
  | 64 => 4
  | 65 => 4
  | 66 => 4
  | 67 => 4
  | 68 => 4
  | 69 => 4
  | 70 => 4
  | 71 => 4
  | 72 => 4
  | 73 => 4
  | 74 => 5
  | 75 => 5
  | 76 => 5
  | 77 => 5
  | 78 => 5
  | 79 => 5
  | 80 => 5
  | 81 => 5
  | 82 => 5
  | 83 => 5
  | 84 => 5
  | 85 => 5
  | 86 => 6
  | 87 => 6
  | 88 => 6
  | 89 => 6
  | 90 => 7
  | 91 => 7
  | 92 => 7
  | 93 => 7
  | 94 => 7
  | 95 => 7
  | 96 => 7
  | 97 => 7
  | 98 => 7
  | 99 => 7
  | 100 => 7
  | 101 => 7
  | 102 => 7
  | 103 => 7
  | 104 => 7
  | 105 => 7
  | 106 => 7
  | 107 => 7
  | 108 => 7
  | 109 => 7
  | 110 => 7
  | 111 => 7
  | 112 => 7
  | 113 => 7
  | 114 => 7
  | 115 => 7
  | 116 => 7
  | 117 => 7
  | 118 => 7
  | 119 => 7
  | 120 => 7
  | 121 => 7
  | 122 => 7
  | 123 => 7
  | 124 => 7
  | 125 => 7
  | 126 => 7
  | 127 => 7
  | 128 => 7
  | 129 => 7
  | 130 => 7
  | 131 => 7
  | 132 => 7
  | 133 => 7
  | 134 => 999
  | 135 => 999
  | 136 => 999
  | 137 => 999
  | 138 => 999
  | 139 => 999
  | 140 => 999
  | 141 => 999
  | 142 => 999
  | 143 => 999
  | 144 => 999
  | 145 => 999
  | 146 => 999
  | 147 => 999
  | 148 => 999
  | 149 => 999
  | 150 => 999
  | 151 => 999
  | _ => 999
def mm_maxL (j : Nat) : Nat := match j with
  | 0 => 1
  | 1 => 2
  | 2 => 2
  | 3 => 4
  | 4 => 2
  | 5 => 1
  | 6 => 1
  | 7 => 3
  | 8 => 2
  | 9 => 3
  | 10 => 4
  | 11 => 2
  | 12 => 4
  | 13 => 2
  | 14 => 1
  | 15 => 3
  | 16 => 2
  | 17 => 4
  | 18 => 2
  | 19 => 3
  | 20 => 4
  | 21 => 2
  | 22 => 2
  | 23 => 3
  | 24 => 1
  | 25 => 6
  | 26 => 7
  | 27 => 2
  | 28 => 4
  | 29 => 2
  | 30 => 5
  | 31 => 1
  | 32 => 2
  | 33 => 2
  | 34 => 3
  | 35 => 2
  | 36 => 4
  | 37 => 3
  | 38 => 2
  | 39 => 2
  | 40 => 9
  | 41 => 6
  | 42 => 3
  | 43 => 16
  | 44 => 15
  | 45 => 1
  | 46 => 7
  | 47 => 5
  | 48 => 2
  | 49 => 2
  | 50 => 2
  | 51 => 2
  | 52 => 3
  | 53 => 7
  | 54 => 1
  | 55 => 2
  | 56 => 4
  | 57 => 1
  | 58 => 5
  | 59 => 4
  | 60 => 2
  | 61 => 5
  | 62 => 5
  | 63 => 5
  | 64 => 3
  | 65 => 5
  | 66 => 4
  | 67 => 5
  | 68 => 3
  | 69 => 3
  | 70 => 4
  | 71 => 1
  | 72 => 2
  | 73 => 2
  | 74 => 2
  | 75 => 4
  | 76 => 5
  | 77 => 3
  | 78 => 4
  | 79 => 1
  | 80 => 2
  | 81 => 2
  | 82 => 1
  | 83 => 5
  | 84 => 5
  | 85 => 6
  | 86 => 1
  | 87 => 7
  | 88 => 7
  | 89 => 3
  | 90 => 1
  | 91 => 3
  | 92 => 5
  | 93 => 3
  | 94 => 2
  | 95 => 4
  | 96 => 8
  | 97 => 3
  | 98 => 4
  | 99 => 8
  | 100 => 10
  | 101 => 5
  | 102 => 7
  | 103 => 7
  | 104 => 14
  | 105 => 16
  | 106 => 9
  | 107 => 10
  | 108 => 3
  | 109 => 5
  | 110 => 10
  | 111 => 1
  | 112 => 2
  | 113 => 2
  | 114 => 2
  | 115 => 4
  | 116 => 5
  | 117 => 6
  | 118 => 4
  | 119 => 11
  | 120 => 4
  | 121 => 2
  | 122 => 3
  | 123 => 6
  | 124 => 7
  | 125 => 5
  | 126 => 3
  | 127 => 6
  | 128 => 3
  | 129 => 2
  | 130 => 5
  | 131 => 2
  | 132 => 3
  | 133 => 4
  | 134 => 3
  | 135 => 3
  | 136 => 6
  | 137 => 3
  | 138 => 3
  | 139 => 5
  | 140 => 4
  | 141 => 5
  | 142 => 6
  | 143 => 4
  | 144 => 6
  | 145 => 4
  | 146 => 3
  | 147 => 5
  | 148 => 3
  | 149 => 6
  | 150 => 5
  | 151 => 6
  | _ => 8
def mm_ret (j : Nat) : Option FieldType := match j with
  | 0 => none
  | 1 => none
  | 2 => none
  | 3 => (some FieldType.int)
  | 4 => none
  | 5 => (some FieldType.int)
  | 6 => (some FieldType.long)
  | 7 => (some FieldType.int)
  | 8 => (some FieldType.int)
  | 9 => (some FieldType.int)
  | 10 => (some FieldType.int)
  | 11 => (some FieldType.int)
  | 12 => (some FieldType.int)
  | 13 => (some FieldType.int)
  | 14 => (some FieldType.int)
  | 15 => (some FieldType.long)
  | 16 => none
  | 17 => (some FieldType.int)
  | 18 => none
  | 19 => (some FieldType.long)
  | 20 => (some FieldType.long)
  | 21 => (some FieldType.boolean)
  | 22 => (some FieldType.boolean)
  | 23 => (some FieldType.boolean)
  | 24 => none
  | 25 => (some FieldType.int)
  | 26 => none
  | 27 => none
  | 28 => none
  | 29 => none
  | 30 => (some FieldType.int)
  | 31 => (some FieldType.boolean)
  | 32 => (some (FieldType.object "FairDesk$Fraction"))
  | 33 => (some (FieldType.object "FairDesk$Fraction"))
  | 34 => (some (FieldType.object "FairDesk$Fraction"))
  | 35 => none
  | 36 => none
  | 37 => (some FieldType.int)
  | 38 => none
  | 39 => none
  | 40 => none
  | 41 => none
  | 42 => (some FieldType.boolean)
  | 43 => none
  | 44 => none
  | 45 => none
  | 46 => none
  | 47 => none
  | 48 => none
  | 49 => (some FieldType.long)
  | 50 => (some FieldType.boolean)
  | 51 => (some FieldType.long)
  | 52 => (some FieldType.long)
  | 53 => (some FieldType.long)
  | 54 => none
  | 55 => none
  | 56 => none
  | 57 => (some FieldType.int)
  | 58 => (some FieldType.int)
  | 59 => (some FieldType.int)
  | 60 => (some FieldType.int)
  | 61 => (some FieldType.int)
  | 62 => (some FieldType.int)
  | 63 => (some FieldType.int)
  | 64 => (some FieldType.boolean)
  | 65 => none
  | 66 => (some FieldType.int)
  | 67 => (some FieldType.int)
  | 68 => (some FieldType.int)
  | 69 => (some FieldType.int)
  | 70 => none
  | 71 => (some FieldType.long)
  | 72 => (some FieldType.int)
  | 73 => none
  | 74 => none
  | 75 => none
  | 76 => (some FieldType.int)
  | 77 => (some FieldType.int)
  | 78 => (some FieldType.boolean)
  | 79 => (some FieldType.boolean)
  | 80 => (some FieldType.int)
  | 81 => (some (FieldType.object "FairDesk$Fraction"))
  | 82 => (some FieldType.int)
  | 83 => none
  | 84 => none
  | 85 => none
  | 86 => none
  | 87 => (some FieldType.long)
  | 88 => none
  | 89 => (some FieldType.long)
  | 90 => none
  | 91 => none
  | 92 => (some FieldType.int)
  | 93 => (some FieldType.boolean)
  | 94 => none
  | 95 => (some FieldType.int)
  | 96 => none
  | 97 => (some FieldType.int)
  | 98 => none
  | 99 => none
  | 100 => (some FieldType.long)
  | 101 => none
  | 102 => none
  | 103 => none
  | 104 => none
  | 105 => none
  | 106 => none
  | 107 => none
  | 108 => (some FieldType.int)
  | 109 => none
  | 110 => (some FieldType.int)
  | 111 => (some FieldType.int)
  | 112 => (some FieldType.boolean)
  | 113 => (some FieldType.boolean)
  | 114 => none
  | 115 => none
  | 116 => (some FieldType.int)
  | 117 => none
  | 118 => (some FieldType.int)
  | 119 => (some FieldType.long)
  | 120 => (some FieldType.int)
  | 121 => (some FieldType.int)
  | 122 => (some FieldType.int)
  | 123 => (some FieldType.int)
  | 124 => (some FieldType.int)
  | 125 => (some FieldType.int)
  | 126 => (some FieldType.int)
  | 127 => (some FieldType.int)
  | 128 => (some FieldType.long)
  | 129 => none
  | 130 => (some FieldType.int)
  | 131 => none
  | 132 => (some FieldType.long)
  | 133 => (some FieldType.long)
  | 134 => (some FieldType.int)
  | 135 => (some FieldType.int)
  | 136 => (some FieldType.int)
  | 137 => (some FieldType.int)
  | 138 => (some FieldType.int)
  | 139 => (some FieldType.int)
  | 140 => (some FieldType.int)
  | 141 => (some FieldType.int)
  | 142 => (some FieldType.int)
  | 143 => (some FieldType.int)
  | 144 => (some FieldType.int)
  | 145 => (some FieldType.int)
  | 146 => (some FieldType.int)
  | 147 => (some FieldType.int)
  | 148 => (some FieldType.int)
  | 149 => (some FieldType.int)
  | 150 => (some FieldType.int)
  | 151 => (some FieldType.int)
  | _ => (some FieldType.boolean)
def mm_ctor (j : Nat) : Bool := match j with
  | 0 => true
  | 1 => false
  | 2 => false
  | 3 => false
  | 4 => false
  | 5 => false
  | 6 => false
  | 7 => false
  | 8 => false
  | 9 => false
  | 10 => false
  | 11 => false
  | 12 => false
  | 13 => false
  | 14 => false
  | 15 => false
  | 16 => false
  | 17 => false
  | 18 => false
  | 19 => false
  | 20 => false
  | 21 => false
  | 22 => false
  | 23 => false
  | 24 => true
  | 25 => false
  | 26 => false
  | 27 => true
  | 28 => false
  | 29 => false
  | 30 => false
  | 31 => false
  | 32 => false
  | 33 => false
  | 34 => false
  | 35 => false
  | 36 => false
  | 37 => false
  | 38 => false
  | 39 => false
  | 40 => false
  | 41 => false
  | 42 => false
  | 43 => false
  | 44 => false
  | 45 => true
  | 46 => false
  | 47 => false
  | 48 => false
  | 49 => false
  | 50 => false
  | 51 => false
  | 52 => false
  | 53 => false
  | 54 => true
  | 55 => false
  | 56 => false
  | 57 => false
  | 58 => false
  | 59 => false
  | 60 => false
  | 61 => false
  | 62 => false
  | 63 => false
  | 64 => false
  | 65 => false
  | 66 => false
  | 67 => false
  | 68 => false
  | 69 => false
  | 70 => false
  | 71 => false
  | 72 => false
  | 73 => false
  | 74 => true
  | 75 => false
  | 76 => false
  | 77 => false
  | 78 => false
  | 79 => false
  | 80 => false
  | 81 => false
  | 82 => false
  | 83 => false
  | 84 => false
  | 85 => false
  | 86 => true
  | 87 => false
  | 88 => false
  | 89 => false
  | 90 => true
  | 91 => false
  | 92 => false
  | 93 => false
  | 94 => false
  | 95 => false
  | 96 => false
  | 97 => false
  | 98 => false
  | 99 => false
  | 100 => false
  | 101 => false
  | 102 => false
  | 103 => false
  | 104 => false
  | 105 => false
  | 106 => false
  | 107 => false
  | 108 => false
  | 109 => false
  | 110 => false
  | 111 => false
  | 112 => false
  | 113 => false
  | 114 => false
  | 115 => false
  | 116 => false
  | 117 => false
  | 118 => false
  | 119 => false
  | 120 => false
  | 121 => false
  | 122 => false
  | 123 => false
  | 124 => false
  | 125 => false
  | 126 => false
  | 127 => false
  | 128 => false
  | 129 => false
  | 130 => false
  | 131 => false
  | 132 => false
  | 133 => false
  | 134 => false
  | 135 => false
  | 136 => false
  | 137 => false
  | 138 => false
  | 139 => false
  | 140 => false
  | 141 => false
  | 142 => false
  | 143 => false
  | 144 => false
  | 145 => false
  | 146 => false
  | 147 => false
  | 148 => false
  | 149 => false
  | 150 => false
  | 151 => false
  | _ => false
def mm_bytes (j : Nat) : ByteArray := match j with
  | 0 => prog_1_method_1_code
  | 1 => prog_1_method_2_code
  | 2 => prog_1_method_3_code
  | 3 => prog_1_method_4_code
  | 4 => prog_1_method_5_code
  | 5 => prog_1_method_6_code
  | 6 => prog_1_method_7_code
  | 7 => prog_1_method_8_code
  | 8 => prog_1_method_9_code
  | 9 => prog_1_method_10_code
  | 10 => prog_1_method_11_code
  | 11 => prog_1_method_12_code
  | 12 => prog_1_method_13_code
  | 13 => prog_1_method_14_code
  | 14 => prog_1_method_15_code
  | 15 => prog_1_method_16_code
  | 16 => prog_1_method_17_code
  | 17 => prog_1_method_18_code
  | 18 => prog_1_method_19_code
  | 19 => prog_1_method_20_code
  | 20 => prog_1_method_21_code
  | 21 => prog_1_method_22_code
  | 22 => prog_1_method_23_code
  | 23 => prog_1_method_24_code
  | 24 => prog_2_method_1_code
  | 25 => prog_2_method_2_code
  | 26 => prog_2_method_3_code
  | 27 => prog_3_method_1_code
  | 28 => prog_3_method_2_code
  | 29 => prog_3_method_3_code
  | 30 => prog_3_method_4_code
  | 31 => prog_3_method_5_code
  | 32 => prog_3_method_6_code
  | 33 => prog_3_method_7_code
  | 34 => prog_3_method_8_code
  | 35 => prog_3_method_9_code
  | 36 => prog_3_method_10_code
  | 37 => prog_3_method_11_code
  | 38 => prog_3_method_12_code
  | 39 => prog_3_method_13_code
  | 40 => prog_3_method_14_code
  | 41 => prog_3_method_15_code
  | 42 => prog_3_method_16_code
  | 43 => prog_3_method_17_code
  | 44 => prog_3_method_18_code
  | 45 => prog_4_method_1_code
  | 46 => prog_4_method_2_code
  | 47 => prog_4_method_3_code
  | 48 => prog_4_method_4_code
  | 49 => prog_4_method_5_code
  | 50 => prog_4_method_6_code
  | 51 => prog_4_method_7_code
  | 52 => prog_4_method_8_code
  | 53 => prog_4_method_9_code
  | 54 => prog_5_method_1_code
  | 55 => prog_5_method_2_code
  | 56 => prog_5_method_3_code
  | 57 => prog_5_method_4_code
  | 58 => prog_5_method_5_code
  | 59 => prog_5_method_6_code
  | 60 => prog_5_method_7_code
  | 61 => prog_5_method_8_code
  | 62 => prog_5_method_9_code
  | 63 => prog_5_method_10_code
  | 64 => prog_5_method_11_code
  | 65 => prog_5_method_12_code
  | 66 => prog_5_method_13_code
  | 67 => prog_5_method_14_code
  | 68 => prog_5_method_15_code
  | 69 => prog_5_method_16_code
  | 70 => prog_5_method_17_code
  | 71 => prog_5_method_18_code
  | 72 => prog_5_method_19_code
  | 73 => prog_5_method_20_code
  | 74 => prog_6_method_1_code
  | 75 => prog_6_method_2_code
  | 76 => prog_6_method_3_code
  | 77 => prog_6_method_4_code
  | 78 => prog_6_method_5_code
  | 79 => prog_6_method_6_code
  | 80 => prog_6_method_7_code
  | 81 => prog_6_method_8_code
  | 82 => prog_6_method_9_code
  | 83 => prog_6_method_10_code
  | 84 => prog_6_method_11_code
  | 85 => prog_6_method_12_code
  | 86 => prog_7_method_1_code
  | 87 => prog_7_method_2_code
  | 88 => prog_7_method_3_code
  | 89 => prog_7_method_4_code
  | 90 => prog_9_method_1_code
  | 91 => prog_9_method_2_code
  | 92 => prog_9_method_3_code
  | 93 => prog_9_method_4_code
  | 94 => prog_9_method_5_code
  | 95 => prog_9_method_6_code
  | 96 => prog_9_method_7_code
  | 97 => prog_9_method_8_code
  | 98 => prog_9_method_9_code
  | 99 => prog_9_method_10_code
  | 100 => prog_9_method_11_code
  | 101 => prog_9_method_12_code
  | 102 => prog_9_method_13_code
  | 103 => prog_9_method_14_code
  | 104 => prog_9_method_15_code
  | 105 => prog_9_method_16_code
  | 106 => prog_9_method_17_code
  | 107 => prog_9_method_18_code
  | 108 => prog_9_method_19_code
  | 109 => prog_9_method_20_code
  | 110 => prog_9_method_21_code
  | 111 => prog_9_method_22_code
  | 112 => prog_9_method_23_code
  | 113 => prog_9_method_24_code
  | 114 => prog_9_method_25_code
  | 115 => prog_9_method_26_code
  | 116 => prog_9_method_27_code
  | 117 => prog_9_method_28_code
  | 118 => prog_9_method_29_code
  | 119 => prog_9_method_30_code
  | 120 => prog_9_method_31_code
  | 121 => prog_9_method_32_code
  | 122 => prog_9_method_33_code
  | 123 => prog_9_method_34_code
  | 124 => prog_9_method_35_code
  | 125 => prog_9_method_36_code
  | 126 => prog_9_method_37_code
  | 127 => prog_9_method_38_code
  | 128 => prog_9_method_39_code
  | 129 => prog_9_method_40_code
  | 130 => prog_9_method_41_code
  | 131 => prog_9_method_42_code
  | 132 => prog_9_method_43_code
  | 133 => prog_9_method_44_code
  | 134 => method_3_code
  | 135 => method_4_code
  | 136 => method_5_code
  | 137 => method_6_code
  | 138 => method_7_code
  | 139 => method_8_code
  | 140 => method_9_code
  | 141 => method_10_code
  | 142 => method_11_code
  | 143 => method_12_code
  | 144 => method_13_code
  | 145 => method_14_code
  | 146 => method_15_code
  | 147 => method_16_code
  | 148 => method_17_code
  | 149 => method_18_code
  | 150 => method_19_code
  | 151 => method_20_code
  | _ => code
def mm_y (j : Nat) : MethodName := match j with
  | 0 => ⟨"FairDesk", "<init>", "()V"⟩
  | 1 => ⟨"FairDesk", "people", "(I)V"⟩
  | 2 => ⟨"FairDesk", "items", "(I)V"⟩
  | 3 => ⟨"FairDesk", "value", "(III)I"⟩
  | 4 => ⟨"FairDesk", "picks", "(I)V"⟩
  | 5 => ⟨"FairDesk", "circles", "()I"⟩
  | 6 => ⟨"FairDesk", "product", "()J"⟩
  | 7 => ⟨"FairDesk", "give", "(II)I"⟩
  | 8 => ⟨"FairDesk", "holder", "(I)I"⟩
  | 9 => ⟨"FairDesk", "worth", "(II)I"⟩
  | 10 => ⟨"FairDesk", "envy", "(IIZ)I"⟩
  | 11 => ⟨"FairDesk", "guarantee", "(I)I"⟩
  | 12 => ⟨"FairDesk", "room", "(III)I"⟩
  | 13 => ⟨"FairDesk", "total", "(I)I"⟩
  | 14 => ⟨"FairDesk", "rooms", "()I"⟩
  | 15 => ⟨"FairDesk", "rent", "(II)J"⟩
  | 16 => ⟨"FairDesk", "cake", "(I)V"⟩
  | 17 => ⟨"FairDesk", "density", "(III)I"⟩
  | 18 => ⟨"FairDesk", "cut", "(Z)V"⟩
  | 19 => ⟨"FairDesk", "piece", "(II)J"⟩
  | 20 => ⟨"FairDesk", "taste", "(III)J"⟩
  | 21 => ⟨"FairDesk", "isPerson", "(I)Z"⟩
  | 22 => ⟨"FairDesk", "isItem", "(I)Z"⟩
  | 23 => ⟨"FairDesk", "isWithin", "(III)Z"⟩
  | 24 => ⟨"FairDesk$BundleSearch", "<init>", "()V"⟩
  | 25 => ⟨"FairDesk$BundleSearch", "run", "([III)I"⟩
  | 26 => ⟨"FairDesk$BundleSearch", "tryItem", "(III)V"⟩
  | 27 => ⟨"FairDesk$CakeTable", "<init>", "()V"⟩
  | 28 => ⟨"FairDesk$CakeTable", "startOver", "(I)V"⟩
  | 29 => ⟨"FairDesk$CakeTable", "setLength", "(I)V"⟩
  | 30 => ⟨"FairDesk$CakeTable", "setDensity", "(III)I"⟩
  | 31 => ⟨"FairDesk$CakeTable", "hasPieces", "()Z"⟩
  | 32 => ⟨"FairDesk$CakeTable", "beginOf", "(I)LFairDesk$Fraction;"⟩
  | 33 => ⟨"FairDesk$CakeTable", "endOf", "(I)LFairDesk$Fraction;"⟩
  | 34 => ⟨"FairDesk$CakeTable", "tasteOf", "(II)LFairDesk$Fraction;"⟩
  | 35 => ⟨"FairDesk$CakeTable", "cutByLeastMarks", "()V"⟩
  | 36 => ⟨"FairDesk$CakeTable", "markNthParts", "()V"⟩
  | 37 => ⟨"FairDesk$CakeTable", "leastMarked", "()I"⟩
  | 38 => ⟨"FairDesk$CakeTable", "serveUpToMark", "(I)V"⟩
  | 39 => ⟨"FairDesk$CakeTable", "cutByHalves", "()V"⟩
  | 40 => ⟨"FairDesk$CakeTable", "halve", "(III)V"⟩
  | 41 => ⟨"FairDesk$CakeTable", "sortByMarks", "(II)V"⟩
  | 42 => ⟨"FairDesk$CakeTable", "isMarkedBefore", "(II)Z"⟩
  | 43 => ⟨"FairDesk$CakeTable", "weigh", "(ILFairDesk$Fraction;LFairDesk$Fraction;LFairDesk$Fraction;)V"⟩
  | 44 => ⟨"FairDesk$CakeTable", "mark", "(ILFairDesk$Fraction;)V"⟩
  | 45 => ⟨"FairDesk$Fraction", "<init>", "()V"⟩
  | 46 => ⟨"FairDesk$Fraction", "become", "(JJ)V"⟩
  | 47 => ⟨"FairDesk$Fraction", "scale", "(JJ)V"⟩
  | 48 => ⟨"FairDesk$Fraction", "becomeLike", "(LFairDesk$Fraction;)V"⟩
  | 49 => ⟨"FairDesk$Fraction", "part", "(I)J"⟩
  | 50 => ⟨"FairDesk$Fraction", "isLessThan", "(LFairDesk$Fraction;)Z"⟩
  | 51 => ⟨"FairDesk$Fraction", "commonBottom", "(LFairDesk$Fraction;)J"⟩
  | 52 => ⟨"FairDesk$Fraction", "countOver", "(J)J"⟩
  | 53 => ⟨"FairDesk$Fraction", "greatestDivisor", "(JJ)J"⟩
  | 54 => ⟨"FairDesk$Goods", "<init>", "()V"⟩
  | 55 => ⟨"FairDesk$Goods", "startOver", "(I)V"⟩
  | 56 => ⟨"FairDesk$Goods", "resize", "(I)V"⟩
  | 57 => ⟨"FairDesk$Goods", "itemCount", "()I"⟩
  | 58 => ⟨"FairDesk$Goods", "setValue", "(III)I"⟩
  | 59 => ⟨"FairDesk$Goods", "setHolder", "(II)I"⟩
  | 60 => ⟨"FairDesk$Goods", "holderOf", "(I)I"⟩
  | 61 => ⟨"FairDesk$Goods", "worthTo", "(II)I"⟩
  | 62 => ⟨"FairDesk$Goods", "envyOf", "(IIZ)I"⟩
  | 63 => ⟨"FairDesk$Goods", "dearestHeld", "(II)I"⟩
  | 64 => ⟨"FairDesk$Goods", "hasFewWays", "()Z"⟩
  | 65 => ⟨"FairDesk$Goods", "divideInTurns", "(I)V"⟩
  | 66 => ⟨"FairDesk$Goods", "dearestLeft", "(I)I"⟩
  | 67 => ⟨"FairDesk$Goods", "divideByCircles", "()I"⟩
  | 68 => ⟨"FairDesk$Goods", "lowestUnenvied", "()I"⟩
  | 69 => ⟨"FairDesk$Goods", "lowestEnvier", "(I)I"⟩
  | 70 => ⟨"FairDesk$Goods", "turnCircle", "()V"⟩
  | 71 => ⟨"FairDesk$Goods", "divideByProduct", "()J"⟩
  | 72 => ⟨"FairDesk$Goods", "guaranteedTo", "(I)I"⟩
  | 73 => ⟨"FairDesk$Goods", "putAllBack", "()V"⟩
  | 74 => ⟨"FairDesk$House", "<init>", "()V"⟩
  | 75 => ⟨"FairDesk$House", "startOver", "(I)V"⟩
  | 76 => ⟨"FairDesk$House", "setValue", "(III)I"⟩
  | 77 => ⟨"FairDesk$House", "setTotal", "(I)I"⟩
  | 78 => ⟨"FairDesk$House", "valuesMakeTotal", "()Z"⟩
  | 79 => ⟨"FairDesk$House", "isDivided", "()Z"⟩
  | 80 => ⟨"FairDesk$House", "roomOf", "(I)I"⟩
  | 81 => ⟨"FairDesk$House", "rentOf", "(I)LFairDesk$Fraction;"⟩
  | 82 => ⟨"FairDesk$House", "divide", "()I"⟩
  | 83 => ⟨"FairDesk$House", "tryRooms", "(III)V"⟩
  | 84 => ⟨"FairDesk$House", "findLeads", "()V"⟩
  | 85 => ⟨"FairDesk$House", "setRents", "()V"⟩
  | 86 => ⟨"FairDesk$ProductSearch", "<init>", "()V"⟩
  | 87 => ⟨"FairDesk$ProductSearch", "run", "([[III[I)J"⟩
  | 88 => ⟨"FairDesk$ProductSearch", "tryItem", "(I)V"⟩
  | 89 => ⟨"FairDesk$ProductSearch", "timesAtMost", "(JI)J"⟩
  | 90 => ⟨"FairDeskModel", "<init>", "()V"⟩
  | 91 => ⟨"FairDeskModel", "fresh", "(I)V"⟩
  | 92 => ⟨"FairDeskModel", "worthOf", "(II)I"⟩
  | 93 => ⟨"FairDeskModel", "envies", "(II)Z"⟩
  | 94 => ⟨"FairDeskModel", "putBack", "()V"⟩
  | 95 => ⟨"FairDeskModel", "free", "()I"⟩
  | 96 => ⟨"FairDeskModel", "turnCircle", "()V"⟩
  | 97 => ⟨"FairDeskModel", "ways", "()I"⟩
  | 98 => ⟨"FairDeskModel", "theWay", "(I)V"⟩
  | 99 => ⟨"FairDeskModel", "theRooms", "(I)V"⟩
  | 100 => ⟨"FairDeskModel", "common", "(JJ)J"⟩
  | 101 => ⟨"FairDeskModel", "findMore", "()V"⟩
  | 102 => ⟨"FairDeskModel", "is", "(JJ)V"⟩
  | 103 => ⟨"FairDeskModel", "add", "(JJ)V"⟩
  | 104 => ⟨"FairDeskModel", "stretch", "(IJJJJ)V"⟩
  | 105 => ⟨"FairDeskModel", "mark", "(IJJJJ)V"⟩
  | 106 => ⟨"FairDeskModel", "leastMarks", "()V"⟩
  | 107 => ⟨"FairDeskModel", "takes", "(IJJJJ)V"⟩
  | 108 => ⟨"FairDeskModel", "bits", "(I)I"⟩
  | 109 => ⟨"FairDeskModel", "halves", "()V"⟩
  | 110 => ⟨"FairDeskModel", "firstHalf", "(II)I"⟩
  | 111 => ⟨"FairDeskModel", "thrown", "()I"⟩
  | 112 => ⟨"FairDeskModel", "noPerson", "(I)Z"⟩
  | 113 => ⟨"FairDeskModel", "noItem", "(I)Z"⟩
  | 114 => ⟨"FairDeskModel", "people", "(I)V"⟩
  | 115 => ⟨"FairDeskModel", "items", "(I)V"⟩
  | 116 => ⟨"FairDeskModel", "value", "(III)I"⟩
  | 117 => ⟨"FairDeskModel", "picks", "(I)V"⟩
  | 118 => ⟨"FairDeskModel", "circles", "()I"⟩
  | 119 => ⟨"FairDeskModel", "product", "()J"⟩
  | 120 => ⟨"FairDeskModel", "give", "(II)I"⟩
  | 121 => ⟨"FairDeskModel", "holder", "(I)I"⟩
  | 122 => ⟨"FairDeskModel", "worth", "(II)I"⟩
  | 123 => ⟨"FairDeskModel", "envy", "(IIZ)I"⟩
  | 124 => ⟨"FairDeskModel", "guarantee", "(I)I"⟩
  | 125 => ⟨"FairDeskModel", "room", "(III)I"⟩
  | 126 => ⟨"FairDeskModel", "total", "(I)I"⟩
  | 127 => ⟨"FairDeskModel", "rooms", "()I"⟩
  | 128 => ⟨"FairDeskModel", "rent", "(II)J"⟩
  | 129 => ⟨"FairDeskModel", "cake", "(I)V"⟩
  | 130 => ⟨"FairDeskModel", "density", "(III)I"⟩
  | 131 => ⟨"FairDeskModel", "cut", "(Z)V"⟩
  | 132 => ⟨"FairDeskModel", "piece", "(II)J"⟩
  | 133 => ⟨"FairDeskModel", "taste", "(III)J"⟩
  | 134 => ⟨"FairDeskLaw", "people", "(LFairDesk;I)I"⟩
  | 135 => ⟨"FairDeskLaw", "items", "(LFairDesk;I)I"⟩
  | 136 => ⟨"FairDeskLaw", "value", "(LFairDesk;III[J)I"⟩
  | 137 => ⟨"FairDeskLaw", "picks", "(LFairDesk;I)I"⟩
  | 138 => ⟨"FairDeskLaw", "product", "(LFairDesk;[J)I"⟩
  | 139 => ⟨"FairDeskLaw", "give", "(LFairDesk;II[J)I"⟩
  | 140 => ⟨"FairDeskLaw", "holder", "(LFairDesk;I[J)I"⟩
  | 141 => ⟨"FairDeskLaw", "worth", "(LFairDesk;II[J)I"⟩
  | 142 => ⟨"FairDeskLaw", "envy", "(LFairDesk;IIZ[J)I"⟩
  | 143 => ⟨"FairDeskLaw", "guarantee", "(LFairDesk;I[J)I"⟩
  | 144 => ⟨"FairDeskLaw", "room", "(LFairDesk;III[J)I"⟩
  | 145 => ⟨"FairDeskLaw", "total", "(LFairDesk;I[J)I"⟩
  | 146 => ⟨"FairDeskLaw", "rooms", "(LFairDesk;[J)I"⟩
  | 147 => ⟨"FairDeskLaw", "rent", "(LFairDesk;II[J)I"⟩
  | 148 => ⟨"FairDeskLaw", "cake", "(LFairDesk;I)I"⟩
  | 149 => ⟨"FairDeskLaw", "density", "(LFairDesk;III[J)I"⟩
  | 150 => ⟨"FairDeskLaw", "piece", "(LFairDesk;II[J)I"⟩
  | 151 => ⟨"FairDeskLaw", "taste", "(LFairDesk;III[J)I"⟩
  | _ => ⟨"FairDeskLaw", "law", "([I)Z"⟩
def mm_hh (j : Nat) : List (Nat × Nat × Nat × Nat) := match j with
  | 134 => [(0, 5, 8, 13)]
  | 135 => [(0, 5, 8, 13)]
  | 136 => [(0, 12, 15, 13), (0, 12, 19, 22)]
  | 137 => [(0, 5, 8, 22)]
  | 138 => [(0, 7, 10, 31)]
  | 139 => [(0, 10, 13, 22)]
  | 140 => [(0, 9, 12, 22)]
  | 141 => [(0, 10, 13, 22)]
  | 142 => [(0, 12, 15, 22)]
  | 143 => [(0, 9, 12, 22), (0, 9, 15, 31)]
  | 144 => [(0, 12, 15, 13), (0, 12, 19, 22)]
  | 145 => [(0, 9, 12, 13)]
  | 146 => [(0, 8, 11, 31)]
  | 147 => [(0, 9, 12, 22), (0, 9, 16, 31)]
  | 148 => [(0, 5, 8, 13)]
  | 149 => [(0, 12, 15, 13), (0, 12, 19, 22)]
  | 150 => [(0, 9, 12, 22), (0, 9, 16, 31)]
  | 151 => [(0, 11, 14, 22), (0, 11, 18, 31)]
  | _ => []
def mm_own (j : Nat) : String := mm_ownC (mm_cn j)
def mm_nest : List (String × Nat × Nat × String) := [("FairDesk$CakeTable", 47, 45, "FairDesk"), ("FairDesk$Goods", 35, 86, "FairDesk"), ("FairDesk$Goods", 42, 24, "FairDesk"), ("FairDesk$House", 43, 45, "FairDesk")]
def mm_strs : List (String × Nat × String) := [("FairDesk", 40, "people are 1 to 6"), ("FairDesk", 51, "items are 0 to 12"), ("FairDesk", 56, "an item's value is 0 to 1000"), ("FairDesk", 67, "no such person or item"), ("FairDesk", 74, "no such person"), ("FairDesk", 89, "too many ways to give the items"), ("FairDesk", 100, "no such item"), ("FairDesk", 113, "too many ways to put the items into bundles"), ("FairDesk", 119, "a room's value is 0 to 100000"), ("FairDesk", 121, "no such person or room"), ("FairDesk", 125, "a total rent is 0 to 600000"), ("FairDesk", 133, "to somebody the rooms' values are not the total"), ("FairDesk", 138, "no such person or what"), ("FairDesk", 143, "the rooms were not divided"), ("FairDesk", 158, "a cake's length is 1 to 16"), ("FairDesk", 163, "a density is 0 to 12"), ("FairDesk", 165, "no such person or part of the cake"), ("FairDesk", 179, "the cake is not cut")]
def mm_hand (j pc x : Nat) : Option (Nat × Nat) := match j, pc, x with
  | 134, 2, 0 => some (9, 2)
  | 135, 2, 0 => some (9, 2)
  | 136, 7, 0 => some (17, 5)
  | 136, 7, 1 => some (21, 5)
  | 137, 2, 1 => some (9, 2)
  | 138, 3, 2 => some (11, 2)
  | 139, 5, 1 => some (15, 4)
  | 140, 4, 1 => some (13, 3)
  | 141, 5, 1 => some (15, 4)
  | 142, 7, 1 => some (17, 5)
  | 143, 4, 1 => some (13, 3)
  | 143, 4, 2 => some (16, 3)
  | 144, 7, 0 => some (17, 5)
  | 144, 7, 1 => some (21, 5)
  | 145, 4, 0 => some (13, 3)
  | 146, 3, 2 => some (12, 2)
  | 147, 5, 1 => some (14, 4)
  | 147, 5, 2 => some (18, 4)
  | 148, 2, 0 => some (9, 2)
  | 149, 7, 0 => some (17, 5)
  | 149, 7, 1 => some (21, 5)
  | 150, 5, 1 => some (14, 4)
  | 150, 5, 2 => some (18, 4)
  | 151, 7, 1 => some (16, 5)
  | 151, 7, 2 => some (20, 5)
  | _, _, _ => none
def mm_c0 : List (Nat × Instr) := [(0, .aload_n 0), (1, .invokespecial 1), (4, .aload_n 0), (5, .new 7), (8, .dup), (9, .invokespecial 9), (12, .putfield 10), (15, .aload_n 0), (16, .new 16), (19, .dup), (20, .invokespecial 18), (23, .putfield 19), (26, .aload_n 0), (27, .new 23), (30, .dup), (31, .invokespecial 25), (34, .putfield 26), (37, .aload_n 0), (38, .iconst 1), (39, .putfield 30), (42, .return_)]
def mm_c1 : List (Nat × Instr) := [(0, .iload_n 1), (1, .iconst 1), (2, .bipush 6), (4, .invokestatic 34), (7, .ifCond .ne 13), (10, .new 38), (13, .dup), (14, .ldc 40), (16, .invokespecial 42), (19, .athrow), (20, .aload_n 0), (21, .iload_n 1), (22, .putfield 30), (25, .aload_n 0), (26, .getfield 10), (29, .iload_n 1), (30, .invokevirtual 45), (33, .aload_n 0), (34, .getfield 19), (37, .iload_n 1), (38, .invokevirtual 49), (41, .aload_n 0), (42, .getfield 26), (45, .iload_n 1), (46, .invokevirtual 50), (49, .return_)]
def mm_c2 : List (Nat × Instr) := [(0, .iload_n 1), (1, .iconst 0), (2, .bipush 12), (4, .invokestatic 34), (7, .ifCond .ne 13), (10, .new 38), (13, .dup), (14, .ldc 51), (16, .invokespecial 42), (19, .athrow), (20, .aload_n 0), (21, .getfield 10), (24, .iload_n 1), (25, .invokevirtual 53), (28, .return_)]
def mm_c3 : List (Nat × Instr) := [(0, .iload_n 3), (1, .iconst 0), (2, .sipush 1000), (5, .invokestatic 34), (8, .ifCond .ne 13), (11, .new 38), (14, .dup), (15, .ldc 56), (17, .invokespecial 42), (20, .athrow), (21, .aload_n 0), (22, .iload_n 1), (23, .invokevirtual 58), (26, .ifCond .eq 11), (29, .aload_n 0), (30, .iload_n 2), (31, .invokevirtual 62), (34, .ifCond .ne 13), (37, .new 65), (40, .dup), (41, .ldc 67), (43, .invokespecial 69), (46, .athrow), (47, .aload_n 0), (48, .getfield 10), (51, .iload_n 1), (52, .iload_n 2), (53, .iload_n 3), (54, .invokevirtual 70), (57, .ireturn)]
def mm_c4 : List (Nat × Instr) := [(0, .aload_n 0), (1, .iload_n 1), (2, .invokevirtual 58), (5, .ifCond .ne 13), (8, .new 65), (11, .dup), (12, .ldc 74), (14, .invokespecial 69), (17, .athrow), (18, .aload_n 0), (19, .getfield 10), (22, .iload_n 1), (23, .invokevirtual 76), (26, .return_)]
def mm_c5 : List (Nat × Instr) := [(0, .aload_n 0), (1, .getfield 10), (4, .invokevirtual 79), (7, .ireturn)]
def mm_c6 : List (Nat × Instr) := [(0, .aload_n 0), (1, .getfield 10), (4, .invokevirtual 83), (7, .ifCond .ne 13), (10, .new 87), (13, .dup), (14, .ldc 89), (16, .invokespecial 91), (19, .athrow), (20, .aload_n 0), (21, .getfield 10), (24, .invokevirtual 92), (27, .lreturn)]
def mm_c7 : List (Nat × Instr) := [(0, .aload_n 0), (1, .iload_n 1), (2, .invokevirtual 62), (5, .ifCond .eq 16), (8, .aload_n 0), (9, .iload_n 2), (10, .invokevirtual 58), (13, .ifCond .ne 18), (16, .iload_n 2), (17, .iconst (-1)), (18, .if_icmp .eq 13), (21, .new 65), (24, .dup), (25, .ldc 67), (27, .invokespecial 69), (30, .athrow), (31, .aload_n 0), (32, .getfield 10), (35, .iload_n 1), (36, .iload_n 2), (37, .invokevirtual 96), (40, .ireturn)]
def mm_c8 : List (Nat × Instr) := [(0, .aload_n 0), (1, .iload_n 1), (2, .invokevirtual 62), (5, .ifCond .ne 13), (8, .new 65), (11, .dup), (12, .ldc 100), (14, .invokespecial 69), (17, .athrow), (18, .aload_n 0), (19, .getfield 10), (22, .iload_n 1), (23, .invokevirtual 102), (26, .ireturn)]
def mm_c9 : List (Nat × Instr) := [(0, .aload_n 0), (1, .iload_n 1), (2, .invokevirtual 58), (5, .ifCond .eq 11), (8, .aload_n 0), (9, .iload_n 2), (10, .invokevirtual 58), (13, .ifCond .ne 13), (16, .new 65), (19, .dup), (20, .ldc 74), (22, .invokespecial 69), (25, .athrow), (26, .aload_n 0), (27, .getfield 10), (30, .iload_n 1), (31, .iload_n 2), (32, .invokevirtual 106), (35, .ireturn)]
def mm_c10 : List (Nat × Instr) := [(0, .aload_n 0), (1, .iload_n 1), (2, .invokevirtual 58), (5, .ifCond .eq 11), (8, .aload_n 0), (9, .iload_n 2), (10, .invokevirtual 58), (13, .ifCond .ne 13), (16, .new 65), (19, .dup), (20, .ldc 74), (22, .invokespecial 69), (25, .athrow), (26, .aload_n 0), (27, .getfield 10), (30, .iload_n 1), (31, .iload_n 2), (32, .iload_n 3), (33, .invokevirtual 109), (36, .ireturn)]
def mm_c11 : List (Nat × Instr) := [(0, .aload_n 0), (1, .iload_n 1), (2, .invokevirtual 58), (5, .ifCond .ne 13), (8, .new 65), (11, .dup), (12, .ldc 74), (14, .invokespecial 69), (17, .athrow), (18, .aload_n 0), (19, .getfield 10), (22, .invokevirtual 83), (25, .ifCond .ne 13), (28, .new 87), (31, .dup), (32, .ldc 113), (34, .invokespecial 91), (37, .athrow), (38, .aload_n 0), (39, .getfield 10), (42, .iload_n 1), (43, .invokevirtual 115), (46, .ireturn)]
def mm_c12 : List (Nat × Instr) := [(0, .iload_n 3), (1, .iconst 0), (2, .ldc 118), (4, .invokestatic 34), (7, .ifCond .ne 13), (10, .new 38), (13, .dup), (14, .ldc 119), (16, .invokespecial 42), (19, .athrow), (20, .aload_n 0), (21, .iload_n 1), (22, .invokevirtual 58), (25, .ifCond .eq 11), (28, .aload_n 0), (29, .iload_n 2), (30, .invokevirtual 58), (33, .ifCond .ne 13), (36, .new 65), (39, .dup), (40, .ldc 121), (42, .invokespecial 69), (45, .athrow), (46, .aload_n 0), (47, .getfield 19), (50, .iload_n 1), (51, .iload_n 2), (52, .iload_n 3), (53, .invokevirtual 123), (56, .ireturn)]
def mm_c13 : List (Nat × Instr) := [(0, .iload_n 1), (1, .iconst 0), (2, .ldc 124), (4, .invokestatic 34), (7, .ifCond .ne 13), (10, .new 38), (13, .dup), (14, .ldc 125), (16, .invokespecial 42), (19, .athrow), (20, .aload_n 0), (21, .getfield 19), (24, .iload_n 1), (25, .invokevirtual 127), (28, .ireturn)]
def mm_c14 : List (Nat × Instr) := [(0, .aload_n 0), (1, .getfield 19), (4, .invokevirtual 130), (7, .ifCond .ne 13), (10, .new 87), (13, .dup), (14, .ldc 133), (16, .invokespecial 91), (19, .athrow), (20, .aload_n 0), (21, .getfield 19), (24, .invokevirtual 135), (27, .ireturn)]
def mm_c15 : List (Nat × Instr) := [(0, .aload_n 0), (1, .iload_n 1), (2, .invokevirtual 58), (5, .ifCond .eq 12), (8, .iload_n 2), (9, .iconst 0), (10, .iconst 2), (11, .invokestatic 34), (14, .ifCond .ne 13), (17, .new 65), (20, .dup), (21, .ldc 138), (23, .invokespecial 69), (26, .athrow), (27, .aload_n 0), (28, .getfield 19), (31, .invokevirtual 140), (34, .ifCond .ne 13), (37, .new 87), (40, .dup), (41, .ldc 143), (43, .invokespecial 91), (46, .athrow), (47, .iload_n 2), (48, .ifCond .ne 15), (51, .aload_n 0), (52, .getfield 19), (55, .iload_n 1), (56, .invokevirtual 145), (59, .i2l), (60, .goto 17), (63, .aload_n 0), (64, .getfield 19), (67, .iload_n 1), (68, .invokevirtual 148), (71, .iload_n 2), (72, .iconst 1), (73, .isub), (74, .invokevirtual 152), (77, .lreturn)]
def mm_c16 : List (Nat × Instr) := [(0, .iload_n 1), (1, .iconst 1), (2, .bipush 16), (4, .invokestatic 34), (7, .ifCond .ne 13), (10, .new 38), (13, .dup), (14, .ldc 158), (16, .invokespecial 42), (19, .athrow), (20, .aload_n 0), (21, .getfield 26), (24, .iload_n 1), (25, .invokevirtual 160), (28, .return_)]
def mm_c17 : List (Nat × Instr) := [(0, .iload_n 3), (1, .iconst 0), (2, .bipush 12), (4, .invokestatic 34), (7, .ifCond .ne 13), (10, .new 38), (13, .dup), (14, .ldc 163), (16, .invokespecial 42), (19, .athrow), (20, .aload_n 0), (21, .iload_n 1), (22, .invokevirtual 58), (25, .ifCond .eq 13), (28, .iload_n 2), (29, .iconst 0), (30, .bipush 15), (32, .invokestatic 34), (35, .ifCond .ne 13), (38, .new 65), (41, .dup), (42, .ldc 165), (44, .invokespecial 69), (47, .athrow), (48, .aload_n 0), (49, .getfield 26), (52, .iload_n 1), (53, .iload_n 2), (54, .iload_n 3), (55, .invokevirtual 167), (58, .ireturn)]
def mm_c18 : List (Nat × Instr) := [(0, .iload_n 1), (1, .ifCond .eq 13), (4, .aload_n 0), (5, .getfield 26), (8, .invokevirtual 170), (11, .goto 10), (14, .aload_n 0), (15, .getfield 26), (18, .invokevirtual 173), (21, .return_)]
def mm_c19 : List (Nat × Instr) := [(0, .aload_n 0), (1, .iload_n 1), (2, .invokevirtual 58), (5, .ifCond .eq 12), (8, .iload_n 2), (9, .iconst 0), (10, .iconst 3), (11, .invokestatic 34), (14, .ifCond .ne 13), (17, .new 65), (20, .dup), (21, .ldc 138), (23, .invokespecial 69), (26, .athrow), (27, .aload_n 0), (28, .getfield 26), (31, .invokevirtual 176), (34, .ifCond .ne 13), (37, .new 87), (40, .dup), (41, .ldc 179), (43, .invokespecial 91), (46, .athrow), (47, .iload_n 2), (48, .iconst 2), (49, .if_icmp .ge 18), (52, .aload_n 0), (53, .getfield 26), (56, .iload_n 1), (57, .invokevirtual 181), (60, .iload_n 2), (61, .invokevirtual 152), (64, .goto 17), (67, .aload_n 0), (68, .getfield 26), (71, .iload_n 1), (72, .invokevirtual 184), (75, .iload_n 2), (76, .iconst 2), (77, .isub), (78, .invokevirtual 152), (81, .lreturn)]
def mm_c20 : List (Nat × Instr) := [(0, .aload_n 0), (1, .iload_n 1), (2, .invokevirtual 58), (5, .ifCond .eq 20), (8, .aload_n 0), (9, .iload_n 2), (10, .invokevirtual 58), (13, .ifCond .eq 12), (16, .iload_n 3), (17, .iconst 0), (18, .iconst 1), (19, .invokestatic 34), (22, .ifCond .ne 13), (25, .new 65), (28, .dup), (29, .ldc 138), (31, .invokespecial 69), (34, .athrow), (35, .aload_n 0), (36, .getfield 26), (39, .invokevirtual 176), (42, .ifCond .ne 13), (45, .new 87), (48, .dup), (49, .ldc 179), (51, .invokespecial 91), (54, .athrow), (55, .aload_n 0), (56, .getfield 26), (59, .iload_n 1), (60, .iload_n 2), (61, .invokevirtual 187), (64, .iload_n 3), (65, .invokevirtual 152), (68, .lreturn)]
def mm_c21 : List (Nat × Instr) := [(0, .iload_n 1), (1, .iconst 0), (2, .aload_n 0), (3, .getfield 30), (6, .iconst 1), (7, .isub), (8, .invokestatic 34), (11, .ireturn)]
def mm_c22 : List (Nat × Instr) := [(0, .iload_n 1), (1, .iconst 0), (2, .aload_n 0), (3, .getfield 10), (6, .invokevirtual 191), (9, .iconst 1), (10, .isub), (11, .invokestatic 34), (14, .ireturn)]
def mm_c23 : List (Nat × Instr) := [(0, .iload_n 1), (1, .iload_n 0), (2, .if_icmp .gt 12), (5, .iload_n 0), (6, .iload_n 2), (7, .if_icmp .gt 7), (10, .iconst 1), (11, .goto 4), (14, .iconst 0), (15, .ireturn)]
def mm_c24 : List (Nat × Instr) := [(0, .aload_n 0), (1, .invokespecial 3), (4, .aload_n 0), (5, .bipush 6), (7, .newarray .int), (9, .putfield 9), (12, .return_)]
def mm_c25 : List (Nat × Instr) := [(0, .aload_n 0), (1, .iload_n 2), (2, .putfield 15), (5, .aload_n 0), (6, .iload_n 3), (7, .putfield 19), (10, .aload_n 0), (11, .aload_n 1), (12, .putfield 22), (15, .aload_n 0), (16, .iconst 0), (17, .putfield 25), (20, .iconst 0), (21, .istore 4), (23, .iconst 0), (24, .istore 5), (26, .iload 5), (28, .aload_n 0), (29, .getfield 15), (32, .if_icmp .ge 17), (35, .aload_n 0), (36, .getfield 9), (39, .iload 5), (41, .iconst 0), (42, .iastore), (43, .iinc 5 1), (46, .goto (-20)), (49, .iconst 0), (50, .istore 5), (52, .iload 5), (54, .aload_n 0), (55, .getfield 19), (58, .if_icmp .ge 21), (61, .iload 4), (63, .aload_n 0), (64, .getfield 22), (67, .iload 5), (69, .iaload), (70, .iadd), (71, .istore 4), (73, .iinc 5 1), (76, .goto (-24)), (79, .aload_n 0), (80, .iconst 0), (81, .iconst 0), (82, .iload 4), (84, .invokevirtual 28), (87, .aload_n 0), (88, .getfield 25), (91, .ireturn)]
def mm_c26 : List (Nat × Instr) := [(0, .aload_n 0), (1, .getfield 9), (4, .iconst 0), (5, .iaload), (6, .istore 4), (8, .iconst 1), (9, .istore 5), (11, .iload 5), (13, .aload_n 0), (14, .getfield 15), (17, .if_icmp .ge 23), (20, .iload 4), (22, .aload_n 0), (23, .getfield 9), (26, .iload 5), (28, .iaload), (29, .invokestatic 32), (32, .istore 4), (34, .iinc 5 1), (37, .goto (-26)), (40, .iload 4), (42, .iload_n 3), (43, .iadd), (44, .aload_n 0), (45, .getfield 25), (48, .if_icmp .gt 4), (51, .return_), (52, .iload_n 1), (53, .aload_n 0), (54, .getfield 19), (57, .if_icmp .lt 10), (60, .aload_n 0), (61, .iload 4), (63, .putfield 25), (66, .return_), (67, .iload_n 2), (68, .iconst 1), (69, .iadd), (70, .aload_n 0), (71, .getfield 15), (74, .invokestatic 32), (77, .istore 5), (79, .iconst 0), (80, .istore 6), (82, .iload 6), (84, .iload 5), (86, .if_icmp .ge 69), (89, .aload_n 0), (90, .getfield 9), (93, .iload 6), (95, .dup2), (96, .iaload), (97, .aload_n 0), (98, .getfield 22), (101, .iload_n 1), (102, .iaload), (103, .iadd), (104, .iastore), (105, .aload_n 0), (106, .iload_n 1), (107, .iconst 1), (108, .iadd), (109, .iload 6), (111, .iload_n 2), (112, .if_icmp .ne 9), (115, .iload_n 2), (116, .iconst 1), (117, .iadd), (118, .goto 4), (121, .iload_n 2), (122, .iload_n 3), (123, .aload_n 0), (124, .getfield 22), (127, .iload_n 1), (128, .iaload), (129, .isub), (130, .invokevirtual 28), (133, .aload_n 0), (134, .getfield 9), (137, .iload 6), (139, .dup2), (140, .iaload), (141, .aload_n 0), (142, .getfield 22), (145, .iload_n 1), (146, .iaload), (147, .isub), (148, .iastore), (149, .iinc 6 1), (152, .goto (-70)), (155, .return_)]
def mm_c27 : List (Nat × Instr) := [(0, .aload_n 0), (1, .invokespecial 3), (4, .aload_n 0), (5, .iconst 1), (6, .putfield 9), (9, .aload_n 0), (10, .iconst 1), (11, .putfield 15), (14, .aload_n 0), (15, .iconst 0), (16, .putfield 18), (19, .aload_n 0), (20, .bipush 6), (22, .bipush 16), (24, .multianewarray 22 2), (28, .putfield 24), (31, .aload_n 0), (32, .bipush 6), (34, .anewarray 27), (37, .putfield 29), (40, .aload_n 0), (41, .bipush 6), (43, .anewarray 27), (46, .putfield 33), (49, .aload_n 0), (50, .bipush 6), (52, .anewarray 27), (55, .putfield 36), (58, .aload_n 0), (59, .bipush 6), (61, .newarray .boolean), (63, .putfield 39), (66, .aload_n 0), (67, .bipush 6), (69, .newarray .int), (71, .putfield 43), (74, .aload_n 0), (75, .new 27), (78, .dup), (79, .invokespecial 47), (82, .putfield 48), (85, .aload_n 0), (86, .new 27), (89, .dup), (90, .invokespecial 47), (93, .putfield 52), (96, .aload_n 0), (97, .new 27), (100, .dup), (101, .invokespecial 47), (104, .putfield 55), (107, .iconst 0), (108, .istore_n 1), (109, .iload_n 1), (110, .bipush 6), (112, .if_icmp .ge 48), (115, .aload_n 0), (116, .getfield 29), (119, .iload_n 1), (120, .new 27), (123, .dup), (124, .invokespecial 47), (127, .aastore), (128, .aload_n 0), (129, .getfield 33), (132, .iload_n 1), (133, .new 27), (136, .dup), (137, .invokespecial 47), (140, .aastore), (141, .aload_n 0), (142, .getfield 36), (145, .iload_n 1), (146, .new 27), (149, .dup), (150, .invokespecial 47), (153, .aastore), (154, .iinc 1 1), (157, .goto (-48)), (160, .return_)]
def mm_c28 : List (Nat × Instr) := [(0, .aload_n 0), (1, .iload_n 1), (2, .putfield 9), (5, .aload_n 0), (6, .iconst 1), (7, .invokevirtual 58), (10, .iconst 0), (11, .istore_n 2), (12, .iload_n 2), (13, .bipush 6), (15, .if_icmp .ge 32), (18, .iconst 0), (19, .istore_n 3), (20, .iload_n 3), (21, .bipush 16), (23, .if_icmp .ge 18), (26, .aload_n 0), (27, .getfield 24), (30, .iload_n 2), (31, .aaload), (32, .iload_n 3), (33, .iconst 0), (34, .iastore), (35, .iinc 3 1), (38, .goto (-18)), (41, .iinc 2 1), (44, .goto (-32)), (47, .return_)]
def mm_c29 : List (Nat × Instr) := [(0, .aload_n 0), (1, .iload_n 1), (2, .putfield 15), (5, .aload_n 0), (6, .iconst 0), (7, .putfield 18), (10, .return_)]
def mm_c30 : List (Nat × Instr) := [(0, .aload_n 0), (1, .getfield 24), (4, .iload_n 1), (5, .aaload), (6, .iload_n 2), (7, .iaload), (8, .istore 4), (10, .aload_n 0), (11, .getfield 24), (14, .iload_n 1), (15, .aaload), (16, .iload_n 2), (17, .iload_n 3), (18, .iastore), (19, .iload 4), (21, .ireturn)]
def mm_c31 : List (Nat × Instr) := [(0, .aload_n 0), (1, .getfield 18), (4, .ireturn)]
def mm_c32 : List (Nat × Instr) := [(0, .aload_n 0), (1, .getfield 29), (4, .iload_n 1), (5, .aaload), (6, .areturn)]
def mm_c33 : List (Nat × Instr) := [(0, .aload_n 0), (1, .getfield 33), (4, .iload_n 1), (5, .aaload), (6, .areturn)]
def mm_c34 : List (Nat × Instr) := [(0, .aload_n 0), (1, .iload_n 1), (2, .aload_n 0), (3, .getfield 29), (6, .iload_n 2), (7, .aaload), (8, .aload_n 0), (9, .getfield 33), (12, .iload_n 2), (13, .aaload), (14, .aload_n 0), (15, .getfield 55), (18, .invokevirtual 62), (21, .aload_n 0), (22, .getfield 55), (25, .areturn)]
def mm_c35 : List (Nat × Instr) := [(0, .iconst 0), (1, .istore_n 1), (2, .iload_n 1), (3, .aload_n 0), (4, .getfield 9), (7, .if_icmp .ge 16), (10, .aload_n 0), (11, .getfield 39), (14, .iload_n 1), (15, .iconst 0), (16, .bastore), (17, .iinc 1 1), (20, .goto (-18)), (23, .aload_n 0), (24, .getfield 48), (27, .lconst 0), (28, .lconst 1), (29, .invokevirtual 66), (32, .aload_n 0), (33, .getfield 9), (36, .istore_n 1), (37, .iload_n 1), (38, .iconst 2), (39, .if_icmp .lt 21), (42, .aload_n 0), (43, .invokevirtual 70), (46, .aload_n 0), (47, .aload_n 0), (48, .invokevirtual 73), (51, .invokevirtual 77), (54, .iinc 1 (-1)), (57, .goto (-20)), (60, .iconst 0), (61, .istore_n 1), (62, .iload_n 1), (63, .aload_n 0), (64, .getfield 9), (67, .if_icmp .ge 24), (70, .aload_n 0), (71, .getfield 36), (74, .iload_n 1), (75, .aaload), (76, .aload_n 0), (77, .getfield 15), (80, .i2l), (81, .lconst 1), (82, .invokevirtual 66), (85, .iinc 1 1), (88, .goto (-26)), (91, .aload_n 0), (92, .aload_n 0), (93, .invokevirtual 73), (96, .invokevirtual 77), (99, .aload_n 0), (100, .iconst 1), (101, .putfield 18), (104, .return_)]
def mm_c36 : List (Nat × Instr) := [(0, .iconst 0), (1, .istore_n 1), (2, .iload_n 1), (3, .aload_n 0), (4, .getfield 9), (7, .if_icmp .ge 70), (10, .aload_n 0), (11, .getfield 39), (14, .iload_n 1), (15, .baload), (16, .ifCond .ne 55), (19, .iconst 0), (20, .istore_n 2), (21, .iconst 0), (22, .istore_n 3), (23, .iload_n 3), (24, .aload_n 0), (25, .getfield 15), (28, .if_icmp .ge 20), (31, .iload_n 2), (32, .aload_n 0), (33, .getfield 24), (36, .iload_n 1), (37, .aaload), (38, .iload_n 3), (39, .iaload), (40, .iadd), (41, .istore_n 2), (42, .iinc 3 1), (45, .goto (-22)), (48, .aload_n 0), (49, .getfield 52), (52, .iload_n 2), (53, .i2l), (54, .aload_n 0), (55, .getfield 9), (58, .i2l), (59, .invokevirtual 66), (62, .aload_n 0), (63, .iload_n 1), (64, .aload_n 0), (65, .getfield 48), (68, .invokevirtual 80), (71, .iinc 1 1), (74, .goto (-72)), (77, .return_)]
def mm_c37 : List (Nat × Instr) := [(0, .iconst (-1)), (1, .istore_n 1), (2, .iconst 0), (3, .istore_n 2), (4, .iload_n 2), (5, .aload_n 0), (6, .getfield 9), (9, .if_icmp .ge 43), (12, .aload_n 0), (13, .getfield 39), (16, .iload_n 2), (17, .baload), (18, .ifCond .ne 28), (21, .iload_n 1), (22, .iconst (-1)), (23, .if_icmp .eq 21), (26, .aload_n 0), (27, .getfield 36), (30, .iload_n 2), (31, .aaload), (32, .aload_n 0), (33, .getfield 36), (36, .iload_n 1), (37, .aaload), (38, .invokevirtual 84), (41, .ifCond .eq 5), (44, .iload_n 2), (45, .istore_n 1), (46, .iinc 2 1), (49, .goto (-45)), (52, .iload_n 1), (53, .ireturn)]
def mm_c38 : List (Nat × Instr) := [(0, .iload_n 1), (1, .iconst (-1)), (2, .if_icmp .eq 51), (5, .aload_n 0), (6, .getfield 29), (9, .iload_n 1), (10, .aaload), (11, .aload_n 0), (12, .getfield 48), (15, .invokevirtual 88), (18, .aload_n 0), (19, .getfield 33), (22, .iload_n 1), (23, .aaload), (24, .aload_n 0), (25, .getfield 36), (28, .iload_n 1), (29, .aaload), (30, .invokevirtual 88), (33, .aload_n 0), (34, .getfield 48), (37, .aload_n 0), (38, .getfield 36), (41, .iload_n 1), (42, .aaload), (43, .invokevirtual 88), (46, .aload_n 0), (47, .getfield 39), (50, .iload_n 1), (51, .iconst 1), (52, .bastore), (53, .return_)]
def mm_c39 : List (Nat × Instr) := [(0, .iconst 0), (1, .istore_n 1), (2, .iload_n 1), (3, .aload_n 0), (4, .getfield 9), (7, .if_icmp .ge 42), (10, .aload_n 0), (11, .getfield 43), (14, .iload_n 1), (15, .iload_n 1), (16, .iastore), (17, .aload_n 0), (18, .getfield 29), (21, .iload_n 1), (22, .aaload), (23, .lconst 0), (24, .lconst 1), (25, .invokevirtual 66), (28, .aload_n 0), (29, .getfield 33), (32, .iload_n 1), (33, .aaload), (34, .aload_n 0), (35, .getfield 15), (38, .i2l), (39, .lconst 1), (40, .invokevirtual 66), (43, .iinc 1 1), (46, .goto (-44)), (49, .aload_n 0), (50, .iconst 0), (51, .aload_n 0), (52, .getfield 9), (55, .iconst 0), (56, .invokevirtual 92), (59, .aload_n 0), (60, .iconst 1), (61, .putfield 18), (64, .return_)]
def mm_c40 : List (Nat × Instr) := [(0, .iload_n 2), (1, .iload_n 1), (2, .isub), (3, .istore 4), (5, .iload 4), (7, .iconst 2), (8, .if_icmp .lt 8), (11, .iload_n 3), (12, .iconst 3), (13, .if_icmp .lt 4), (16, .return_), (17, .iload 4), (19, .iconst 2), (20, .idiv), (21, .istore 5), (23, .iload_n 1), (24, .istore 6), (26, .iload 6), (28, .iload_n 2), (29, .if_icmp .ge 68), (32, .aload_n 0), (33, .getfield 43), (36, .iload 6), (38, .iaload), (39, .istore 7), (41, .aload_n 0), (42, .iload 7), (44, .aload_n 0), (45, .getfield 29), (48, .iload 7), (50, .aaload), (51, .aload_n 0), (52, .getfield 33), (55, .iload 7), (57, .aaload), (58, .aload_n 0), (59, .getfield 52), (62, .invokevirtual 62), (65, .aload_n 0), (66, .getfield 52), (69, .iload 5), (71, .i2l), (72, .iload 4), (74, .i2l), (75, .invokevirtual 96), (78, .aload_n 0), (79, .iload 7), (81, .aload_n 0), (82, .getfield 29), (85, .iload 7), (87, .aaload), (88, .invokevirtual 80), (91, .iinc 6 1), (94, .goto (-68)), (97, .aload_n 0), (98, .iload_n 1), (99, .iload_n 2), (100, .invokevirtual 99), (103, .iload_n 1), (104, .iload 5), (106, .iadd), (107, .istore 6), (109, .aload_n 0), (110, .getfield 36), (113, .aload_n 0), (114, .getfield 43), (117, .iload 6), (119, .iconst 1), (120, .isub), (121, .iaload), (122, .aaload), (123, .astore 7), (125, .iload_n 1), (126, .istore 8), (128, .iload 8), (130, .iload 6), (132, .if_icmp .ge 26), (135, .aload_n 0), (136, .getfield 33), (139, .aload_n 0), (140, .getfield 43), (143, .iload 8), (145, .iaload), (146, .aaload), (147, .aload 7), (149, .invokevirtual 88), (152, .iinc 8 1), (155, .goto (-27)), (158, .iload 6), (160, .istore 8), (162, .iload 8), (164, .iload_n 2), (165, .if_icmp .ge 26), (168, .aload_n 0), (169, .getfield 29), (172, .aload_n 0), (173, .getfield 43), (176, .iload 8), (178, .iaload), (179, .aaload), (180, .aload 7), (182, .invokevirtual 88), (185, .iinc 8 1), (188, .goto (-26)), (191, .aload_n 0), (192, .iload_n 1), (193, .iload 6), (195, .iload_n 3), (196, .iconst 1), (197, .iadd), (198, .invokevirtual 92), (201, .aload_n 0), (202, .iload 6), (204, .iload_n 2), (205, .iload_n 3), (206, .iconst 1), (207, .iadd), (208, .invokevirtual 92), (211, .return_)]
def mm_c41 : List (Nat × Instr) := [(0, .iload_n 1), (1, .iconst 1), (2, .iadd), (3, .istore_n 3), (4, .iload_n 3), (5, .iload_n 2), (6, .if_icmp .ge 83), (9, .iload_n 3), (10, .istore 4), (12, .iload 4), (14, .iload_n 1), (15, .if_icmp .le 68), (18, .aload_n 0), (19, .aload_n 0), (20, .getfield 43), (23, .iload 4), (25, .iaload), (26, .aload_n 0), (27, .getfield 43), (30, .iload 4), (32, .iconst 1), (33, .isub), (34, .iaload), (35, .invokevirtual 103), (38, .ifCond .eq 45), (41, .aload_n 0), (42, .getfield 43), (45, .iload 4), (47, .iaload), (48, .istore 5), (50, .aload_n 0), (51, .getfield 43), (54, .iload 4), (56, .aload_n 0), (57, .getfield 43), (60, .iload 4), (62, .iconst 1), (63, .isub), (64, .iaload), (65, .iastore), (66, .aload_n 0), (67, .getfield 43), (70, .iload 4), (72, .iconst 1), (73, .isub), (74, .iload 5), (76, .iastore), (77, .iinc 4 (-1)), (80, .goto (-68)), (83, .iinc 3 1), (86, .goto (-82)), (89, .return_)]
def mm_c42 : List (Nat × Instr) := [(0, .aload_n 0), (1, .getfield 36), (4, .iload_n 1), (5, .aaload), (6, .aload_n 0), (7, .getfield 36), (10, .iload_n 2), (11, .aaload), (12, .invokevirtual 84), (15, .ifCond .eq 5), (18, .iconst 1), (19, .ireturn), (20, .iload_n 1), (21, .iload_n 2), (22, .if_icmp .ge 25), (25, .aload_n 0), (26, .getfield 36), (29, .iload_n 2), (30, .aaload), (31, .aload_n 0), (32, .getfield 36), (35, .iload_n 1), (36, .aaload), (37, .invokevirtual 84), (40, .ifCond .ne 7), (43, .iconst 1), (44, .goto 4), (47, .iconst 0), (48, .ireturn)]
def mm_c43 : List (Nat × Instr) := [(0, .aload_n 2), (1, .aload_n 3), (2, .invokevirtual 107), (5, .lstore 5), (7, .aload_n 2), (8, .lload 5), (10, .invokevirtual 111), (13, .lstore 7), (15, .aload_n 3), (16, .lload 5), (18, .invokevirtual 111), (21, .lstore 9), (23, .lconst 0), (24, .lstore 11), (26, .iconst 0), (27, .istore 13), (29, .iload 13), (31, .aload_n 0), (32, .getfield 15), (35, .if_icmp .ge 61), (38, .lload 9), (40, .iload 13), (42, .iconst 1), (43, .iadd), (44, .i2l), (45, .lload 5), (47, .lmul), (48, .invokestatic 115), (51, .lload 7), (53, .iload 13), (55, .i2l), (56, .lload 5), (58, .lmul), (59, .invokestatic 121), (62, .lsub), (63, .lstore 14), (65, .lload 14), (67, .lconst 0), (68, .lcmp), (69, .ifCond .le 21), (72, .lload 11), (74, .lload 14), (76, .aload_n 0), (77, .getfield 24), (80, .iload_n 1), (81, .aaload), (82, .iload 13), (84, .iaload), (85, .i2l), (86, .lmul), (87, .ladd), (88, .lstore 11), (90, .iinc 13 1), (93, .goto (-64)), (96, .aload 4), (98, .lload 11), (100, .lload 5), (102, .invokevirtual 66), (105, .return_)]
def mm_c44 : List (Nat × Instr) := [(0, .aload_n 0), (1, .getfield 36), (4, .iload_n 1), (5, .aaload), (6, .aload_n 2), (7, .invokevirtual 88), (10, .aload_n 2), (11, .aload_n 0), (12, .getfield 52), (15, .invokevirtual 107), (18, .lstore_n 3), (19, .aload_n 2), (20, .lload_n 3), (21, .invokevirtual 111), (24, .lstore 5), (26, .aload_n 0), (27, .getfield 52), (30, .lload_n 3), (31, .invokevirtual 111), (34, .lstore 7), (36, .iconst 0), (37, .istore 9), (39, .iload 9), (41, .aload_n 0), (42, .getfield 15), (45, .if_icmp .ge 97), (48, .lload 7), (50, .lconst 0), (51, .lcmp), (52, .ifCond .le 90), (55, .lload 5), (57, .iload 9), (59, .i2l), (60, .lload_n 3), (61, .lmul), (62, .invokestatic 121), (65, .lstore 10), (67, .aload_n 0), (68, .getfield 24), (71, .iload_n 1), (72, .aaload), (73, .iload 9), (75, .iaload), (76, .istore 12), (78, .lconst 0), (79, .iload 9), (81, .iconst 1), (82, .iadd), (83, .i2l), (84, .lload_n 3), (85, .lmul), (86, .lload 10), (88, .lsub), (89, .invokestatic 121), (92, .iload 12), (94, .i2l), (95, .lmul), (96, .lstore 13), (98, .lload 13), (100, .lload 7), (102, .lcmp), (103, .ifCond .lt 26), (106, .aload_n 0), (107, .getfield 36), (110, .iload_n 1), (111, .aaload), (112, .lload 10), (114, .iload 12), (116, .i2l), (117, .lmul), (118, .lload 7), (120, .ladd), (121, .lload_n 3), (122, .iload 12), (124, .i2l), (125, .lmul), (126, .invokevirtual 66), (129, .lload 7), (131, .lload 13), (133, .lsub), (134, .lstore 7), (136, .iinc 9 1), (139, .goto (-100)), (142, .return_)]
def mm_c45 : List (Nat × Instr) := [(0, .aload_n 0), (1, .invokespecial 1), (4, .aload_n 0), (5, .lconst 0), (6, .putfield 7), (9, .aload_n 0), (10, .lconst 1), (11, .putfield 13), (14, .return_)]
def mm_c46 : List (Nat × Instr) := [(0, .lload_n 1), (1, .invokestatic 16), (4, .lload_n 3), (5, .invokestatic 22), (8, .lstore 5), (10, .aload_n 0), (11, .lload_n 1), (12, .lload 5), (14, .ldiv), (15, .putfield 7), (18, .aload_n 0), (19, .lload_n 3), (20, .lload 5), (22, .ldiv), (23, .putfield 13), (26, .return_)]
def mm_c47 : List (Nat × Instr) := [(0, .aload_n 0), (1, .aload_n 0), (2, .getfield 7), (5, .lload_n 1), (6, .lmul), (7, .aload_n 0), (8, .getfield 13), (11, .lload_n 3), (12, .lmul), (13, .invokevirtual 26), (16, .return_)]
def mm_c48 : List (Nat × Instr) := [(0, .aload_n 0), (1, .aload_n 1), (2, .getfield 7), (5, .putfield 7), (8, .aload_n 0), (9, .aload_n 1), (10, .getfield 13), (13, .putfield 13), (16, .return_)]
def mm_c49 : List (Nat × Instr) := [(0, .iload_n 1), (1, .ifCond .ne 10), (4, .aload_n 0), (5, .getfield 7), (8, .goto 7), (11, .aload_n 0), (12, .getfield 13), (15, .lreturn)]
def mm_c50 : List (Nat × Instr) := [(0, .aload_n 0), (1, .getfield 7), (4, .aload_n 1), (5, .getfield 13), (8, .lmul), (9, .aload_n 1), (10, .getfield 7), (13, .aload_n 0), (14, .getfield 13), (17, .lmul), (18, .lcmp), (19, .ifCond .ge 7), (22, .iconst 1), (23, .goto 4), (26, .iconst 0), (27, .ireturn)]
def mm_c51 : List (Nat × Instr) := [(0, .aload_n 0), (1, .getfield 13), (4, .aload_n 0), (5, .getfield 13), (8, .aload_n 1), (9, .getfield 13), (12, .invokestatic 22), (15, .ldiv), (16, .aload_n 1), (17, .getfield 13), (20, .lmul), (21, .lreturn)]
def mm_c52 : List (Nat × Instr) := [(0, .aload_n 0), (1, .getfield 7), (4, .lload_n 1), (5, .aload_n 0), (6, .getfield 13), (9, .ldiv), (10, .lmul), (11, .lreturn)]
def mm_c53 : List (Nat × Instr) := [(0, .iconst 0), (1, .istore 4), (3, .iload 4), (5, .sipush 200), (8, .if_icmp .ge 25), (11, .lload_n 2), (12, .lconst 0), (13, .lcmp), (14, .ifCond .eq 19), (17, .lload_n 0), (18, .lload_n 2), (19, .lrem), (20, .lstore 5), (22, .lload_n 2), (23, .lstore_n 0), (24, .lload 5), (26, .lstore_n 2), (27, .iinc 4 1), (30, .goto (-27)), (33, .lload_n 0), (34, .lconst 0), (35, .lcmp), (36, .ifCond .ne 7), (39, .lconst 1), (40, .goto 4), (43, .lload_n 0), (44, .lreturn)]
def mm_c54 : List (Nat × Instr) := [(0, .aload_n 0), (1, .invokespecial 3), (4, .aload_n 0), (5, .iconst 1), (6, .putfield 9), (9, .aload_n 0), (10, .iconst 0), (11, .putfield 15), (14, .aload_n 0), (15, .bipush 6), (17, .bipush 12), (19, .multianewarray 18 2), (23, .putfield 20), (26, .aload_n 0), (27, .bipush 12), (29, .newarray .int), (31, .putfield 23), (34, .aload_n 0), (35, .bipush 6), (37, .newarray .int), (39, .putfield 27), (42, .aload_n 0), (43, .bipush 6), (45, .newarray .int), (47, .putfield 30), (50, .aload_n 0), (51, .new 33), (54, .dup), (55, .invokespecial 35), (58, .putfield 36), (61, .aload_n 0), (62, .new 40), (65, .dup), (66, .invokespecial 42), (69, .putfield 43), (72, .aload_n 0), (73, .invokevirtual 47), (76, .return_)]
def mm_c55 : List (Nat × Instr) := [(0, .aload_n 0), (1, .iload_n 1), (2, .putfield 9), (5, .aload_n 0), (6, .iconst 0), (7, .invokevirtual 50), (10, .return_)]
def mm_c56 : List (Nat × Instr) := [(0, .iconst 0), (1, .istore_n 2), (2, .iload_n 2), (3, .bipush 6), (5, .if_icmp .ge 32), (8, .iload_n 1), (9, .istore_n 3), (10, .iload_n 3), (11, .bipush 12), (13, .if_icmp .ge 18), (16, .aload_n 0), (17, .getfield 20), (20, .iload_n 2), (21, .aaload), (22, .iload_n 3), (23, .iconst 0), (24, .iastore), (25, .iinc 3 1), (28, .goto (-18)), (31, .iinc 2 1), (34, .goto (-32)), (37, .aload_n 0), (38, .iload_n 1), (39, .putfield 15), (42, .aload_n 0), (43, .invokevirtual 47), (46, .return_)]
def mm_c57 : List (Nat × Instr) := [(0, .aload_n 0), (1, .getfield 15), (4, .ireturn)]
def mm_c58 : List (Nat × Instr) := [(0, .aload_n 0), (1, .getfield 20), (4, .iload_n 1), (5, .aaload), (6, .iload_n 2), (7, .iaload), (8, .istore 4), (10, .aload_n 0), (11, .getfield 20), (14, .iload_n 1), (15, .aaload), (16, .iload_n 2), (17, .iload_n 3), (18, .iastore), (19, .iload 4), (21, .ireturn)]
def mm_c59 : List (Nat × Instr) := [(0, .aload_n 0), (1, .getfield 23), (4, .iload_n 1), (5, .iaload), (6, .istore_n 3), (7, .aload_n 0), (8, .getfield 23), (11, .iload_n 1), (12, .iload_n 2), (13, .iastore), (14, .iload_n 3), (15, .ireturn)]
def mm_c60 : List (Nat × Instr) := [(0, .aload_n 0), (1, .getfield 23), (4, .iload_n 1), (5, .iaload), (6, .ireturn)]
def mm_c61 : List (Nat × Instr) := [(0, .iconst 0), (1, .istore_n 3), (2, .iconst 0), (3, .istore 4), (5, .iload 4), (7, .aload_n 0), (8, .getfield 15), (11, .if_icmp .ge 32), (14, .aload_n 0), (15, .getfield 23), (18, .iload 4), (20, .iaload), (21, .iload_n 2), (22, .if_icmp .ne 15), (25, .iload_n 3), (26, .aload_n 0), (27, .getfield 20), (30, .iload_n 1), (31, .aaload), (32, .iload 4), (34, .iaload), (35, .iadd), (36, .istore_n 3), (37, .iinc 4 1), (40, .goto (-35)), (43, .iload_n 3), (44, .ireturn)]
def mm_c62 : List (Nat × Instr) := [(0, .aload_n 0), (1, .iload_n 1), (2, .iload_n 2), (3, .invokevirtual 54), (6, .istore 4), (8, .iload_n 3), (9, .ifCond .eq 14), (12, .iload 4), (14, .aload_n 0), (15, .iload_n 1), (16, .iload_n 2), (17, .invokevirtual 58), (20, .isub), (21, .istore 4), (23, .iconst 0), (24, .iload 4), (26, .aload_n 0), (27, .iload_n 1), (28, .iload_n 1), (29, .invokevirtual 54), (32, .isub), (33, .invokestatic 61), (36, .ireturn)]
def mm_c63 : List (Nat × Instr) := [(0, .iconst 0), (1, .istore_n 3), (2, .iconst 0), (3, .istore 4), (5, .iload 4), (7, .aload_n 0), (8, .getfield 15), (11, .if_icmp .ge 34), (14, .aload_n 0), (15, .getfield 23), (18, .iload 4), (20, .iaload), (21, .iload_n 2), (22, .if_icmp .ne 17), (25, .iload_n 3), (26, .aload_n 0), (27, .getfield 20), (30, .iload_n 1), (31, .aaload), (32, .iload 4), (34, .iaload), (35, .invokestatic 61), (38, .istore_n 3), (39, .iinc 4 1), (42, .goto (-37)), (45, .iload_n 3), (46, .ireturn)]
def mm_c64 : List (Nat × Instr) := [(0, .iconst 1), (1, .istore_n 1), (2, .iconst 0), (3, .istore_n 2), (4, .iload_n 2), (5, .aload_n 0), (6, .getfield 15), (9, .if_icmp .ge 22), (12, .iload_n 1), (13, .ldc 66), (15, .if_icmp .gt 16), (18, .iload_n 1), (19, .aload_n 0), (20, .getfield 9), (23, .imul), (24, .istore_n 1), (25, .iinc 2 1), (28, .goto (-24)), (31, .iload_n 1), (32, .ldc 66), (34, .if_icmp .gt 7), (37, .iconst 1), (38, .goto 4), (41, .iconst 0), (42, .ireturn)]
def mm_c65 : List (Nat × Instr) := [(0, .aload_n 0), (1, .invokevirtual 47), (4, .iload_n 1), (5, .istore_n 2), (6, .iconst 0), (7, .istore_n 3), (8, .iload_n 3), (9, .aload_n 0), (10, .getfield 15), (13, .if_icmp .ge 48), (16, .aload_n 0), (17, .iload_n 2), (18, .invokevirtual 67), (21, .istore 4), (23, .iload 4), (25, .iconst (-1)), (26, .if_icmp .eq 11), (29, .aload_n 0), (30, .getfield 23), (33, .iload 4), (35, .iload_n 2), (36, .iastore), (37, .iload_n 2), (38, .iconst 1), (39, .iadd), (40, .aload_n 0), (41, .getfield 9), (44, .if_icmp .ge 9), (47, .iload_n 2), (48, .iconst 1), (49, .iadd), (50, .goto 4), (53, .iconst 0), (54, .istore_n 2), (55, .iinc 3 1), (58, .goto (-50)), (61, .return_)]
def mm_c66 : List (Nat × Instr) := [(0, .iconst (-1)), (1, .istore_n 2), (2, .iconst 0), (3, .istore_n 3), (4, .iload_n 3), (5, .aload_n 0), (6, .getfield 15), (9, .if_icmp .ge 45), (12, .aload_n 0), (13, .getfield 23), (16, .iload_n 3), (17, .iaload), (18, .iconst (-1)), (19, .if_icmp .ne 29), (22, .iload_n 2), (23, .iconst (-1)), (24, .if_icmp .eq 22), (27, .aload_n 0), (28, .getfield 20), (31, .iload_n 1), (32, .aaload), (33, .iload_n 3), (34, .iaload), (35, .aload_n 0), (36, .getfield 20), (39, .iload_n 1), (40, .aaload), (41, .iload_n 2), (42, .iaload), (43, .if_icmp .le 5), (46, .iload_n 3), (47, .istore_n 2), (48, .iinc 3 1), (51, .goto (-47)), (54, .iload_n 2), (55, .ireturn)]
def mm_c67 : List (Nat × Instr) := [(0, .aload_n 0), (1, .invokevirtual 47), (4, .iconst 0), (5, .istore_n 1), (6, .iconst 0), (7, .istore_n 2), (8, .iload_n 2), (9, .aload_n 0), (10, .getfield 15), (13, .if_icmp .ge 54), (16, .aload_n 0), (17, .invokevirtual 71), (20, .istore_n 3), (21, .iconst 0), (22, .istore 4), (24, .iload 4), (26, .ldc 75), (28, .if_icmp .ge 26), (31, .iload_n 3), (32, .iconst (-1)), (33, .if_icmp .ne 21), (36, .aload_n 0), (37, .invokevirtual 76), (40, .iinc 1 1), (43, .aload_n 0), (44, .invokevirtual 71), (47, .istore_n 3), (48, .iinc 4 1), (51, .goto (-27)), (54, .aload_n 0), (55, .getfield 23), (58, .iload_n 2), (59, .iload_n 3), (60, .iastore), (61, .iinc 2 1), (64, .goto (-56)), (67, .iload_n 1), (68, .ireturn)]
def mm_c68 : List (Nat × Instr) := [(0, .iconst (-1)), (1, .istore_n 1), (2, .aload_n 0), (3, .getfield 9), (6, .iconst 1), (7, .isub), (8, .istore_n 2), (9, .iload_n 2), (10, .ifCond .lt 32), (13, .aload_n 0), (14, .getfield 27), (17, .iload_n 2), (18, .aload_n 0), (19, .iload_n 2), (20, .invokevirtual 79), (23, .iastore), (24, .aload_n 0), (25, .getfield 27), (28, .iload_n 2), (29, .iaload), (30, .iconst (-1)), (31, .if_icmp .ne 5), (34, .iload_n 2), (35, .istore_n 1), (36, .iinc 2 (-1)), (39, .goto (-30)), (42, .iload_n 1), (43, .ireturn)]
def mm_c69 : List (Nat × Instr) := [(0, .iconst 0), (1, .istore_n 2), (2, .iload_n 2), (3, .aload_n 0), (4, .getfield 9), (7, .if_icmp .ge 21), (10, .aload_n 0), (11, .iload_n 2), (12, .iload_n 1), (13, .iconst 0), (14, .invokevirtual 82), (17, .ifCond .le 5), (20, .iload_n 2), (21, .ireturn), (22, .iinc 2 1), (25, .goto (-23)), (28, .iconst (-1)), (29, .ireturn)]
def mm_c70 : List (Nat × Instr) := [(0, .iconst 0), (1, .istore_n 1), (2, .iconst 0), (3, .istore_n 2), (4, .iload_n 2), (5, .aload_n 0), (6, .getfield 9), (9, .if_icmp .ge 21), (12, .iload_n 1), (13, .iconst (-1)), (14, .if_icmp .eq 16), (17, .aload_n 0), (18, .getfield 27), (21, .iload_n 1), (22, .iaload), (23, .istore_n 1), (24, .iinc 2 1), (27, .goto (-23)), (30, .iconst 0), (31, .istore_n 2), (32, .iload_n 2), (33, .bipush 6), (35, .if_icmp .ge 16), (38, .aload_n 0), (39, .getfield 30), (42, .iload_n 2), (43, .iconst (-1)), (44, .iastore), (45, .iinc 2 1), (48, .goto (-16)), (51, .iconst 0), (52, .istore_n 2), (53, .iload_n 2), (54, .aload_n 0), (55, .getfield 9), (58, .if_icmp .ge 43), (61, .iload_n 1), (62, .iconst (-1)), (63, .if_icmp .eq 38), (66, .aload_n 0), (67, .getfield 30), (70, .iload_n 1), (71, .iaload), (72, .iconst (-1)), (73, .if_icmp .ne 28), (76, .aload_n 0), (77, .getfield 30), (80, .iload_n 1), (81, .aload_n 0), (82, .getfield 27), (85, .iload_n 1), (86, .iaload), (87, .iastore), (88, .aload_n 0), (89, .getfield 27), (92, .iload_n 1), (93, .iaload), (94, .istore_n 1), (95, .iinc 2 1), (98, .goto (-45)), (101, .iconst 0), (102, .istore_n 2), (103, .iload_n 2), (104, .aload_n 0), (105, .getfield 15), (108, .if_icmp .ge 43), (111, .aload_n 0), (112, .getfield 23), (115, .iload_n 2), (116, .iaload), (117, .istore_n 3), (118, .iload_n 3), (119, .iconst (-1)), (120, .if_icmp .eq 25), (123, .aload_n 0), (124, .getfield 30), (127, .iload_n 3), (128, .iaload), (129, .iconst (-1)), (130, .if_icmp .eq 15), (133, .aload_n 0), (134, .getfield 23), (137, .iload_n 2), (138, .aload_n 0), (139, .getfield 30), (142, .iload_n 3), (143, .iaload), (144, .iastore), (145, .iinc 2 1), (148, .goto (-45)), (151, .return_)]
def mm_c71 : List (Nat × Instr) := [(0, .aload_n 0), (1, .getfield 36), (4, .aload_n 0), (5, .getfield 20), (8, .aload_n 0), (9, .getfield 9), (12, .aload_n 0), (13, .getfield 15), (16, .aload_n 0), (17, .getfield 23), (20, .invokevirtual 86), (23, .lreturn)]
def mm_c72 : List (Nat × Instr) := [(0, .aload_n 0), (1, .getfield 43), (4, .aload_n 0), (5, .getfield 20), (8, .iload_n 1), (9, .aaload), (10, .aload_n 0), (11, .getfield 9), (14, .aload_n 0), (15, .getfield 15), (18, .invokevirtual 90), (21, .ireturn)]
def mm_c73 : List (Nat × Instr) := [(0, .iconst 0), (1, .istore_n 1), (2, .iload_n 1), (3, .bipush 12), (5, .if_icmp .ge 16), (8, .aload_n 0), (9, .getfield 23), (12, .iload_n 1), (13, .iconst (-1)), (14, .iastore), (15, .iinc 1 1), (18, .goto (-16)), (21, .return_)]
def mm_c74 : List (Nat × Instr) := [(0, .aload_n 0), (1, .invokespecial 3), (4, .aload_n 0), (5, .iconst 1), (6, .putfield 9), (9, .aload_n 0), (10, .iconst 0), (11, .putfield 15), (14, .aload_n 0), (15, .iconst 0), (16, .putfield 18), (19, .aload_n 0), (20, .bipush 6), (22, .bipush 6), (24, .multianewarray 22 2), (28, .putfield 24), (31, .aload_n 0), (32, .bipush 6), (34, .newarray .int), (36, .putfield 27), (39, .aload_n 0), (40, .bipush 6), (42, .newarray .int), (44, .putfield 31), (47, .aload_n 0), (48, .bipush 6), (50, .newarray .int), (52, .putfield 34), (55, .aload_n 0), (56, .bipush 6), (58, .anewarray 37), (61, .putfield 39), (64, .iconst 0), (65, .istore_n 1), (66, .iload_n 1), (67, .bipush 6), (69, .if_icmp .ge 22), (72, .aload_n 0), (73, .getfield 39), (76, .iload_n 1), (77, .new 37), (80, .dup), (81, .invokespecial 43), (84, .aastore), (85, .iinc 1 1), (88, .goto (-22)), (91, .return_)]
def mm_c75 : List (Nat × Instr) := [(0, .aload_n 0), (1, .iload_n 1), (2, .putfield 9), (5, .aload_n 0), (6, .iconst 0), (7, .putfield 15), (10, .aload_n 0), (11, .iconst 0), (12, .putfield 18), (15, .iconst 0), (16, .istore_n 2), (17, .iload_n 2), (18, .bipush 6), (20, .if_icmp .ge 32), (23, .iconst 0), (24, .istore_n 3), (25, .iload_n 3), (26, .bipush 6), (28, .if_icmp .ge 18), (31, .aload_n 0), (32, .getfield 24), (35, .iload_n 2), (36, .aaload), (37, .iload_n 3), (38, .iconst 0), (39, .iastore), (40, .iinc 3 1), (43, .goto (-18)), (46, .iinc 2 1), (49, .goto (-32)), (52, .return_)]
def mm_c76 : List (Nat × Instr) := [(0, .aload_n 0), (1, .getfield 24), (4, .iload_n 1), (5, .aaload), (6, .iload_n 2), (7, .iaload), (8, .istore 4), (10, .aload_n 0), (11, .getfield 24), (14, .iload_n 1), (15, .aaload), (16, .iload_n 2), (17, .iload_n 3), (18, .iastore), (19, .iload 4), (21, .ireturn)]
def mm_c77 : List (Nat × Instr) := [(0, .aload_n 0), (1, .getfield 15), (4, .istore_n 2), (5, .aload_n 0), (6, .iload_n 1), (7, .putfield 15), (10, .iload_n 2), (11, .ireturn)]
def mm_c78 : List (Nat × Instr) := [(0, .iconst 0), (1, .istore_n 1), (2, .iload_n 1), (3, .aload_n 0), (4, .getfield 9), (7, .if_icmp .ge 48), (10, .iconst 0), (11, .istore_n 2), (12, .iconst 0), (13, .istore_n 3), (14, .iload_n 3), (15, .aload_n 0), (16, .getfield 9), (19, .if_icmp .ge 20), (22, .iload_n 2), (23, .aload_n 0), (24, .getfield 24), (27, .iload_n 1), (28, .aaload), (29, .iload_n 3), (30, .iaload), (31, .iadd), (32, .istore_n 2), (33, .iinc 3 1), (36, .goto (-22)), (39, .iload_n 2), (40, .aload_n 0), (41, .getfield 15), (44, .if_icmp .eq 5), (47, .iconst 0), (48, .ireturn), (49, .iinc 1 1), (52, .goto (-50)), (55, .iconst 1), (56, .ireturn)]
def mm_c79 : List (Nat × Instr) := [(0, .aload_n 0), (1, .getfield 18), (4, .ireturn)]
def mm_c80 : List (Nat × Instr) := [(0, .aload_n 0), (1, .getfield 31), (4, .iload_n 1), (5, .iaload), (6, .ireturn)]
def mm_c81 : List (Nat × Instr) := [(0, .aload_n 0), (1, .getfield 39), (4, .iload_n 1), (5, .aaload), (6, .areturn)]
def mm_c82 : List (Nat × Instr) := [(0, .aload_n 0), (1, .iconst (-1)), (2, .putfield 44), (5, .aload_n 0), (6, .iconst 0), (7, .iconst 0), (8, .iconst 0), (9, .invokevirtual 47), (12, .aload_n 0), (13, .invokevirtual 51), (16, .aload_n 0), (17, .invokevirtual 54), (20, .aload_n 0), (21, .iconst 1), (22, .putfield 18), (25, .aload_n 0), (26, .getfield 44), (29, .ireturn)]
def mm_c83 : List (Nat × Instr) := [(0, .iload_n 1), (1, .aload_n 0), (2, .getfield 9), (5, .if_icmp .lt 34), (8, .iload_n 3), (9, .aload_n 0), (10, .getfield 44), (13, .if_icmp .le 25), (16, .aload_n 0), (17, .iload_n 3), (18, .putfield 44), (21, .aload_n 0), (22, .getfield 27), (25, .iconst 0), (26, .aload_n 0), (27, .getfield 31), (30, .iconst 0), (31, .aload_n 0), (32, .getfield 9), (35, .invokestatic 57), (38, .return_), (39, .iconst 0), (40, .istore 4), (42, .iload 4), (44, .aload_n 0), (45, .getfield 9), (48, .if_icmp .ge 50), (51, .iload_n 2), (52, .iload 4), (54, .ishr), (55, .iconst 1), (56, .iand), (57, .ifCond .ne 35), (60, .aload_n 0), (61, .getfield 27), (64, .iload_n 1), (65, .iload 4), (67, .iastore), (68, .aload_n 0), (69, .iload_n 1), (70, .iconst 1), (71, .iadd), (72, .iload_n 2), (73, .iconst 1), (74, .iload 4), (76, .ishl), (77, .ior), (78, .iload_n 3), (79, .aload_n 0), (80, .getfield 24), (83, .iload_n 1), (84, .aaload), (85, .iload 4), (87, .iaload), (88, .iadd), (89, .invokevirtual 47), (92, .iinc 4 1), (95, .goto (-53)), (98, .return_)]
def mm_c84 : List (Nat × Instr) := [(0, .iconst 0), (1, .istore_n 1), (2, .iload_n 1), (3, .aload_n 0), (4, .getfield 9), (7, .if_icmp .ge 16), (10, .aload_n 0), (11, .getfield 34), (14, .iload_n 1), (15, .iconst 0), (16, .iastore), (17, .iinc 1 1), (20, .goto (-18)), (23, .iconst 1), (24, .istore_n 1), (25, .iload_n 1), (26, .aload_n 0), (27, .getfield 9), (30, .if_icmp .ge 90), (33, .iconst 0), (34, .istore_n 2), (35, .iload_n 2), (36, .aload_n 0), (37, .getfield 9), (40, .if_icmp .ge 74), (43, .iconst 0), (44, .istore_n 3), (45, .iload_n 3), (46, .aload_n 0), (47, .getfield 9), (50, .if_icmp .ge 58), (53, .aload_n 0), (54, .getfield 31), (57, .iload_n 3), (58, .iaload), (59, .istore 4), (61, .aload_n 0), (62, .getfield 34), (65, .iload_n 2), (66, .aload_n 0), (67, .getfield 34), (70, .iload_n 2), (71, .iaload), (72, .aload_n 0), (73, .getfield 34), (76, .iload_n 3), (77, .iaload), (78, .aload_n 0), (79, .getfield 24), (82, .iload_n 2), (83, .aaload), (84, .iload 4), (86, .iaload), (87, .iadd), (88, .aload_n 0), (89, .getfield 24), (92, .iload_n 3), (93, .aaload), (94, .iload 4), (96, .iaload), (97, .isub), (98, .invokestatic 63), (101, .iastore), (102, .iinc 3 1), (105, .goto (-60)), (108, .iinc 2 1), (111, .goto (-76)), (114, .iinc 1 1), (117, .goto (-92)), (120, .return_)]
def mm_c85 : List (Nat × Instr) := [(0, .aload_n 0), (1, .getfield 44), (4, .aload_n 0), (5, .getfield 15), (8, .isub), (9, .i2l), (10, .lstore_n 1), (11, .iconst 0), (12, .istore_n 3), (13, .iload_n 3), (14, .aload_n 0), (15, .getfield 9), (18, .if_icmp .ge 19), (21, .lload_n 1), (22, .aload_n 0), (23, .getfield 34), (26, .iload_n 3), (27, .iaload), (28, .i2l), (29, .lsub), (30, .lstore_n 1), (31, .iinc 3 1), (34, .goto (-21)), (37, .iconst 0), (38, .istore_n 3), (39, .iload_n 3), (40, .aload_n 0), (41, .getfield 9), (44, .if_icmp .ge 56), (47, .aload_n 0), (48, .getfield 24), (51, .iload_n 3), (52, .aaload), (53, .aload_n 0), (54, .getfield 31), (57, .iload_n 3), (58, .iaload), (59, .iaload), (60, .aload_n 0), (61, .getfield 34), (64, .iload_n 3), (65, .iaload), (66, .isub), (67, .i2l), (68, .lstore 4), (70, .aload_n 0), (71, .getfield 39), (74, .iload_n 3), (75, .aaload), (76, .lload 4), (78, .aload_n 0), (79, .getfield 9), (82, .i2l), (83, .lmul), (84, .lload_n 1), (85, .lsub), (86, .aload_n 0), (87, .getfield 9), (90, .i2l), (91, .invokevirtual 69), (94, .iinc 3 1), (97, .goto (-58)), (100, .return_)]
def mm_c86 : List (Nat × Instr) := [(0, .aload_n 0), (1, .invokespecial 3), (4, .aload_n 0), (5, .bipush 12), (7, .newarray .int), (9, .putfield 9), (12, .aload_n 0), (13, .bipush 6), (15, .newarray .int), (17, .putfield 15), (20, .aload_n 0), (21, .bipush 6), (23, .bipush 13), (25, .multianewarray 18 2), (29, .putfield 20), (32, .return_)]
def mm_c87 : List (Nat × Instr) := [(0, .aload_n 0), (1, .iload_n 2), (2, .putfield 23), (5, .aload_n 0), (6, .iload_n 3), (7, .putfield 27), (10, .aload_n 0), (11, .aload_n 1), (12, .putfield 30), (15, .aload_n 0), (16, .aload 4), (18, .putfield 33), (21, .aload_n 0), (22, .iconst (-1)), (23, .putfield 36), (26, .aload_n 0), (27, .lconst 0), (28, .putfield 39), (31, .iconst 0), (32, .istore 5), (34, .iload 5), (36, .aload_n 0), (37, .getfield 23), (40, .if_icmp .ge 82), (43, .aload_n 0), (44, .getfield 15), (47, .iload 5), (49, .iconst 0), (50, .iastore), (51, .aload_n 0), (52, .getfield 20), (55, .iload 5), (57, .aaload), (58, .aload_n 0), (59, .getfield 27), (62, .iconst 0), (63, .iastore), (64, .aload_n 0), (65, .getfield 27), (68, .iconst 1), (69, .isub), (70, .istore 6), (72, .iload 6), (74, .ifCond .lt 42), (77, .aload_n 0), (78, .getfield 20), (81, .iload 5), (83, .aaload), (84, .iload 6), (86, .aload_n 0), (87, .getfield 20), (90, .iload 5), (92, .aaload), (93, .iload 6), (95, .iconst 1), (96, .iadd), (97, .iaload), (98, .aload_n 0), (99, .getfield 30), (102, .iload 5), (104, .aaload), (105, .iload 6), (107, .iaload), (108, .iadd), (109, .iastore), (110, .iinc 6 (-1)), (113, .goto (-41)), (116, .iinc 5 1), (119, .goto (-85)), (122, .aload_n 0), (123, .iconst 0), (124, .invokevirtual 43), (127, .aload_n 0), (128, .getfield 39), (131, .lreturn)]
def mm_c88 : List (Nat × Instr) := [(0, .iconst 0), (1, .istore_n 2), (2, .lconst 1), (3, .lstore_n 3), (4, .iconst 0), (5, .istore 5), (7, .iload 5), (9, .aload_n 0), (10, .getfield 23), (13, .if_icmp .ge 43), (16, .aload_n 0), (17, .getfield 15), (20, .iload 5), (22, .iaload), (23, .aload_n 0), (24, .getfield 20), (27, .iload 5), (29, .aaload), (30, .iload_n 1), (31, .iaload), (32, .iadd), (33, .istore 6), (35, .iload 6), (37, .ifCond .le 13), (40, .iinc 2 1), (43, .lload_n 3), (44, .iload 6), (46, .invokestatic 47), (49, .lstore_n 3), (50, .iinc 5 1), (53, .goto (-46)), (56, .iload_n 2), (57, .aload_n 0), (58, .getfield 36), (61, .if_icmp .lt 20), (64, .iload_n 2), (65, .aload_n 0), (66, .getfield 36), (69, .if_icmp .ne 13), (72, .lload_n 3), (73, .aload_n 0), (74, .getfield 39), (77, .lcmp), (78, .ifCond .gt 4), (81, .return_), (82, .iload_n 1), (83, .aload_n 0), (84, .getfield 27), (87, .if_icmp .lt 31), (90, .aload_n 0), (91, .iload_n 2), (92, .putfield 36), (95, .aload_n 0), (96, .lload_n 3), (97, .putfield 39), (100, .aload_n 0), (101, .getfield 9), (104, .iconst 0), (105, .aload_n 0), (106, .getfield 33), (109, .iconst 0), (110, .aload_n 0), (111, .getfield 27), (114, .invokestatic 51), (117, .return_), (118, .iconst 0), (119, .istore 5), (121, .iload 5), (123, .aload_n 0), (124, .getfield 23), (127, .if_icmp .ge 62), (130, .aload_n 0), (131, .getfield 9), (134, .iload_n 1), (135, .iload 5), (137, .iastore), (138, .aload_n 0), (139, .getfield 15), (142, .iload 5), (144, .dup2), (145, .iaload), (146, .aload_n 0), (147, .getfield 30), (150, .iload 5), (152, .aaload), (153, .iload_n 1), (154, .iaload), (155, .iadd), (156, .iastore), (157, .aload_n 0), (158, .iload_n 1), (159, .iconst 1), (160, .iadd), (161, .invokevirtual 43), (164, .aload_n 0), (165, .getfield 15), (168, .iload 5), (170, .dup2), (171, .iaload), (172, .aload_n 0), (173, .getfield 30), (176, .iload 5), (178, .aaload), (179, .iload_n 1), (180, .iaload), (181, .isub), (182, .iastore), (183, .iinc 5 1), (186, .goto (-65)), (189, .return_)]
def mm_c89 : List (Nat × Instr) := [(0, .iload_n 2), (1, .ifCond .le 20), (4, .lload_n 0), (5, .ldc2_w 57), (8, .iload_n 2), (9, .i2l), (10, .ldiv), (11, .lcmp), (12, .ifCond .le 9), (15, .ldc2_w 57), (18, .goto 7), (21, .lload_n 0), (22, .iload_n 2), (23, .i2l), (24, .lmul), (25, .lreturn)]
def mm_c90 : List (Nat × Instr) := [(0, .aload_n 0), (1, .invokespecial 1), (4, .aload_n 0), (5, .iconst 0), (6, .putfield 7), (9, .aload_n 0), (10, .iconst 1), (11, .putfield 13), (14, .aload_n 0), (15, .iconst 0), (16, .putfield 16), (19, .aload_n 0), (20, .bipush 72), (22, .newarray .int), (24, .putfield 19), (27, .aload_n 0), (28, .bipush 12), (30, .newarray .int), (32, .putfield 23), (35, .aload_n 0), (36, .bipush 12), (38, .newarray .int), (40, .putfield 26), (43, .aload_n 0), (44, .bipush 6), (46, .newarray .int), (48, .putfield 29), (51, .aload_n 0), (52, .bipush 36), (54, .newarray .int), (56, .putfield 32), (59, .aload_n 0), (60, .iconst 0), (61, .putfield 35), (64, .aload_n 0), (65, .iconst 0), (66, .putfield 38), (69, .aload_n 0), (70, .bipush 6), (72, .newarray .int), (74, .putfield 42), (77, .aload_n 0), (78, .bipush 6), (80, .newarray .int), (82, .putfield 45), (85, .aload_n 0), (86, .bipush 6), (88, .newarray .int), (90, .putfield 48), (93, .aload_n 0), (94, .bipush 6), (96, .newarray .long), (98, .putfield 51), (101, .aload_n 0), (102, .bipush 6), (104, .newarray .long), (106, .putfield 55), (109, .aload_n 0), (110, .iconst 1), (111, .putfield 58), (114, .aload_n 0), (115, .bipush 96), (117, .newarray .int), (119, .putfield 61), (122, .aload_n 0), (123, .iconst 0), (124, .putfield 64), (127, .aload_n 0), (128, .bipush 6), (130, .newarray .long), (132, .putfield 67), (135, .aload_n 0), (136, .bipush 6), (138, .newarray .long), (140, .putfield 70), (143, .aload_n 0), (144, .bipush 6), (146, .newarray .long), (148, .putfield 73), (151, .aload_n 0), (152, .bipush 6), (154, .newarray .long), (156, .putfield 76), (159, .aload_n 0), (160, .bipush 6), (162, .newarray .long), (164, .putfield 79), (167, .aload_n 0), (168, .bipush 6), (170, .newarray .long), (172, .putfield 82), (175, .aload_n 0), (176, .lconst 0), (177, .putfield 85), (180, .aload_n 0), (181, .lconst 1), (182, .putfield 89), (185, .aload_n 0), (186, .bipush 6), (188, .newarray .int), (190, .putfield 92), (193, .aload_n 0), (194, .iconst 1), (195, .invokevirtual 95), (198, .return_)]
def mm_c91 : List (Nat × Instr) := [(0, .aload_n 0), (1, .iload_n 1), (2, .putfield 13), (5, .aload_n 0), (6, .iconst 0), (7, .putfield 16), (10, .aload_n 0), (11, .iconst 0), (12, .putfield 35), (15, .aload_n 0), (16, .iconst 0), (17, .putfield 38), (20, .aload_n 0), (21, .iconst 1), (22, .putfield 58), (25, .aload_n 0), (26, .iconst 0), (27, .putfield 64), (30, .iconst 0), (31, .istore_n 2), (32, .iload_n 2), (33, .bipush 72), (35, .if_icmp .ge 16), (38, .aload_n 0), (39, .getfield 19), (42, .iload_n 2), (43, .iconst 0), (44, .iastore), (45, .iinc 2 1), (48, .goto (-16)), (51, .iconst 0), (52, .istore_n 2), (53, .iload_n 2), (54, .bipush 12), (56, .if_icmp .ge 16), (59, .aload_n 0), (60, .getfield 23), (63, .iload_n 2), (64, .iconst (-1)), (65, .iastore), (66, .iinc 2 1), (69, .goto (-16)), (72, .iconst 0), (73, .istore_n 2), (74, .iload_n 2), (75, .bipush 36), (77, .if_icmp .ge 16), (80, .aload_n 0), (81, .getfield 32), (84, .iload_n 2), (85, .iconst 0), (86, .iastore), (87, .iinc 2 1), (90, .goto (-16)), (93, .iconst 0), (94, .istore_n 2), (95, .iload_n 2), (96, .bipush 96), (98, .if_icmp .ge 16), (101, .aload_n 0), (102, .getfield 61), (105, .iload_n 2), (106, .iconst 0), (107, .iastore), (108, .iinc 2 1), (111, .goto (-16)), (114, .return_)]
def mm_c92 : List (Nat × Instr) := [(0, .iconst 0), (1, .istore_n 3), (2, .iconst 0), (3, .istore 4), (5, .iload 4), (7, .aload_n 0), (8, .getfield 16), (11, .if_icmp .ge 39), (14, .iload_n 3), (15, .aload_n 0), (16, .getfield 23), (19, .iload 4), (21, .iaload), (22, .iload_n 2), (23, .if_icmp .ne 18), (26, .aload_n 0), (27, .getfield 19), (30, .bipush 12), (32, .iload_n 1), (33, .imul), (34, .iload 4), (36, .iadd), (37, .iaload), (38, .goto 4), (41, .iconst 0), (42, .iadd), (43, .istore_n 3), (44, .iinc 4 1), (47, .goto (-42)), (50, .iload_n 3), (51, .ireturn)]
def mm_c93 : List (Nat × Instr) := [(0, .aload_n 0), (1, .iload_n 1), (2, .iload_n 2), (3, .invokevirtual 99), (6, .aload_n 0), (7, .iload_n 1), (8, .iload_n 1), (9, .invokevirtual 99), (12, .if_icmp .le 7), (15, .iconst 1), (16, .goto 4), (19, .iconst 0), (20, .ireturn)]
def mm_c94 : List (Nat × Instr) := [(0, .iconst 0), (1, .istore_n 1), (2, .iload_n 1), (3, .bipush 12), (5, .if_icmp .ge 16), (8, .aload_n 0), (9, .getfield 23), (12, .iload_n 1), (13, .iconst (-1)), (14, .iastore), (15, .iinc 1 1), (18, .goto (-16)), (21, .return_)]
def mm_c95 : List (Nat × Instr) := [(0, .iconst 0), (1, .istore_n 1), (2, .iload_n 1), (3, .aload_n 0), (4, .getfield 13), (7, .if_icmp .ge 52), (10, .iconst 0), (11, .istore_n 2), (12, .iconst 0), (13, .istore_n 3), (14, .iload_n 3), (15, .aload_n 0), (16, .getfield 13), (19, .if_icmp .ge 28), (22, .iload_n 2), (23, .ifCond .ne 12), (26, .aload_n 0), (27, .iload_n 3), (28, .iload_n 1), (29, .invokevirtual 103), (32, .ifCond .eq 7), (35, .iconst 1), (36, .goto 4), (39, .iconst 0), (40, .istore_n 2), (41, .iinc 3 1), (44, .goto (-30)), (47, .iload_n 2), (48, .ifCond .ne 5), (51, .iload_n 1), (52, .ireturn), (53, .iinc 1 1), (56, .goto (-54)), (59, .iconst (-1)), (60, .ireturn)]
def mm_c96 : List (Nat × Instr) := [(0, .iconst 0), (1, .istore_n 1), (2, .iconst 0), (3, .istore_n 2), (4, .iconst 0), (5, .istore_n 3), (6, .iload_n 3), (7, .ifCond .ne 74), (10, .aload_n 0), (11, .getfield 92), (14, .iload_n 1), (15, .iload_n 2), (16, .iastore), (17, .iinc 1 1), (20, .iconst 0), (21, .istore 4), (23, .aload_n 0), (24, .iload 4), (26, .iload_n 2), (27, .invokevirtual 103), (30, .ifCond .ne 9), (33, .iinc 4 1), (36, .goto (-13)), (39, .iload 4), (41, .istore_n 2), (42, .iconst 0), (43, .istore 5), (45, .iload 5), (47, .iload_n 1), (48, .if_icmp .ge 30), (51, .iload_n 3), (52, .ifCond .ne 14), (55, .aload_n 0), (56, .getfield 92), (59, .iload 5), (61, .iaload), (62, .iload_n 2), (63, .if_icmp .ne 7), (66, .iconst 1), (67, .goto 4), (70, .iconst 0), (71, .istore_n 3), (72, .iinc 5 1), (75, .goto (-30)), (78, .goto (-72)), (81, .iconst 0), (82, .istore 4), (84, .aload_n 0), (85, .getfield 92), (88, .iload 4), (90, .iaload), (91, .iload_n 2), (92, .if_icmp .eq 9), (95, .iinc 4 1), (98, .goto (-14)), (101, .iconst 0), (102, .istore 5), (104, .iload 5), (106, .aload_n 0), (107, .getfield 16), (110, .if_icmp .ge 74), (113, .aload_n 0), (114, .getfield 23), (117, .iload 5), (119, .iaload), (120, .istore 6), (122, .iload 4), (124, .istore 7), (126, .iload 7), (128, .iload_n 1), (129, .if_icmp .ge 49), (132, .iload 6), (134, .aload_n 0), (135, .getfield 92), (138, .iload 7), (140, .iaload), (141, .if_icmp .ne 31), (144, .aload_n 0), (145, .getfield 23), (148, .iload 5), (150, .iload 7), (152, .iconst 1), (153, .iadd), (154, .iload_n 1), (155, .if_icmp .ge 15), (158, .aload_n 0), (159, .getfield 92), (162, .iload 7), (164, .iconst 1), (165, .iadd), (166, .iaload), (167, .goto 4), (170, .iload_n 2), (171, .iastore), (172, .iinc 7 1), (175, .goto (-49)), (178, .iinc 5 1), (181, .goto (-77)), (184, .return_)]
def mm_c97 : List (Nat × Instr) := [(0, .iconst 1), (1, .istore_n 1), (2, .iconst 0), (3, .istore_n 2), (4, .iload_n 2), (5, .aload_n 0), (6, .getfield 16), (9, .if_icmp .ge 22), (12, .iload_n 1), (13, .ldc 107), (15, .if_icmp .gt 16), (18, .iload_n 1), (19, .aload_n 0), (20, .getfield 13), (23, .imul), (24, .istore_n 1), (25, .iinc 2 1), (28, .goto (-24)), (31, .iload_n 1), (32, .ireturn)]
def mm_c98 : List (Nat × Instr) := [(0, .iload_n 1), (1, .istore_n 2), (2, .aload_n 0), (3, .getfield 16), (6, .iconst 1), (7, .isub), (8, .istore_n 3), (9, .iload_n 3), (10, .ifCond .lt 28), (13, .aload_n 0), (14, .getfield 26), (17, .iload_n 3), (18, .iload_n 2), (19, .aload_n 0), (20, .getfield 13), (23, .irem), (24, .iastore), (25, .iload_n 2), (26, .aload_n 0), (27, .getfield 13), (30, .idiv), (31, .istore_n 2), (32, .iinc 3 (-1)), (35, .goto (-26)), (38, .return_)]
def mm_c99 : List (Nat × Instr) := [(0, .iload_n 1), (1, .istore_n 2), (2, .iconst 0), (3, .istore_n 3), (4, .iconst 0), (5, .istore 4), (7, .iload 4), (9, .aload_n 0), (10, .getfield 13), (13, .if_icmp .ge 103), (16, .iconst 1), (17, .istore 5), (19, .iconst 2), (20, .istore 6), (22, .iload 6), (24, .aload_n 0), (25, .getfield 13), (28, .iload 4), (30, .isub), (31, .if_icmp .ge 16), (34, .iload 5), (36, .iload 6), (38, .imul), (39, .istore 5), (41, .iinc 6 1), (44, .goto (-22)), (47, .iload_n 2), (48, .iload 5), (50, .idiv), (51, .istore 6), (53, .iload_n 2), (54, .iload 5), (56, .irem), (57, .istore_n 2), (58, .iconst 0), (59, .istore 7), (61, .iload_n 3), (62, .iload 7), (64, .ishr), (65, .iconst 1), (66, .iand), (67, .iconst 1), (68, .if_icmp .eq 8), (71, .iload 6), (73, .ifCond .le 21), (76, .iload_n 3), (77, .iload 7), (79, .ishr), (80, .iconst 1), (81, .iand), (82, .ifCond .ne 6), (85, .iinc 6 (-1)), (88, .iinc 7 1), (91, .goto (-30)), (94, .iload_n 3), (95, .iconst 1), (96, .iload 7), (98, .ishl), (99, .ior), (100, .istore_n 3), (101, .aload_n 0), (102, .getfield 45), (105, .iload 4), (107, .iload 7), (109, .iastore), (110, .iinc 4 1), (113, .goto (-106)), (116, .return_)]
def mm_c100 : List (Nat × Instr) := [(0, .lload_n 0), (1, .lconst 0), (2, .lcmp), (3, .ifCond .ge 8), (6, .lload_n 0), (7, .lneg), (8, .goto 4), (11, .lload_n 0), (12, .lstore 4), (14, .lload_n 2), (15, .lstore 6), (17, .lload 6), (19, .lconst 0), (20, .lcmp), (21, .ifCond .eq 21), (24, .lload 4), (26, .lload 6), (28, .lrem), (29, .lstore 8), (31, .lload 6), (33, .lstore 4), (35, .lload 8), (37, .lstore 6), (39, .goto (-22)), (42, .lload 4), (44, .lreturn)]
def mm_c101 : List (Nat × Instr) := [(0, .iconst 0), (1, .istore_n 1), (2, .iload_n 1), (3, .aload_n 0), (4, .getfield 13), (7, .if_icmp .ge 16), (10, .aload_n 0), (11, .getfield 48), (14, .iload_n 1), (15, .iconst 0), (16, .iastore), (17, .iinc 1 1), (20, .goto (-18)), (23, .iconst 0), (24, .istore_n 1), (25, .iload_n 1), (26, .aload_n 0), (27, .getfield 13), (30, .if_icmp .ge 102), (33, .iconst 0), (34, .istore_n 2), (35, .iload_n 2), (36, .aload_n 0), (37, .getfield 13), (40, .if_icmp .ge 86), (43, .iconst 0), (44, .istore_n 3), (45, .iload_n 3), (46, .aload_n 0), (47, .getfield 13), (50, .if_icmp .ge 70), (53, .aload_n 0), (54, .getfield 48), (57, .iload_n 3), (58, .iaload), (59, .aload_n 0), (60, .getfield 32), (63, .bipush 6), (65, .iload_n 2), (66, .imul), (67, .aload_n 0), (68, .getfield 42), (71, .iload_n 3), (72, .iaload), (73, .iadd), (74, .iaload), (75, .iadd), (76, .aload_n 0), (77, .getfield 32), (80, .bipush 6), (82, .iload_n 3), (83, .imul), (84, .aload_n 0), (85, .getfield 42), (88, .iload_n 3), (89, .iaload), (90, .iadd), (91, .iaload), (92, .isub), (93, .istore 4), (95, .iload 4), (97, .aload_n 0), (98, .getfield 48), (101, .iload_n 2), (102, .iaload), (103, .if_icmp .le 11), (106, .aload_n 0), (107, .getfield 48), (110, .iload_n 2), (111, .iload 4), (113, .iastore), (114, .iinc 3 1), (117, .goto (-72)), (120, .iinc 2 1), (123, .goto (-88)), (126, .iinc 1 1), (129, .goto (-104)), (132, .return_)]
def mm_c102 : List (Nat × Instr) := [(0, .lload_n 1), (1, .lload_n 3), (2, .invokestatic 108), (5, .lstore 5), (7, .aload_n 0), (8, .lload_n 1), (9, .lload 5), (11, .ldiv), (12, .putfield 85), (15, .aload_n 0), (16, .lload_n 3), (17, .lload 5), (19, .ldiv), (20, .putfield 89), (23, .return_)]
def mm_c103 : List (Nat × Instr) := [(0, .lload_n 3), (1, .aload_n 0), (2, .getfield 89), (5, .invokestatic 108), (8, .lstore 5), (10, .aload_n 0), (11, .aload_n 0), (12, .getfield 85), (15, .lload_n 3), (16, .lload 5), (18, .ldiv), (19, .lmul), (20, .lload_n 1), (21, .aload_n 0), (22, .getfield 89), (25, .lload 5), (27, .ldiv), (28, .lmul), (29, .ladd), (30, .aload_n 0), (31, .getfield 89), (34, .lload 5), (36, .ldiv), (37, .lload_n 3), (38, .lmul), (39, .invokevirtual 112), (42, .return_)]
def mm_c104 : List (Nat × Instr) := [(0, .aload_n 0), (1, .lconst 0), (2, .lconst 1), (3, .invokevirtual 112), (6, .iconst 0), (7, .istore 10), (9, .iload 10), (11, .aload_n 0), (12, .getfield 58), (15, .if_icmp .ge 154), (18, .lload_n 2), (19, .iload 10), (21, .i2l), (22, .lload 4), (24, .lmul), (25, .lcmp), (26, .ifCond .le 7), (29, .iconst 1), (30, .goto 4), (33, .iconst 0), (34, .istore 11), (36, .lload 6), (38, .iload 10), (40, .iconst 1), (41, .iadd), (42, .i2l), (43, .lload 8), (45, .lmul), (46, .lcmp), (47, .ifCond .ge 7), (50, .iconst 1), (51, .goto 4), (54, .iconst 0), (55, .istore 12), (57, .lload_n 2), (58, .iload 10), (60, .iconst 1), (61, .iadd), (62, .i2l), (63, .lload 4), (65, .lmul), (66, .lcmp), (67, .ifCond .ge 96), (70, .lload 6), (72, .iload 10), (74, .i2l), (75, .lload 8), (77, .lmul), (78, .lcmp), (79, .ifCond .le 84), (82, .aload_n 0), (83, .getfield 61), (86, .bipush 16), (88, .iload_n 1), (89, .imul), (90, .iload 10), (92, .iadd), (93, .iaload), (94, .istore 13), (96, .iload 12), (98, .ifCond .eq 18), (101, .aload_n 0), (102, .lload 6), (104, .iload 13), (106, .i2l), (107, .lmul), (108, .lload 8), (110, .invokevirtual 116), (113, .goto 17), (116, .aload_n 0), (117, .iload 10), (119, .i2l), (120, .lconst 1), (121, .ladd), (122, .iload 13), (124, .i2l), (125, .lmul), (126, .lconst 1), (127, .invokevirtual 116), (130, .iload 11), (132, .ifCond .eq 18), (135, .aload_n 0), (136, .lload_n 2), (137, .lneg), (138, .iload 13), (140, .i2l), (141, .lmul), (142, .lload 4), (144, .invokevirtual 116), (147, .goto 16), (150, .aload_n 0), (151, .iload 10), (153, .i2l), (154, .lneg), (155, .iload 13), (157, .i2l), (158, .lmul), (159, .lconst 1), (160, .invokevirtual 116), (163, .iinc 10 1), (166, .goto (-157)), (169, .return_)]
def mm_c105 : List (Nat × Instr) := [(0, .lload 6), (2, .lconst 0), (3, .lcmp), (4, .ifCond .ne 11), (7, .aload_n 0), (8, .lload_n 2), (9, .lload 4), (11, .invokevirtual 112), (14, .return_), (15, .iconst 0), (16, .istore 10), (18, .iload 10), (20, .aload_n 0), (21, .getfield 58), (24, .if_icmp .ge 118), (27, .aload_n 0), (28, .iload_n 1), (29, .lload_n 2), (30, .lload 4), (32, .iload 10), (34, .i2l), (35, .lconst 1), (36, .ladd), (37, .lconst 1), (38, .invokevirtual 119), (41, .lload_n 2), (42, .iload 10), (44, .iconst 1), (45, .iadd), (46, .i2l), (47, .lload 4), (49, .lmul), (50, .lcmp), (51, .ifCond .ge 85), (54, .aload_n 0), (55, .getfield 85), (58, .lload 8), (60, .lmul), (61, .lload 6), (63, .aload_n 0), (64, .getfield 89), (67, .lmul), (68, .lcmp), (69, .ifCond .lt 67), (72, .aload_n 0), (73, .getfield 61), (76, .bipush 16), (78, .iload_n 1), (79, .imul), (80, .iload 10), (82, .iadd), (83, .iaload), (84, .istore 11), (86, .aload_n 0), (87, .getfield 85), (90, .lload 8), (92, .lmul), (93, .lload 6), (95, .aload_n 0), (96, .getfield 89), (99, .lmul), (100, .lsub), (101, .lstore 12), (103, .lload 8), (105, .aload_n 0), (106, .getfield 89), (109, .lmul), (110, .iload 11), (112, .i2l), (113, .lmul), (114, .lstore 14), (116, .aload_n 0), (117, .iload 10), (119, .i2l), (120, .lconst 1), (121, .ladd), (122, .lconst 1), (123, .invokevirtual 112), (126, .aload_n 0), (127, .lload 12), (129, .lneg), (130, .lload 14), (132, .invokevirtual 116), (135, .return_), (136, .iinc 10 1), (139, .goto (-121)), (142, .aload_n 0), (143, .aload_n 0), (144, .getfield 58), (147, .i2l), (148, .lconst 1), (149, .invokevirtual 112), (152, .return_)]
def mm_c106 : List (Nat × Instr) := [(0, .iconst 1), (1, .aload_n 0), (2, .getfield 13), (5, .ishl), (6, .iconst 1), (7, .isub), (8, .istore_n 1), (9, .lconst 0), (10, .lstore_n 2), (11, .lconst 1), (12, .lstore 4), (14, .aload_n 0), (15, .getfield 13), (18, .istore 6), (20, .iload 6), (22, .iconst 1), (23, .if_icmp .le 191), (26, .iconst (-1)), (27, .istore 7), (29, .iconst 0), (30, .istore 8), (32, .iload 8), (34, .aload_n 0), (35, .getfield 13), (38, .if_icmp .ge 121), (41, .iload_n 1), (42, .iload 8), (44, .ishr), (45, .iconst 1), (46, .iand), (47, .iconst 1), (48, .if_icmp .ne 105), (51, .aload_n 0), (52, .iload 8), (54, .lconst 0), (55, .lconst 1), (56, .aload_n 0), (57, .getfield 58), (60, .i2l), (61, .lconst 1), (62, .invokevirtual 119), (65, .aload_n 0), (66, .iload 8), (68, .lload_n 2), (69, .lload 4), (71, .aload_n 0), (72, .getfield 85), (75, .aload_n 0), (76, .getfield 89), (79, .aload_n 0), (80, .getfield 13), (83, .i2l), (84, .lmul), (85, .invokevirtual 123), (88, .aload_n 0), (89, .getfield 79), (92, .iload 8), (94, .aload_n 0), (95, .getfield 85), (98, .lastore), (99, .aload_n 0), (100, .getfield 82), (103, .iload 8), (105, .aload_n 0), (106, .getfield 89), (109, .lastore), (110, .iload 7), (112, .ifCond .lt 37), (115, .aload_n 0), (116, .getfield 79), (119, .iload 8), (121, .laload), (122, .aload_n 0), (123, .getfield 82), (126, .iload 7), (128, .laload), (129, .lmul), (130, .aload_n 0), (131, .getfield 79), (134, .iload 7), (136, .laload), (137, .aload_n 0), (138, .getfield 82), (141, .iload 8), (143, .laload), (144, .lmul), (145, .lcmp), (146, .ifCond .ge 7), (149, .iload 8), (151, .istore 7), (153, .iinc 8 1), (156, .goto (-124)), (159, .aload_n 0), (160, .iload 7), (162, .lload_n 2), (163, .lload 4), (165, .aload_n 0), (166, .getfield 79), (169, .iload 7), (171, .laload), (172, .aload_n 0), (173, .getfield 82), (176, .iload 7), (178, .laload), (179, .invokevirtual 126), (182, .aload_n 0), (183, .getfield 79), (186, .iload 7), (188, .laload), (189, .lstore_n 2), (190, .aload_n 0), (191, .getfield 82), (194, .iload 7), (196, .laload), (197, .lstore 4), (199, .iload_n 1), (200, .iconst 1), (201, .iload 7), (203, .ishl), (204, .iconst (-1)), (205, .ixor), (206, .iand), (207, .istore_n 1), (208, .iinc 6 (-1)), (211, .goto (-191)), (214, .iconst 0), (215, .istore 6), (217, .iload 6), (219, .aload_n 0), (220, .getfield 13), (223, .if_icmp .ge 34), (226, .iload_n 1), (227, .iload 6), (229, .ishr), (230, .iconst 1), (231, .iand), (232, .iconst 1), (233, .if_icmp .ne 18), (236, .aload_n 0), (237, .iload 6), (239, .lload_n 2), (240, .lload 4), (242, .aload_n 0), (243, .getfield 58), (246, .i2l), (247, .lconst 1), (248, .invokevirtual 126), (251, .iinc 6 1), (254, .goto (-37)), (257, .return_)]
def mm_c107 : List (Nat × Instr) := [(0, .aload_n 0), (1, .getfield 67), (4, .iload_n 1), (5, .lload_n 2), (6, .lastore), (7, .aload_n 0), (8, .getfield 70), (11, .iload_n 1), (12, .lload 4), (14, .lastore), (15, .aload_n 0), (16, .getfield 73), (19, .iload_n 1), (20, .lload 6), (22, .lastore), (23, .aload_n 0), (24, .getfield 76), (27, .iload_n 1), (28, .lload 8), (30, .lastore), (31, .return_)]
def mm_c108 : List (Nat × Instr) := [(0, .iconst 0), (1, .istore_n 1), (2, .iconst 0), (3, .istore_n 2), (4, .iload_n 2), (5, .bipush 6), (7, .if_icmp .ge 17), (10, .iload_n 1), (11, .iload_n 0), (12, .iload_n 2), (13, .ishr), (14, .iconst 1), (15, .iand), (16, .iadd), (17, .istore_n 1), (18, .iinc 2 1), (21, .goto (-17)), (24, .iload_n 1), (25, .ireturn)]
def mm_c109 : List (Nat × Instr) := [(0, .iconst 1), (1, .istore_n 1), (2, .aload_n 0), (3, .getfield 92), (6, .iconst 0), (7, .iconst 1), (8, .aload_n 0), (9, .getfield 13), (12, .ishl), (13, .iconst 1), (14, .isub), (15, .iastore), (16, .iconst 0), (17, .istore_n 2), (18, .iload_n 2), (19, .aload_n 0), (20, .getfield 13), (23, .if_icmp .ge 22), (26, .aload_n 0), (27, .iload_n 2), (28, .lconst 0), (29, .lconst 1), (30, .aload_n 0), (31, .getfield 58), (34, .i2l), (35, .lconst 1), (36, .invokevirtual 126), (39, .iinc 2 1), (42, .goto (-24)), (45, .iload_n 1), (46, .ifCond .le 59), (49, .iinc 1 (-1)), (52, .aload_n 0), (53, .getfield 92), (56, .iload_n 1), (57, .iaload), (58, .istore_n 2), (59, .iload_n 2), (60, .invokestatic 129), (63, .istore_n 3), (64, .iload_n 3), (65, .iconst 1), (66, .if_icmp .le 36), (69, .aload_n 0), (70, .iload_n 2), (71, .iload_n 3), (72, .invokevirtual 133), (75, .istore 4), (77, .aload_n 0), (78, .getfield 92), (81, .iload_n 1), (82, .iload 4), (84, .iastore), (85, .aload_n 0), (86, .getfield 92), (89, .iload_n 1), (90, .iconst 1), (91, .iadd), (92, .iload_n 2), (93, .iload 4), (95, .iconst (-1)), (96, .ixor), (97, .iand), (98, .iastore), (99, .iinc 1 2), (102, .goto (-57)), (105, .return_)]
def mm_c110_0 : List (Nat × Instr) := [(0, .iload_n 2), (1, .iconst 2), (2, .idiv), (3, .istore_n 3), (4, .iconst 0), (5, .istore 4), (7, .iload 4), (9, .bipush 6), (11, .if_icmp .ge 109), (14, .iload_n 1), (15, .iload 4), (17, .ishr), (18, .iconst 1), (19, .iand), (20, .iconst 1), (21, .if_icmp .ne 93), (24, .aload_n 0), (25, .iload 4), (27, .aload_n 0), (28, .getfield 67), (31, .iload 4), (33, .laload), (34, .aload_n 0), (35, .getfield 70), (38, .iload 4), (40, .laload), (41, .aload_n 0), (42, .getfield 73), (45, .iload 4), (47, .laload), (48, .aload_n 0), (49, .getfield 76), (52, .iload 4), (54, .laload), (55, .invokevirtual 119), (58, .aload_n 0), (59, .iload 4), (61, .aload_n 0), (62, .getfield 67), (65, .iload 4), (67, .laload), (68, .aload_n 0), (69, .getfield 70), (72, .iload 4), (74, .laload), (75, .aload_n 0), (76, .getfield 85), (79, .iload_n 3), (80, .i2l), (81, .lmul), (82, .aload_n 0), (83, .getfield 89), (86, .iload_n 2), (87, .i2l), (88, .lmul), (89, .invokevirtual 123), (92, .aload_n 0), (93, .getfield 79), (96, .iload 4), (98, .aload_n 0), (99, .getfield 85), (102, .lastore), (103, .aload_n 0), (104, .getfield 82), (107, .iload 4), (109, .aload_n 0), (110, .getfield 89), (113, .lastore), (114, .iinc 4 1), (117, .goto (-110)), (120, .iconst 0), (121, .istore 4), (123, .iconst 0), (124, .istore 5), (126, .iconst 0), (127, .istore 6), (129, .iload 6), (131, .iload_n 3), (132, .if_icmp .ge 111), (135, .iconst (-1)), (136, .istore 7), (138, .iconst 0), (139, .istore 8), (141, .iload 8), (143, .bipush 6), (145, .if_icmp .ge 79), (148, .iload_n 1), (149, .iload 4), (151, .iconst (-1)), (152, .ixor), (153, .iand), (154, .iload 8), (156, .ishr), (157, .iconst 1), (158, .iand), (159, .iconst 1), (160, .if_icmp .ne 7), (163, .iconst 1), (164, .goto 4), (167, .iconst 0)]
def mm_c110_1 : List (Nat × Instr) := [(168, .istore 9), (170, .iload 9), (172, .ifCond .eq 46), (175, .iload 7), (177, .ifCond .lt 37), (180, .aload_n 0), (181, .getfield 79), (184, .iload 8), (186, .laload), (187, .aload_n 0), (188, .getfield 82), (191, .iload 7), (193, .laload), (194, .lmul), (195, .aload_n 0), (196, .getfield 79), (199, .iload 7), (201, .laload), (202, .aload_n 0), (203, .getfield 82), (206, .iload 8), (208, .laload), (209, .lmul), (210, .lcmp), (211, .ifCond .ge 7), (214, .iload 8), (216, .istore 7), (218, .iinc 8 1), (221, .goto (-80)), (224, .iload 4), (226, .iconst 1), (227, .iload 7), (229, .ishl), (230, .ior), (231, .istore 4), (233, .iload 7), (235, .istore 5), (237, .iinc 6 1), (240, .goto (-111)), (243, .iconst 0), (244, .istore 6), (246, .iload 6), (248, .bipush 6), (250, .if_icmp .ge 89), (253, .iload 4), (255, .iload 6), (257, .ishr), (258, .iconst 1), (259, .iand), (260, .iconst 1), (261, .if_icmp .ne 34), (264, .aload_n 0), (265, .getfield 73), (268, .iload 6), (270, .aload_n 0), (271, .getfield 79), (274, .iload 5), (276, .laload), (277, .lastore), (278, .aload_n 0), (279, .getfield 76), (282, .iload 6), (284, .aload_n 0), (285, .getfield 82), (288, .iload 5), (290, .laload), (291, .lastore), (292, .goto 41), (295, .iload_n 1), (296, .iload 6), (298, .ishr), (299, .iconst 1), (300, .iand), (301, .iconst 1), (302, .if_icmp .ne 31), (305, .aload_n 0), (306, .getfield 67), (309, .iload 6), (311, .aload_n 0), (312, .getfield 79), (315, .iload 5), (317, .laload), (318, .lastore), (319, .aload_n 0), (320, .getfield 70), (323, .iload 6), (325, .aload_n 0), (326, .getfield 82), (329, .iload 5), (331, .laload), (332, .lastore), (333, .iinc 6 1), (336, .goto (-90)), (339, .iload 4), (341, .ireturn)]
def mm_c110 : List (Nat × Instr) := mm_c110_0 ++ (mm_c110_1)
def mm_c111 : List (Nat × Instr) := [(0, .aload_n 0), (1, .getfield 7), (4, .ireturn)]
def mm_c112 : List (Nat × Instr) := [(0, .iload_n 1), (1, .ifCond .lt 11), (4, .iload_n 1), (5, .aload_n 0), (6, .getfield 13), (9, .if_icmp .lt 7), (12, .iconst 1), (13, .goto 4), (16, .iconst 0), (17, .ireturn)]
def mm_c113 : List (Nat × Instr) := [(0, .iload_n 1), (1, .ifCond .lt 11), (4, .iload_n 1), (5, .aload_n 0), (6, .getfield 16), (9, .if_icmp .lt 7), (12, .iconst 1), (13, .goto 4), (16, .iconst 0), (17, .ireturn)]
def mm_c114 : List (Nat × Instr) := [(0, .aload_n 0), (1, .iload_n 1), (2, .iconst 1), (3, .if_icmp .lt 9), (6, .iload_n 1), (7, .bipush 6), (9, .if_icmp .le 7), (12, .iconst 1), (13, .goto 4), (16, .iconst 0), (17, .putfield 7), (20, .aload_n 0), (21, .getfield 7), (24, .ifCond .ne 8), (27, .aload_n 0), (28, .iload_n 1), (29, .invokevirtual 95), (32, .return_)]
def mm_c115 : List (Nat × Instr) := [(0, .aload_n 0), (1, .iload_n 1), (2, .ifCond .lt 9), (5, .iload_n 1), (6, .bipush 12), (8, .if_icmp .le 7), (11, .iconst 1), (12, .goto 4), (15, .iconst 0), (16, .putfield 7), (19, .aload_n 0), (20, .getfield 7), (23, .ifCond .eq 4), (26, .return_), (27, .aload_n 0), (28, .iload_n 1), (29, .putfield 16), (32, .aload_n 0), (33, .invokevirtual 136), (36, .iconst 0), (37, .istore_n 2), (38, .iload_n 2), (39, .bipush 6), (41, .if_icmp .ge 35), (44, .iload_n 1), (45, .istore_n 3), (46, .iload_n 3), (47, .bipush 12), (49, .if_icmp .ge 21), (52, .aload_n 0), (53, .getfield 19), (56, .bipush 12), (58, .iload_n 2), (59, .imul), (60, .iload_n 3), (61, .iadd), (62, .iconst 0), (63, .iastore), (64, .iinc 3 1), (67, .goto (-21)), (70, .iinc 2 1), (73, .goto (-35)), (76, .return_)]
def mm_c116 : List (Nat × Instr) := [(0, .aload_n 0), (1, .iload_n 3), (2, .ifCond .lt 10), (5, .iload_n 3), (6, .sipush 1000), (9, .if_icmp .le 7), (12, .iconst 1), (13, .goto 24), (16, .aload_n 0), (17, .iload_n 1), (18, .invokevirtual 139), (21, .ifCond .ne 11), (24, .aload_n 0), (25, .iload_n 2), (26, .invokevirtual 143), (29, .ifCond .eq 7), (32, .iconst 2), (33, .goto 4), (36, .iconst 0), (37, .putfield 7), (40, .aload_n 0), (41, .getfield 7), (44, .ifCond .eq 5), (47, .iconst 0), (48, .ireturn), (49, .aload_n 0), (50, .getfield 19), (53, .bipush 12), (55, .iload_n 1), (56, .imul), (57, .iload_n 2), (58, .iadd), (59, .iaload), (60, .istore 4), (62, .aload_n 0), (63, .getfield 19), (66, .bipush 12), (68, .iload_n 1), (69, .imul), (70, .iload_n 2), (71, .iadd), (72, .iload_n 3), (73, .iastore), (74, .iload 4), (76, .ireturn)]
def mm_c117 : List (Nat × Instr) := [(0, .aload_n 0), (1, .aload_n 0), (2, .iload_n 1), (3, .invokevirtual 139), (6, .ifCond .eq 7), (9, .iconst 1), (10, .goto 4), (13, .iconst 0), (14, .putfield 7), (17, .aload_n 0), (18, .getfield 7), (21, .ifCond .eq 4), (24, .return_), (25, .aload_n 0), (26, .invokevirtual 136), (29, .iload_n 1), (30, .istore_n 2), (31, .iconst 0), (32, .istore_n 3), (33, .iload_n 3), (34, .aload_n 0), (35, .getfield 16), (38, .if_icmp .ge 93), (41, .iconst (-1)), (42, .istore 4), (44, .iconst 0), (45, .istore 5), (47, .iload 5), (49, .aload_n 0), (50, .getfield 16), (53, .if_icmp .ge 55), (56, .aload_n 0), (57, .getfield 23), (60, .iload 5), (62, .iaload), (63, .ifCond .ge 39), (66, .iload 4), (68, .ifCond .lt 30), (71, .aload_n 0), (72, .getfield 19), (75, .bipush 12), (77, .iload_n 2), (78, .imul), (79, .iload 5), (81, .iadd), (82, .iaload), (83, .aload_n 0), (84, .getfield 19), (87, .bipush 12), (89, .iload_n 2), (90, .imul), (91, .iload 4), (93, .iadd), (94, .iaload), (95, .if_icmp .le 7), (98, .iload 5), (100, .istore 4), (102, .iinc 5 1), (105, .goto (-58)), (108, .aload_n 0), (109, .getfield 23), (112, .iload 4), (114, .iload_n 2), (115, .iastore), (116, .iload_n 2), (117, .iconst 1), (118, .iadd), (119, .aload_n 0), (120, .getfield 13), (123, .irem), (124, .istore_n 2), (125, .iinc 3 1), (128, .goto (-95)), (131, .return_)]
def mm_c118 : List (Nat × Instr) := [(0, .aload_n 0), (1, .iconst 0), (2, .putfield 7), (5, .aload_n 0), (6, .invokevirtual 136), (9, .iconst 0), (10, .istore_n 1), (11, .iconst 0), (12, .istore_n 2), (13, .iload_n 2), (14, .aload_n 0), (15, .getfield 16), (18, .if_icmp .ge 40), (21, .aload_n 0), (22, .invokevirtual 146), (25, .istore_n 3), (26, .iload_n 3), (27, .ifCond .ge 18), (30, .aload_n 0), (31, .invokevirtual 150), (34, .iinc 1 1), (37, .aload_n 0), (38, .invokevirtual 146), (41, .istore_n 3), (42, .goto (-16)), (45, .aload_n 0), (46, .getfield 23), (49, .iload_n 2), (50, .iload_n 3), (51, .iastore), (52, .iinc 2 1), (55, .goto (-42)), (58, .iload_n 1), (59, .ireturn)]
def mm_c119 : List (Nat × Instr) := [(0, .aload_n 0), (1, .invokevirtual 153), (4, .istore_n 1), (5, .aload_n 0), (6, .iload_n 1), (7, .ldc 107), (9, .if_icmp .le 7), (12, .iconst 1), (13, .goto 4), (16, .iconst 0), (17, .putfield 7), (20, .aload_n 0), (21, .getfield 7), (24, .ifCond .eq 5), (27, .lconst 0), (28, .lreturn), (29, .iconst (-1)), (30, .istore_n 2), (31, .lconst 0), (32, .lstore_n 3), (33, .iconst 0), (34, .istore 5), (36, .iconst 0), (37, .istore 6), (39, .iload 6), (41, .iload_n 1), (42, .if_icmp .ge 181), (45, .aload_n 0), (46, .iload 6), (48, .invokevirtual 156), (51, .iconst 0), (52, .istore 7), (54, .iload 7), (56, .aload_n 0), (57, .getfield 13), (60, .if_icmp .ge 17), (63, .aload_n 0), (64, .getfield 29), (67, .iload 7), (69, .iconst 0), (70, .iastore), (71, .iinc 7 1), (74, .goto (-20)), (77, .iconst 0), (78, .istore 7), (80, .iload 7), (82, .aload_n 0), (83, .getfield 16), (86, .if_icmp .ge 52), (89, .aload_n 0), (90, .getfield 29), (93, .aload_n 0), (94, .getfield 26), (97, .iload 7), (99, .iaload), (100, .aload_n 0), (101, .getfield 29), (104, .aload_n 0), (105, .getfield 26), (108, .iload 7), (110, .iaload), (111, .iaload), (112, .aload_n 0), (113, .getfield 19), (116, .bipush 12), (118, .aload_n 0), (119, .getfield 26), (122, .iload 7), (124, .iaload), (125, .imul), (126, .iload 7), (128, .iadd), (129, .iaload), (130, .iadd), (131, .iastore), (132, .iinc 7 1), (135, .goto (-55)), (138, .iconst 0), (139, .istore 7), (141, .lconst 1), (142, .lstore 8), (144, .iconst 0), (145, .istore 10), (147, .iload 10), (149, .aload_n 0), (150, .getfield 13), (153, .if_icmp .ge 35), (156, .aload_n 0), (157, .getfield 29), (160, .iload 10), (162, .iaload), (163, .ifCond .le 19), (166, .iinc 7 1), (169, .lload 8), (171, .aload_n 0), (172, .getfield 29), (175, .iload 10), (177, .iaload), (178, .i2l), (179, .lmul), (180, .lstore 8), (182, .iinc 10 1), (185, .goto (-38)), (188, .iload 7), (190, .iload_n 2), (191, .if_icmp .gt 16), (194, .iload 7), (196, .iload_n 2), (197, .if_icmp .ne 20), (200, .lload 8), (202, .lload_n 3), (203, .lcmp), (204, .ifCond .le 13), (207, .iload 7), (209, .istore_n 2), (210, .lload 8), (212, .lstore_n 3), (213, .iload 6), (215, .istore 5), (217, .iinc 6 1), (220, .goto (-181)), (223, .aload_n 0), (224, .iload 5), (226, .invokevirtual 156), (229, .iconst 0), (230, .istore 6), (232, .iload 6), (234, .aload_n 0), (235, .getfield 16), (238, .if_icmp .ge 23), (241, .aload_n 0), (242, .getfield 23), (245, .iload 6), (247, .aload_n 0), (248, .getfield 26), (251, .iload 6), (253, .iaload), (254, .iastore), (255, .iinc 6 1), (258, .goto (-26)), (261, .lload_n 3), (262, .lreturn)]
def mm_c120 : List (Nat × Instr) := [(0, .aload_n 0), (1, .aload_n 0), (2, .iload_n 1), (3, .invokevirtual 143), (6, .ifCond .ne 16), (9, .iload_n 2), (10, .iconst (-1)), (11, .if_icmp .eq 15), (14, .aload_n 0), (15, .iload_n 2), (16, .invokevirtual 139), (19, .ifCond .eq 7), (22, .iconst 1), (23, .goto 4), (26, .iconst 0), (27, .putfield 7), (30, .aload_n 0), (31, .getfield 7), (34, .ifCond .eq 5), (37, .iconst 0), (38, .ireturn), (39, .aload_n 0), (40, .getfield 23), (43, .iload_n 1), (44, .iaload), (45, .istore_n 3), (46, .aload_n 0), (47, .getfield 23), (50, .iload_n 1), (51, .iload_n 2), (52, .iastore), (53, .iload_n 3), (54, .ireturn)]
def mm_c121 : List (Nat × Instr) := [(0, .aload_n 0), (1, .aload_n 0), (2, .iload_n 1), (3, .invokevirtual 143), (6, .ifCond .eq 7), (9, .iconst 1), (10, .goto 4), (13, .iconst 0), (14, .putfield 7), (17, .aload_n 0), (18, .getfield 7), (21, .ifCond .eq 7), (24, .iconst 0), (25, .goto 9), (28, .aload_n 0), (29, .getfield 23), (32, .iload_n 1), (33, .iaload), (34, .ireturn)]
def mm_c122 : List (Nat × Instr) := [(0, .aload_n 0), (1, .aload_n 0), (2, .iload_n 1), (3, .invokevirtual 139), (6, .ifCond .ne 11), (9, .aload_n 0), (10, .iload_n 2), (11, .invokevirtual 139), (14, .ifCond .eq 7), (17, .iconst 1), (18, .goto 4), (21, .iconst 0), (22, .putfield 7), (25, .aload_n 0), (26, .getfield 7), (29, .ifCond .eq 7), (32, .iconst 0), (33, .goto 9), (36, .aload_n 0), (37, .iload_n 1), (38, .iload_n 2), (39, .invokevirtual 99), (42, .ireturn)]
def mm_c123 : List (Nat × Instr) := [(0, .aload_n 0), (1, .aload_n 0), (2, .iload_n 1), (3, .invokevirtual 139), (6, .ifCond .ne 11), (9, .aload_n 0), (10, .iload_n 2), (11, .invokevirtual 139), (14, .ifCond .eq 7), (17, .iconst 1), (18, .goto 4), (21, .iconst 0), (22, .putfield 7), (25, .aload_n 0), (26, .getfield 7), (29, .ifCond .eq 5), (32, .iconst 0), (33, .ireturn), (34, .iconst 0), (35, .istore 4), (37, .iconst 0), (38, .istore 5), (40, .iload 5), (42, .aload_n 0), (43, .getfield 16), (46, .if_icmp .ge 55), (49, .iload_n 3), (50, .ifCond .eq 51), (53, .aload_n 0), (54, .getfield 23), (57, .iload 5), (59, .iaload), (60, .iload_n 2), (61, .if_icmp .ne 34), (64, .aload_n 0), (65, .getfield 19), (68, .bipush 12), (70, .iload_n 1), (71, .imul), (72, .iload 5), (74, .iadd), (75, .iaload), (76, .iload 4), (78, .if_icmp .le 17), (81, .aload_n 0), (82, .getfield 19), (85, .bipush 12), (87, .iload_n 1), (88, .imul), (89, .iload 5), (91, .iadd), (92, .iaload), (93, .istore 4), (95, .iinc 5 1), (98, .goto (-58)), (101, .aload_n 0), (102, .iload_n 1), (103, .iload_n 2), (104, .invokevirtual 99), (107, .iload 4), (109, .isub), (110, .aload_n 0), (111, .iload_n 1), (112, .iload_n 1), (113, .invokevirtual 99), (116, .isub), (117, .istore 5), (119, .iload 5), (121, .ifCond .lt 8), (124, .iload_n 1), (125, .iload_n 2), (126, .if_icmp .ne 7), (129, .iconst 0), (130, .goto 5), (133, .iload 5), (135, .ireturn)]
def mm_c124 : List (Nat × Instr) := [(0, .aload_n 0), (1, .invokevirtual 153), (4, .istore_n 2), (5, .aload_n 0), (6, .aload_n 0), (7, .iload_n 1), (8, .invokevirtual 139), (11, .ifCond .eq 7), (14, .iconst 1), (15, .goto 14), (18, .iload_n 2), (19, .ldc 107), (21, .if_icmp .le 7), (24, .iconst 2), (25, .goto 4), (28, .iconst 0), (29, .putfield 7), (32, .aload_n 0), (33, .getfield 7), (36, .ifCond .eq 5), (39, .iconst 0), (40, .ireturn), (41, .iconst 0), (42, .istore_n 3), (43, .iconst 0), (44, .istore 4), (46, .iload 4), (48, .iload_n 2), (49, .if_icmp .ge 152), (52, .aload_n 0), (53, .iload 4), (55, .invokevirtual 156), (58, .iconst 0), (59, .istore 5), (61, .iload 5), (63, .aload_n 0), (64, .getfield 13), (67, .if_icmp .ge 17), (70, .aload_n 0), (71, .getfield 29), (74, .iload 5), (76, .iconst 0), (77, .iastore), (78, .iinc 5 1), (81, .goto (-20)), (84, .iconst 0), (85, .istore 5), (87, .iload 5), (89, .aload_n 0), (90, .getfield 16), (93, .if_icmp .ge 46), (96, .aload_n 0), (97, .getfield 29), (100, .aload_n 0), (101, .getfield 26), (104, .iload 5), (106, .iaload), (107, .aload_n 0), (108, .getfield 29), (111, .aload_n 0), (112, .getfield 26), (115, .iload 5), (117, .iaload), (118, .iaload), (119, .aload_n 0), (120, .getfield 19), (123, .bipush 12), (125, .iload_n 1), (126, .imul), (127, .iload 5), (129, .iadd), (130, .iaload), (131, .iadd), (132, .iastore), (133, .iinc 5 1), (136, .goto (-49)), (139, .aload_n 0), (140, .getfield 29), (143, .iconst 0), (144, .iaload), (145, .istore 5), (147, .iconst 1), (148, .istore 6), (150, .iload 6), (152, .aload_n 0), (153, .getfield 13), (156, .if_icmp .ge 30), (159, .aload_n 0), (160, .getfield 29), (163, .iload 6), (165, .iaload), (166, .iload 5), (168, .if_icmp .ge 12), (171, .aload_n 0), (172, .getfield 29), (175, .iload 6), (177, .iaload), (178, .istore 5), (180, .iinc 6 1), (183, .goto (-33)), (186, .iload 5), (188, .iload_n 3), (189, .if_icmp .le 6), (192, .iload 5), (194, .istore_n 3), (195, .iinc 4 1), (198, .goto (-152)), (201, .iload_n 3), (202, .ireturn)]
def mm_c125 : List (Nat × Instr) := [(0, .aload_n 0), (1, .iload_n 3), (2, .ifCond .lt 9), (5, .iload_n 3), (6, .ldc 159), (8, .if_icmp .le 7), (11, .iconst 1), (12, .goto 24), (15, .aload_n 0), (16, .iload_n 1), (17, .invokevirtual 139), (20, .ifCond .ne 11), (23, .aload_n 0), (24, .iload_n 2), (25, .invokevirtual 139), (28, .ifCond .eq 7), (31, .iconst 2), (32, .goto 4), (35, .iconst 0), (36, .putfield 7), (39, .aload_n 0), (40, .getfield 7), (43, .ifCond .eq 5), (46, .iconst 0), (47, .ireturn), (48, .aload_n 0), (49, .getfield 32), (52, .bipush 6), (54, .iload_n 1), (55, .imul), (56, .iload_n 2), (57, .iadd), (58, .iaload), (59, .istore 4), (61, .aload_n 0), (62, .getfield 32), (65, .bipush 6), (67, .iload_n 1), (68, .imul), (69, .iload_n 2), (70, .iadd), (71, .iload_n 3), (72, .iastore), (73, .iload 4), (75, .ireturn)]
def mm_c126 : List (Nat × Instr) := [(0, .aload_n 0), (1, .iload_n 1), (2, .ifCond .lt 9), (5, .iload_n 1), (6, .ldc 160), (8, .if_icmp .le 7), (11, .iconst 1), (12, .goto 4), (15, .iconst 0), (16, .putfield 7), (19, .aload_n 0), (20, .getfield 7), (23, .ifCond .eq 5), (26, .iconst 0), (27, .ireturn), (28, .aload_n 0), (29, .getfield 35), (32, .istore_n 2), (33, .aload_n 0), (34, .iload_n 1), (35, .putfield 35), (38, .iload_n 2), (39, .ireturn)]
def mm_c127_0 : List (Nat × Instr) := [(0, .aload_n 0), (1, .iconst 0), (2, .putfield 7), (5, .iconst 0), (6, .istore_n 1), (7, .iload_n 1), (8, .aload_n 0), (9, .getfield 13), (12, .if_icmp .ge 54), (15, .iconst 0), (16, .istore_n 2), (17, .iconst 0), (18, .istore_n 3), (19, .iload_n 3), (20, .aload_n 0), (21, .getfield 13), (24, .if_icmp .ge 23), (27, .iload_n 2), (28, .aload_n 0), (29, .getfield 32), (32, .bipush 6), (34, .iload_n 1), (35, .imul), (36, .iload_n 3), (37, .iadd), (38, .iaload), (39, .iadd), (40, .istore_n 2), (41, .iinc 3 1), (44, .goto (-25)), (47, .iload_n 2), (48, .aload_n 0), (49, .getfield 35), (52, .if_icmp .eq 8), (55, .aload_n 0), (56, .iconst 1), (57, .putfield 7), (60, .iinc 1 1), (63, .goto (-56)), (66, .aload_n 0), (67, .getfield 7), (70, .ifCond .eq 5), (73, .iconst 0), (74, .ireturn), (75, .iconst 1), (76, .istore_n 1), (77, .iconst 2), (78, .istore_n 2), (79, .iload_n 2), (80, .aload_n 0), (81, .getfield 13), (84, .if_icmp .gt 13), (87, .iload_n 1), (88, .iload_n 2), (89, .imul), (90, .istore_n 1), (91, .iinc 2 1), (94, .goto (-15)), (97, .iconst (-1)), (98, .istore_n 2), (99, .iconst 0), (100, .istore_n 3), (101, .iload_n 3), (102, .iload_n 1), (103, .if_icmp .ge 99), (106, .aload_n 0), (107, .iload_n 3), (108, .invokevirtual 161), (111, .iconst 0), (112, .istore 4), (114, .iconst 0), (115, .istore 5), (117, .iload 5), (119, .aload_n 0), (120, .getfield 13), (123, .if_icmp .ge 32), (126, .iload 4), (128, .aload_n 0), (129, .getfield 32), (132, .bipush 6), (134, .iload 5), (136, .imul), (137, .aload_n 0), (138, .getfield 45), (141, .iload 5), (143, .iaload), (144, .iadd), (145, .iaload), (146, .iadd), (147, .istore 4), (149, .iinc 5 1), (152, .goto (-35)), (155, .iload 4), (157, .iload_n 2), (158, .if_icmp .le 38), (161, .iload 4), (163, .istore_n 2), (164, .iconst 0), (165, .istore 5), (167, .iload 5)]
def mm_c127_1 : List (Nat × Instr) := [(169, .aload_n 0), (170, .getfield 13), (173, .if_icmp .ge 23), (176, .aload_n 0), (177, .getfield 42), (180, .iload 5), (182, .aload_n 0), (183, .getfield 45), (186, .iload 5), (188, .iaload), (189, .iastore), (190, .iinc 5 1), (193, .goto (-26)), (196, .iinc 3 1), (199, .goto (-98)), (202, .aload_n 0), (203, .invokevirtual 164), (206, .iload_n 2), (207, .aload_n 0), (208, .getfield 35), (211, .isub), (212, .istore_n 3), (213, .iconst 0), (214, .istore 4), (216, .iload 4), (218, .aload_n 0), (219, .getfield 13), (222, .if_icmp .ge 19), (225, .iload_n 3), (226, .aload_n 0), (227, .getfield 48), (230, .iload 4), (232, .iaload), (233, .isub), (234, .istore_n 3), (235, .iinc 4 1), (238, .goto (-22)), (241, .iconst 0), (242, .istore 4), (244, .iload 4), (246, .aload_n 0), (247, .getfield 13), (250, .if_icmp .ge 76), (253, .aload_n 0), (254, .aload_n 0), (255, .getfield 32), (258, .bipush 6), (260, .iload 4), (262, .imul), (263, .aload_n 0), (264, .getfield 42), (267, .iload 4), (269, .iaload), (270, .iadd), (271, .iaload), (272, .aload_n 0), (273, .getfield 48), (276, .iload 4), (278, .iaload), (279, .isub), (280, .i2l), (281, .aload_n 0), (282, .getfield 13), (285, .i2l), (286, .lmul), (287, .iload_n 3), (288, .i2l), (289, .lsub), (290, .aload_n 0), (291, .getfield 13), (294, .i2l), (295, .invokevirtual 112), (298, .aload_n 0), (299, .getfield 51), (302, .iload 4), (304, .aload_n 0), (305, .getfield 85), (308, .lastore), (309, .aload_n 0), (310, .getfield 55), (313, .iload 4), (315, .aload_n 0), (316, .getfield 89), (319, .lastore), (320, .iinc 4 1), (323, .goto (-79)), (326, .aload_n 0), (327, .iconst 1), (328, .putfield 38), (331, .iload_n 2), (332, .ireturn)]
def mm_c127 : List (Nat × Instr) := mm_c127_0 ++ (mm_c127_1)
def mm_c128 : List (Nat × Instr) := [(0, .aload_n 0), (1, .aload_n 0), (2, .iload_n 1), (3, .invokevirtual 139), (6, .ifCond .ne 12), (9, .iload_n 2), (10, .ifCond .lt 8), (13, .iload_n 2), (14, .iconst 2), (15, .if_icmp .le 7), (18, .iconst 1), (19, .goto 15), (22, .aload_n 0), (23, .getfield 38), (26, .ifCond .ne 7), (29, .iconst 2), (30, .goto 4), (33, .iconst 0), (34, .putfield 7), (37, .aload_n 0), (38, .getfield 7), (41, .ifCond .eq 5), (44, .lconst 0), (45, .lreturn), (46, .iload_n 2), (47, .ifCond .ne 13), (50, .aload_n 0), (51, .getfield 42), (54, .iload_n 1), (55, .iaload), (56, .i2l), (57, .goto 23), (60, .iload_n 2), (61, .iconst 1), (62, .if_icmp .ne 12), (65, .aload_n 0), (66, .getfield 51), (69, .iload_n 1), (70, .laload), (71, .goto 9), (74, .aload_n 0), (75, .getfield 55), (78, .iload_n 1), (79, .laload), (80, .lreturn)]
def mm_c129 : List (Nat × Instr) := [(0, .aload_n 0), (1, .iload_n 1), (2, .iconst 1), (3, .if_icmp .lt 9), (6, .iload_n 1), (7, .bipush 16), (9, .if_icmp .le 7), (12, .iconst 1), (13, .goto 4), (16, .iconst 0), (17, .putfield 7), (20, .aload_n 0), (21, .getfield 7), (24, .ifCond .eq 4), (27, .return_), (28, .aload_n 0), (29, .iload_n 1), (30, .putfield 58), (33, .aload_n 0), (34, .iconst 0), (35, .putfield 64), (38, .return_)]
def mm_c130 : List (Nat × Instr) := [(0, .aload_n 0), (1, .iload_n 3), (2, .ifCond .lt 9), (5, .iload_n 3), (6, .bipush 12), (8, .if_icmp .le 7), (11, .iconst 1), (12, .goto 26), (15, .aload_n 0), (16, .iload_n 1), (17, .invokevirtual 139), (20, .ifCond .ne 13), (23, .iload_n 2), (24, .ifCond .lt 9), (27, .iload_n 2), (28, .bipush 15), (30, .if_icmp .le 7), (33, .iconst 2), (34, .goto 4), (37, .iconst 0), (38, .putfield 7), (41, .aload_n 0), (42, .getfield 7), (45, .ifCond .eq 5), (48, .iconst 0), (49, .ireturn), (50, .aload_n 0), (51, .getfield 61), (54, .bipush 16), (56, .iload_n 1), (57, .imul), (58, .iload_n 2), (59, .iadd), (60, .iaload), (61, .istore 4), (63, .aload_n 0), (64, .getfield 61), (67, .bipush 16), (69, .iload_n 1), (70, .imul), (71, .iload_n 2), (72, .iadd), (73, .iload_n 3), (74, .iastore), (75, .iload 4), (77, .ireturn)]
def mm_c131 : List (Nat × Instr) := [(0, .aload_n 0), (1, .iconst 0), (2, .putfield 7), (5, .iload_n 1), (6, .ifCond .eq 10), (9, .aload_n 0), (10, .invokevirtual 167), (13, .goto 7), (16, .aload_n 0), (17, .invokevirtual 170), (20, .aload_n 0), (21, .iconst 1), (22, .putfield 64), (25, .return_)]
def mm_c132 : List (Nat × Instr) := [(0, .aload_n 0), (1, .aload_n 0), (2, .iload_n 1), (3, .invokevirtual 139), (6, .ifCond .ne 12), (9, .iload_n 2), (10, .ifCond .lt 8), (13, .iload_n 2), (14, .iconst 3), (15, .if_icmp .le 7), (18, .iconst 1), (19, .goto 15), (22, .aload_n 0), (23, .getfield 64), (26, .ifCond .ne 7), (29, .iconst 2), (30, .goto 4), (33, .iconst 0), (34, .putfield 7), (37, .aload_n 0), (38, .getfield 7), (41, .ifCond .eq 5), (44, .lconst 0), (45, .lreturn), (46, .iload_n 2), (47, .ifCond .ne 12), (50, .aload_n 0), (51, .getfield 67), (54, .iload_n 1), (55, .laload), (56, .goto 37), (59, .iload_n 2), (60, .iconst 1), (61, .if_icmp .ne 12), (64, .aload_n 0), (65, .getfield 70), (68, .iload_n 1), (69, .laload), (70, .goto 23), (73, .iload_n 2), (74, .iconst 2), (75, .if_icmp .ne 12), (78, .aload_n 0), (79, .getfield 73), (82, .iload_n 1), (83, .laload), (84, .goto 9), (87, .aload_n 0), (88, .getfield 76), (91, .iload_n 1), (92, .laload), (93, .lreturn)]
def mm_c133 : List (Nat × Instr) := [(0, .aload_n 0), (1, .aload_n 0), (2, .iload_n 1), (3, .invokevirtual 139), (6, .ifCond .ne 20), (9, .aload_n 0), (10, .iload_n 2), (11, .invokevirtual 139), (14, .ifCond .ne 12), (17, .iload_n 3), (18, .ifCond .lt 8), (21, .iload_n 3), (22, .iconst 1), (23, .if_icmp .le 7), (26, .iconst 1), (27, .goto 15), (30, .aload_n 0), (31, .getfield 64), (34, .ifCond .ne 7), (37, .iconst 2), (38, .goto 4), (41, .iconst 0), (42, .putfield 7), (45, .aload_n 0), (46, .getfield 7), (49, .ifCond .eq 5), (52, .lconst 0), (53, .lreturn), (54, .aload_n 0), (55, .iload_n 1), (56, .aload_n 0), (57, .getfield 67), (60, .iload_n 2), (61, .laload), (62, .aload_n 0), (63, .getfield 70), (66, .iload_n 2), (67, .laload), (68, .aload_n 0), (69, .getfield 73), (72, .iload_n 2), (73, .laload), (74, .aload_n 0), (75, .getfield 76), (78, .iload_n 2), (79, .laload), (80, .invokevirtual 119), (83, .iload_n 3), (84, .ifCond .ne 10), (87, .aload_n 0), (88, .getfield 85), (91, .goto 7), (94, .aload_n 0), (95, .getfield 89), (98, .lreturn)]
def mm_c134 : List (Nat × Instr) := [(0, .aload_n 0), (1, .iload_n 1), (2, .invokevirtual 7), (5, .goto 6), (8, .astore_n 2), (9, .iconst 1), (10, .ireturn), (11, .iconst 0), (12, .ireturn)]
def mm_c135 : List (Nat × Instr) := [(0, .aload_n 0), (1, .iload_n 1), (2, .invokevirtual 15), (5, .goto 6), (8, .astore_n 2), (9, .iconst 1), (10, .ireturn), (11, .iconst 0), (12, .ireturn)]
def mm_c136 : List (Nat × Instr) := [(0, .aload 4), (2, .iconst 0), (3, .aload_n 0), (4, .iload_n 1), (5, .iload_n 2), (6, .iload_n 3), (7, .invokevirtual 18), (10, .i2l), (11, .lastore), (12, .goto 11), (15, .astore 5), (17, .iconst 1), (18, .ireturn), (19, .astore 5), (21, .iconst 2), (22, .ireturn), (23, .iconst 0), (24, .ireturn)]
def mm_c137 : List (Nat × Instr) := [(0, .aload_n 0), (1, .iload_n 1), (2, .invokevirtual 24), (5, .goto 6), (8, .astore_n 2), (9, .iconst 1), (10, .ireturn), (11, .iconst 0), (12, .ireturn)]
def mm_c138 : List (Nat × Instr) := [(0, .aload_n 1), (1, .iconst 0), (2, .aload_n 0), (3, .invokevirtual 27), (6, .lastore), (7, .goto 6), (10, .astore_n 2), (11, .iconst 1), (12, .ireturn), (13, .iconst 0), (14, .ireturn)]
def mm_c139 : List (Nat × Instr) := [(0, .aload_n 3), (1, .iconst 0), (2, .aload_n 0), (3, .iload_n 1), (4, .iload_n 2), (5, .invokevirtual 33), (8, .i2l), (9, .lastore), (10, .goto 7), (13, .astore 4), (15, .iconst 1), (16, .ireturn), (17, .iconst 0), (18, .ireturn)]
def mm_c140 : List (Nat × Instr) := [(0, .aload_n 2), (1, .iconst 0), (2, .aload_n 0), (3, .iload_n 1), (4, .invokevirtual 37), (7, .i2l), (8, .lastore), (9, .goto 6), (12, .astore_n 3), (13, .iconst 1), (14, .ireturn), (15, .iconst 0), (16, .ireturn)]
def mm_c141 : List (Nat × Instr) := [(0, .aload_n 3), (1, .iconst 0), (2, .aload_n 0), (3, .iload_n 1), (4, .iload_n 2), (5, .invokevirtual 41), (8, .i2l), (9, .lastore), (10, .goto 7), (13, .astore 4), (15, .iconst 1), (16, .ireturn), (17, .iconst 0), (18, .ireturn)]
def mm_c142 : List (Nat × Instr) := [(0, .aload 4), (2, .iconst 0), (3, .aload_n 0), (4, .iload_n 1), (5, .iload_n 2), (6, .iload_n 3), (7, .invokevirtual 44), (10, .i2l), (11, .lastore), (12, .goto 7), (15, .astore 5), (17, .iconst 1), (18, .ireturn), (19, .iconst 0), (20, .ireturn)]
def mm_c143 : List (Nat × Instr) := [(0, .aload_n 2), (1, .iconst 0), (2, .aload_n 0), (3, .iload_n 1), (4, .invokevirtual 48), (7, .i2l), (8, .lastore), (9, .goto 9), (12, .astore_n 3), (13, .iconst 1), (14, .ireturn), (15, .astore_n 3), (16, .iconst 2), (17, .ireturn), (18, .iconst 0), (19, .ireturn)]
def mm_c144 : List (Nat × Instr) := [(0, .aload 4), (2, .iconst 0), (3, .aload_n 0), (4, .iload_n 1), (5, .iload_n 2), (6, .iload_n 3), (7, .invokevirtual 51), (10, .i2l), (11, .lastore), (12, .goto 11), (15, .astore 5), (17, .iconst 1), (18, .ireturn), (19, .astore 5), (21, .iconst 2), (22, .ireturn), (23, .iconst 0), (24, .ireturn)]
def mm_c145 : List (Nat × Instr) := [(0, .aload_n 2), (1, .iconst 0), (2, .aload_n 0), (3, .iload_n 1), (4, .invokevirtual 54), (7, .i2l), (8, .lastore), (9, .goto 6), (12, .astore_n 3), (13, .iconst 1), (14, .ireturn), (15, .iconst 0), (16, .ireturn)]
def mm_c146 : List (Nat × Instr) := [(0, .aload_n 1), (1, .iconst 0), (2, .aload_n 0), (3, .invokevirtual 57), (6, .i2l), (7, .lastore), (8, .goto 6), (11, .astore_n 2), (12, .iconst 1), (13, .ireturn), (14, .iconst 0), (15, .ireturn)]
def mm_c147 : List (Nat × Instr) := [(0, .aload_n 3), (1, .iconst 0), (2, .aload_n 0), (3, .iload_n 1), (4, .iload_n 2), (5, .invokevirtual 61), (8, .lastore), (9, .goto 11), (12, .astore 4), (14, .iconst 1), (15, .ireturn), (16, .astore 4), (18, .iconst 2), (19, .ireturn), (20, .iconst 0), (21, .ireturn)]
def mm_c148 : List (Nat × Instr) := [(0, .aload_n 0), (1, .iload_n 1), (2, .invokevirtual 65), (5, .goto 6), (8, .astore_n 2), (9, .iconst 1), (10, .ireturn), (11, .iconst 0), (12, .ireturn)]
def mm_c149 : List (Nat × Instr) := [(0, .aload 4), (2, .iconst 0), (3, .aload_n 0), (4, .iload_n 1), (5, .iload_n 2), (6, .iload_n 3), (7, .invokevirtual 68), (10, .i2l), (11, .lastore), (12, .goto 11), (15, .astore 5), (17, .iconst 1), (18, .ireturn), (19, .astore 5), (21, .iconst 2), (22, .ireturn), (23, .iconst 0), (24, .ireturn)]
def mm_c150 : List (Nat × Instr) := [(0, .aload_n 3), (1, .iconst 0), (2, .aload_n 0), (3, .iload_n 1), (4, .iload_n 2), (5, .invokevirtual 71), (8, .lastore), (9, .goto 11), (12, .astore 4), (14, .iconst 1), (15, .ireturn), (16, .astore 4), (18, .iconst 2), (19, .ireturn), (20, .iconst 0), (21, .ireturn)]
def mm_c151 : List (Nat × Instr) := [(0, .aload 4), (2, .iconst 0), (3, .aload_n 0), (4, .iload_n 1), (5, .iload_n 2), (6, .iload_n 3), (7, .invokevirtual 74), (10, .lastore), (11, .goto 11), (14, .astore 5), (16, .iconst 1), (17, .ireturn), (18, .astore 5), (20, .iconst 2), (21, .ireturn), (22, .iconst 0), (23, .ireturn)]
def mm_c152_0 : List (Nat × Instr) := [(0, .new 8), (3, .dup), (4, .invokespecial 78), (7, .astore_n 1), (8, .new 79), (11, .dup), (12, .invokespecial 81), (15, .astore_n 2), (16, .iconst 1), (17, .newarray .long), (19, .astore_n 3), (20, .iconst 0), (21, .istore 4), (23, .iload 4), (25, .aload_n 0), (26, .arraylength), (27, .iconst 4), (28, .isub), (29, .if_icmp .gt 1245), (32, .aload_n 0), (33, .iload 4), (35, .iaload), (36, .bipush 31), (38, .iand), (39, .tableswitch 1229 0 19 #[93, 129, 165, 245, 281, 294, 337, 405, 461, 529, 625, 681, 761, 817, 861, 928, 964, 1044, 1083, 1150]), (132, .aload_n 1), (133, .aload_n 0), (134, .iload 4), (136, .iconst 1), (137, .iadd), (138, .iaload), (139, .invokestatic 82), (142, .istore 5), (144, .aload_n 2), (145, .aload_n 0), (146, .iload 4), (148, .iconst 1), (149, .iadd), (150, .iaload), (151, .invokevirtual 87), (154, .aload_n 2), (155, .invokevirtual 88), (158, .iload 5), (160, .if_icmp .eq 5), (163, .iconst 0), (164, .ireturn), (165, .goto 1103), (168, .aload_n 1), (169, .aload_n 0), (170, .iload 4), (172, .iconst 1), (173, .iadd), (174, .iaload), (175, .invokestatic 91), (178, .istore 5), (180, .aload_n 2), (181, .aload_n 0), (182, .iload 4), (184, .iconst 1), (185, .iadd), (186, .iaload), (187, .invokevirtual 93), (190, .aload_n 2), (191, .invokevirtual 88), (194, .iload 5), (196, .if_icmp .eq 5), (199, .iconst 0), (200, .ireturn), (201, .goto 1067), (204, .aload_n 1), (205, .aload_n 0), (206, .iload 4), (208, .iconst 1), (209, .iadd), (210, .iaload), (211, .aload_n 0), (212, .iload 4), (214, .iconst 2), (215, .iadd), (216, .iaload), (217, .aload_n 0), (218, .iload 4), (220, .iconst 3), (221, .iadd), (222, .iaload), (223, .aload_n 3), (224, .invokestatic 94), (227, .istore 5), (229, .aload_n 2), (230, .aload_n 0), (231, .iload 4), (233, .iconst 1), (234, .iadd), (235, .iaload), (236, .aload_n 0), (237, .iload 4), (239, .iconst 2), (240, .iadd), (241, .iaload), (242, .aload_n 0)]
def mm_c152_1 : List (Nat × Instr) := [(243, .iload 4), (245, .iconst 3), (246, .iadd), (247, .iaload), (248, .invokevirtual 97), (251, .istore 6), (253, .aload_n 2), (254, .invokevirtual 88), (257, .iload 5), (259, .if_icmp .eq 5), (262, .iconst 0), (263, .ireturn), (264, .iload 5), (266, .ifCond .ne 15), (269, .aload_n 3), (270, .iconst 0), (271, .laload), (272, .iload 6), (274, .i2l), (275, .lcmp), (276, .ifCond .eq 5), (279, .iconst 0), (280, .ireturn), (281, .goto 987), (284, .aload_n 1), (285, .aload_n 0), (286, .iload 4), (288, .iconst 1), (289, .iadd), (290, .iaload), (291, .invokestatic 98), (294, .istore 5), (296, .aload_n 2), (297, .aload_n 0), (298, .iload 4), (300, .iconst 1), (301, .iadd), (302, .iaload), (303, .invokevirtual 100), (306, .aload_n 2), (307, .invokevirtual 88), (310, .iload 5), (312, .if_icmp .eq 5), (315, .iconst 0), (316, .ireturn), (317, .goto 951), (320, .aload_n 1), (321, .invokevirtual 101), (324, .aload_n 2), (325, .invokevirtual 104), (328, .if_icmp .eq 940), (331, .iconst 0), (332, .ireturn), (333, .aload_n 1), (334, .aload_n 3), (335, .invokestatic 105), (338, .istore 5), (340, .aload_n 2), (341, .invokevirtual 108), (344, .lstore 6), (346, .aload_n 2), (347, .invokevirtual 88), (350, .iload 5), (352, .if_icmp .eq 5), (355, .iconst 0), (356, .ireturn), (357, .iload 5), (359, .ifCond .ne 14), (362, .aload_n 3), (363, .iconst 0), (364, .laload), (365, .lload 6), (367, .lcmp), (368, .ifCond .eq 5), (371, .iconst 0), (372, .ireturn), (373, .goto 895), (376, .aload_n 1), (377, .aload_n 0), (378, .iload 4), (380, .iconst 1), (381, .iadd), (382, .iaload), (383, .aload_n 0), (384, .iload 4), (386, .iconst 2), (387, .iadd), (388, .iaload), (389, .aload_n 3), (390, .invokestatic 109), (393, .istore 5), (395, .aload_n 2), (396, .aload_n 0), (397, .iload 4), (399, .iconst 1), (400, .iadd), (401, .iaload), (402, .aload_n 0), (403, .iload 4), (405, .iconst 2)]
def mm_c152_2 : List (Nat × Instr) := [(406, .iadd), (407, .iaload), (408, .invokevirtual 112), (411, .istore 6), (413, .aload_n 2), (414, .invokevirtual 88), (417, .iload 5), (419, .if_icmp .eq 5), (422, .iconst 0), (423, .ireturn), (424, .iload 5), (426, .ifCond .ne 15), (429, .aload_n 3), (430, .iconst 0), (431, .laload), (432, .iload 6), (434, .i2l), (435, .lcmp), (436, .ifCond .eq 5), (439, .iconst 0), (440, .ireturn), (441, .goto 827), (444, .aload_n 1), (445, .aload_n 0), (446, .iload 4), (448, .iconst 1), (449, .iadd), (450, .iaload), (451, .aload_n 3), (452, .invokestatic 113), (455, .istore 5), (457, .aload_n 2), (458, .aload_n 0), (459, .iload 4), (461, .iconst 1), (462, .iadd), (463, .iaload), (464, .invokevirtual 116), (467, .istore 6), (469, .aload_n 2), (470, .invokevirtual 88), (473, .iload 5), (475, .if_icmp .eq 5), (478, .iconst 0), (479, .ireturn), (480, .iload 5), (482, .ifCond .ne 15), (485, .aload_n 3), (486, .iconst 0), (487, .laload), (488, .iload 6), (490, .i2l), (491, .lcmp), (492, .ifCond .eq 5), (495, .iconst 0), (496, .ireturn), (497, .goto 771), (500, .aload_n 1), (501, .aload_n 0), (502, .iload 4), (504, .iconst 1), (505, .iadd), (506, .iaload), (507, .aload_n 0), (508, .iload 4), (510, .iconst 2), (511, .iadd), (512, .iaload), (513, .aload_n 3), (514, .invokestatic 117), (517, .istore 5), (519, .aload_n 2), (520, .aload_n 0), (521, .iload 4), (523, .iconst 1), (524, .iadd), (525, .iaload), (526, .aload_n 0), (527, .iload 4), (529, .iconst 2), (530, .iadd), (531, .iaload), (532, .invokevirtual 119), (535, .istore 6), (537, .aload_n 2), (538, .invokevirtual 88), (541, .iload 5), (543, .if_icmp .eq 5), (546, .iconst 0), (547, .ireturn), (548, .iload 5), (550, .ifCond .ne 15), (553, .aload_n 3), (554, .iconst 0), (555, .laload), (556, .iload 6), (558, .i2l), (559, .lcmp), (560, .ifCond .eq 5), (563, .iconst 0)]
def mm_c152_3 : List (Nat × Instr) := [(564, .ireturn), (565, .goto 703), (568, .aload_n 1), (569, .aload_n 0), (570, .iload 4), (572, .iconst 1), (573, .iadd), (574, .iaload), (575, .aload_n 0), (576, .iload 4), (578, .iconst 2), (579, .iadd), (580, .iaload), (581, .aload_n 0), (582, .iload 4), (584, .iconst 3), (585, .iadd), (586, .iaload), (587, .ifCond .eq 7), (590, .iconst 1), (591, .goto 4), (594, .iconst 0), (595, .aload_n 3), (596, .invokestatic 120), (599, .istore 5), (601, .aload_n 2), (602, .aload_n 0), (603, .iload 4), (605, .iconst 1), (606, .iadd), (607, .iaload), (608, .aload_n 0), (609, .iload 4), (611, .iconst 2), (612, .iadd), (613, .iaload), (614, .aload_n 0), (615, .iload 4), (617, .iconst 3), (618, .iadd), (619, .iaload), (620, .ifCond .eq 7), (623, .iconst 1), (624, .goto 4), (627, .iconst 0), (628, .invokevirtual 123), (631, .istore 6), (633, .aload_n 2), (634, .invokevirtual 88), (637, .iload 5), (639, .if_icmp .eq 5), (642, .iconst 0), (643, .ireturn), (644, .iload 5), (646, .ifCond .ne 15), (649, .aload_n 3), (650, .iconst 0), (651, .laload), (652, .iload 6), (654, .i2l), (655, .lcmp), (656, .ifCond .eq 5), (659, .iconst 0), (660, .ireturn), (661, .goto 607), (664, .aload_n 1), (665, .aload_n 0), (666, .iload 4), (668, .iconst 1), (669, .iadd), (670, .iaload), (671, .aload_n 3), (672, .invokestatic 124), (675, .istore 5), (677, .aload_n 2), (678, .aload_n 0), (679, .iload 4), (681, .iconst 1), (682, .iadd), (683, .iaload), (684, .invokevirtual 126), (687, .istore 6), (689, .aload_n 2), (690, .invokevirtual 88), (693, .iload 5), (695, .if_icmp .eq 5), (698, .iconst 0), (699, .ireturn), (700, .iload 5), (702, .ifCond .ne 15), (705, .aload_n 3), (706, .iconst 0), (707, .laload), (708, .iload 6), (710, .i2l), (711, .lcmp), (712, .ifCond .eq 5), (715, .iconst 0), (716, .ireturn), (717, .goto 551)]
def mm_c152_4 : List (Nat × Instr) := [(720, .aload_n 1), (721, .aload_n 0), (722, .iload 4), (724, .iconst 1), (725, .iadd), (726, .iaload), (727, .aload_n 0), (728, .iload 4), (730, .iconst 2), (731, .iadd), (732, .iaload), (733, .aload_n 0), (734, .iload 4), (736, .iconst 3), (737, .iadd), (738, .iaload), (739, .aload_n 3), (740, .invokestatic 127), (743, .istore 5), (745, .aload_n 2), (746, .aload_n 0), (747, .iload 4), (749, .iconst 1), (750, .iadd), (751, .iaload), (752, .aload_n 0), (753, .iload 4), (755, .iconst 2), (756, .iadd), (757, .iaload), (758, .aload_n 0), (759, .iload 4), (761, .iconst 3), (762, .iadd), (763, .iaload), (764, .invokevirtual 129), (767, .istore 6), (769, .aload_n 2), (770, .invokevirtual 88), (773, .iload 5), (775, .if_icmp .eq 5), (778, .iconst 0), (779, .ireturn), (780, .iload 5), (782, .ifCond .ne 15), (785, .aload_n 3), (786, .iconst 0), (787, .laload), (788, .iload 6), (790, .i2l), (791, .lcmp), (792, .ifCond .eq 5), (795, .iconst 0), (796, .ireturn), (797, .goto 471), (800, .aload_n 1), (801, .aload_n 0), (802, .iload 4), (804, .iconst 1), (805, .iadd), (806, .iaload), (807, .aload_n 3), (808, .invokestatic 130), (811, .istore 5), (813, .aload_n 2), (814, .aload_n 0), (815, .iload 4), (817, .iconst 1), (818, .iadd), (819, .iaload), (820, .invokevirtual 132), (823, .istore 6), (825, .aload_n 2), (826, .invokevirtual 88), (829, .iload 5), (831, .if_icmp .eq 5), (834, .iconst 0), (835, .ireturn), (836, .iload 5), (838, .ifCond .ne 15), (841, .aload_n 3), (842, .iconst 0), (843, .laload), (844, .iload 6), (846, .i2l), (847, .lcmp), (848, .ifCond .eq 5), (851, .iconst 0), (852, .ireturn), (853, .goto 415), (856, .aload_n 1), (857, .aload_n 3), (858, .invokestatic 133), (861, .istore 5), (863, .aload_n 2), (864, .invokevirtual 135), (867, .istore 6), (869, .aload_n 2), (870, .invokevirtual 88), (873, .iload 5)]
def mm_c152_5 : List (Nat × Instr) := [(875, .if_icmp .eq 5), (878, .iconst 0), (879, .ireturn), (880, .iload 5), (882, .ifCond .ne 15), (885, .aload_n 3), (886, .iconst 0), (887, .laload), (888, .iload 6), (890, .i2l), (891, .lcmp), (892, .ifCond .eq 5), (895, .iconst 0), (896, .ireturn), (897, .goto 371), (900, .aload_n 1), (901, .aload_n 0), (902, .iload 4), (904, .iconst 1), (905, .iadd), (906, .iaload), (907, .aload_n 0), (908, .iload 4), (910, .iconst 2), (911, .iadd), (912, .iaload), (913, .aload_n 3), (914, .invokestatic 136), (917, .istore 5), (919, .aload_n 2), (920, .aload_n 0), (921, .iload 4), (923, .iconst 1), (924, .iadd), (925, .iaload), (926, .aload_n 0), (927, .iload 4), (929, .iconst 2), (930, .iadd), (931, .iaload), (932, .invokevirtual 138), (935, .lstore 6), (937, .aload_n 2), (938, .invokevirtual 88), (941, .iload 5), (943, .if_icmp .eq 5), (946, .iconst 0), (947, .ireturn), (948, .iload 5), (950, .ifCond .ne 14), (953, .aload_n 3), (954, .iconst 0), (955, .laload), (956, .lload 6), (958, .lcmp), (959, .ifCond .eq 5), (962, .iconst 0), (963, .ireturn), (964, .goto 304), (967, .aload_n 1), (968, .aload_n 0), (969, .iload 4), (971, .iconst 1), (972, .iadd), (973, .iaload), (974, .invokestatic 139), (977, .istore 5), (979, .aload_n 2), (980, .aload_n 0), (981, .iload 4), (983, .iconst 1), (984, .iadd), (985, .iaload), (986, .invokevirtual 141), (989, .aload_n 2), (990, .invokevirtual 88), (993, .iload 5), (995, .if_icmp .eq 5), (998, .iconst 0), (999, .ireturn), (1000, .goto 268), (1003, .aload_n 1), (1004, .aload_n 0), (1005, .iload 4), (1007, .iconst 1), (1008, .iadd), (1009, .iaload), (1010, .aload_n 0), (1011, .iload 4), (1013, .iconst 2), (1014, .iadd), (1015, .iaload), (1016, .aload_n 0), (1017, .iload 4), (1019, .iconst 3), (1020, .iadd), (1021, .iaload), (1022, .aload_n 3), (1023, .invokestatic 142), (1026, .istore 5)]
def mm_c152_6 : List (Nat × Instr) := [(1028, .aload_n 2), (1029, .aload_n 0), (1030, .iload 4), (1032, .iconst 1), (1033, .iadd), (1034, .iaload), (1035, .aload_n 0), (1036, .iload 4), (1038, .iconst 2), (1039, .iadd), (1040, .iaload), (1041, .aload_n 0), (1042, .iload 4), (1044, .iconst 3), (1045, .iadd), (1046, .iaload), (1047, .invokevirtual 144), (1050, .istore 6), (1052, .aload_n 2), (1053, .invokevirtual 88), (1056, .iload 5), (1058, .if_icmp .eq 5), (1061, .iconst 0), (1062, .ireturn), (1063, .iload 5), (1065, .ifCond .ne 15), (1068, .aload_n 3), (1069, .iconst 0), (1070, .laload), (1071, .iload 6), (1073, .i2l), (1074, .lcmp), (1075, .ifCond .eq 5), (1078, .iconst 0), (1079, .ireturn), (1080, .goto 188), (1083, .aload_n 1), (1084, .aload_n 0), (1085, .iload 4), (1087, .iconst 1), (1088, .iadd), (1089, .iaload), (1090, .ifCond .eq 7), (1093, .iconst 1), (1094, .goto 4), (1097, .iconst 0), (1098, .invokevirtual 145), (1101, .aload_n 2), (1102, .aload_n 0), (1103, .iload 4), (1105, .iconst 1), (1106, .iadd), (1107, .iaload), (1108, .ifCond .eq 7), (1111, .iconst 1), (1112, .goto 4), (1115, .iconst 0), (1116, .invokevirtual 149), (1119, .goto 149), (1122, .aload_n 1), (1123, .aload_n 0), (1124, .iload 4), (1126, .iconst 1), (1127, .iadd), (1128, .iaload), (1129, .aload_n 0), (1130, .iload 4), (1132, .iconst 2), (1133, .iadd), (1134, .iaload), (1135, .aload_n 3), (1136, .invokestatic 150), (1139, .istore 5), (1141, .aload_n 2), (1142, .aload_n 0), (1143, .iload 4), (1145, .iconst 1), (1146, .iadd), (1147, .iaload), (1148, .aload_n 0), (1149, .iload 4), (1151, .iconst 2), (1152, .iadd), (1153, .iaload), (1154, .invokevirtual 152), (1157, .lstore 6), (1159, .aload_n 2), (1160, .invokevirtual 88), (1163, .iload 5), (1165, .if_icmp .eq 5), (1168, .iconst 0), (1169, .ireturn), (1170, .iload 5), (1172, .ifCond .ne 14), (1175, .aload_n 3), (1176, .iconst 0), (1177, .laload), (1178, .lload 6), (1180, .lcmp), (1181, .ifCond .eq 5)]
def mm_c152_7 : List (Nat × Instr) := [(1184, .iconst 0), (1185, .ireturn), (1186, .goto 82), (1189, .aload_n 1), (1190, .aload_n 0), (1191, .iload 4), (1193, .iconst 1), (1194, .iadd), (1195, .iaload), (1196, .aload_n 0), (1197, .iload 4), (1199, .iconst 2), (1200, .iadd), (1201, .iaload), (1202, .aload_n 0), (1203, .iload 4), (1205, .iconst 3), (1206, .iadd), (1207, .iaload), (1208, .aload_n 3), (1209, .invokestatic 153), (1212, .istore 5), (1214, .aload_n 2), (1215, .aload_n 0), (1216, .iload 4), (1218, .iconst 1), (1219, .iadd), (1220, .iaload), (1221, .aload_n 0), (1222, .iload 4), (1224, .iconst 2), (1225, .iadd), (1226, .iaload), (1227, .aload_n 0), (1228, .iload 4), (1230, .iconst 3), (1231, .iadd), (1232, .iaload), (1233, .invokevirtual 155), (1236, .lstore 6), (1238, .aload_n 2), (1239, .invokevirtual 88), (1242, .iload 5), (1244, .if_icmp .eq 5), (1247, .iconst 0), (1248, .ireturn), (1249, .iload 5), (1251, .ifCond .ne 14), (1254, .aload_n 3), (1255, .iconst 0), (1256, .laload), (1257, .lload 6), (1259, .lcmp), (1260, .ifCond .eq 5), (1263, .iconst 0), (1264, .ireturn), (1265, .goto 3), (1268, .iinc 4 4), (1271, .goto (-1248)), (1274, .iconst 1), (1275, .ireturn)]
def mm_c152 : List (Nat × Instr) := mm_c152_0 ++ (mm_c152_1 ++ (mm_c152_2 ++ (mm_c152_3 ++ (mm_c152_4 ++ (mm_c152_5 ++ (mm_c152_6 ++ (mm_c152_7)))))))
def mm_code (j : Nat) : List (Nat × Instr) := match j with
  | 0 => mm_c0
  | 1 => mm_c1
  | 2 => mm_c2
  | 3 => mm_c3
  | 4 => mm_c4
  | 5 => mm_c5
  | 6 => mm_c6
  | 7 => mm_c7
  | 8 => mm_c8
  | 9 => mm_c9
  | 10 => mm_c10
  | 11 => mm_c11
  | 12 => mm_c12
  | 13 => mm_c13
  | 14 => mm_c14
  | 15 => mm_c15
  | 16 => mm_c16
  | 17 => mm_c17
  | 18 => mm_c18
  | 19 => mm_c19
  | 20 => mm_c20
  | 21 => mm_c21
  | 22 => mm_c22
  | 23 => mm_c23
  | 24 => mm_c24
  | 25 => mm_c25
  | 26 => mm_c26
  | 27 => mm_c27
  | 28 => mm_c28
  | 29 => mm_c29
  | 30 => mm_c30
  | 31 => mm_c31
  | 32 => mm_c32
  | 33 => mm_c33
  | 34 => mm_c34
  | 35 => mm_c35
  | 36 => mm_c36
  | 37 => mm_c37
  | 38 => mm_c38
  | 39 => mm_c39
  | 40 => mm_c40
  | 41 => mm_c41
  | 42 => mm_c42
  | 43 => mm_c43
  | 44 => mm_c44
  | 45 => mm_c45
  | 46 => mm_c46
  | 47 => mm_c47
  | 48 => mm_c48
  | 49 => mm_c49
  | 50 => mm_c50
  | 51 => mm_c51
  | 52 => mm_c52
  | 53 => mm_c53
  | 54 => mm_c54
  | 55 => mm_c55
  | 56 => mm_c56
  | 57 => mm_c57
  | 58 => mm_c58
  | 59 => mm_c59
  | 60 => mm_c60
  | 61 => mm_c61
  | 62 => mm_c62
  | 63 => mm_c63
  | 64 => mm_c64
  | 65 => mm_c65
  | 66 => mm_c66
  | 67 => mm_c67
  | 68 => mm_c68
  | 69 => mm_c69
  | 70 => mm_c70
  | 71 => mm_c71
  | 72 => mm_c72
  | 73 => mm_c73
  | 74 => mm_c74
  | 75 => mm_c75
  | 76 => mm_c76
  | 77 => mm_c77
  | 78 => mm_c78
  | 79 => mm_c79
  | 80 => mm_c80
  | 81 => mm_c81
  | 82 => mm_c82
  | 83 => mm_c83
  | 84 => mm_c84
  | 85 => mm_c85
  | 86 => mm_c86
  | 87 => mm_c87
  | 88 => mm_c88
  | 89 => mm_c89
  | 90 => mm_c90
  | 91 => mm_c91
  | 92 => mm_c92
  | 93 => mm_c93
  | 94 => mm_c94
  | 95 => mm_c95
  | 96 => mm_c96
  | 97 => mm_c97
  | 98 => mm_c98
  | 99 => mm_c99
  | 100 => mm_c100
  | 101 => mm_c101
  | 102 => mm_c102
  | 103 => mm_c103
  | 104 => mm_c104
  | 105 => mm_c105
  | 106 => mm_c106
  | 107 => mm_c107
  | 108 => mm_c108
  | 109 => mm_c109
  | 110 => mm_c110
  | 111 => mm_c111
  | 112 => mm_c112
  | 113 => mm_c113
  | 114 => mm_c114
  | 115 => mm_c115
  | 116 => mm_c116
  | 117 => mm_c117
  | 118 => mm_c118
  | 119 => mm_c119
  | 120 => mm_c120
  | 121 => mm_c121
  | 122 => mm_c122
  | 123 => mm_c123
  | 124 => mm_c124
  | 125 => mm_c125
  | 126 => mm_c126
  | 127 => mm_c127
  | 128 => mm_c128
  | 129 => mm_c129
  | 130 => mm_c130
  | 131 => mm_c131
  | 132 => mm_c132
  | 133 => mm_c133
  | 134 => mm_c134
  | 135 => mm_c135
  | 136 => mm_c136
  | 137 => mm_c137
  | 138 => mm_c138
  | 139 => mm_c139
  | 140 => mm_c140
  | 141 => mm_c141
  | 142 => mm_c142
  | 143 => mm_c143
  | 144 => mm_c144
  | 145 => mm_c145
  | 146 => mm_c146
  | 147 => mm_c147
  | 148 => mm_c148
  | 149 => mm_c149
  | 150 => mm_c150
  | 151 => mm_c151
  | _ => mm_c152
def mm_lk {α : Type} : List (Nat × α) → Nat → Option α
  | [], _ => none
  | q :: r, i => match Nat.beq q.1 i with
    | true => some q.2
    | false => mm_lk r i
def mm_at (j pc : Nat) : Option Instr := mm_lk (mm_code j) pc
def mm_p0 : List (Nat × Nat × Nat × Nat × Int) := [(1, 15, 0, 0, 0), (7, 8, 4, 8, 0), (9, 4, 54, 0, 0), (10, 1, 0, 0, 0), (16, 8, 5, 9, 0), (18, 4, 74, 0, 0), (19, 1, 0, 1, 0), (23, 8, 2, 12, 0), (25, 4, 27, 0, 0), (26, 1, 0, 2, 0), (30, 0, 0, 3, 0), (34, 3, 23, 3, 0), (38, 14, 0, 0, 0), (40, 13, 0, 0, 0), (42, 16, 0, 0, 0), (45, 2, 55, 1, 0), (49, 2, 75, 1, 0), (50, 2, 28, 1, 0), (51, 13, 0, 0, 0), (53, 2, 56, 1, 0), (56, 13, 0, 0, 0), (58, 2, 21, 1, 0), (62, 2, 22, 1, 0), (65, 14, 1, 0, 0), (67, 13, 0, 0, 0), (69, 16, 1, 0, 0), (70, 2, 58, 3, 0), (74, 13, 0, 0, 0), (76, 2, 65, 1, 0), (79, 2, 67, 0, 0), (83, 2, 64, 0, 0), (87, 14, 2, 0, 0), (89, 13, 0, 0, 0), (91, 16, 2, 0, 0), (92, 2, 71, 0, 0), (96, 2, 59, 2, 0), (100, 13, 0, 0, 0), (102, 2, 60, 1, 0), (106, 2, 61, 2, 0), (109, 2, 62, 3, 0), (113, 13, 0, 0, 0), (115, 2, 72, 1, 0), (118, 11, 0, 0, 100000), (119, 13, 0, 0, 0), (121, 13, 0, 0, 0), (123, 2, 76, 3, 0), (124, 11, 0, 0, 600000), (125, 13, 0, 0, 0), (127, 2, 77, 1, 0), (130, 2, 78, 0, 0), (133, 13, 0, 0, 0), (135, 2, 82, 0, 0), (138, 13, 0, 0, 0), (140, 2, 79, 0, 0), (143, 13, 0, 0, 0), (145, 2, 80, 1, 0), (148, 2, 81, 1, 0), (152, 2, 49, 1, 0), (158, 13, 0, 0, 0), (160, 2, 29, 1, 0), (163, 13, 0, 0, 0), (165, 13, 0, 0, 0), (167, 2, 30, 3, 0), (170, 2, 39, 0, 0), (173, 2, 35, 0, 0), (176, 2, 31, 0, 0), (179, 13, 0, 0, 0), (181, 2, 32, 1, 0), (184, 2, 33, 1, 0), (187, 2, 34, 2, 0), (191, 2, 57, 0, 0)]
def mm_p1 : List (Nat × Nat × Nat × Nat × Int) := [(3, 15, 0, 0, 0), (9, 1, 1, 4, 0), (15, 0, 1, 0, 0), (19, 0, 1, 1, 0), (22, 0, 1, 2, 0), (25, 0, 1, 3, 0), (28, 2, 26, 3, 0), (32, 7, 1, 0, 0)]
def mm_p2 : List (Nat × Nat × Nat × Nat × Int) := [(3, 15, 0, 0, 0), (9, 0, 2, 0, 0), (15, 0, 2, 1, 0), (18, 0, 2, 2, 0), (22, 10, 54, 50, 0), (24, 1, 2, 3, 0), (27, 8, 3, 2, 0), (29, 1, 2, 4, 0), (33, 1, 2, 5, 0), (36, 1, 2, 6, 0), (39, 1, 2, 7, 0), (43, 1, 2, 8, 0), (47, 5, 45, 0, 0), (48, 1, 2, 9, 0), (52, 1, 2, 10, 0), (55, 1, 2, 11, 0), (58, 2, 29, 1, 0), (62, 2, 43, 4, 0), (66, 2, 46, 2, 0), (70, 2, 36, 0, 0), (73, 2, 37, 0, 0), (77, 2, 38, 1, 0), (80, 2, 44, 2, 0), (84, 2, 50, 1, 0), (88, 2, 48, 1, 0), (92, 2, 40, 3, 0), (96, 2, 47, 2, 0), (99, 2, 41, 2, 0), (103, 2, 42, 2, 0), (107, 2, 51, 1, 0), (111, 2, 52, 1, 0), (115, 7, 3, 0, 0), (121, 7, 2, 0, 0), (100027, 9, 53, 0, 0)]
def mm_p3 : List (Nat × Nat × Nat × Nat × Int) := [(1, 15, 0, 0, 0), (7, 0, 3, 0, 0), (13, 0, 3, 1, 0), (16, 7, 4, 0, 0), (22, 3, 53, 2, 0), (26, 2, 46, 2, 0)]
def mm_p4 : List (Nat × Nat × Nat × Nat × Int) := [(3, 15, 0, 0, 0), (9, 0, 4, 0, 0), (15, 0, 4, 1, 0), (18, 10, 54, 50, 0), (20, 1, 4, 2, 0), (23, 1, 4, 3, 0), (27, 1, 4, 4, 0), (30, 1, 4, 5, 0), (33, 8, 6, 9, 0), (35, 5, 86, 0, 0), (36, 1, 4, 6, 0), (40, 8, 1, 5, 0), (42, 5, 24, 0, 0), (43, 1, 4, 7, 0), (47, 2, 73, 0, 0), (50, 2, 56, 1, 0), (54, 2, 61, 2, 0), (58, 2, 63, 2, 0), (61, 7, 0, 0, 0), (66, 11, 0, 0, 65536), (67, 2, 66, 1, 0), (71, 2, 68, 0, 0), (75, 11, 0, 0, 100000), (76, 2, 70, 0, 0), (79, 2, 69, 1, 0), (82, 2, 62, 3, 0), (86, 2, 87, 4, 0), (90, 2, 25, 3, 0)]
def mm_p5 : List (Nat × Nat × Nat × Nat × Int) := [(3, 15, 0, 0, 0), (9, 0, 5, 0, 0), (15, 0, 5, 1, 0), (18, 0, 5, 2, 0), (22, 10, 54, 50, 0), (24, 1, 5, 4, 0), (27, 1, 5, 5, 0), (31, 1, 5, 6, 0), (34, 1, 5, 7, 0), (37, 8, 3, 2, 0), (39, 1, 5, 8, 0), (43, 5, 45, 0, 0), (44, 0, 5, 3, 0), (47, 2, 83, 3, 0), (51, 2, 84, 0, 0), (54, 2, 85, 0, 0), (57, 7, 5, 0, 0), (63, 7, 0, 0, 0), (69, 2, 46, 2, 0), (100037, 9, 53, 0, 0)]
def mm_p6 : List (Nat × Nat × Nat × Nat × Int) := [(3, 15, 0, 0, 0), (9, 1, 6, 6, 0), (15, 1, 6, 7, 0), (18, 10, 54, 50, 0), (20, 1, 6, 8, 0), (23, 0, 6, 0, 0), (27, 0, 6, 1, 0), (30, 0, 6, 2, 0), (33, 0, 6, 3, 0), (36, 0, 6, 4, 0), (39, 0, 6, 5, 0), (43, 2, 88, 1, 0), (47, 3, 89, 2, 0), (51, 7, 5, 0, 0), (57, 12, 0, 0, 1000000000000000000)]
def mm_p7 : List (Nat × Nat × Nat × Nat × Int) := [(1, 15, 0, 0, 0), (7, 0, 7, 0, 0), (13, 0, 7, 1, 0), (16, 0, 7, 2, 0), (19, 1, 7, 3, 0), (23, 1, 7, 4, 0), (26, 1, 7, 5, 0), (29, 1, 7, 6, 0), (32, 1, 7, 7, 0), (35, 0, 7, 8, 0), (38, 0, 7, 9, 0), (42, 1, 7, 10, 0), (45, 1, 7, 11, 0), (48, 1, 7, 12, 0), (51, 1, 7, 13, 0), (55, 1, 7, 14, 0), (58, 0, 7, 15, 0), (61, 1, 7, 16, 0), (64, 0, 7, 17, 0), (67, 1, 7, 18, 0), (70, 1, 7, 19, 0), (73, 1, 7, 20, 0), (76, 1, 7, 21, 0), (79, 1, 7, 22, 0), (82, 1, 7, 23, 0), (85, 0, 7, 24, 0), (89, 0, 7, 25, 0), (92, 1, 7, 26, 0), (95, 2, 91, 1, 0), (99, 2, 92, 2, 0), (103, 2, 93, 2, 0), (107, 11, 0, 0, 65536), (108, 3, 100, 2, 0), (112, 2, 102, 2, 0), (116, 2, 103, 2, 0), (119, 2, 104, 5, 0), (123, 2, 105, 5, 0), (126, 2, 107, 5, 0), (129, 3, 108, 1, 0), (133, 2, 110, 2, 0), (136, 2, 94, 0, 0), (139, 2, 112, 1, 0), (143, 2, 113, 1, 0), (146, 2, 95, 0, 0), (150, 2, 96, 0, 0), (153, 2, 97, 0, 0), (156, 2, 98, 1, 0), (159, 11, 0, 0, 100000), (160, 11, 0, 0, 600000), (161, 2, 99, 1, 0), (164, 2, 101, 0, 0), (167, 2, 109, 0, 0), (170, 2, 106, 0, 0)]
def mm_p8 : List (Nat × Nat × Nat × Nat × Int) := [(7, 2, 1, 1, 0), (8, 8, 0, 4, 0), (15, 2, 2, 1, 0), (18, 2, 3, 3, 0), (24, 2, 4, 1, 0), (27, 2, 6, 0, 0), (33, 2, 7, 2, 0), (37, 2, 8, 1, 0), (41, 2, 9, 2, 0), (44, 2, 10, 3, 0), (48, 2, 11, 1, 0), (51, 2, 12, 3, 0), (54, 2, 13, 1, 0), (57, 2, 14, 0, 0), (61, 2, 15, 2, 0), (65, 2, 16, 1, 0), (68, 2, 17, 3, 0), (71, 2, 19, 2, 0), (74, 2, 20, 3, 0), (78, 4, 0, 0, 0), (79, 8, 7, 27, 0), (81, 4, 90, 0, 0), (82, 3, 134, 2, 0), (87, 2, 114, 1, 0), (88, 2, 111, 0, 0), (91, 3, 135, 2, 0), (93, 2, 115, 1, 0), (94, 3, 136, 5, 0), (97, 2, 116, 3, 0), (98, 3, 137, 2, 0), (100, 2, 117, 1, 0), (101, 2, 5, 0, 0), (104, 2, 118, 0, 0), (105, 3, 138, 2, 0), (108, 2, 119, 0, 0), (109, 3, 139, 4, 0), (112, 2, 120, 2, 0), (113, 3, 140, 3, 0), (116, 2, 121, 1, 0), (117, 3, 141, 4, 0), (119, 2, 122, 2, 0), (120, 3, 142, 5, 0), (123, 2, 123, 3, 0), (124, 3, 143, 3, 0), (126, 2, 124, 1, 0), (127, 3, 144, 5, 0), (129, 2, 125, 3, 0), (130, 3, 145, 3, 0), (132, 2, 126, 1, 0), (133, 3, 146, 2, 0), (135, 2, 127, 0, 0), (136, 3, 147, 4, 0), (138, 2, 128, 2, 0), (139, 3, 148, 2, 0), (141, 2, 129, 1, 0), (142, 3, 149, 5, 0), (144, 2, 130, 3, 0), (145, 2, 18, 1, 0), (149, 2, 131, 1, 0), (150, 3, 150, 4, 0), (152, 2, 132, 2, 0), (153, 3, 151, 5, 0), (155, 2, 133, 3, 0)]
def mm_pl (k : Nat) : List (Nat × Nat × Nat × Nat × Int) := match k with
  | 0 => mm_p0
  | 1 => mm_p1
  | 2 => mm_p2
  | 3 => mm_p3
  | 4 => mm_p4
  | 5 => mm_p5
  | 6 => mm_p6
  | 7 => mm_p7
  | _ => mm_p8
def mm_pool (j idx : Nat) : Option (Nat × Nat × Nat × Int) := mm_lk (mm_pl (mm_cn j)) idx
end
section
/-! How long an instruction is. -/
def mm_len : Instr → Nat
  | .bipush _ | .ldc _ | .iload _ | .lload _ | .aload _ | .istore _ | .lstore _ | .astore _ | .newarray _ => 2
  | .sipush _ | .ldc2_w _ | .ldc_w _ | .ifCond .. | .if_icmp .. | .goto _ | .iinc .. | .getfield _ | .putfield _ | .getstatic _ | .new _ | .anewarray _ | .invokevirtual _ | .invokespecial _ | .invokestatic _ => 3
  | .multianewarray .. => 4
  | .tableswitch .. | .lookupswitch .. => 0
  | _ => 1
end
section
/-! What a program decides of the names. -/
def mm_dec (cc : ByteArray) (pc : Nat) (i : Instr) : Prop := ∃ len, decode cc pc = .ok (i, len) ∧ (mm_len i = 0 ∨ len = mm_len i)
def mm_ckd (cc : ByteArray) (pc : Nat) (i : Instr) : Bool := match decode cc pc with
  | .ok (i2, len) => decide (i2 = i) && (Nat.beq (mm_len i) 0 || Nat.beq len (mm_len i))
  | _ => false
theorem mm_ckd_ok {cc : ByteArray} {pc : Nat} {i : Instr} (h : mm_ckd cc pc i = true) : mm_dec cc pc i := by
  unfold mm_ckd at h
  split at h
  · rename_i i2 len he
    obtain ⟨a, b⟩ := Bool.and_eq_true_iff.mp h
    have e := of_decide_eq_true a
    subst e
    refine ⟨len, he, ?_⟩
    rcases Bool.or_eq_true_iff.mp b with z | z
    · exact Or.inl (Nat.eq_of_beq_eq_true z)
    · exact Or.inr (Nat.eq_of_beq_eq_true z)
  · cases h
theorem mm_lk_mem {α : Type} {i : Nat} {v : α} : ∀ {l : List (Nat × α)}, mm_lk l i = some v → (i, v) ∈ l
  | [], h => by simp [mm_lk] at h
  | q :: r, h => by
    unfold mm_lk at h
    split at h
    · rename_i e
      cases h
      have e := Nat.eq_of_beq_eq_true e
      subst e
      exact List.mem_cons_self
    · exact List.mem_cons_of_mem _ (mm_lk_mem h)
theorem mm_k0 : mm_c0.all (fun q => mm_ckd prog_1_method_1_code q.1 q.2) = true := by decide +kernel
theorem mm_k1 : mm_c1.all (fun q => mm_ckd prog_1_method_2_code q.1 q.2) = true := by decide +kernel
theorem mm_k2 : mm_c2.all (fun q => mm_ckd prog_1_method_3_code q.1 q.2) = true := by decide +kernel
theorem mm_k3 : mm_c3.all (fun q => mm_ckd prog_1_method_4_code q.1 q.2) = true := by decide +kernel
theorem mm_k4 : mm_c4.all (fun q => mm_ckd prog_1_method_5_code q.1 q.2) = true := by decide +kernel
theorem mm_k5 : mm_c5.all (fun q => mm_ckd prog_1_method_6_code q.1 q.2) = true := by decide +kernel
theorem mm_k6 : mm_c6.all (fun q => mm_ckd prog_1_method_7_code q.1 q.2) = true := by decide +kernel
theorem mm_k7 : mm_c7.all (fun q => mm_ckd prog_1_method_8_code q.1 q.2) = true := by decide +kernel
theorem mm_k8 : mm_c8.all (fun q => mm_ckd prog_1_method_9_code q.1 q.2) = true := by decide +kernel
theorem mm_k9 : mm_c9.all (fun q => mm_ckd prog_1_method_10_code q.1 q.2) = true := by decide +kernel
theorem mm_k10 : mm_c10.all (fun q => mm_ckd prog_1_method_11_code q.1 q.2) = true := by decide +kernel
theorem mm_k11 : mm_c11.all (fun q => mm_ckd prog_1_method_12_code q.1 q.2) = true := by decide +kernel
theorem mm_k12 : mm_c12.all (fun q => mm_ckd prog_1_method_13_code q.1 q.2) = true := by decide +kernel
theorem mm_k13 : mm_c13.all (fun q => mm_ckd prog_1_method_14_code q.1 q.2) = true := by decide +kernel
theorem mm_k14 : mm_c14.all (fun q => mm_ckd prog_1_method_15_code q.1 q.2) = true := by decide +kernel
theorem mm_k15 : mm_c15.all (fun q => mm_ckd prog_1_method_16_code q.1 q.2) = true := by decide +kernel
theorem mm_k16 : mm_c16.all (fun q => mm_ckd prog_1_method_17_code q.1 q.2) = true := by decide +kernel
theorem mm_k17 : mm_c17.all (fun q => mm_ckd prog_1_method_18_code q.1 q.2) = true := by decide +kernel
theorem mm_k18 : mm_c18.all (fun q => mm_ckd prog_1_method_19_code q.1 q.2) = true := by decide +kernel
theorem mm_k19 : mm_c19.all (fun q => mm_ckd prog_1_method_20_code q.1 q.2) = true := by decide +kernel
theorem mm_k20 : mm_c20.all (fun q => mm_ckd prog_1_method_21_code q.1 q.2) = true := by decide +kernel
theorem mm_k21 : mm_c21.all (fun q => mm_ckd prog_1_method_22_code q.1 q.2) = true := by decide +kernel
theorem mm_k22 : mm_c22.all (fun q => mm_ckd prog_1_method_23_code q.1 q.2) = true := by decide +kernel
theorem mm_k23 : mm_c23.all (fun q => mm_ckd prog_1_method_24_code q.1 q.2) = true := by decide +kernel
theorem mm_k24 : mm_c24.all (fun q => mm_ckd prog_2_method_1_code q.1 q.2) = true := by decide +kernel
theorem mm_k25 : mm_c25.all (fun q => mm_ckd prog_2_method_2_code q.1 q.2) = true := by decide +kernel
theorem mm_k26 : mm_c26.all (fun q => mm_ckd prog_2_method_3_code q.1 q.2) = true := by decide +kernel
theorem mm_k27 : mm_c27.all (fun q => mm_ckd prog_3_method_1_code q.1 q.2) = true := by decide +kernel
theorem mm_k28 : mm_c28.all (fun q => mm_ckd prog_3_method_2_code q.1 q.2) = true := by decide +kernel
theorem mm_k29 : mm_c29.all (fun q => mm_ckd prog_3_method_3_code q.1 q.2) = true := by decide +kernel
theorem mm_k30 : mm_c30.all (fun q => mm_ckd prog_3_method_4_code q.1 q.2) = true := by decide +kernel
theorem mm_k31 : mm_c31.all (fun q => mm_ckd prog_3_method_5_code q.1 q.2) = true := by decide +kernel
theorem mm_k32 : mm_c32.all (fun q => mm_ckd prog_3_method_6_code q.1 q.2) = true := by decide +kernel
theorem mm_k33 : mm_c33.all (fun q => mm_ckd prog_3_method_7_code q.1 q.2) = true := by decide +kernel
theorem mm_k34 : mm_c34.all (fun q => mm_ckd prog_3_method_8_code q.1 q.2) = true := by decide +kernel
theorem mm_k35 : mm_c35.all (fun q => mm_ckd prog_3_method_9_code q.1 q.2) = true := by decide +kernel
theorem mm_k36 : mm_c36.all (fun q => mm_ckd prog_3_method_10_code q.1 q.2) = true := by decide +kernel
theorem mm_k37 : mm_c37.all (fun q => mm_ckd prog_3_method_11_code q.1 q.2) = true := by decide +kernel
theorem mm_k38 : mm_c38.all (fun q => mm_ckd prog_3_method_12_code q.1 q.2) = true := by decide +kernel
theorem mm_k39 : mm_c39.all (fun q => mm_ckd prog_3_method_13_code q.1 q.2) = true := by decide +kernel
theorem mm_k40 : mm_c40.all (fun q => mm_ckd prog_3_method_14_code q.1 q.2) = true := by decide +kernel
theorem mm_k41 : mm_c41.all (fun q => mm_ckd prog_3_method_15_code q.1 q.2) = true := by decide +kernel
theorem mm_k42 : mm_c42.all (fun q => mm_ckd prog_3_method_16_code q.1 q.2) = true := by decide +kernel
theorem mm_k43 : mm_c43.all (fun q => mm_ckd prog_3_method_17_code q.1 q.2) = true := by decide +kernel
theorem mm_k44 : mm_c44.all (fun q => mm_ckd prog_3_method_18_code q.1 q.2) = true := by decide +kernel
theorem mm_k45 : mm_c45.all (fun q => mm_ckd prog_4_method_1_code q.1 q.2) = true := by decide +kernel
theorem mm_k46 : mm_c46.all (fun q => mm_ckd prog_4_method_2_code q.1 q.2) = true := by decide +kernel
theorem mm_k47 : mm_c47.all (fun q => mm_ckd prog_4_method_3_code q.1 q.2) = true := by decide +kernel
theorem mm_k48 : mm_c48.all (fun q => mm_ckd prog_4_method_4_code q.1 q.2) = true := by decide +kernel
theorem mm_k49 : mm_c49.all (fun q => mm_ckd prog_4_method_5_code q.1 q.2) = true := by decide +kernel
theorem mm_k50 : mm_c50.all (fun q => mm_ckd prog_4_method_6_code q.1 q.2) = true := by decide +kernel
theorem mm_k51 : mm_c51.all (fun q => mm_ckd prog_4_method_7_code q.1 q.2) = true := by decide +kernel
theorem mm_k52 : mm_c52.all (fun q => mm_ckd prog_4_method_8_code q.1 q.2) = true := by decide +kernel
theorem mm_k53 : mm_c53.all (fun q => mm_ckd prog_4_method_9_code q.1 q.2) = true := by decide +kernel
theorem mm_k54 : mm_c54.all (fun q => mm_ckd prog_5_method_1_code q.1 q.2) = true := by decide +kernel
theorem mm_k55 : mm_c55.all (fun q => mm_ckd prog_5_method_2_code q.1 q.2) = true := by decide +kernel
theorem mm_k56 : mm_c56.all (fun q => mm_ckd prog_5_method_3_code q.1 q.2) = true := by decide +kernel
theorem mm_k57 : mm_c57.all (fun q => mm_ckd prog_5_method_4_code q.1 q.2) = true := by decide +kernel
theorem mm_k58 : mm_c58.all (fun q => mm_ckd prog_5_method_5_code q.1 q.2) = true := by decide +kernel
theorem mm_k59 : mm_c59.all (fun q => mm_ckd prog_5_method_6_code q.1 q.2) = true := by decide +kernel
theorem mm_k60 : mm_c60.all (fun q => mm_ckd prog_5_method_7_code q.1 q.2) = true := by decide +kernel
theorem mm_k61 : mm_c61.all (fun q => mm_ckd prog_5_method_8_code q.1 q.2) = true := by decide +kernel
theorem mm_k62 : mm_c62.all (fun q => mm_ckd prog_5_method_9_code q.1 q.2) = true := by decide +kernel
theorem mm_k63 : mm_c63.all (fun q => mm_ckd prog_5_method_10_code q.1 q.2) = true := by decide +kernel
theorem mm_k64 : mm_c64.all (fun q => mm_ckd prog_5_method_11_code q.1 q.2) = true := by decide +kernel
theorem mm_k65 : mm_c65.all (fun q => mm_ckd prog_5_method_12_code q.1 q.2) = true := by decide +kernel
theorem mm_k66 : mm_c66.all (fun q => mm_ckd prog_5_method_13_code q.1 q.2) = true := by decide +kernel
theorem mm_k67 : mm_c67.all (fun q => mm_ckd prog_5_method_14_code q.1 q.2) = true := by decide +kernel
theorem mm_k68 : mm_c68.all (fun q => mm_ckd prog_5_method_15_code q.1 q.2) = true := by decide +kernel
theorem mm_k69 : mm_c69.all (fun q => mm_ckd prog_5_method_16_code q.1 q.2) = true := by decide +kernel
theorem mm_k70 : mm_c70.all (fun q => mm_ckd prog_5_method_17_code q.1 q.2) = true := by decide +kernel
theorem mm_k71 : mm_c71.all (fun q => mm_ckd prog_5_method_18_code q.1 q.2) = true := by decide +kernel
theorem mm_k72 : mm_c72.all (fun q => mm_ckd prog_5_method_19_code q.1 q.2) = true := by decide +kernel
theorem mm_k73 : mm_c73.all (fun q => mm_ckd prog_5_method_20_code q.1 q.2) = true := by decide +kernel
theorem mm_k74 : mm_c74.all (fun q => mm_ckd prog_6_method_1_code q.1 q.2) = true := by decide +kernel
theorem mm_k75 : mm_c75.all (fun q => mm_ckd prog_6_method_2_code q.1 q.2) = true := by decide +kernel
theorem mm_k76 : mm_c76.all (fun q => mm_ckd prog_6_method_3_code q.1 q.2) = true := by decide +kernel
theorem mm_k77 : mm_c77.all (fun q => mm_ckd prog_6_method_4_code q.1 q.2) = true := by decide +kernel
theorem mm_k78 : mm_c78.all (fun q => mm_ckd prog_6_method_5_code q.1 q.2) = true := by decide +kernel
theorem mm_k79 : mm_c79.all (fun q => mm_ckd prog_6_method_6_code q.1 q.2) = true := by decide +kernel
theorem mm_k80 : mm_c80.all (fun q => mm_ckd prog_6_method_7_code q.1 q.2) = true := by decide +kernel
theorem mm_k81 : mm_c81.all (fun q => mm_ckd prog_6_method_8_code q.1 q.2) = true := by decide +kernel
theorem mm_k82 : mm_c82.all (fun q => mm_ckd prog_6_method_9_code q.1 q.2) = true := by decide +kernel
theorem mm_k83 : mm_c83.all (fun q => mm_ckd prog_6_method_10_code q.1 q.2) = true := by decide +kernel
theorem mm_k84 : mm_c84.all (fun q => mm_ckd prog_6_method_11_code q.1 q.2) = true := by decide +kernel
theorem mm_k85 : mm_c85.all (fun q => mm_ckd prog_6_method_12_code q.1 q.2) = true := by decide +kernel
theorem mm_k86 : mm_c86.all (fun q => mm_ckd prog_7_method_1_code q.1 q.2) = true := by decide +kernel
theorem mm_k87 : mm_c87.all (fun q => mm_ckd prog_7_method_2_code q.1 q.2) = true := by decide +kernel
theorem mm_k88 : mm_c88.all (fun q => mm_ckd prog_7_method_3_code q.1 q.2) = true := by decide +kernel
theorem mm_k89 : mm_c89.all (fun q => mm_ckd prog_7_method_4_code q.1 q.2) = true := by decide +kernel
theorem mm_k90 : mm_c90.all (fun q => mm_ckd prog_9_method_1_code q.1 q.2) = true := by decide +kernel
theorem mm_k91 : mm_c91.all (fun q => mm_ckd prog_9_method_2_code q.1 q.2) = true := by decide +kernel
theorem mm_k92 : mm_c92.all (fun q => mm_ckd prog_9_method_3_code q.1 q.2) = true := by decide +kernel
theorem mm_k93 : mm_c93.all (fun q => mm_ckd prog_9_method_4_code q.1 q.2) = true := by decide +kernel
theorem mm_k94 : mm_c94.all (fun q => mm_ckd prog_9_method_5_code q.1 q.2) = true := by decide +kernel
theorem mm_k95 : mm_c95.all (fun q => mm_ckd prog_9_method_6_code q.1 q.2) = true := by decide +kernel
theorem mm_k96 : mm_c96.all (fun q => mm_ckd prog_9_method_7_code q.1 q.2) = true := by decide +kernel
theorem mm_k97 : mm_c97.all (fun q => mm_ckd prog_9_method_8_code q.1 q.2) = true := by decide +kernel
theorem mm_k98 : mm_c98.all (fun q => mm_ckd prog_9_method_9_code q.1 q.2) = true := by decide +kernel
theorem mm_k99 : mm_c99.all (fun q => mm_ckd prog_9_method_10_code q.1 q.2) = true := by decide +kernel
theorem mm_k100 : mm_c100.all (fun q => mm_ckd prog_9_method_11_code q.1 q.2) = true := by decide +kernel
theorem mm_k101 : mm_c101.all (fun q => mm_ckd prog_9_method_12_code q.1 q.2) = true := by decide +kernel
theorem mm_k102 : mm_c102.all (fun q => mm_ckd prog_9_method_13_code q.1 q.2) = true := by decide +kernel
theorem mm_k103 : mm_c103.all (fun q => mm_ckd prog_9_method_14_code q.1 q.2) = true := by decide +kernel
theorem mm_k104 : mm_c104.all (fun q => mm_ckd prog_9_method_15_code q.1 q.2) = true := by decide +kernel
theorem mm_k105 : mm_c105.all (fun q => mm_ckd prog_9_method_16_code q.1 q.2) = true := by decide +kernel
theorem mm_k106 : mm_c106.all (fun q => mm_ckd prog_9_method_17_code q.1 q.2) = true := by decide +kernel
theorem mm_k107 : mm_c107.all (fun q => mm_ckd prog_9_method_18_code q.1 q.2) = true := by decide +kernel
theorem mm_k108 : mm_c108.all (fun q => mm_ckd prog_9_method_19_code q.1 q.2) = true := by decide +kernel
theorem mm_k109 : mm_c109.all (fun q => mm_ckd prog_9_method_20_code q.1 q.2) = true := by decide +kernel
theorem mm_k110_0 : mm_c110_0.all (fun q => mm_ckd prog_9_method_21_code q.1 q.2) = true := by decide +kernel
theorem mm_k110_1 : mm_c110_1.all (fun q => mm_ckd prog_9_method_21_code q.1 q.2) = true := by decide +kernel
theorem mm_k110 : mm_c110.all (fun q => mm_ckd prog_9_method_21_code q.1 q.2) = true := by
  simp only [mm_c110, List.all_append, mm_k110_0, mm_k110_1, Bool.and_self]
theorem mm_k111 : mm_c111.all (fun q => mm_ckd prog_9_method_22_code q.1 q.2) = true := by decide +kernel
theorem mm_k112 : mm_c112.all (fun q => mm_ckd prog_9_method_23_code q.1 q.2) = true := by decide +kernel
theorem mm_k113 : mm_c113.all (fun q => mm_ckd prog_9_method_24_code q.1 q.2) = true := by decide +kernel
theorem mm_k114 : mm_c114.all (fun q => mm_ckd prog_9_method_25_code q.1 q.2) = true := by decide +kernel
theorem mm_k115 : mm_c115.all (fun q => mm_ckd prog_9_method_26_code q.1 q.2) = true := by decide +kernel
theorem mm_k116 : mm_c116.all (fun q => mm_ckd prog_9_method_27_code q.1 q.2) = true := by decide +kernel
theorem mm_k117 : mm_c117.all (fun q => mm_ckd prog_9_method_28_code q.1 q.2) = true := by decide +kernel
theorem mm_k118 : mm_c118.all (fun q => mm_ckd prog_9_method_29_code q.1 q.2) = true := by decide +kernel
theorem mm_k119 : mm_c119.all (fun q => mm_ckd prog_9_method_30_code q.1 q.2) = true := by decide +kernel
theorem mm_k120 : mm_c120.all (fun q => mm_ckd prog_9_method_31_code q.1 q.2) = true := by decide +kernel
theorem mm_k121 : mm_c121.all (fun q => mm_ckd prog_9_method_32_code q.1 q.2) = true := by decide +kernel
theorem mm_k122 : mm_c122.all (fun q => mm_ckd prog_9_method_33_code q.1 q.2) = true := by decide +kernel
theorem mm_k123 : mm_c123.all (fun q => mm_ckd prog_9_method_34_code q.1 q.2) = true := by decide +kernel
theorem mm_k124 : mm_c124.all (fun q => mm_ckd prog_9_method_35_code q.1 q.2) = true := by decide +kernel
theorem mm_k125 : mm_c125.all (fun q => mm_ckd prog_9_method_36_code q.1 q.2) = true := by decide +kernel
theorem mm_k126 : mm_c126.all (fun q => mm_ckd prog_9_method_37_code q.1 q.2) = true := by decide +kernel
theorem mm_k127_0 : mm_c127_0.all (fun q => mm_ckd prog_9_method_38_code q.1 q.2) = true := by decide +kernel
theorem mm_k127_1 : mm_c127_1.all (fun q => mm_ckd prog_9_method_38_code q.1 q.2) = true := by decide +kernel
theorem mm_k127 : mm_c127.all (fun q => mm_ckd prog_9_method_38_code q.1 q.2) = true := by
  simp only [mm_c127, List.all_append, mm_k127_0, mm_k127_1, Bool.and_self]
theorem mm_k128 : mm_c128.all (fun q => mm_ckd prog_9_method_39_code q.1 q.2) = true := by decide +kernel
theorem mm_k129 : mm_c129.all (fun q => mm_ckd prog_9_method_40_code q.1 q.2) = true := by decide +kernel
theorem mm_k130 : mm_c130.all (fun q => mm_ckd prog_9_method_41_code q.1 q.2) = true := by decide +kernel
theorem mm_k131 : mm_c131.all (fun q => mm_ckd prog_9_method_42_code q.1 q.2) = true := by decide +kernel
theorem mm_k132 : mm_c132.all (fun q => mm_ckd prog_9_method_43_code q.1 q.2) = true := by decide +kernel
theorem mm_k133 : mm_c133.all (fun q => mm_ckd prog_9_method_44_code q.1 q.2) = true := by decide +kernel
theorem mm_k134 : mm_c134.all (fun q => mm_ckd method_3_code q.1 q.2) = true := by decide +kernel
theorem mm_k135 : mm_c135.all (fun q => mm_ckd method_4_code q.1 q.2) = true := by decide +kernel
theorem mm_k136 : mm_c136.all (fun q => mm_ckd method_5_code q.1 q.2) = true := by decide +kernel
theorem mm_k137 : mm_c137.all (fun q => mm_ckd method_6_code q.1 q.2) = true := by decide +kernel
theorem mm_k138 : mm_c138.all (fun q => mm_ckd method_7_code q.1 q.2) = true := by decide +kernel
theorem mm_k139 : mm_c139.all (fun q => mm_ckd method_8_code q.1 q.2) = true := by decide +kernel
theorem mm_k140 : mm_c140.all (fun q => mm_ckd method_9_code q.1 q.2) = true := by decide +kernel
theorem mm_k141 : mm_c141.all (fun q => mm_ckd method_10_code q.1 q.2) = true := by decide +kernel
theorem mm_k142 : mm_c142.all (fun q => mm_ckd method_11_code q.1 q.2) = true := by decide +kernel
theorem mm_k143 : mm_c143.all (fun q => mm_ckd method_12_code q.1 q.2) = true := by decide +kernel
theorem mm_k144 : mm_c144.all (fun q => mm_ckd method_13_code q.1 q.2) = true := by decide +kernel
theorem mm_k145 : mm_c145.all (fun q => mm_ckd method_14_code q.1 q.2) = true := by decide +kernel
theorem mm_k146 : mm_c146.all (fun q => mm_ckd method_15_code q.1 q.2) = true := by decide +kernel
theorem mm_k147 : mm_c147.all (fun q => mm_ckd method_16_code q.1 q.2) = true := by decide +kernel
theorem mm_k148 : mm_c148.all (fun q => mm_ckd method_17_code q.1 q.2) = true := by decide +kernel
theorem mm_k149 : mm_c149.all (fun q => mm_ckd method_18_code q.1 q.2) = true := by decide +kernel
theorem mm_k150 : mm_c150.all (fun q => mm_ckd method_19_code q.1 q.2) = true := by decide +kernel
theorem mm_k151 : mm_c151.all (fun q => mm_ckd method_20_code q.1 q.2) = true := by decide +kernel
theorem mm_k152_0 : mm_c152_0.all (fun q => mm_ckd code q.1 q.2) = true := by decide +kernel
theorem mm_k152_1 : mm_c152_1.all (fun q => mm_ckd code q.1 q.2) = true := by decide +kernel
theorem mm_k152_2 : mm_c152_2.all (fun q => mm_ckd code q.1 q.2) = true := by decide +kernel
theorem mm_k152_3 : mm_c152_3.all (fun q => mm_ckd code q.1 q.2) = true := by decide +kernel
theorem mm_k152_4 : mm_c152_4.all (fun q => mm_ckd code q.1 q.2) = true := by decide +kernel
theorem mm_k152_5 : mm_c152_5.all (fun q => mm_ckd code q.1 q.2) = true := by decide +kernel
theorem mm_k152_6 : mm_c152_6.all (fun q => mm_ckd code q.1 q.2) = true := by decide +kernel
theorem mm_k152_7 : mm_c152_7.all (fun q => mm_ckd code q.1 q.2) = true := by decide +kernel
theorem mm_k152 : mm_c152.all (fun q => mm_ckd code q.1 q.2) = true := by
  simp only [mm_c152, List.all_append, mm_k152_0, mm_k152_1, mm_k152_2, mm_k152_3, mm_k152_4, mm_k152_5, mm_k152_6, mm_k152_7, Bool.and_self]
theorem mm_codes_ok : ∀ j : Nat, (mm_code j).all (fun q => mm_ckd (mm_bytes j) q.1 q.2) = true
  | 0 => mm_k0
  | 1 => mm_k1
  | 2 => mm_k2
  | 3 => mm_k3
  | 4 => mm_k4
  | 5 => mm_k5
  | 6 => mm_k6
  | 7 => mm_k7
  | 8 => mm_k8
  | 9 => mm_k9
  | 10 => mm_k10
  | 11 => mm_k11
  | 12 => mm_k12
  | 13 => mm_k13
  | 14 => mm_k14
  | 15 => mm_k15
  | 16 => mm_k16
  | 17 => mm_k17
  | 18 => mm_k18
  | 19 => mm_k19
  | 20 => mm_k20
  | 21 => mm_k21
  | 22 => mm_k22
  | 23 => mm_k23
  | 24 => mm_k24
  | 25 => mm_k25
  | 26 => mm_k26
  | 27 => mm_k27
  | 28 => mm_k28
  | 29 => mm_k29
  | 30 => mm_k30
  | 31 => mm_k31
  | 32 => mm_k32
  | 33 => mm_k33
  | 34 => mm_k34
  | 35 => mm_k35
  | 36 => mm_k36
  | 37 => mm_k37
  | 38 => mm_k38
  | 39 => mm_k39
  | 40 => mm_k40
  | 41 => mm_k41
  | 42 => mm_k42
  | 43 => mm_k43
  | 44 => mm_k44
  | 45 => mm_k45
  | 46 => mm_k46
  | 47 => mm_k47
  | 48 => mm_k48
  | 49 => mm_k49
  | 50 => mm_k50
  | 51 => mm_k51
  | 52 => mm_k52
  | 53 => mm_k53
  | 54 => mm_k54
  | 55 => mm_k55
  | 56 => mm_k56
  | 57 => mm_k57
  | 58 => mm_k58
  | 59 => mm_k59
  | 60 => mm_k60
  | 61 => mm_k61
  | 62 => mm_k62
  | 63 => mm_k63
  | 64 => mm_k64
  | 65 => mm_k65
  | 66 => mm_k66
  | 67 => mm_k67
  | 68 => mm_k68
  | 69 => mm_k69
  | 70 => mm_k70
  | 71 => mm_k71
  | 72 => mm_k72
  | 73 => mm_k73
  | 74 => mm_k74
  | 75 => mm_k75
  | 76 => mm_k76
  | 77 => mm_k77
  | 78 => mm_k78
  | 79 => mm_k79
  | 80 => mm_k80
  | 81 => mm_k81
  | 82 => mm_k82
  | 83 => mm_k83
  | 84 => mm_k84
  | 85 => mm_k85
  | 86 => mm_k86
  | 87 => mm_k87
  | 88 => mm_k88
  | 89 => mm_k89
  | 90 => mm_k90
  | 91 => mm_k91
  | 92 => mm_k92
  | 93 => mm_k93
  | 94 => mm_k94
  | 95 => mm_k95
  | 96 => mm_k96
  | 97 => mm_k97
  | 98 => mm_k98
  | 99 => mm_k99
  | 100 => mm_k100
  | 101 => mm_k101
  | 102 => mm_k102
  | 103 => mm_k103
  | 104 => mm_k104
  | 105 => mm_k105
  | 106 => mm_k106
  | 107 => mm_k107
  | 108 => mm_k108
  | 109 => mm_k109
  | 110 => mm_k110
  | 111 => mm_k111
  | 112 => mm_k112
  | 113 => mm_k113
  | 114 => mm_k114
  | 115 => mm_k115
  | 116 => mm_k116
  | 117 => mm_k117
  | 118 => mm_k118
  | 119 => mm_k119
  | 120 => mm_k120
  | 121 => mm_k121
  | 122 => mm_k122
  | 123 => mm_k123
  | 124 => mm_k124
  | 125 => mm_k125
  | 126 => mm_k126
  | 127 => mm_k127
  | 128 => mm_k128
  | 129 => mm_k129
  | 130 => mm_k130
  | 131 => mm_k131
  | 132 => mm_k132
  | 133 => mm_k133
  | 134 => mm_k134
  | 135 => mm_k135
  | 136 => mm_k136
  | 137 => mm_k137
  | 138 => mm_k138
  | 139 => mm_k139
  | 140 => mm_k140
  | 141 => mm_k141
  | 142 => mm_k142
  | 143 => mm_k143
  | 144 => mm_k144
  | 145 => mm_k145
  | 146 => mm_k146
  | 147 => mm_k147
  | 148 => mm_k148
  | 149 => mm_k149
  | 150 => mm_k150
  | 151 => mm_k151
  | _ + 152 => mm_k152
end
section
/-! The places of the code. -/
theorem mm_at_ok {j pc : Nat} {i : Instr} (h : mm_at j pc = some i) : mm_dec (mm_bytes j) pc i := by
  unfold mm_at at h
  have h1 := List.all_eq_true.mp (mm_codes_ok j) (pc, i) (mm_lk_mem h)
  have h2 : mm_ckd (mm_bytes j) pc i = true := h1
  exact mm_ckd_ok h2
theorem mm_akd_ge {k : Nat} (h : mm_akd k ≠ 0) : 50 ≤ k := by
  unfold mm_akd at h
  split at h <;> first | decide | exact absurd rfl h
end
section
/-! What the pools' entries and the methods must be. -/
def mm_fok (o : String) (idx ci f : Nat) (fin : Bool) : Prop := ∃ (C : String) (T : u_T) (N : Nat), mm_cl[ci]? = some (C, T, N) ∧ f < N ∧ (T f).1 = C ∧ (T f).2.2.2 = fin ∧ Cond.fieldLink o idx C (T f).2.1 (T f).2.2.1 ∈ mm_ws ∧ (fin = true → C = o)
def mm_nok (o : String) (idx ci N : Nat) : Prop := ∃ (C : String) (T : u_T), mm_cl[ci]? = some (C, T, N) ∧ Cond.classLink o idx C ∈ mm_ws ∧ Cond.instantiable C N ∈ mm_ws ∧ Cond.initialized C ∈ mm_ws
def mm_aok (o : String) (idx kd : Nat) : Prop := ∃ (t : Nat) (C : String) (i : Nat), kd = 50 + t ∧ idx = 100000 + i ∧ mm_arr[t]? = some (.object C) ∧ Cond.classLink o i C ∈ mm_ws ∧ C = "FairDesk$Fraction"
def mm_mok (o : String) (idx ok ik : Nat) : Prop := ok = 54 ∧ ik = 50 ∧ Cond.classLink o idx "[[I" ∈ mm_ws ∧ Cond.arrayClass .int ∈ mm_ws
def mm_oiok (o : String) (idx : Nat) : Prop := Cond.methodLink o idx Lib.objectInit ∈ mm_ws ∧ Cond.instanceMethod Lib.objectInit ∈ mm_ws ∧ Cond.code Lib.objectInit ⟨#[0xb1]⟩ 1 none ∈ mm_ws
def mm_natok (o : String) (idx w : Nat) : Prop := match w with
  | 0 => Cond.methodLink o idx Lib.Math.max.name ∈ mm_ws ∧ Cond.static Lib.Math.max.name ∈ mm_ws ∧ Cond.initialized "java/lang/Math" ∈ mm_ws ∧ Cond.code Lib.Math.max.name Lib.Math.max.code 2 (some .int) ∈ mm_ws
  | 1 => Cond.methodLink o idx Lib.Math.min.name ∈ mm_ws ∧ Cond.static Lib.Math.min.name ∈ mm_ws ∧ Cond.initialized "java/lang/Math" ∈ mm_ws ∧ Cond.code Lib.Math.min.name Lib.Math.min.code 2 (some .int) ∈ mm_ws
  | 2 => Cond.methodLink o idx Lib.MathLoose.max_long.x ∈ mm_ws ∧ Cond.static Lib.MathLoose.max_long.x ∈ mm_ws ∧ Cond.initialized "java/lang/Math" ∈ mm_ws ∧ Cond.code Lib.MathLoose.max_long.x Lib.MathLoose.max_long.code 4 (some .long) ∈ mm_ws
  | 3 => Cond.methodLink o idx Lib.MathLoose.min_long.x ∈ mm_ws ∧ Cond.static Lib.MathLoose.min_long.x ∈ mm_ws ∧ Cond.initialized "java/lang/Math" ∈ mm_ws ∧ Cond.code Lib.MathLoose.min_long.x Lib.MathLoose.min_long.code 4 (some .long) ∈ mm_ws
  | 4 => Cond.methodLink o idx Lib.MathLoose.abs_long.x ∈ mm_ws ∧ Cond.static Lib.MathLoose.abs_long.x ∈ mm_ws ∧ Cond.initialized "java/lang/Math" ∈ mm_ws ∧ Cond.code Lib.MathLoose.abs_long.x Lib.MathLoose.abs_long.code 2 (some .long) ∈ mm_ws
  | 5 => Cond.methodLink o idx arraycopyName ∈ mm_ws ∧ Cond.native arraycopyName ∈ mm_ws ∧ Cond.static arraycopyName ∈ mm_ws ∧ Cond.initialized "java/lang/System" ∈ mm_ws
  | _ => False
def mm_xnok (o : String) (idx x : Nat) : Prop := ∃ X, mm_xn x = X ∧ Cond.classLink o idx X ∈ mm_ws ∧ Cond.instantiable X 6 ∈ mm_ws ∧ Cond.initialized X ∈ mm_ws
def mm_xiok (o : String) (idx x : Nat) : Prop := ∃ X, mm_xn x = X ∧ Cond.methodLink o idx ⟨X, "<init>", "(Ljava/lang/String;)V"⟩ ∈ mm_ws
def mm_strok (o : String) (idx : Nat) : Prop := ∃ tx, (o, idx, tx) ∈ mm_strs
def mm_cw (j : Nat) : Cond := match mm_hh j with
  | [] => .code (mm_y j) (mm_bytes j) (mm_maxL j) (mm_ret j)
  | q :: r => .codeWith (mm_y j) (mm_bytes j) (mm_maxL j) (mm_ret j) (q :: r)
/-- what is known of a method that is called -/
def mm_meth (j : Nat) : Prop := plainName (mm_y j).cls = true ∧ mm_cw j ∈ mm_ws ∧ Cond.initialized (mm_y j).cls ∈ mm_ws ∧ (mm_y j).cls = mm_own j ∧ ((mm_y j).cls ≠ "java/lang/invoke/MethodHandle" ∧ (mm_y j).cls ≠ "java/lang/invoke/VarHandle") ∧ mm_maxL j ≤ 45 ∧ (mm_ctor j = true → (mm_y j).name = "<init>")
def mm_lenok (j' n : Nat) : Prop := (parseMethodDescriptor (mm_y j').desc).map (fun d => d.parameters.length) = some n
def mm_vok (o : String) (idx j' n : Nat) : Prop := mm_meth j' ∧ mm_hh j' = [] ∧ Cond.methodLink o idx (mm_y j') ∈ mm_ws ∧ Cond.instanceMethod (mm_y j') ∈ mm_ws ∧ Cond.selects (mm_own j') (mm_y j') (mm_y j') ∈ mm_ws ∧ (∃ T N, mm_cl[mm_cls j']? = some (mm_own j', T, N)) ∧ mm_lenok j' n
def mm_nvok (o : String) (idx j' n : Nat) : Prop := mm_meth j' ∧ mm_hh j' = [] ∧ (∃ host, (o, idx, j', host) ∈ mm_nest) ∧ Cond.instanceMethod (mm_y j') ∈ mm_ws ∧ Cond.selects (mm_own j') (mm_y j') (mm_y j') ∈ mm_ws ∧ (∃ T N, mm_cl[mm_cls j']? = some (mm_own j', T, N)) ∧ mm_lenok j' n
def mm_iok (o : String) (idx j' n : Nat) : Prop := mm_meth j' ∧ mm_hh j' = [] ∧ Cond.methodLink o idx (mm_y j') ∈ mm_ws ∧ Cond.instanceMethod (mm_y j') ∈ mm_ws ∧ ((mm_y j').name = "<init>" ∧ mm_ret j' = none) ∧ mm_lenok j' n
def mm_niok (o : String) (idx j' n : Nat) : Prop := mm_meth j' ∧ mm_hh j' = [] ∧ (∃ host, (o, idx, j', host) ∈ mm_nest) ∧ Cond.instanceMethod (mm_y j') ∈ mm_ws ∧ ((mm_y j').name = "<init>" ∧ mm_ret j' = none) ∧ mm_lenok j' n
def mm_sok (o : String) (idx j' n : Nat) : Prop := mm_meth j' ∧ Cond.methodLink o idx (mm_y j') ∈ mm_ws ∧ Cond.static (mm_y j') ∈ mm_ws ∧ mm_lenok j' n
def mm_pok (o : String) (idx t a b : Nat) (z : Int) : Prop := match t with
  | 0 => mm_fok o idx a b false
  | 1 => mm_fok o idx a b true
  | 2 => mm_vok o idx a b
  | 3 => mm_sok o idx a b
  | 4 => mm_iok o idx a b
  | 5 => mm_niok o idx a b
  | 6 => mm_nvok o idx a b
  | 7 => mm_natok o idx a
  | 8 => mm_nok o idx a b
  | 9 => mm_aok o idx a
  | 10 => mm_mok o idx a b
  | 11 => Cond.constant o idx (Int32.ofInt z) ∈ mm_ws
  | 12 => Cond.constantLong o idx (Int64.ofInt z) ∈ mm_ws
  | 13 => mm_strok o idx
  | 14 => mm_xnok o idx a
  | 15 => mm_oiok o idx
  | 16 => mm_xiok o idx a
  | _ => False
end
section
/-! The pools' entries are what the tables say. -/
set_option maxRecDepth 100000 in
theorem mm_mt0 : mm_meth 0 := ⟨by decide, mm_m 63 rfl rfl, mm_m 43 rfl rfl, rfl, ⟨by decide, by decide⟩, by decide, fun _ => rfl⟩
set_option maxRecDepth 100000 in
theorem mm_mt1 : mm_meth 1 := ⟨by decide, mm_m 395 rfl rfl, mm_m 43 rfl rfl, rfl, ⟨by decide, by decide⟩, by decide, fun z => by cases z⟩
set_option maxRecDepth 100000 in
theorem mm_mt2 : mm_meth 2 := ⟨by decide, mm_m 493 rfl rfl, mm_m 43 rfl rfl, rfl, ⟨by decide, by decide⟩, by decide, fun z => by cases z⟩
set_option maxRecDepth 100000 in
theorem mm_mt3 : mm_meth 3 := ⟨by decide, mm_m 503 rfl rfl, mm_m 43 rfl rfl, rfl, ⟨by decide, by decide⟩, by decide, fun z => by cases z⟩
set_option maxRecDepth 100000 in
theorem mm_mt4 : mm_meth 4 := ⟨by decide, mm_m 543 rfl rfl, mm_m 43 rfl rfl, rfl, ⟨by decide, by decide⟩, by decide, fun z => by cases z⟩
set_option maxRecDepth 100000 in
theorem mm_mt5 : mm_meth 5 := ⟨by decide, mm_m 274 rfl rfl, mm_m 43 rfl rfl, rfl, ⟨by decide, by decide⟩, by decide, fun z => by cases z⟩
set_option maxRecDepth 100000 in
theorem mm_mt6 : mm_meth 6 := ⟨by decide, mm_m 560 rfl rfl, mm_m 43 rfl rfl, rfl, ⟨by decide, by decide⟩, by decide, fun z => by cases z⟩
set_option maxRecDepth 100000 in
theorem mm_mt7 : mm_meth 7 := ⟨by decide, mm_m 607 rfl rfl, mm_m 43 rfl rfl, rfl, ⟨by decide, by decide⟩, by decide, fun z => by cases z⟩
set_option maxRecDepth 100000 in
theorem mm_mt8 : mm_meth 8 := ⟨by decide, mm_m 618 rfl rfl, mm_m 43 rfl rfl, rfl, ⟨by decide, by decide⟩, by decide, fun z => by cases z⟩
set_option maxRecDepth 100000 in
theorem mm_mt9 : mm_meth 9 := ⟨by decide, mm_m 630 rfl rfl, mm_m 43 rfl rfl, rfl, ⟨by decide, by decide⟩, by decide, fun z => by cases z⟩
set_option maxRecDepth 100000 in
theorem mm_mt10 : mm_meth 10 := ⟨by decide, mm_m 638 rfl rfl, mm_m 43 rfl rfl, rfl, ⟨by decide, by decide⟩, by decide, fun z => by cases z⟩
set_option maxRecDepth 100000 in
theorem mm_mt11 : mm_meth 11 := ⟨by decide, mm_m 646 rfl rfl, mm_m 43 rfl rfl, rfl, ⟨by decide, by decide⟩, by decide, fun z => by cases z⟩
set_option maxRecDepth 100000 in
theorem mm_mt12 : mm_meth 12 := ⟨by decide, mm_m 669 rfl rfl, mm_m 43 rfl rfl, rfl, ⟨by decide, by decide⟩, by decide, fun z => by cases z⟩
set_option maxRecDepth 100000 in
theorem mm_mt13 : mm_meth 13 := ⟨by decide, mm_m 683 rfl rfl, mm_m 43 rfl rfl, rfl, ⟨by decide, by decide⟩, by decide, fun z => by cases z⟩
set_option maxRecDepth 100000 in
theorem mm_mt14 : mm_meth 14 := ⟨by decide, mm_m 696 rfl rfl, mm_m 43 rfl rfl, rfl, ⟨by decide, by decide⟩, by decide, fun z => by cases z⟩
set_option maxRecDepth 100000 in
theorem mm_mt15 : mm_meth 15 := ⟨by decide, mm_m 727 rfl rfl, mm_m 43 rfl rfl, rfl, ⟨by decide, by decide⟩, by decide, fun z => by cases z⟩
set_option maxRecDepth 100000 in
theorem mm_mt16 : mm_meth 16 := ⟨by decide, mm_m 752 rfl rfl, mm_m 43 rfl rfl, rfl, ⟨by decide, by decide⟩, by decide, fun z => by cases z⟩
set_option maxRecDepth 100000 in
theorem mm_mt17 : mm_meth 17 := ⟨by decide, mm_m 761 rfl rfl, mm_m 43 rfl rfl, rfl, ⟨by decide, by decide⟩, by decide, fun z => by cases z⟩
set_option maxRecDepth 100000 in
theorem mm_mt18 : mm_meth 18 := ⟨by decide, mm_m 310 rfl rfl, mm_m 43 rfl rfl, rfl, ⟨by decide, by decide⟩, by decide, fun z => by cases z⟩
set_option maxRecDepth 100000 in
theorem mm_mt19 : mm_meth 19 := ⟨by decide, mm_m 774 rfl rfl, mm_m 43 rfl rfl, rfl, ⟨by decide, by decide⟩, by decide, fun z => by cases z⟩
set_option maxRecDepth 100000 in
theorem mm_mt20 : mm_meth 20 := ⟨by decide, mm_m 794 rfl rfl, mm_m 43 rfl rfl, rfl, ⟨by decide, by decide⟩, by decide, fun z => by cases z⟩
set_option maxRecDepth 100000 in
theorem mm_mt21 : mm_meth 21 := ⟨by decide, mm_m 508 rfl rfl, mm_m 43 rfl rfl, rfl, ⟨by decide, by decide⟩, by decide, fun z => by cases z⟩
set_option maxRecDepth 100000 in
theorem mm_mt22 : mm_meth 22 := ⟨by decide, mm_m 512 rfl rfl, mm_m 43 rfl rfl, rfl, ⟨by decide, by decide⟩, by decide, fun z => by cases z⟩
set_option maxRecDepth 100000 in
theorem mm_mt23 : mm_meth 23 := ⟨by decide, mm_m 398 rfl rfl, mm_m 43 rfl rfl, rfl, ⟨by decide, by decide⟩, by decide, fun z => by cases z⟩
set_option maxRecDepth 100000 in
theorem mm_mt24 : mm_meth 24 := ⟨by decide, mm_m 115 rfl rfl, mm_m 46 rfl rfl, rfl, ⟨by decide, by decide⟩, by decide, fun _ => rfl⟩
set_option maxRecDepth 100000 in
theorem mm_mt25 : mm_meth 25 := ⟨by decide, mm_m 655 rfl rfl, mm_m 46 rfl rfl, rfl, ⟨by decide, by decide⟩, by decide, fun z => by cases z⟩
set_option maxRecDepth 100000 in
theorem mm_mt26 : mm_meth 26 := ⟨by decide, mm_m 659 rfl rfl, mm_m 46 rfl rfl, rfl, ⟨by decide, by decide⟩, by decide, fun z => by cases z⟩
set_option maxRecDepth 100000 in
theorem mm_mt27 : mm_meth 27 := ⟨by decide, mm_m 215 rfl rfl, mm_m 49 rfl rfl, rfl, ⟨by decide, by decide⟩, by decide, fun _ => rfl⟩
set_option maxRecDepth 100000 in
theorem mm_mt28 : mm_meth 28 := ⟨by decide, mm_m 482 rfl rfl, mm_m 49 rfl rfl, rfl, ⟨by decide, by decide⟩, by decide, fun z => by cases z⟩
set_option maxRecDepth 100000 in
theorem mm_mt29 : mm_meth 29 := ⟨by decide, mm_m 486 rfl rfl, mm_m 49 rfl rfl, rfl, ⟨by decide, by decide⟩, by decide, fun z => by cases z⟩
set_option maxRecDepth 100000 in
theorem mm_mt30 : mm_meth 30 := ⟨by decide, mm_m 767 rfl rfl, mm_m 49 rfl rfl, rfl, ⟨by decide, by decide⟩, by decide, fun z => by cases z⟩
set_option maxRecDepth 100000 in
theorem mm_mt31 : mm_meth 31 := ⟨by decide, mm_m 778 rfl rfl, mm_m 49 rfl rfl, rfl, ⟨by decide, by decide⟩, by decide, fun z => by cases z⟩
set_option maxRecDepth 100000 in
theorem mm_mt32 : mm_meth 32 := ⟨by decide, mm_m 783 rfl rfl, mm_m 49 rfl rfl, rfl, ⟨by decide, by decide⟩, by decide, fun z => by cases z⟩
set_option maxRecDepth 100000 in
theorem mm_mt33 : mm_meth 33 := ⟨by decide, mm_m 787 rfl rfl, mm_m 49 rfl rfl, rfl, ⟨by decide, by decide⟩, by decide, fun z => by cases z⟩
set_option maxRecDepth 100000 in
theorem mm_mt34 : mm_meth 34 := ⟨by decide, mm_m 798 rfl rfl, mm_m 49 rfl rfl, rfl, ⟨by decide, by decide⟩, by decide, fun z => by cases z⟩
set_option maxRecDepth 100000 in
theorem mm_mt35 : mm_meth 35 := ⟨by decide, mm_m 375 rfl rfl, mm_m 49 rfl rfl, rfl, ⟨by decide, by decide⟩, by decide, fun z => by cases z⟩
set_option maxRecDepth 100000 in
theorem mm_mt36 : mm_meth 36 := ⟨by decide, mm_m 379 rfl rfl, mm_m 49 rfl rfl, rfl, ⟨by decide, by decide⟩, by decide, fun z => by cases z⟩
set_option maxRecDepth 100000 in
theorem mm_mt37 : mm_meth 37 := ⟨by decide, mm_m 383 rfl rfl, mm_m 49 rfl rfl, rfl, ⟨by decide, by decide⟩, by decide, fun z => by cases z⟩
set_option maxRecDepth 100000 in
theorem mm_mt38 : mm_meth 38 := ⟨by decide, mm_m 387 rfl rfl, mm_m 49 rfl rfl, rfl, ⟨by decide, by decide⟩, by decide, fun z => by cases z⟩
set_option maxRecDepth 100000 in
theorem mm_mt39 : mm_meth 39 := ⟨by decide, mm_m 314 rfl rfl, mm_m 49 rfl rfl, rfl, ⟨by decide, by decide⟩, by decide, fun z => by cases z⟩
set_option maxRecDepth 100000 in
theorem mm_mt40 : mm_meth 40 := ⟨by decide, mm_m 328 rfl rfl, mm_m 49 rfl rfl, rfl, ⟨by decide, by decide⟩, by decide, fun z => by cases z⟩
set_option maxRecDepth 100000 in
theorem mm_mt41 : mm_meth 41 := ⟨by decide, mm_m 363 rfl rfl, mm_m 49 rfl rfl, rfl, ⟨by decide, by decide⟩, by decide, fun z => by cases z⟩
set_option maxRecDepth 100000 in
theorem mm_mt42 : mm_meth 42 := ⟨by decide, mm_m 367 rfl rfl, mm_m 49 rfl rfl, rfl, ⟨by decide, by decide⟩, by decide, fun z => by cases z⟩
set_option maxRecDepth 100000 in
theorem mm_mt43 : mm_meth 43 := ⟨by decide, mm_m 332 rfl rfl, mm_m 49 rfl rfl, rfl, ⟨by decide, by decide⟩, by decide, fun z => by cases z⟩
set_option maxRecDepth 100000 in
theorem mm_mt44 : mm_meth 44 := ⟨by decide, mm_m 355 rfl rfl, mm_m 49 rfl rfl, rfl, ⟨by decide, by decide⟩, by decide, fun z => by cases z⟩
set_option maxRecDepth 100000 in
theorem mm_mt45 : mm_meth 45 := ⟨by decide, mm_m 174 rfl rfl, mm_m 48 rfl rfl, rfl, ⟨by decide, by decide⟩, by decide, fun _ => rfl⟩
set_option maxRecDepth 100000 in
theorem mm_mt46 : mm_meth 46 := ⟨by decide, mm_m 318 rfl rfl, mm_m 48 rfl rfl, rfl, ⟨by decide, by decide⟩, by decide, fun z => by cases z⟩
set_option maxRecDepth 100000 in
theorem mm_mt47 : mm_meth 47 := ⟨by decide, mm_m 350 rfl rfl, mm_m 48 rfl rfl, rfl, ⟨by decide, by decide⟩, by decide, fun z => by cases z⟩
set_option maxRecDepth 100000 in
theorem mm_mt48 : mm_meth 48 := ⟨by decide, mm_m 359 rfl rfl, mm_m 48 rfl rfl, rfl, ⟨by decide, by decide⟩, by decide, fun z => by cases z⟩
set_option maxRecDepth 100000 in
theorem mm_mt49 : mm_meth 49 := ⟨by decide, mm_m 745 rfl rfl, mm_m 48 rfl rfl, rfl, ⟨by decide, by decide⟩, by decide, fun z => by cases z⟩
set_option maxRecDepth 100000 in
theorem mm_mt50 : mm_meth 50 := ⟨by decide, mm_m 371 rfl rfl, mm_m 48 rfl rfl, rfl, ⟨by decide, by decide⟩, by decide, fun z => by cases z⟩
set_option maxRecDepth 100000 in
theorem mm_mt51 : mm_meth 51 := ⟨by decide, mm_m 336 rfl rfl, mm_m 48 rfl rfl, rfl, ⟨by decide, by decide⟩, by decide, fun z => by cases z⟩
set_option maxRecDepth 100000 in
theorem mm_mt52 : mm_meth 52 := ⟨by decide, mm_m 340 rfl rfl, mm_m 48 rfl rfl, rfl, ⟨by decide, by decide⟩, by decide, fun z => by cases z⟩
set_option maxRecDepth 100000 in
theorem mm_mt53 : mm_meth 53 := ⟨by decide, mm_m 324 rfl rfl, mm_m 48 rfl rfl, rfl, ⟨by decide, by decide⟩, by decide, fun z => by cases z⟩
set_option maxRecDepth 100000 in
theorem mm_mt54 : mm_meth 54 := ⟨by decide, mm_m 71 rfl rfl, mm_m 44 rfl rfl, rfl, ⟨by decide, by decide⟩, by decide, fun _ => rfl⟩
set_option maxRecDepth 100000 in
theorem mm_mt55 : mm_meth 55 := ⟨by decide, mm_m 470 rfl rfl, mm_m 44 rfl rfl, rfl, ⟨by decide, by decide⟩, by decide, fun z => by cases z⟩
set_option maxRecDepth 100000 in
theorem mm_mt56 : mm_meth 56 := ⟨by decide, mm_m 474 rfl rfl, mm_m 44 rfl rfl, rfl, ⟨by decide, by decide⟩, by decide, fun z => by cases z⟩
set_option maxRecDepth 100000 in
theorem mm_mt57 : mm_meth 57 := ⟨by decide, mm_m 516 rfl rfl, mm_m 44 rfl rfl, rfl, ⟨by decide, by decide⟩, by decide, fun z => by cases z⟩
set_option maxRecDepth 100000 in
theorem mm_mt58 : mm_meth 58 := ⟨by decide, mm_m 536 rfl rfl, mm_m 44 rfl rfl, rfl, ⟨by decide, by decide⟩, by decide, fun z => by cases z⟩
set_option maxRecDepth 100000 in
theorem mm_mt59 : mm_meth 59 := ⟨by decide, mm_m 611 rfl rfl, mm_m 44 rfl rfl, rfl, ⟨by decide, by decide⟩, by decide, fun z => by cases z⟩
set_option maxRecDepth 100000 in
theorem mm_mt60 : mm_meth 60 := ⟨by decide, mm_m 623 rfl rfl, mm_m 44 rfl rfl, rfl, ⟨by decide, by decide⟩, by decide, fun z => by cases z⟩
set_option maxRecDepth 100000 in
theorem mm_mt61 : mm_meth 61 := ⟨by decide, mm_m 294 rfl rfl, mm_m 44 rfl rfl, rfl, ⟨by decide, by decide⟩, by decide, fun z => by cases z⟩
set_option maxRecDepth 100000 in
theorem mm_mt62 : mm_meth 62 := ⟨by decide, mm_m 290 rfl rfl, mm_m 44 rfl rfl, rfl, ⟨by decide, by decide⟩, by decide, fun z => by cases z⟩
set_option maxRecDepth 100000 in
theorem mm_mt63 : mm_meth 63 := ⟨by decide, mm_m 298 rfl rfl, mm_m 44 rfl rfl, rfl, ⟨by decide, by decide⟩, by decide, fun z => by cases z⟩
set_option maxRecDepth 100000 in
theorem mm_mt64 : mm_meth 64 := ⟨by decide, mm_m 564 rfl rfl, mm_m 44 rfl rfl, rfl, ⟨by decide, by decide⟩, by decide, fun z => by cases z⟩
set_option maxRecDepth 100000 in
theorem mm_mt65 : mm_meth 65 := ⟨by decide, mm_m 548 rfl rfl, mm_m 44 rfl rfl, rfl, ⟨by decide, by decide⟩, by decide, fun z => by cases z⟩
set_option maxRecDepth 100000 in
theorem mm_mt66 : mm_meth 66 := ⟨by decide, mm_m 552 rfl rfl, mm_m 44 rfl rfl, rfl, ⟨by decide, by decide⟩, by decide, fun z => by cases z⟩
set_option maxRecDepth 100000 in
theorem mm_mt67 : mm_meth 67 := ⟨by decide, mm_m 278 rfl rfl, mm_m 44 rfl rfl, rfl, ⟨by decide, by decide⟩, by decide, fun z => by cases z⟩
set_option maxRecDepth 100000 in
theorem mm_mt68 : mm_meth 68 := ⟨by decide, mm_m 282 rfl rfl, mm_m 44 rfl rfl, rfl, ⟨by decide, by decide⟩, by decide, fun z => by cases z⟩
set_option maxRecDepth 100000 in
theorem mm_mt69 : mm_meth 69 := ⟨by decide, mm_m 286 rfl rfl, mm_m 44 rfl rfl, rfl, ⟨by decide, by decide⟩, by decide, fun z => by cases z⟩
set_option maxRecDepth 100000 in
theorem mm_mt70 : mm_meth 70 := ⟨by decide, mm_m 306 rfl rfl, mm_m 44 rfl rfl, rfl, ⟨by decide, by decide⟩, by decide, fun z => by cases z⟩
set_option maxRecDepth 100000 in
theorem mm_mt71 : mm_meth 71 := ⟨by decide, mm_m 585 rfl rfl, mm_m 44 rfl rfl, rfl, ⟨by decide, by decide⟩, by decide, fun z => by cases z⟩
set_option maxRecDepth 100000 in
theorem mm_mt72 : mm_meth 72 := ⟨by decide, mm_m 651 rfl rfl, mm_m 44 rfl rfl, rfl, ⟨by decide, by decide⟩, by decide, fun z => by cases z⟩
set_option maxRecDepth 100000 in
theorem mm_mt73 : mm_meth 73 := ⟨by decide, mm_m 136 rfl rfl, mm_m 44 rfl rfl, rfl, ⟨by decide, by decide⟩, by decide, fun z => by cases z⟩
set_option maxRecDepth 100000 in
theorem mm_mt74 : mm_meth 74 := ⟨by decide, mm_m 166 rfl rfl, mm_m 47 rfl rfl, rfl, ⟨by decide, by decide⟩, by decide, fun _ => rfl⟩
set_option maxRecDepth 100000 in
theorem mm_mt75 : mm_meth 75 := ⟨by decide, mm_m 478 rfl rfl, mm_m 47 rfl rfl, rfl, ⟨by decide, by decide⟩, by decide, fun z => by cases z⟩
set_option maxRecDepth 100000 in
theorem mm_mt76 : mm_meth 76 := ⟨by decide, mm_m 676 rfl rfl, mm_m 47 rfl rfl, rfl, ⟨by decide, by decide⟩, by decide, fun z => by cases z⟩
set_option maxRecDepth 100000 in
theorem mm_mt77 : mm_meth 77 := ⟨by decide, mm_m 689 rfl rfl, mm_m 47 rfl rfl, rfl, ⟨by decide, by decide⟩, by decide, fun z => by cases z⟩
set_option maxRecDepth 100000 in
theorem mm_mt78 : mm_meth 78 := ⟨by decide, mm_m 700 rfl rfl, mm_m 47 rfl rfl, rfl, ⟨by decide, by decide⟩, by decide, fun z => by cases z⟩
set_option maxRecDepth 100000 in
theorem mm_mt79 : mm_meth 79 := ⟨by decide, mm_m 732 rfl rfl, mm_m 47 rfl rfl, rfl, ⟨by decide, by decide⟩, by decide, fun z => by cases z⟩
set_option maxRecDepth 100000 in
theorem mm_mt80 : mm_meth 80 := ⟨by decide, mm_m 737 rfl rfl, mm_m 47 rfl rfl, rfl, ⟨by decide, by decide⟩, by decide, fun z => by cases z⟩
set_option maxRecDepth 100000 in
theorem mm_mt81 : mm_meth 81 := ⟨by decide, mm_m 741 rfl rfl, mm_m 47 rfl rfl, rfl, ⟨by decide, by decide⟩, by decide, fun z => by cases z⟩
set_option maxRecDepth 100000 in
theorem mm_mt82 : mm_meth 82 := ⟨by decide, mm_m 705 rfl rfl, mm_m 47 rfl rfl, rfl, ⟨by decide, by decide⟩, by decide, fun z => by cases z⟩
set_option maxRecDepth 100000 in
theorem mm_mt83 : mm_meth 83 := ⟨by decide, mm_m 709 rfl rfl, mm_m 47 rfl rfl, rfl, ⟨by decide, by decide⟩, by decide, fun z => by cases z⟩
set_option maxRecDepth 100000 in
theorem mm_mt84 : mm_meth 84 := ⟨by decide, mm_m 714 rfl rfl, mm_m 47 rfl rfl, rfl, ⟨by decide, by decide⟩, by decide, fun z => by cases z⟩
set_option maxRecDepth 100000 in
theorem mm_mt85 : mm_meth 85 := ⟨by decide, mm_m 719 rfl rfl, mm_m 47 rfl rfl, rfl, ⟨by decide, by decide⟩, by decide, fun z => by cases z⟩
set_option maxRecDepth 100000 in
theorem mm_mt86 : mm_meth 86 := ⟨by decide, mm_m 79 rfl rfl, mm_m 45 rfl rfl, rfl, ⟨by decide, by decide⟩, by decide, fun _ => rfl⟩
set_option maxRecDepth 100000 in
theorem mm_mt87 : mm_meth 87 := ⟨by decide, mm_m 589 rfl rfl, mm_m 45 rfl rfl, rfl, ⟨by decide, by decide⟩, by decide, fun z => by cases z⟩
set_option maxRecDepth 100000 in
theorem mm_mt88 : mm_meth 88 := ⟨by decide, mm_m 593 rfl rfl, mm_m 45 rfl rfl, rfl, ⟨by decide, by decide⟩, by decide, fun z => by cases z⟩
set_option maxRecDepth 100000 in
theorem mm_mt89 : mm_meth 89 := ⟨by decide, mm_m 596 rfl rfl, mm_m 45 rfl rfl, rfl, ⟨by decide, by decide⟩, by decide, fun z => by cases z⟩
set_option maxRecDepth 100000 in
theorem mm_mt90 : mm_meth 90 := ⟨by decide, mm_m 803 rfl rfl, mm_m 50 rfl rfl, rfl, ⟨by decide, by decide⟩, by decide, fun _ => rfl⟩
set_option maxRecDepth 100000 in
theorem mm_mt91 : mm_meth 91 := ⟨by decide, mm_m 808 rfl rfl, mm_m 50 rfl rfl, rfl, ⟨by decide, by decide⟩, by decide, fun z => by cases z⟩
set_option maxRecDepth 100000 in
theorem mm_mt92 : mm_meth 92 := ⟨by decide, mm_m 939 rfl rfl, mm_m 50 rfl rfl, rfl, ⟨by decide, by decide⟩, by decide, fun z => by cases z⟩
set_option maxRecDepth 100000 in
theorem mm_mt93 : mm_meth 93 := ⟨by decide, mm_m 935 rfl rfl, mm_m 50 rfl rfl, rfl, ⟨by decide, by decide⟩, by decide, fun z => by cases z⟩
set_option maxRecDepth 100000 in
theorem mm_mt94 : mm_meth 94 := ⟨by decide, mm_m 907 rfl rfl, mm_m 50 rfl rfl, rfl, ⟨by decide, by decide⟩, by decide, fun z => by cases z⟩
set_option maxRecDepth 100000 in
theorem mm_mt95 : mm_meth 95 := ⟨by decide, mm_m 931 rfl rfl, mm_m 50 rfl rfl, rfl, ⟨by decide, by decide⟩, by decide, fun z => by cases z⟩
set_option maxRecDepth 100000 in
theorem mm_mt96 : mm_meth 96 := ⟨by decide, mm_m 943 rfl rfl, mm_m 50 rfl rfl, rfl, ⟨by decide, by decide⟩, by decide, fun z => by cases z⟩
set_option maxRecDepth 100000 in
theorem mm_mt97 : mm_meth 97 := ⟨by decide, mm_m 951 rfl rfl, mm_m 50 rfl rfl, rfl, ⟨by decide, by decide⟩, by decide, fun z => by cases z⟩
set_option maxRecDepth 100000 in
theorem mm_mt98 : mm_meth 98 := ⟨by decide, mm_m 956 rfl rfl, mm_m 50 rfl rfl, rfl, ⟨by decide, by decide⟩, by decide, fun z => by cases z⟩
set_option maxRecDepth 100000 in
theorem mm_mt99 : mm_meth 99 := ⟨by decide, mm_m 994 rfl rfl, mm_m 50 rfl rfl, rfl, ⟨by decide, by decide⟩, by decide, fun z => by cases z⟩
set_option maxRecDepth 100000 in
theorem mm_mt100 : mm_meth 100 := ⟨by decide, mm_m 1005 rfl rfl, mm_m 50 rfl rfl, rfl, ⟨by decide, by decide⟩, by decide, fun z => by cases z⟩
set_option maxRecDepth 100000 in
theorem mm_mt101 : mm_meth 101 := ⟨by decide, mm_m 998 rfl rfl, mm_m 50 rfl rfl, rfl, ⟨by decide, by decide⟩, by decide, fun z => by cases z⟩
set_option maxRecDepth 100000 in
theorem mm_mt102 : mm_meth 102 := ⟨by decide, mm_m 1002 rfl rfl, mm_m 50 rfl rfl, rfl, ⟨by decide, by decide⟩, by decide, fun z => by cases z⟩
set_option maxRecDepth 100000 in
theorem mm_mt103 : mm_meth 103 := ⟨by decide, mm_m 1044 rfl rfl, mm_m 50 rfl rfl, rfl, ⟨by decide, by decide⟩, by decide, fun z => by cases z⟩
set_option maxRecDepth 100000 in
theorem mm_mt104 : mm_meth 104 := ⟨by decide, mm_m 1040 rfl rfl, mm_m 50 rfl rfl, rfl, ⟨by decide, by decide⟩, by decide, fun z => by cases z⟩
set_option maxRecDepth 100000 in
theorem mm_mt105 : mm_meth 105 := ⟨by decide, mm_m 1048 rfl rfl, mm_m 50 rfl rfl, rfl, ⟨by decide, by decide⟩, by decide, fun z => by cases z⟩
set_option maxRecDepth 100000 in
theorem mm_mt106 : mm_meth 106 := ⟨by decide, mm_m 1052 rfl rfl, mm_m 50 rfl rfl, rfl, ⟨by decide, by decide⟩, by decide, fun z => by cases z⟩
set_option maxRecDepth 100000 in
theorem mm_mt107 : mm_meth 107 := ⟨by decide, mm_m 1029 rfl rfl, mm_m 50 rfl rfl, rfl, ⟨by decide, by decide⟩, by decide, fun z => by cases z⟩
set_option maxRecDepth 100000 in
theorem mm_mt108 : mm_meth 108 := ⟨by decide, mm_m 1032 rfl rfl, mm_m 50 rfl rfl, rfl, ⟨by decide, by decide⟩, by decide, fun z => by cases z⟩
set_option maxRecDepth 100000 in
theorem mm_mt109 : mm_meth 109 := ⟨by decide, mm_m 1025 rfl rfl, mm_m 50 rfl rfl, rfl, ⟨by decide, by decide⟩, by decide, fun z => by cases z⟩
set_option maxRecDepth 100000 in
theorem mm_mt110 : mm_meth 110 := ⟨by decide, mm_m 1036 rfl rfl, mm_m 50 rfl rfl, rfl, ⟨by decide, by decide⟩, by decide, fun z => by cases z⟩
set_option maxRecDepth 100000 in
theorem mm_mt111 : mm_meth 111 := ⟨by decide, mm_m 895 rfl rfl, mm_m 50 rfl rfl, rfl, ⟨by decide, by decide⟩, by decide, fun z => by cases z⟩
set_option maxRecDepth 100000 in
theorem mm_mt112 : mm_meth 112 := ⟨by decide, mm_m 915 rfl rfl, mm_m 50 rfl rfl, rfl, ⟨by decide, by decide⟩, by decide, fun z => by cases z⟩
set_option maxRecDepth 100000 in
theorem mm_mt113 : mm_meth 113 := ⟨by decide, mm_m 919 rfl rfl, mm_m 50 rfl rfl, rfl, ⟨by decide, by decide⟩, by decide, fun z => by cases z⟩
set_option maxRecDepth 100000 in
theorem mm_mt114 : mm_meth 114 := ⟨by decide, mm_m 899 rfl rfl, mm_m 50 rfl rfl, rfl, ⟨by decide, by decide⟩, by decide, fun z => by cases z⟩
set_option maxRecDepth 100000 in
theorem mm_mt115 : mm_meth 115 := ⟨by decide, mm_m 903 rfl rfl, mm_m 50 rfl rfl, rfl, ⟨by decide, by decide⟩, by decide, fun z => by cases z⟩
set_option maxRecDepth 100000 in
theorem mm_mt116 : mm_meth 116 := ⟨by decide, mm_m 911 rfl rfl, mm_m 50 rfl rfl, rfl, ⟨by decide, by decide⟩, by decide, fun z => by cases z⟩
set_option maxRecDepth 100000 in
theorem mm_mt117 : mm_meth 117 := ⟨by decide, mm_m 923 rfl rfl, mm_m 50 rfl rfl, rfl, ⟨by decide, by decide⟩, by decide, fun z => by cases z⟩
set_option maxRecDepth 100000 in
theorem mm_mt118 : mm_meth 118 := ⟨by decide, mm_m 927 rfl rfl, mm_m 50 rfl rfl, rfl, ⟨by decide, by decide⟩, by decide, fun z => by cases z⟩
set_option maxRecDepth 100000 in
theorem mm_mt119 : mm_meth 119 := ⟨by decide, mm_m 947 rfl rfl, mm_m 50 rfl rfl, rfl, ⟨by decide, by decide⟩, by decide, fun z => by cases z⟩
set_option maxRecDepth 100000 in
theorem mm_mt120 : mm_meth 120 := ⟨by decide, mm_m 960 rfl rfl, mm_m 50 rfl rfl, rfl, ⟨by decide, by decide⟩, by decide, fun z => by cases z⟩
set_option maxRecDepth 100000 in
theorem mm_mt121 : mm_meth 121 := ⟨by decide, mm_m 964 rfl rfl, mm_m 50 rfl rfl, rfl, ⟨by decide, by decide⟩, by decide, fun z => by cases z⟩
set_option maxRecDepth 100000 in
theorem mm_mt122 : mm_meth 122 := ⟨by decide, mm_m 968 rfl rfl, mm_m 50 rfl rfl, rfl, ⟨by decide, by decide⟩, by decide, fun z => by cases z⟩
set_option maxRecDepth 100000 in
theorem mm_mt123 : mm_meth 123 := ⟨by decide, mm_m 972 rfl rfl, mm_m 50 rfl rfl, rfl, ⟨by decide, by decide⟩, by decide, fun z => by cases z⟩
set_option maxRecDepth 100000 in
theorem mm_mt124 : mm_meth 124 := ⟨by decide, mm_m 976 rfl rfl, mm_m 50 rfl rfl, rfl, ⟨by decide, by decide⟩, by decide, fun z => by cases z⟩
set_option maxRecDepth 100000 in
theorem mm_mt125 : mm_meth 125 := ⟨by decide, mm_m 980 rfl rfl, mm_m 50 rfl rfl, rfl, ⟨by decide, by decide⟩, by decide, fun z => by cases z⟩
set_option maxRecDepth 100000 in
theorem mm_mt126 : mm_meth 126 := ⟨by decide, mm_m 985 rfl rfl, mm_m 50 rfl rfl, rfl, ⟨by decide, by decide⟩, by decide, fun z => by cases z⟩
set_option maxRecDepth 100000 in
theorem mm_mt127 : mm_meth 127 := ⟨by decide, mm_m 990 rfl rfl, mm_m 50 rfl rfl, rfl, ⟨by decide, by decide⟩, by decide, fun z => by cases z⟩
set_option maxRecDepth 100000 in
theorem mm_mt128 : mm_meth 128 := ⟨by decide, mm_m 1009 rfl rfl, mm_m 50 rfl rfl, rfl, ⟨by decide, by decide⟩, by decide, fun z => by cases z⟩
set_option maxRecDepth 100000 in
theorem mm_mt129 : mm_meth 129 := ⟨by decide, mm_m 1013 rfl rfl, mm_m 50 rfl rfl, rfl, ⟨by decide, by decide⟩, by decide, fun z => by cases z⟩
set_option maxRecDepth 100000 in
theorem mm_mt130 : mm_meth 130 := ⟨by decide, mm_m 1017 rfl rfl, mm_m 50 rfl rfl, rfl, ⟨by decide, by decide⟩, by decide, fun z => by cases z⟩
set_option maxRecDepth 100000 in
theorem mm_mt131 : mm_meth 131 := ⟨by decide, mm_m 1021 rfl rfl, mm_m 50 rfl rfl, rfl, ⟨by decide, by decide⟩, by decide, fun z => by cases z⟩
set_option maxRecDepth 100000 in
theorem mm_mt132 : mm_meth 132 := ⟨by decide, mm_m 1056 rfl rfl, mm_m 50 rfl rfl, rfl, ⟨by decide, by decide⟩, by decide, fun z => by cases z⟩
set_option maxRecDepth 100000 in
theorem mm_mt133 : mm_meth 133 := ⟨by decide, mm_m 1060 rfl rfl, mm_m 50 rfl rfl, rfl, ⟨by decide, by decide⟩, by decide, fun z => by cases z⟩
set_option maxRecDepth 100000 in
theorem mm_mt134 : mm_meth 134 := ⟨by decide, mm_m 390 rfl rfl, mm_m 42 rfl rfl, rfl, ⟨by decide, by decide⟩, by decide, fun z => by cases z⟩
set_option maxRecDepth 100000 in
theorem mm_mt135 : mm_meth 135 := ⟨by decide, mm_m 489 rfl rfl, mm_m 42 rfl rfl, rfl, ⟨by decide, by decide⟩, by decide, fun z => by cases z⟩
set_option maxRecDepth 100000 in
theorem mm_mt136 : mm_meth 136 := ⟨by decide, mm_m 498 rfl rfl, mm_m 42 rfl rfl, rfl, ⟨by decide, by decide⟩, by decide, fun z => by cases z⟩
set_option maxRecDepth 100000 in
theorem mm_mt137 : mm_meth 137 := ⟨by decide, mm_m 539 rfl rfl, mm_m 42 rfl rfl, rfl, ⟨by decide, by decide⟩, by decide, fun z => by cases z⟩
set_option maxRecDepth 100000 in
theorem mm_mt138 : mm_meth 138 := ⟨by decide, mm_m 555 rfl rfl, mm_m 42 rfl rfl, rfl, ⟨by decide, by decide⟩, by decide, fun z => by cases z⟩
set_option maxRecDepth 100000 in
theorem mm_mt139 : mm_meth 139 := ⟨by decide, mm_m 603 rfl rfl, mm_m 42 rfl rfl, rfl, ⟨by decide, by decide⟩, by decide, fun z => by cases z⟩
set_option maxRecDepth 100000 in
theorem mm_mt140 : mm_meth 140 := ⟨by decide, mm_m 614 rfl rfl, mm_m 42 rfl rfl, rfl, ⟨by decide, by decide⟩, by decide, fun z => by cases z⟩
set_option maxRecDepth 100000 in
theorem mm_mt141 : mm_meth 141 := ⟨by decide, mm_m 626 rfl rfl, mm_m 42 rfl rfl, rfl, ⟨by decide, by decide⟩, by decide, fun z => by cases z⟩
set_option maxRecDepth 100000 in
theorem mm_mt142 : mm_meth 142 := ⟨by decide, mm_m 634 rfl rfl, mm_m 42 rfl rfl, rfl, ⟨by decide, by decide⟩, by decide, fun z => by cases z⟩
set_option maxRecDepth 100000 in
theorem mm_mt143 : mm_meth 143 := ⟨by decide, mm_m 642 rfl rfl, mm_m 42 rfl rfl, rfl, ⟨by decide, by decide⟩, by decide, fun z => by cases z⟩
set_option maxRecDepth 100000 in
theorem mm_mt144 : mm_meth 144 := ⟨by decide, mm_m 665 rfl rfl, mm_m 42 rfl rfl, rfl, ⟨by decide, by decide⟩, by decide, fun z => by cases z⟩
set_option maxRecDepth 100000 in
theorem mm_mt145 : mm_meth 145 := ⟨by decide, mm_m 679 rfl rfl, mm_m 42 rfl rfl, rfl, ⟨by decide, by decide⟩, by decide, fun z => by cases z⟩
set_option maxRecDepth 100000 in
theorem mm_mt146 : mm_meth 146 := ⟨by decide, mm_m 692 rfl rfl, mm_m 42 rfl rfl, rfl, ⟨by decide, by decide⟩, by decide, fun z => by cases z⟩
set_option maxRecDepth 100000 in
theorem mm_mt147 : mm_meth 147 := ⟨by decide, mm_m 723 rfl rfl, mm_m 42 rfl rfl, rfl, ⟨by decide, by decide⟩, by decide, fun z => by cases z⟩
set_option maxRecDepth 100000 in
theorem mm_mt148 : mm_meth 148 := ⟨by decide, mm_m 748 rfl rfl, mm_m 42 rfl rfl, rfl, ⟨by decide, by decide⟩, by decide, fun z => by cases z⟩
set_option maxRecDepth 100000 in
theorem mm_mt149 : mm_meth 149 := ⟨by decide, mm_m 757 rfl rfl, mm_m 42 rfl rfl, rfl, ⟨by decide, by decide⟩, by decide, fun z => by cases z⟩
set_option maxRecDepth 100000 in
theorem mm_mt150 : mm_meth 150 := ⟨by decide, mm_m 770 rfl rfl, mm_m 42 rfl rfl, rfl, ⟨by decide, by decide⟩, by decide, fun z => by cases z⟩
set_option maxRecDepth 100000 in
theorem mm_mt151 : mm_meth 151 := ⟨by decide, mm_m 790 rfl rfl, mm_m 42 rfl rfl, rfl, ⟨by decide, by decide⟩, by decide, fun z => by cases z⟩
set_option maxRecDepth 100000 in
theorem mm_pk0_1 : mm_pok "FairDesk" 1 15 0 0 0 := ⟨mm_m 64 rfl rfl, mm_m 65 rfl rfl, mm_m 66 rfl rfl⟩
set_option maxRecDepth 100000 in
theorem mm_pk0_7 : mm_pok "FairDesk" 7 8 4 8 0 := ⟨"FairDesk$Goods", mm_T4, rfl, mm_m 67 rfl rfl, mm_m 68 rfl rfl, mm_m 44 rfl rfl⟩
set_option maxRecDepth 100000 in
theorem mm_pk0_9 : mm_pok "FairDesk" 9 4 54 0 0 := ⟨mm_mt54, rfl, mm_m 69 rfl rfl, mm_m 70 rfl rfl, ⟨rfl, rfl⟩, rfl⟩
set_option maxRecDepth 100000 in
theorem mm_pk0_10 : mm_pok "FairDesk" 10 1 0 0 0 := ⟨"FairDesk", mm_T0, 4, rfl, by decide, rfl, rfl, mm_m 258 rfl rfl, fun _ => rfl⟩
set_option maxRecDepth 100000 in
theorem mm_pk0_16 : mm_pok "FairDesk" 16 8 5 9 0 := ⟨"FairDesk$House", mm_T5, rfl, mm_m 162 rfl rfl, mm_m 163 rfl rfl, mm_m 47 rfl rfl⟩
set_option maxRecDepth 100000 in
theorem mm_pk0_18 : mm_pok "FairDesk" 18 4 74 0 0 := ⟨mm_mt74, rfl, mm_m 164 rfl rfl, mm_m 165 rfl rfl, ⟨rfl, rfl⟩, rfl⟩
set_option maxRecDepth 100000 in
theorem mm_pk0_19 : mm_pok "FairDesk" 19 1 0 1 0 := ⟨"FairDesk", mm_T0, 4, rfl, by decide, rfl, rfl, mm_m 259 rfl rfl, fun _ => rfl⟩
set_option maxRecDepth 100000 in
theorem mm_pk0_23 : mm_pok "FairDesk" 23 8 2 12 0 := ⟨"FairDesk$CakeTable", mm_T2, rfl, mm_m 211 rfl rfl, mm_m 212 rfl rfl, mm_m 49 rfl rfl⟩
set_option maxRecDepth 100000 in
theorem mm_pk0_25 : mm_pok "FairDesk" 25 4 27 0 0 := ⟨mm_mt27, rfl, mm_m 213 rfl rfl, mm_m 214 rfl rfl, ⟨rfl, rfl⟩, rfl⟩
set_option maxRecDepth 100000 in
theorem mm_pk0_26 : mm_pok "FairDesk" 26 1 0 2 0 := ⟨"FairDesk", mm_T0, 4, rfl, by decide, rfl, rfl, mm_m 260 rfl rfl, fun _ => rfl⟩
set_option maxRecDepth 100000 in
theorem mm_pk0_30 : mm_pok "FairDesk" 30 0 0 3 0 := ⟨"FairDesk", mm_T0, 4, rfl, by decide, rfl, rfl, mm_m 261 rfl rfl, fun z => by cases z⟩
set_option maxRecDepth 100000 in
theorem mm_pk0_34 : mm_pok "FairDesk" 34 3 23 3 0 := ⟨mm_mt23, mm_m 396 rfl rfl, mm_m 397 rfl rfl, rfl⟩
set_option maxRecDepth 100000 in
theorem mm_pk0_38 : mm_pok "FairDesk" 38 14 0 0 0 := ⟨"java/lang/IllegalArgumentException", rfl, mm_m 399 rfl rfl, mm_m 400 rfl rfl, mm_m 54 rfl rfl⟩
set_option maxRecDepth 100000 in
theorem mm_pk0_40 : mm_pok "FairDesk" 40 13 0 0 0 := ⟨"people are 1 to 6", by decide⟩
set_option maxRecDepth 100000 in
theorem mm_pk0_42 : mm_pok "FairDesk" 42 16 0 0 0 := ⟨"java/lang/IllegalArgumentException", rfl, mm_m 441 rfl rfl⟩
set_option maxRecDepth 100000 in
theorem mm_pk0_45 : mm_pok "FairDesk" 45 2 55 1 0 := ⟨mm_mt55, rfl, mm_m 467 rfl rfl, mm_m 468 rfl rfl, mm_m 469 rfl rfl, ⟨mm_T4, 8, rfl⟩, rfl⟩
set_option maxRecDepth 100000 in
theorem mm_pk0_49 : mm_pok "FairDesk" 49 2 75 1 0 := ⟨mm_mt75, rfl, mm_m 475 rfl rfl, mm_m 476 rfl rfl, mm_m 477 rfl rfl, ⟨mm_T5, 9, rfl⟩, rfl⟩
set_option maxRecDepth 100000 in
theorem mm_pk0_50 : mm_pok "FairDesk" 50 2 28 1 0 := ⟨mm_mt28, rfl, mm_m 479 rfl rfl, mm_m 480 rfl rfl, mm_m 481 rfl rfl, ⟨mm_T2, 12, rfl⟩, rfl⟩
set_option maxRecDepth 100000 in
theorem mm_pk0_51 : mm_pok "FairDesk" 51 13 0 0 0 := ⟨"items are 0 to 12", by decide⟩
set_option maxRecDepth 100000 in
theorem mm_pk0_53 : mm_pok "FairDesk" 53 2 56 1 0 := ⟨mm_mt56, rfl, mm_m 495 rfl rfl, mm_m 472 rfl rfl, mm_m 473 rfl rfl, ⟨mm_T4, 8, rfl⟩, rfl⟩
set_option maxRecDepth 100000 in
theorem mm_pk0_56 : mm_pok "FairDesk" 56 13 0 0 0 := ⟨"an item's value is 0 to 1000", by decide⟩
set_option maxRecDepth 100000 in
theorem mm_pk0_58 : mm_pok "FairDesk" 58 2 21 1 0 := ⟨mm_mt21, rfl, mm_m 505 rfl rfl, mm_m 507 rfl rfl, mm_m 14 rfl rfl, ⟨mm_T0, 4, rfl⟩, rfl⟩
set_option maxRecDepth 100000 in
theorem mm_pk0_62 : mm_pok "FairDesk" 62 2 22 1 0 := ⟨mm_mt22, rfl, mm_m 509 rfl rfl, mm_m 511 rfl rfl, mm_m 15 rfl rfl, ⟨mm_T0, 4, rfl⟩, rfl⟩
set_option maxRecDepth 100000 in
theorem mm_pk0_65 : mm_pok "FairDesk" 65 14 1 0 0 := ⟨"java/lang/IndexOutOfBoundsException", rfl, mm_m 517 rfl rfl, mm_m 518 rfl rfl, mm_m 55 rfl rfl⟩
set_option maxRecDepth 100000 in
theorem mm_pk0_67 : mm_pok "FairDesk" 67 13 0 0 0 := ⟨"no such person or item", by decide⟩
set_option maxRecDepth 100000 in
theorem mm_pk0_69 : mm_pok "FairDesk" 69 16 1 0 0 := ⟨"java/lang/IndexOutOfBoundsException", rfl, mm_m 527 rfl rfl⟩
set_option maxRecDepth 100000 in
theorem mm_pk0_70 : mm_pok "FairDesk" 70 2 58 3 0 := ⟨mm_mt58, rfl, mm_m 533 rfl rfl, mm_m 534 rfl rfl, mm_m 535 rfl rfl, ⟨mm_T4, 8, rfl⟩, rfl⟩
set_option maxRecDepth 100000 in
theorem mm_pk0_74 : mm_pok "FairDesk" 74 13 0 0 0 := ⟨"no such person", by decide⟩
set_option maxRecDepth 100000 in
theorem mm_pk0_76 : mm_pok "FairDesk" 76 2 65 1 0 := ⟨mm_mt65, rfl, mm_m 545 rfl rfl, mm_m 546 rfl rfl, mm_m 547 rfl rfl, ⟨mm_T4, 8, rfl⟩, rfl⟩
set_option maxRecDepth 100000 in
theorem mm_pk0_79 : mm_pok "FairDesk" 79 2 67 0 0 := ⟨mm_mt67, rfl, mm_m 275 rfl rfl, mm_m 276 rfl rfl, mm_m 277 rfl rfl, ⟨mm_T4, 8, rfl⟩, rfl⟩
set_option maxRecDepth 100000 in
theorem mm_pk0_83 : mm_pok "FairDesk" 83 2 64 0 0 := ⟨mm_mt64, rfl, mm_m 561 rfl rfl, mm_m 562 rfl rfl, mm_m 563 rfl rfl, ⟨mm_T4, 8, rfl⟩, rfl⟩
set_option maxRecDepth 100000 in
theorem mm_pk0_87 : mm_pok "FairDesk" 87 14 2 0 0 := ⟨"java/lang/IllegalStateException", rfl, mm_m 566 rfl rfl, mm_m 567 rfl rfl, mm_m 57 rfl rfl⟩
set_option maxRecDepth 100000 in
theorem mm_pk0_89 : mm_pok "FairDesk" 89 13 0 0 0 := ⟨"too many ways to give the items", by decide⟩
set_option maxRecDepth 100000 in
theorem mm_pk0_91 : mm_pok "FairDesk" 91 16 2 0 0 := ⟨"java/lang/IllegalStateException", rfl, mm_m 576 rfl rfl⟩
set_option maxRecDepth 100000 in
theorem mm_pk0_92 : mm_pok "FairDesk" 92 2 71 0 0 := ⟨mm_mt71, rfl, mm_m 582 rfl rfl, mm_m 583 rfl rfl, mm_m 584 rfl rfl, ⟨mm_T4, 8, rfl⟩, rfl⟩
set_option maxRecDepth 100000 in
theorem mm_pk0_96 : mm_pok "FairDesk" 96 2 59 2 0 := ⟨mm_mt59, rfl, mm_m 608 rfl rfl, mm_m 609 rfl rfl, mm_m 610 rfl rfl, ⟨mm_T4, 8, rfl⟩, rfl⟩
set_option maxRecDepth 100000 in
theorem mm_pk0_100 : mm_pok "FairDesk" 100 13 0 0 0 := ⟨"no such item", by decide⟩
set_option maxRecDepth 100000 in
theorem mm_pk0_102 : mm_pok "FairDesk" 102 2 60 1 0 := ⟨mm_mt60, rfl, mm_m 620 rfl rfl, mm_m 621 rfl rfl, mm_m 622 rfl rfl, ⟨mm_T4, 8, rfl⟩, rfl⟩
set_option maxRecDepth 100000 in
theorem mm_pk0_106 : mm_pok "FairDesk" 106 2 61 2 0 := ⟨mm_mt61, rfl, mm_m 631 rfl rfl, mm_m 292 rfl rfl, mm_m 293 rfl rfl, ⟨mm_T4, 8, rfl⟩, rfl⟩
set_option maxRecDepth 100000 in
theorem mm_pk0_109 : mm_pok "FairDesk" 109 2 62 3 0 := ⟨mm_mt62, rfl, mm_m 639 rfl rfl, mm_m 288 rfl rfl, mm_m 289 rfl rfl, ⟨mm_T4, 8, rfl⟩, rfl⟩
set_option maxRecDepth 100000 in
theorem mm_pk0_113 : mm_pok "FairDesk" 113 13 0 0 0 := ⟨"too many ways to put the items into bundles", by decide⟩
set_option maxRecDepth 100000 in
theorem mm_pk0_115 : mm_pok "FairDesk" 115 2 72 1 0 := ⟨mm_mt72, rfl, mm_m 648 rfl rfl, mm_m 649 rfl rfl, mm_m 650 rfl rfl, ⟨mm_T4, 8, rfl⟩, rfl⟩
set_option maxRecDepth 100000 in
theorem mm_pk0_118 : mm_pok "FairDesk" 118 11 0 0 100000 := mm_m 670 rfl rfl
set_option maxRecDepth 100000 in
theorem mm_pk0_119 : mm_pok "FairDesk" 119 13 0 0 0 := ⟨"a room's value is 0 to 100000", by decide⟩
set_option maxRecDepth 100000 in
theorem mm_pk0_121 : mm_pok "FairDesk" 121 13 0 0 0 := ⟨"no such person or room", by decide⟩
set_option maxRecDepth 100000 in
theorem mm_pk0_123 : mm_pok "FairDesk" 123 2 76 3 0 := ⟨mm_mt76, rfl, mm_m 673 rfl rfl, mm_m 674 rfl rfl, mm_m 675 rfl rfl, ⟨mm_T5, 9, rfl⟩, rfl⟩
set_option maxRecDepth 100000 in
theorem mm_pk0_124 : mm_pok "FairDesk" 124 11 0 0 600000 := mm_m 684 rfl rfl
set_option maxRecDepth 100000 in
theorem mm_pk0_125 : mm_pok "FairDesk" 125 13 0 0 0 := ⟨"a total rent is 0 to 600000", by decide⟩
set_option maxRecDepth 100000 in
theorem mm_pk0_127 : mm_pok "FairDesk" 127 2 77 1 0 := ⟨mm_mt77, rfl, mm_m 686 rfl rfl, mm_m 687 rfl rfl, mm_m 688 rfl rfl, ⟨mm_T5, 9, rfl⟩, rfl⟩
set_option maxRecDepth 100000 in
theorem mm_pk0_130 : mm_pok "FairDesk" 130 2 78 0 0 := ⟨mm_mt78, rfl, mm_m 697 rfl rfl, mm_m 698 rfl rfl, mm_m 699 rfl rfl, ⟨mm_T5, 9, rfl⟩, rfl⟩
set_option maxRecDepth 100000 in
theorem mm_pk0_133 : mm_pok "FairDesk" 133 13 0 0 0 := ⟨"to somebody the rooms' values are not the total", by decide⟩
set_option maxRecDepth 100000 in
theorem mm_pk0_135 : mm_pok "FairDesk" 135 2 82 0 0 := ⟨mm_mt82, rfl, mm_m 702 rfl rfl, mm_m 703 rfl rfl, mm_m 704 rfl rfl, ⟨mm_T5, 9, rfl⟩, rfl⟩
set_option maxRecDepth 100000 in
theorem mm_pk0_138 : mm_pok "FairDesk" 138 13 0 0 0 := ⟨"no such person or what", by decide⟩
set_option maxRecDepth 100000 in
theorem mm_pk0_140 : mm_pok "FairDesk" 140 2 79 0 0 := ⟨mm_mt79, rfl, mm_m 729 rfl rfl, mm_m 730 rfl rfl, mm_m 731 rfl rfl, ⟨mm_T5, 9, rfl⟩, rfl⟩
set_option maxRecDepth 100000 in
theorem mm_pk0_143 : mm_pok "FairDesk" 143 13 0 0 0 := ⟨"the rooms were not divided", by decide⟩
set_option maxRecDepth 100000 in
theorem mm_pk0_145 : mm_pok "FairDesk" 145 2 80 1 0 := ⟨mm_mt80, rfl, mm_m 734 rfl rfl, mm_m 735 rfl rfl, mm_m 736 rfl rfl, ⟨mm_T5, 9, rfl⟩, rfl⟩
set_option maxRecDepth 100000 in
theorem mm_pk0_148 : mm_pok "FairDesk" 148 2 81 1 0 := ⟨mm_mt81, rfl, mm_m 738 rfl rfl, mm_m 739 rfl rfl, mm_m 740 rfl rfl, ⟨mm_T5, 9, rfl⟩, rfl⟩
set_option maxRecDepth 100000 in
theorem mm_pk0_152 : mm_pok "FairDesk" 152 2 49 1 0 := ⟨mm_mt49, rfl, mm_m 742 rfl rfl, mm_m 743 rfl rfl, mm_m 744 rfl rfl, ⟨mm_T3, 2, rfl⟩, rfl⟩
set_option maxRecDepth 100000 in
theorem mm_pk0_158 : mm_pok "FairDesk" 158 13 0 0 0 := ⟨"a cake's length is 1 to 16", by decide⟩
set_option maxRecDepth 100000 in
theorem mm_pk0_160 : mm_pok "FairDesk" 160 2 29 1 0 := ⟨mm_mt29, rfl, mm_m 754 rfl rfl, mm_m 484 rfl rfl, mm_m 485 rfl rfl, ⟨mm_T2, 12, rfl⟩, rfl⟩
set_option maxRecDepth 100000 in
theorem mm_pk0_163 : mm_pok "FairDesk" 163 13 0 0 0 := ⟨"a density is 0 to 12", by decide⟩
set_option maxRecDepth 100000 in
theorem mm_pk0_165 : mm_pok "FairDesk" 165 13 0 0 0 := ⟨"no such person or part of the cake", by decide⟩
set_option maxRecDepth 100000 in
theorem mm_pk0_167 : mm_pok "FairDesk" 167 2 30 3 0 := ⟨mm_mt30, rfl, mm_m 764 rfl rfl, mm_m 765 rfl rfl, mm_m 766 rfl rfl, ⟨mm_T2, 12, rfl⟩, rfl⟩
set_option maxRecDepth 100000 in
theorem mm_pk0_170 : mm_pok "FairDesk" 170 2 39 0 0 := ⟨mm_mt39, rfl, mm_m 311 rfl rfl, mm_m 312 rfl rfl, mm_m 313 rfl rfl, ⟨mm_T2, 12, rfl⟩, rfl⟩
set_option maxRecDepth 100000 in
theorem mm_pk0_173 : mm_pok "FairDesk" 173 2 35 0 0 := ⟨mm_mt35, rfl, mm_m 372 rfl rfl, mm_m 373 rfl rfl, mm_m 374 rfl rfl, ⟨mm_T2, 12, rfl⟩, rfl⟩
set_option maxRecDepth 100000 in
theorem mm_pk0_176 : mm_pok "FairDesk" 176 2 31 0 0 := ⟨mm_mt31, rfl, mm_m 775 rfl rfl, mm_m 776 rfl rfl, mm_m 777 rfl rfl, ⟨mm_T2, 12, rfl⟩, rfl⟩
set_option maxRecDepth 100000 in
theorem mm_pk0_179 : mm_pok "FairDesk" 179 13 0 0 0 := ⟨"the cake is not cut", by decide⟩
set_option maxRecDepth 100000 in
theorem mm_pk0_181 : mm_pok "FairDesk" 181 2 32 1 0 := ⟨mm_mt32, rfl, mm_m 780 rfl rfl, mm_m 781 rfl rfl, mm_m 782 rfl rfl, ⟨mm_T2, 12, rfl⟩, rfl⟩
set_option maxRecDepth 100000 in
theorem mm_pk0_184 : mm_pok "FairDesk" 184 2 33 1 0 := ⟨mm_mt33, rfl, mm_m 784 rfl rfl, mm_m 785 rfl rfl, mm_m 786 rfl rfl, ⟨mm_T2, 12, rfl⟩, rfl⟩
set_option maxRecDepth 100000 in
theorem mm_pk0_187 : mm_pok "FairDesk" 187 2 34 2 0 := ⟨mm_mt34, rfl, mm_m 795 rfl rfl, mm_m 796 rfl rfl, mm_m 797 rfl rfl, ⟨mm_T2, 12, rfl⟩, rfl⟩
set_option maxRecDepth 100000 in
theorem mm_pk0_191 : mm_pok "FairDesk" 191 2 57 0 0 := ⟨mm_mt57, rfl, mm_m 513 rfl rfl, mm_m 514 rfl rfl, mm_m 515 rfl rfl, ⟨mm_T4, 8, rfl⟩, rfl⟩
set_option maxRecDepth 100000 in
theorem mm_pp0 : ∀ q ∈ mm_p0, mm_pok "FairDesk" q.1 q.2.1 q.2.2.1 q.2.2.2.1 q.2.2.2.2 := List.forall_mem_cons.mpr ⟨mm_pk0_1, List.forall_mem_cons.mpr ⟨mm_pk0_7, List.forall_mem_cons.mpr ⟨mm_pk0_9, List.forall_mem_cons.mpr ⟨mm_pk0_10, List.forall_mem_cons.mpr ⟨mm_pk0_16, List.forall_mem_cons.mpr ⟨mm_pk0_18, List.forall_mem_cons.mpr ⟨mm_pk0_19, List.forall_mem_cons.mpr ⟨mm_pk0_23, List.forall_mem_cons.mpr ⟨mm_pk0_25, List.forall_mem_cons.mpr ⟨mm_pk0_26, List.forall_mem_cons.mpr ⟨mm_pk0_30, List.forall_mem_cons.mpr ⟨mm_pk0_34, List.forall_mem_cons.mpr ⟨mm_pk0_38, List.forall_mem_cons.mpr ⟨mm_pk0_40, List.forall_mem_cons.mpr ⟨mm_pk0_42, List.forall_mem_cons.mpr ⟨mm_pk0_45, List.forall_mem_cons.mpr ⟨mm_pk0_49, List.forall_mem_cons.mpr ⟨mm_pk0_50, List.forall_mem_cons.mpr ⟨mm_pk0_51, List.forall_mem_cons.mpr ⟨mm_pk0_53, List.forall_mem_cons.mpr ⟨mm_pk0_56, List.forall_mem_cons.mpr ⟨mm_pk0_58, List.forall_mem_cons.mpr ⟨mm_pk0_62, List.forall_mem_cons.mpr ⟨mm_pk0_65, List.forall_mem_cons.mpr ⟨mm_pk0_67, List.forall_mem_cons.mpr ⟨mm_pk0_69, List.forall_mem_cons.mpr ⟨mm_pk0_70, List.forall_mem_cons.mpr ⟨mm_pk0_74, List.forall_mem_cons.mpr ⟨mm_pk0_76, List.forall_mem_cons.mpr ⟨mm_pk0_79, List.forall_mem_cons.mpr ⟨mm_pk0_83, List.forall_mem_cons.mpr ⟨mm_pk0_87, List.forall_mem_cons.mpr ⟨mm_pk0_89, List.forall_mem_cons.mpr ⟨mm_pk0_91, List.forall_mem_cons.mpr ⟨mm_pk0_92, List.forall_mem_cons.mpr ⟨mm_pk0_96, List.forall_mem_cons.mpr ⟨mm_pk0_100, List.forall_mem_cons.mpr ⟨mm_pk0_102, List.forall_mem_cons.mpr ⟨mm_pk0_106, List.forall_mem_cons.mpr ⟨mm_pk0_109, List.forall_mem_cons.mpr ⟨mm_pk0_113, List.forall_mem_cons.mpr ⟨mm_pk0_115, List.forall_mem_cons.mpr ⟨mm_pk0_118, List.forall_mem_cons.mpr ⟨mm_pk0_119, List.forall_mem_cons.mpr ⟨mm_pk0_121, List.forall_mem_cons.mpr ⟨mm_pk0_123, List.forall_mem_cons.mpr ⟨mm_pk0_124, List.forall_mem_cons.mpr ⟨mm_pk0_125, List.forall_mem_cons.mpr ⟨mm_pk0_127, List.forall_mem_cons.mpr ⟨mm_pk0_130, List.forall_mem_cons.mpr ⟨mm_pk0_133, List.forall_mem_cons.mpr ⟨mm_pk0_135, List.forall_mem_cons.mpr ⟨mm_pk0_138, List.forall_mem_cons.mpr ⟨mm_pk0_140, List.forall_mem_cons.mpr ⟨mm_pk0_143, List.forall_mem_cons.mpr ⟨mm_pk0_145, List.forall_mem_cons.mpr ⟨mm_pk0_148, List.forall_mem_cons.mpr ⟨mm_pk0_152, List.forall_mem_cons.mpr ⟨mm_pk0_158, List.forall_mem_cons.mpr ⟨mm_pk0_160, List.forall_mem_cons.mpr ⟨mm_pk0_163, List.forall_mem_cons.mpr ⟨mm_pk0_165, List.forall_mem_cons.mpr ⟨mm_pk0_167, List.forall_mem_cons.mpr ⟨mm_pk0_170, List.forall_mem_cons.mpr ⟨mm_pk0_173, List.forall_mem_cons.mpr ⟨mm_pk0_176, List.forall_mem_cons.mpr ⟨mm_pk0_179, List.forall_mem_cons.mpr ⟨mm_pk0_181, List.forall_mem_cons.mpr ⟨mm_pk0_184, List.forall_mem_cons.mpr ⟨mm_pk0_187, List.forall_mem_cons.mpr ⟨mm_pk0_191, fun _ h => absurd h List.not_mem_nil⟩⟩⟩⟩⟩⟩⟩⟩⟩⟩⟩⟩⟩⟩⟩⟩⟩⟩⟩⟩⟩⟩⟩⟩⟩⟩⟩⟩⟩⟩⟩⟩⟩⟩⟩⟩⟩⟩⟩⟩⟩⟩⟩⟩⟩⟩⟩⟩⟩⟩⟩⟩⟩⟩⟩⟩⟩⟩⟩⟩⟩⟩⟩⟩⟩⟩⟩⟩⟩⟩⟩
set_option maxRecDepth 100000 in
theorem mm_pk1_3 : mm_pok "FairDesk$BundleSearch" 3 15 0 0 0 := ⟨mm_m 116 rfl rfl, mm_m 65 rfl rfl, mm_m 66 rfl rfl⟩
set_option maxRecDepth 100000 in
theorem mm_pk1_9 : mm_pok "FairDesk$BundleSearch" 9 1 1 4 0 := ⟨"FairDesk$BundleSearch", mm_T1, 5, rfl, by decide, rfl, rfl, mm_m 121 rfl rfl, fun _ => rfl⟩
set_option maxRecDepth 100000 in
theorem mm_pk1_15 : mm_pok "FairDesk$BundleSearch" 15 0 1 0 0 := ⟨"FairDesk$BundleSearch", mm_T1, 5, rfl, by decide, rfl, rfl, mm_m 117 rfl rfl, fun z => by cases z⟩
set_option maxRecDepth 100000 in
theorem mm_pk1_19 : mm_pok "FairDesk$BundleSearch" 19 0 1 1 0 := ⟨"FairDesk$BundleSearch", mm_T1, 5, rfl, by decide, rfl, rfl, mm_m 118 rfl rfl, fun z => by cases z⟩
set_option maxRecDepth 100000 in
theorem mm_pk1_22 : mm_pok "FairDesk$BundleSearch" 22 0 1 2 0 := ⟨"FairDesk$BundleSearch", mm_T1, 5, rfl, by decide, rfl, rfl, mm_m 119 rfl rfl, fun z => by cases z⟩
set_option maxRecDepth 100000 in
theorem mm_pk1_25 : mm_pok "FairDesk$BundleSearch" 25 0 1 3 0 := ⟨"FairDesk$BundleSearch", mm_T1, 5, rfl, by decide, rfl, rfl, mm_m 120 rfl rfl, fun z => by cases z⟩
set_option maxRecDepth 100000 in
theorem mm_pk1_28 : mm_pok "FairDesk$BundleSearch" 28 2 26 3 0 := ⟨mm_mt26, rfl, mm_m 656 rfl rfl, mm_m 658 rfl rfl, mm_m 18 rfl rfl, ⟨mm_T1, 5, rfl⟩, rfl⟩
set_option maxRecDepth 100000 in
theorem mm_pk1_32 : mm_pok "FairDesk$BundleSearch" 32 7 1 0 0 := ⟨mm_m 660 rfl rfl, mm_m 661 rfl rfl, mm_m 56 rfl rfl, mm_m 662 rfl rfl⟩
set_option maxRecDepth 100000 in
theorem mm_pp1 : ∀ q ∈ mm_p1, mm_pok "FairDesk$BundleSearch" q.1 q.2.1 q.2.2.1 q.2.2.2.1 q.2.2.2.2 := List.forall_mem_cons.mpr ⟨mm_pk1_3, List.forall_mem_cons.mpr ⟨mm_pk1_9, List.forall_mem_cons.mpr ⟨mm_pk1_15, List.forall_mem_cons.mpr ⟨mm_pk1_19, List.forall_mem_cons.mpr ⟨mm_pk1_22, List.forall_mem_cons.mpr ⟨mm_pk1_25, List.forall_mem_cons.mpr ⟨mm_pk1_28, List.forall_mem_cons.mpr ⟨mm_pk1_32, fun _ h => absurd h List.not_mem_nil⟩⟩⟩⟩⟩⟩⟩⟩
set_option maxRecDepth 100000 in
theorem mm_pk2_3 : mm_pok "FairDesk$CakeTable" 3 15 0 0 0 := ⟨mm_m 216 rfl rfl, mm_m 65 rfl rfl, mm_m 66 rfl rfl⟩
set_option maxRecDepth 100000 in
theorem mm_pk2_9 : mm_pok "FairDesk$CakeTable" 9 0 2 0 0 := ⟨"FairDesk$CakeTable", mm_T2, 12, rfl, by decide, rfl, rfl, mm_m 220 rfl rfl, fun z => by cases z⟩
set_option maxRecDepth 100000 in
theorem mm_pk2_15 : mm_pok "FairDesk$CakeTable" 15 0 2 1 0 := ⟨"FairDesk$CakeTable", mm_T2, 12, rfl, by decide, rfl, rfl, mm_m 221 rfl rfl, fun z => by cases z⟩
set_option maxRecDepth 100000 in
theorem mm_pk2_18 : mm_pok "FairDesk$CakeTable" 18 0 2 2 0 := ⟨"FairDesk$CakeTable", mm_T2, 12, rfl, by decide, rfl, rfl, mm_m 222 rfl rfl, fun z => by cases z⟩
set_option maxRecDepth 100000 in
theorem mm_pk2_22 : mm_pok "FairDesk$CakeTable" 22 10 54 50 0 := ⟨rfl, rfl, mm_m 217 rfl rfl, mm_m 110 rfl rfl⟩
set_option maxRecDepth 100000 in
theorem mm_pk2_24 : mm_pok "FairDesk$CakeTable" 24 1 2 3 0 := ⟨"FairDesk$CakeTable", mm_T2, 12, rfl, by decide, rfl, rfl, mm_m 223 rfl rfl, fun _ => rfl⟩
set_option maxRecDepth 100000 in
theorem mm_pk2_27 : mm_pok "FairDesk$CakeTable" 27 8 3 2 0 := ⟨"FairDesk$Fraction", mm_T3, rfl, mm_m 218 rfl rfl, mm_m 171 rfl rfl, mm_m 48 rfl rfl⟩
set_option maxRecDepth 100000 in
theorem mm_pk2_29 : mm_pok "FairDesk$CakeTable" 29 1 2 4 0 := ⟨"FairDesk$CakeTable", mm_T2, 12, rfl, by decide, rfl, rfl, mm_m 224 rfl rfl, fun _ => rfl⟩
set_option maxRecDepth 100000 in
theorem mm_pk2_33 : mm_pok "FairDesk$CakeTable" 33 1 2 5 0 := ⟨"FairDesk$CakeTable", mm_T2, 12, rfl, by decide, rfl, rfl, mm_m 225 rfl rfl, fun _ => rfl⟩
set_option maxRecDepth 100000 in
theorem mm_pk2_36 : mm_pok "FairDesk$CakeTable" 36 1 2 6 0 := ⟨"FairDesk$CakeTable", mm_T2, 12, rfl, by decide, rfl, rfl, mm_m 226 rfl rfl, fun _ => rfl⟩
set_option maxRecDepth 100000 in
theorem mm_pk2_39 : mm_pok "FairDesk$CakeTable" 39 1 2 7 0 := ⟨"FairDesk$CakeTable", mm_T2, 12, rfl, by decide, rfl, rfl, mm_m 227 rfl rfl, fun _ => rfl⟩
set_option maxRecDepth 100000 in
theorem mm_pk2_43 : mm_pok "FairDesk$CakeTable" 43 1 2 8 0 := ⟨"FairDesk$CakeTable", mm_T2, 12, rfl, by decide, rfl, rfl, mm_m 228 rfl rfl, fun _ => rfl⟩
set_option maxRecDepth 100000 in
theorem mm_pk2_47 : mm_pok "FairDesk$CakeTable" 47 5 45 0 0 := ⟨mm_mt45, rfl, ⟨"FairDesk", by decide⟩, mm_m 173 rfl rfl, ⟨rfl, rfl⟩, rfl⟩
set_option maxRecDepth 100000 in
theorem mm_pk2_48 : mm_pok "FairDesk$CakeTable" 48 1 2 9 0 := ⟨"FairDesk$CakeTable", mm_T2, 12, rfl, by decide, rfl, rfl, mm_m 229 rfl rfl, fun _ => rfl⟩
set_option maxRecDepth 100000 in
theorem mm_pk2_52 : mm_pok "FairDesk$CakeTable" 52 1 2 10 0 := ⟨"FairDesk$CakeTable", mm_T2, 12, rfl, by decide, rfl, rfl, mm_m 230 rfl rfl, fun _ => rfl⟩
set_option maxRecDepth 100000 in
theorem mm_pk2_55 : mm_pok "FairDesk$CakeTable" 55 1 2 11 0 := ⟨"FairDesk$CakeTable", mm_T2, 12, rfl, by decide, rfl, rfl, mm_m 231 rfl rfl, fun _ => rfl⟩
set_option maxRecDepth 100000 in
theorem mm_pk2_58 : mm_pok "FairDesk$CakeTable" 58 2 29 1 0 := ⟨mm_mt29, rfl, mm_m 483 rfl rfl, mm_m 484 rfl rfl, mm_m 485 rfl rfl, ⟨mm_T2, 12, rfl⟩, rfl⟩
set_option maxRecDepth 100000 in
theorem mm_pk2_62 : mm_pok "FairDesk$CakeTable" 62 2 43 4 0 := ⟨mm_mt43, rfl, mm_m 329 rfl rfl, mm_m 331 rfl rfl, mm_m 6 rfl rfl, ⟨mm_T2, 12, rfl⟩, rfl⟩
set_option maxRecDepth 100000 in
theorem mm_pk2_66 : mm_pok "FairDesk$CakeTable" 66 2 46 2 0 := ⟨mm_mt46, rfl, mm_m 315 rfl rfl, mm_m 316 rfl rfl, mm_m 317 rfl rfl, ⟨mm_T3, 2, rfl⟩, rfl⟩
set_option maxRecDepth 100000 in
theorem mm_pk2_70 : mm_pok "FairDesk$CakeTable" 70 2 36 0 0 := ⟨mm_mt36, rfl, mm_m 376 rfl rfl, mm_m 378 rfl rfl, mm_m 10 rfl rfl, ⟨mm_T2, 12, rfl⟩, rfl⟩
set_option maxRecDepth 100000 in
theorem mm_pk2_73 : mm_pok "FairDesk$CakeTable" 73 2 37 0 0 := ⟨mm_mt37, rfl, mm_m 380 rfl rfl, mm_m 382 rfl rfl, mm_m 11 rfl rfl, ⟨mm_T2, 12, rfl⟩, rfl⟩
set_option maxRecDepth 100000 in
theorem mm_pk2_77 : mm_pok "FairDesk$CakeTable" 77 2 38 1 0 := ⟨mm_mt38, rfl, mm_m 384 rfl rfl, mm_m 386 rfl rfl, mm_m 12 rfl rfl, ⟨mm_T2, 12, rfl⟩, rfl⟩
set_option maxRecDepth 100000 in
theorem mm_pk2_80 : mm_pok "FairDesk$CakeTable" 80 2 44 2 0 := ⟨mm_mt44, rfl, mm_m 352 rfl rfl, mm_m 354 rfl rfl, mm_m 7 rfl rfl, ⟨mm_T2, 12, rfl⟩, rfl⟩
set_option maxRecDepth 100000 in
theorem mm_pk2_84 : mm_pok "FairDesk$CakeTable" 84 2 50 1 0 := ⟨mm_mt50, rfl, mm_m 368 rfl rfl, mm_m 369 rfl rfl, mm_m 370 rfl rfl, ⟨mm_T3, 2, rfl⟩, rfl⟩
set_option maxRecDepth 100000 in
theorem mm_pk2_88 : mm_pok "FairDesk$CakeTable" 88 2 48 1 0 := ⟨mm_mt48, rfl, mm_m 356 rfl rfl, mm_m 357 rfl rfl, mm_m 358 rfl rfl, ⟨mm_T3, 2, rfl⟩, rfl⟩
set_option maxRecDepth 100000 in
theorem mm_pk2_92 : mm_pok "FairDesk$CakeTable" 92 2 40 3 0 := ⟨mm_mt40, rfl, mm_m 325 rfl rfl, mm_m 327 rfl rfl, mm_m 5 rfl rfl, ⟨mm_T2, 12, rfl⟩, rfl⟩
set_option maxRecDepth 100000 in
theorem mm_pk2_96 : mm_pok "FairDesk$CakeTable" 96 2 47 2 0 := ⟨mm_mt47, rfl, mm_m 347 rfl rfl, mm_m 348 rfl rfl, mm_m 349 rfl rfl, ⟨mm_T3, 2, rfl⟩, rfl⟩
set_option maxRecDepth 100000 in
theorem mm_pk2_99 : mm_pok "FairDesk$CakeTable" 99 2 41 2 0 := ⟨mm_mt41, rfl, mm_m 360 rfl rfl, mm_m 362 rfl rfl, mm_m 8 rfl rfl, ⟨mm_T2, 12, rfl⟩, rfl⟩
set_option maxRecDepth 100000 in
theorem mm_pk2_103 : mm_pok "FairDesk$CakeTable" 103 2 42 2 0 := ⟨mm_mt42, rfl, mm_m 364 rfl rfl, mm_m 366 rfl rfl, mm_m 9 rfl rfl, ⟨mm_T2, 12, rfl⟩, rfl⟩
set_option maxRecDepth 100000 in
theorem mm_pk2_107 : mm_pok "FairDesk$CakeTable" 107 2 51 1 0 := ⟨mm_mt51, rfl, mm_m 333 rfl rfl, mm_m 334 rfl rfl, mm_m 335 rfl rfl, ⟨mm_T3, 2, rfl⟩, rfl⟩
set_option maxRecDepth 100000 in
theorem mm_pk2_111 : mm_pok "FairDesk$CakeTable" 111 2 52 1 0 := ⟨mm_mt52, rfl, mm_m 337 rfl rfl, mm_m 338 rfl rfl, mm_m 339 rfl rfl, ⟨mm_T3, 2, rfl⟩, rfl⟩
set_option maxRecDepth 100000 in
theorem mm_pk2_115 : mm_pok "FairDesk$CakeTable" 115 7 3 0 0 := ⟨mm_m 341 rfl rfl, mm_m 342 rfl rfl, mm_m 56 rfl rfl, mm_m 343 rfl rfl⟩
set_option maxRecDepth 100000 in
theorem mm_pk2_121 : mm_pok "FairDesk$CakeTable" 121 7 2 0 0 := ⟨mm_m 344 rfl rfl, mm_m 345 rfl rfl, mm_m 56 rfl rfl, mm_m 346 rfl rfl⟩
set_option maxRecDepth 100000 in
theorem mm_pk2_100027 : mm_pok "FairDesk$CakeTable" 100027 9 53 0 0 := ⟨3, "FairDesk$Fraction", 27, rfl, rfl, rfl, mm_m 218 rfl rfl, rfl⟩
set_option maxRecDepth 100000 in
theorem mm_pp2 : ∀ q ∈ mm_p2, mm_pok "FairDesk$CakeTable" q.1 q.2.1 q.2.2.1 q.2.2.2.1 q.2.2.2.2 := List.forall_mem_cons.mpr ⟨mm_pk2_3, List.forall_mem_cons.mpr ⟨mm_pk2_9, List.forall_mem_cons.mpr ⟨mm_pk2_15, List.forall_mem_cons.mpr ⟨mm_pk2_18, List.forall_mem_cons.mpr ⟨mm_pk2_22, List.forall_mem_cons.mpr ⟨mm_pk2_24, List.forall_mem_cons.mpr ⟨mm_pk2_27, List.forall_mem_cons.mpr ⟨mm_pk2_29, List.forall_mem_cons.mpr ⟨mm_pk2_33, List.forall_mem_cons.mpr ⟨mm_pk2_36, List.forall_mem_cons.mpr ⟨mm_pk2_39, List.forall_mem_cons.mpr ⟨mm_pk2_43, List.forall_mem_cons.mpr ⟨mm_pk2_47, List.forall_mem_cons.mpr ⟨mm_pk2_48, List.forall_mem_cons.mpr ⟨mm_pk2_52, List.forall_mem_cons.mpr ⟨mm_pk2_55, List.forall_mem_cons.mpr ⟨mm_pk2_58, List.forall_mem_cons.mpr ⟨mm_pk2_62, List.forall_mem_cons.mpr ⟨mm_pk2_66, List.forall_mem_cons.mpr ⟨mm_pk2_70, List.forall_mem_cons.mpr ⟨mm_pk2_73, List.forall_mem_cons.mpr ⟨mm_pk2_77, List.forall_mem_cons.mpr ⟨mm_pk2_80, List.forall_mem_cons.mpr ⟨mm_pk2_84, List.forall_mem_cons.mpr ⟨mm_pk2_88, List.forall_mem_cons.mpr ⟨mm_pk2_92, List.forall_mem_cons.mpr ⟨mm_pk2_96, List.forall_mem_cons.mpr ⟨mm_pk2_99, List.forall_mem_cons.mpr ⟨mm_pk2_103, List.forall_mem_cons.mpr ⟨mm_pk2_107, List.forall_mem_cons.mpr ⟨mm_pk2_111, List.forall_mem_cons.mpr ⟨mm_pk2_115, List.forall_mem_cons.mpr ⟨mm_pk2_121, List.forall_mem_cons.mpr ⟨mm_pk2_100027, fun _ h => absurd h List.not_mem_nil⟩⟩⟩⟩⟩⟩⟩⟩⟩⟩⟩⟩⟩⟩⟩⟩⟩⟩⟩⟩⟩⟩⟩⟩⟩⟩⟩⟩⟩⟩⟩⟩⟩⟩
set_option maxRecDepth 100000 in
theorem mm_pk3_1 : mm_pok "FairDesk$Fraction" 1 15 0 0 0 := ⟨mm_m 175 rfl rfl, mm_m 65 rfl rfl, mm_m 66 rfl rfl⟩
set_option maxRecDepth 100000 in
theorem mm_pk3_7 : mm_pok "FairDesk$Fraction" 7 0 3 0 0 := ⟨"FairDesk$Fraction", mm_T3, 2, rfl, by decide, rfl, rfl, mm_m 176 rfl rfl, fun z => by cases z⟩
set_option maxRecDepth 100000 in
theorem mm_pk3_13 : mm_pok "FairDesk$Fraction" 13 0 3 1 0 := ⟨"FairDesk$Fraction", mm_T3, 2, rfl, by decide, rfl, rfl, mm_m 177 rfl rfl, fun z => by cases z⟩
set_option maxRecDepth 100000 in
theorem mm_pk3_16 : mm_pok "FairDesk$Fraction" 16 7 4 0 0 := ⟨mm_m 319 rfl rfl, mm_m 320 rfl rfl, mm_m 56 rfl rfl, mm_m 321 rfl rfl⟩
set_option maxRecDepth 100000 in
theorem mm_pk3_22 : mm_pok "FairDesk$Fraction" 22 3 53 2 0 := ⟨mm_mt53, mm_m 322 rfl rfl, mm_m 323 rfl rfl, rfl⟩
set_option maxRecDepth 100000 in
theorem mm_pk3_26 : mm_pok "FairDesk$Fraction" 26 2 46 2 0 := ⟨mm_mt46, rfl, mm_m 351 rfl rfl, mm_m 316 rfl rfl, mm_m 317 rfl rfl, ⟨mm_T3, 2, rfl⟩, rfl⟩
set_option maxRecDepth 100000 in
theorem mm_pp3 : ∀ q ∈ mm_p3, mm_pok "FairDesk$Fraction" q.1 q.2.1 q.2.2.1 q.2.2.2.1 q.2.2.2.2 := List.forall_mem_cons.mpr ⟨mm_pk3_1, List.forall_mem_cons.mpr ⟨mm_pk3_7, List.forall_mem_cons.mpr ⟨mm_pk3_13, List.forall_mem_cons.mpr ⟨mm_pk3_16, List.forall_mem_cons.mpr ⟨mm_pk3_22, List.forall_mem_cons.mpr ⟨mm_pk3_26, fun _ h => absurd h List.not_mem_nil⟩⟩⟩⟩⟩⟩
set_option maxRecDepth 100000 in
theorem mm_pk4_3 : mm_pok "FairDesk$Goods" 3 15 0 0 0 := ⟨mm_m 72 rfl rfl, mm_m 65 rfl rfl, mm_m 66 rfl rfl⟩
set_option maxRecDepth 100000 in
theorem mm_pk4_9 : mm_pok "FairDesk$Goods" 9 0 4 0 0 := ⟨"FairDesk$Goods", mm_T4, 8, rfl, by decide, rfl, rfl, mm_m 137 rfl rfl, fun z => by cases z⟩
set_option maxRecDepth 100000 in
theorem mm_pk4_15 : mm_pok "FairDesk$Goods" 15 0 4 1 0 := ⟨"FairDesk$Goods", mm_T4, 8, rfl, by decide, rfl, rfl, mm_m 138 rfl rfl, fun z => by cases z⟩
set_option maxRecDepth 100000 in
theorem mm_pk4_18 : mm_pok "FairDesk$Goods" 18 10 54 50 0 := ⟨rfl, rfl, mm_m 73 rfl rfl, mm_m 110 rfl rfl⟩
set_option maxRecDepth 100000 in
theorem mm_pk4_20 : mm_pok "FairDesk$Goods" 20 1 4 2 0 := ⟨"FairDesk$Goods", mm_T4, 8, rfl, by decide, rfl, rfl, mm_m 139 rfl rfl, fun _ => rfl⟩
set_option maxRecDepth 100000 in
theorem mm_pk4_23 : mm_pok "FairDesk$Goods" 23 1 4 3 0 := ⟨"FairDesk$Goods", mm_T4, 8, rfl, by decide, rfl, rfl, mm_m 140 rfl rfl, fun _ => rfl⟩
set_option maxRecDepth 100000 in
theorem mm_pk4_27 : mm_pok "FairDesk$Goods" 27 1 4 4 0 := ⟨"FairDesk$Goods", mm_T4, 8, rfl, by decide, rfl, rfl, mm_m 141 rfl rfl, fun _ => rfl⟩
set_option maxRecDepth 100000 in
theorem mm_pk4_30 : mm_pok "FairDesk$Goods" 30 1 4 5 0 := ⟨"FairDesk$Goods", mm_T4, 8, rfl, by decide, rfl, rfl, mm_m 142 rfl rfl, fun _ => rfl⟩
set_option maxRecDepth 100000 in
theorem mm_pk4_33 : mm_pok "FairDesk$Goods" 33 8 6 9 0 := ⟨"FairDesk$ProductSearch", mm_T6, rfl, mm_m 75 rfl rfl, mm_m 76 rfl rfl, mm_m 45 rfl rfl⟩
set_option maxRecDepth 100000 in
theorem mm_pk4_35 : mm_pok "FairDesk$Goods" 35 5 86 0 0 := ⟨mm_mt86, rfl, ⟨"FairDesk", by decide⟩, mm_m 78 rfl rfl, ⟨rfl, rfl⟩, rfl⟩
set_option maxRecDepth 100000 in
theorem mm_pk4_36 : mm_pok "FairDesk$Goods" 36 1 4 6 0 := ⟨"FairDesk$Goods", mm_T4, 8, rfl, by decide, rfl, rfl, mm_m 143 rfl rfl, fun _ => rfl⟩
set_option maxRecDepth 100000 in
theorem mm_pk4_40 : mm_pok "FairDesk$Goods" 40 8 1 5 0 := ⟨"FairDesk$BundleSearch", mm_T1, rfl, mm_m 111 rfl rfl, mm_m 112 rfl rfl, mm_m 46 rfl rfl⟩
set_option maxRecDepth 100000 in
theorem mm_pk4_42 : mm_pok "FairDesk$Goods" 42 5 24 0 0 := ⟨mm_mt24, rfl, ⟨"FairDesk", by decide⟩, mm_m 114 rfl rfl, ⟨rfl, rfl⟩, rfl⟩
set_option maxRecDepth 100000 in
theorem mm_pk4_43 : mm_pok "FairDesk$Goods" 43 1 4 7 0 := ⟨"FairDesk$Goods", mm_T4, 8, rfl, by decide, rfl, rfl, mm_m 144 rfl rfl, fun _ => rfl⟩
set_option maxRecDepth 100000 in
theorem mm_pk4_47 : mm_pok "FairDesk$Goods" 47 2 73 0 0 := ⟨mm_mt73, rfl, mm_m 133 rfl rfl, mm_m 135 rfl rfl, mm_m 0 rfl rfl, ⟨mm_T4, 8, rfl⟩, rfl⟩
set_option maxRecDepth 100000 in
theorem mm_pk4_50 : mm_pok "FairDesk$Goods" 50 2 56 1 0 := ⟨mm_mt56, rfl, mm_m 471 rfl rfl, mm_m 472 rfl rfl, mm_m 473 rfl rfl, ⟨mm_T4, 8, rfl⟩, rfl⟩
set_option maxRecDepth 100000 in
theorem mm_pk4_54 : mm_pok "FairDesk$Goods" 54 2 61 2 0 := ⟨mm_mt61, rfl, mm_m 291 rfl rfl, mm_m 292 rfl rfl, mm_m 293 rfl rfl, ⟨mm_T4, 8, rfl⟩, rfl⟩
set_option maxRecDepth 100000 in
theorem mm_pk4_58 : mm_pok "FairDesk$Goods" 58 2 63 2 0 := ⟨mm_mt63, rfl, mm_m 295 rfl rfl, mm_m 297 rfl rfl, mm_m 3 rfl rfl, ⟨mm_T4, 8, rfl⟩, rfl⟩
set_option maxRecDepth 100000 in
theorem mm_pk4_61 : mm_pok "FairDesk$Goods" 61 7 0 0 0 := ⟨mm_m 299 rfl rfl, mm_m 300 rfl rfl, mm_m 56 rfl rfl, mm_m 301 rfl rfl⟩
set_option maxRecDepth 100000 in
theorem mm_pk4_66 : mm_pok "FairDesk$Goods" 66 11 0 0 65536 := mm_m 565 rfl rfl
set_option maxRecDepth 100000 in
theorem mm_pk4_67 : mm_pok "FairDesk$Goods" 67 2 66 1 0 := ⟨mm_mt66, rfl, mm_m 549 rfl rfl, mm_m 551 rfl rfl, mm_m 16 rfl rfl, ⟨mm_T4, 8, rfl⟩, rfl⟩
set_option maxRecDepth 100000 in
theorem mm_pk4_71 : mm_pok "FairDesk$Goods" 71 2 68 0 0 := ⟨mm_mt68, rfl, mm_m 279 rfl rfl, mm_m 281 rfl rfl, mm_m 1 rfl rfl, ⟨mm_T4, 8, rfl⟩, rfl⟩
set_option maxRecDepth 100000 in
theorem mm_pk4_75 : mm_pok "FairDesk$Goods" 75 11 0 0 100000 := mm_m 302 rfl rfl
set_option maxRecDepth 100000 in
theorem mm_pk4_76 : mm_pok "FairDesk$Goods" 76 2 70 0 0 := ⟨mm_mt70, rfl, mm_m 303 rfl rfl, mm_m 305 rfl rfl, mm_m 4 rfl rfl, ⟨mm_T4, 8, rfl⟩, rfl⟩
set_option maxRecDepth 100000 in
theorem mm_pk4_79 : mm_pok "FairDesk$Goods" 79 2 69 1 0 := ⟨mm_mt69, rfl, mm_m 283 rfl rfl, mm_m 285 rfl rfl, mm_m 2 rfl rfl, ⟨mm_T4, 8, rfl⟩, rfl⟩
set_option maxRecDepth 100000 in
theorem mm_pk4_82 : mm_pok "FairDesk$Goods" 82 2 62 3 0 := ⟨mm_mt62, rfl, mm_m 287 rfl rfl, mm_m 288 rfl rfl, mm_m 289 rfl rfl, ⟨mm_T4, 8, rfl⟩, rfl⟩
set_option maxRecDepth 100000 in
theorem mm_pk4_86 : mm_pok "FairDesk$Goods" 86 2 87 4 0 := ⟨mm_mt87, rfl, mm_m 586 rfl rfl, mm_m 587 rfl rfl, mm_m 588 rfl rfl, ⟨mm_T6, 9, rfl⟩, rfl⟩
set_option maxRecDepth 100000 in
theorem mm_pk4_90 : mm_pok "FairDesk$Goods" 90 2 25 3 0 := ⟨mm_mt25, rfl, mm_m 652 rfl rfl, mm_m 653 rfl rfl, mm_m 654 rfl rfl, ⟨mm_T1, 5, rfl⟩, rfl⟩
set_option maxRecDepth 100000 in
theorem mm_pp4 : ∀ q ∈ mm_p4, mm_pok "FairDesk$Goods" q.1 q.2.1 q.2.2.1 q.2.2.2.1 q.2.2.2.2 := List.forall_mem_cons.mpr ⟨mm_pk4_3, List.forall_mem_cons.mpr ⟨mm_pk4_9, List.forall_mem_cons.mpr ⟨mm_pk4_15, List.forall_mem_cons.mpr ⟨mm_pk4_18, List.forall_mem_cons.mpr ⟨mm_pk4_20, List.forall_mem_cons.mpr ⟨mm_pk4_23, List.forall_mem_cons.mpr ⟨mm_pk4_27, List.forall_mem_cons.mpr ⟨mm_pk4_30, List.forall_mem_cons.mpr ⟨mm_pk4_33, List.forall_mem_cons.mpr ⟨mm_pk4_35, List.forall_mem_cons.mpr ⟨mm_pk4_36, List.forall_mem_cons.mpr ⟨mm_pk4_40, List.forall_mem_cons.mpr ⟨mm_pk4_42, List.forall_mem_cons.mpr ⟨mm_pk4_43, List.forall_mem_cons.mpr ⟨mm_pk4_47, List.forall_mem_cons.mpr ⟨mm_pk4_50, List.forall_mem_cons.mpr ⟨mm_pk4_54, List.forall_mem_cons.mpr ⟨mm_pk4_58, List.forall_mem_cons.mpr ⟨mm_pk4_61, List.forall_mem_cons.mpr ⟨mm_pk4_66, List.forall_mem_cons.mpr ⟨mm_pk4_67, List.forall_mem_cons.mpr ⟨mm_pk4_71, List.forall_mem_cons.mpr ⟨mm_pk4_75, List.forall_mem_cons.mpr ⟨mm_pk4_76, List.forall_mem_cons.mpr ⟨mm_pk4_79, List.forall_mem_cons.mpr ⟨mm_pk4_82, List.forall_mem_cons.mpr ⟨mm_pk4_86, List.forall_mem_cons.mpr ⟨mm_pk4_90, fun _ h => absurd h List.not_mem_nil⟩⟩⟩⟩⟩⟩⟩⟩⟩⟩⟩⟩⟩⟩⟩⟩⟩⟩⟩⟩⟩⟩⟩⟩⟩⟩⟩⟩
set_option maxRecDepth 100000 in
theorem mm_pk5_3 : mm_pok "FairDesk$House" 3 15 0 0 0 := ⟨mm_m 167 rfl rfl, mm_m 65 rfl rfl, mm_m 66 rfl rfl⟩
set_option maxRecDepth 100000 in
theorem mm_pk5_9 : mm_pok "FairDesk$House" 9 0 5 0 0 := ⟨"FairDesk$House", mm_T5, 9, rfl, by decide, rfl, rfl, mm_m 183 rfl rfl, fun z => by cases z⟩
set_option maxRecDepth 100000 in
theorem mm_pk5_15 : mm_pok "FairDesk$House" 15 0 5 1 0 := ⟨"FairDesk$House", mm_T5, 9, rfl, by decide, rfl, rfl, mm_m 184 rfl rfl, fun z => by cases z⟩
set_option maxRecDepth 100000 in
theorem mm_pk5_18 : mm_pok "FairDesk$House" 18 0 5 2 0 := ⟨"FairDesk$House", mm_T5, 9, rfl, by decide, rfl, rfl, mm_m 185 rfl rfl, fun z => by cases z⟩
set_option maxRecDepth 100000 in
theorem mm_pk5_22 : mm_pok "FairDesk$House" 22 10 54 50 0 := ⟨rfl, rfl, mm_m 168 rfl rfl, mm_m 110 rfl rfl⟩
set_option maxRecDepth 100000 in
theorem mm_pk5_24 : mm_pok "FairDesk$House" 24 1 5 4 0 := ⟨"FairDesk$House", mm_T5, 9, rfl, by decide, rfl, rfl, mm_m 187 rfl rfl, fun _ => rfl⟩
set_option maxRecDepth 100000 in
theorem mm_pk5_27 : mm_pok "FairDesk$House" 27 1 5 5 0 := ⟨"FairDesk$House", mm_T5, 9, rfl, by decide, rfl, rfl, mm_m 188 rfl rfl, fun _ => rfl⟩
set_option maxRecDepth 100000 in
theorem mm_pk5_31 : mm_pok "FairDesk$House" 31 1 5 6 0 := ⟨"FairDesk$House", mm_T5, 9, rfl, by decide, rfl, rfl, mm_m 189 rfl rfl, fun _ => rfl⟩
set_option maxRecDepth 100000 in
theorem mm_pk5_34 : mm_pok "FairDesk$House" 34 1 5 7 0 := ⟨"FairDesk$House", mm_T5, 9, rfl, by decide, rfl, rfl, mm_m 190 rfl rfl, fun _ => rfl⟩
set_option maxRecDepth 100000 in
theorem mm_pk5_37 : mm_pok "FairDesk$House" 37 8 3 2 0 := ⟨"FairDesk$Fraction", mm_T3, rfl, mm_m 169 rfl rfl, mm_m 171 rfl rfl, mm_m 48 rfl rfl⟩
set_option maxRecDepth 100000 in
theorem mm_pk5_39 : mm_pok "FairDesk$House" 39 1 5 8 0 := ⟨"FairDesk$House", mm_T5, 9, rfl, by decide, rfl, rfl, mm_m 191 rfl rfl, fun _ => rfl⟩
set_option maxRecDepth 100000 in
theorem mm_pk5_43 : mm_pok "FairDesk$House" 43 5 45 0 0 := ⟨mm_mt45, rfl, ⟨"FairDesk", by decide⟩, mm_m 173 rfl rfl, ⟨rfl, rfl⟩, rfl⟩
set_option maxRecDepth 100000 in
theorem mm_pk5_44 : mm_pok "FairDesk$House" 44 0 5 3 0 := ⟨"FairDesk$House", mm_T5, 9, rfl, by decide, rfl, rfl, mm_m 186 rfl rfl, fun z => by cases z⟩
set_option maxRecDepth 100000 in
theorem mm_pk5_47 : mm_pok "FairDesk$House" 47 2 83 3 0 := ⟨mm_mt83, rfl, mm_m 706 rfl rfl, mm_m 708 rfl rfl, mm_m 19 rfl rfl, ⟨mm_T5, 9, rfl⟩, rfl⟩
set_option maxRecDepth 100000 in
theorem mm_pk5_51 : mm_pok "FairDesk$House" 51 2 84 0 0 := ⟨mm_mt84, rfl, mm_m 711 rfl rfl, mm_m 713 rfl rfl, mm_m 20 rfl rfl, ⟨mm_T5, 9, rfl⟩, rfl⟩
set_option maxRecDepth 100000 in
theorem mm_pk5_54 : mm_pok "FairDesk$House" 54 2 85 0 0 := ⟨mm_mt85, rfl, mm_m 716 rfl rfl, mm_m 718 rfl rfl, mm_m 21 rfl rfl, ⟨mm_T5, 9, rfl⟩, rfl⟩
set_option maxRecDepth 100000 in
theorem mm_pk5_57 : mm_pok "FairDesk$House" 57 7 5 0 0 := ⟨mm_m 710 rfl rfl, mm_m 600 rfl rfl, mm_m 599 rfl rfl, mm_m 58 rfl rfl⟩
set_option maxRecDepth 100000 in
theorem mm_pk5_63 : mm_pok "FairDesk$House" 63 7 0 0 0 := ⟨mm_m 715 rfl rfl, mm_m 300 rfl rfl, mm_m 56 rfl rfl, mm_m 301 rfl rfl⟩
set_option maxRecDepth 100000 in
theorem mm_pk5_69 : mm_pok "FairDesk$House" 69 2 46 2 0 := ⟨mm_mt46, rfl, mm_m 720 rfl rfl, mm_m 316 rfl rfl, mm_m 317 rfl rfl, ⟨mm_T3, 2, rfl⟩, rfl⟩
set_option maxRecDepth 100000 in
theorem mm_pk5_100037 : mm_pok "FairDesk$House" 100037 9 53 0 0 := ⟨3, "FairDesk$Fraction", 37, rfl, rfl, rfl, mm_m 169 rfl rfl, rfl⟩
set_option maxRecDepth 100000 in
theorem mm_pp5 : ∀ q ∈ mm_p5, mm_pok "FairDesk$House" q.1 q.2.1 q.2.2.1 q.2.2.2.1 q.2.2.2.2 := List.forall_mem_cons.mpr ⟨mm_pk5_3, List.forall_mem_cons.mpr ⟨mm_pk5_9, List.forall_mem_cons.mpr ⟨mm_pk5_15, List.forall_mem_cons.mpr ⟨mm_pk5_18, List.forall_mem_cons.mpr ⟨mm_pk5_22, List.forall_mem_cons.mpr ⟨mm_pk5_24, List.forall_mem_cons.mpr ⟨mm_pk5_27, List.forall_mem_cons.mpr ⟨mm_pk5_31, List.forall_mem_cons.mpr ⟨mm_pk5_34, List.forall_mem_cons.mpr ⟨mm_pk5_37, List.forall_mem_cons.mpr ⟨mm_pk5_39, List.forall_mem_cons.mpr ⟨mm_pk5_43, List.forall_mem_cons.mpr ⟨mm_pk5_44, List.forall_mem_cons.mpr ⟨mm_pk5_47, List.forall_mem_cons.mpr ⟨mm_pk5_51, List.forall_mem_cons.mpr ⟨mm_pk5_54, List.forall_mem_cons.mpr ⟨mm_pk5_57, List.forall_mem_cons.mpr ⟨mm_pk5_63, List.forall_mem_cons.mpr ⟨mm_pk5_69, List.forall_mem_cons.mpr ⟨mm_pk5_100037, fun _ h => absurd h List.not_mem_nil⟩⟩⟩⟩⟩⟩⟩⟩⟩⟩⟩⟩⟩⟩⟩⟩⟩⟩⟩⟩
set_option maxRecDepth 100000 in
theorem mm_pk6_3 : mm_pok "FairDesk$ProductSearch" 3 15 0 0 0 := ⟨mm_m 80 rfl rfl, mm_m 65 rfl rfl, mm_m 66 rfl rfl⟩
set_option maxRecDepth 100000 in
theorem mm_pk6_9 : mm_pok "FairDesk$ProductSearch" 9 1 6 6 0 := ⟨"FairDesk$ProductSearch", mm_T6, 9, rfl, by decide, rfl, rfl, mm_m 88 rfl rfl, fun _ => rfl⟩
set_option maxRecDepth 100000 in
theorem mm_pk6_15 : mm_pok "FairDesk$ProductSearch" 15 1 6 7 0 := ⟨"FairDesk$ProductSearch", mm_T6, 9, rfl, by decide, rfl, rfl, mm_m 89 rfl rfl, fun _ => rfl⟩
set_option maxRecDepth 100000 in
theorem mm_pk6_18 : mm_pok "FairDesk$ProductSearch" 18 10 54 50 0 := ⟨rfl, rfl, mm_m 81 rfl rfl, mm_m 110 rfl rfl⟩
set_option maxRecDepth 100000 in
theorem mm_pk6_20 : mm_pok "FairDesk$ProductSearch" 20 1 6 8 0 := ⟨"FairDesk$ProductSearch", mm_T6, 9, rfl, by decide, rfl, rfl, mm_m 90 rfl rfl, fun _ => rfl⟩
set_option maxRecDepth 100000 in
theorem mm_pk6_23 : mm_pok "FairDesk$ProductSearch" 23 0 6 0 0 := ⟨"FairDesk$ProductSearch", mm_T6, 9, rfl, by decide, rfl, rfl, mm_m 82 rfl rfl, fun z => by cases z⟩
set_option maxRecDepth 100000 in
theorem mm_pk6_27 : mm_pok "FairDesk$ProductSearch" 27 0 6 1 0 := ⟨"FairDesk$ProductSearch", mm_T6, 9, rfl, by decide, rfl, rfl, mm_m 83 rfl rfl, fun z => by cases z⟩
set_option maxRecDepth 100000 in
theorem mm_pk6_30 : mm_pok "FairDesk$ProductSearch" 30 0 6 2 0 := ⟨"FairDesk$ProductSearch", mm_T6, 9, rfl, by decide, rfl, rfl, mm_m 84 rfl rfl, fun z => by cases z⟩
set_option maxRecDepth 100000 in
theorem mm_pk6_33 : mm_pok "FairDesk$ProductSearch" 33 0 6 3 0 := ⟨"FairDesk$ProductSearch", mm_T6, 9, rfl, by decide, rfl, rfl, mm_m 85 rfl rfl, fun z => by cases z⟩
set_option maxRecDepth 100000 in
theorem mm_pk6_36 : mm_pok "FairDesk$ProductSearch" 36 0 6 4 0 := ⟨"FairDesk$ProductSearch", mm_T6, 9, rfl, by decide, rfl, rfl, mm_m 86 rfl rfl, fun z => by cases z⟩
set_option maxRecDepth 100000 in
theorem mm_pk6_39 : mm_pok "FairDesk$ProductSearch" 39 0 6 5 0 := ⟨"FairDesk$ProductSearch", mm_T6, 9, rfl, by decide, rfl, rfl, mm_m 87 rfl rfl, fun z => by cases z⟩
set_option maxRecDepth 100000 in
theorem mm_pk6_43 : mm_pok "FairDesk$ProductSearch" 43 2 88 1 0 := ⟨mm_mt88, rfl, mm_m 590 rfl rfl, mm_m 592 rfl rfl, mm_m 17 rfl rfl, ⟨mm_T6, 9, rfl⟩, rfl⟩
set_option maxRecDepth 100000 in
theorem mm_pk6_47 : mm_pok "FairDesk$ProductSearch" 47 3 89 2 0 := ⟨mm_mt89, mm_m 594 rfl rfl, mm_m 595 rfl rfl, rfl⟩
set_option maxRecDepth 100000 in
theorem mm_pk6_51 : mm_pok "FairDesk$ProductSearch" 51 7 5 0 0 := ⟨mm_m 598 rfl rfl, mm_m 600 rfl rfl, mm_m 599 rfl rfl, mm_m 58 rfl rfl⟩
set_option maxRecDepth 100000 in
theorem mm_pk6_57 : mm_pok "FairDesk$ProductSearch" 57 12 0 0 1000000000000000000 := mm_m 597 rfl rfl
set_option maxRecDepth 100000 in
theorem mm_pp6 : ∀ q ∈ mm_p6, mm_pok "FairDesk$ProductSearch" q.1 q.2.1 q.2.2.1 q.2.2.2.1 q.2.2.2.2 := List.forall_mem_cons.mpr ⟨mm_pk6_3, List.forall_mem_cons.mpr ⟨mm_pk6_9, List.forall_mem_cons.mpr ⟨mm_pk6_15, List.forall_mem_cons.mpr ⟨mm_pk6_18, List.forall_mem_cons.mpr ⟨mm_pk6_20, List.forall_mem_cons.mpr ⟨mm_pk6_23, List.forall_mem_cons.mpr ⟨mm_pk6_27, List.forall_mem_cons.mpr ⟨mm_pk6_30, List.forall_mem_cons.mpr ⟨mm_pk6_33, List.forall_mem_cons.mpr ⟨mm_pk6_36, List.forall_mem_cons.mpr ⟨mm_pk6_39, List.forall_mem_cons.mpr ⟨mm_pk6_43, List.forall_mem_cons.mpr ⟨mm_pk6_47, List.forall_mem_cons.mpr ⟨mm_pk6_51, List.forall_mem_cons.mpr ⟨mm_pk6_57, fun _ h => absurd h List.not_mem_nil⟩⟩⟩⟩⟩⟩⟩⟩⟩⟩⟩⟩⟩⟩⟩
set_option maxRecDepth 100000 in
theorem mm_pk7_1 : mm_pok "FairDeskModel" 1 15 0 0 0 := ⟨mm_m 804 rfl rfl, mm_m 65 rfl rfl, mm_m 66 rfl rfl⟩
set_option maxRecDepth 100000 in
theorem mm_pk7_7 : mm_pok "FairDeskModel" 7 0 7 0 0 := ⟨"FairDeskModel", mm_T7, 27, rfl, by decide, rfl, rfl, mm_m 809 rfl rfl, fun z => by cases z⟩
set_option maxRecDepth 100000 in
theorem mm_pk7_13 : mm_pok "FairDeskModel" 13 0 7 1 0 := ⟨"FairDeskModel", mm_T7, 27, rfl, by decide, rfl, rfl, mm_m 810 rfl rfl, fun z => by cases z⟩
set_option maxRecDepth 100000 in
theorem mm_pk7_16 : mm_pok "FairDeskModel" 16 0 7 2 0 := ⟨"FairDeskModel", mm_T7, 27, rfl, by decide, rfl, rfl, mm_m 811 rfl rfl, fun z => by cases z⟩
set_option maxRecDepth 100000 in
theorem mm_pk7_19 : mm_pok "FairDeskModel" 19 1 7 3 0 := ⟨"FairDeskModel", mm_T7, 27, rfl, by decide, rfl, rfl, mm_m 812 rfl rfl, fun _ => rfl⟩
set_option maxRecDepth 100000 in
theorem mm_pk7_23 : mm_pok "FairDeskModel" 23 1 7 4 0 := ⟨"FairDeskModel", mm_T7, 27, rfl, by decide, rfl, rfl, mm_m 813 rfl rfl, fun _ => rfl⟩
set_option maxRecDepth 100000 in
theorem mm_pk7_26 : mm_pok "FairDeskModel" 26 1 7 5 0 := ⟨"FairDeskModel", mm_T7, 27, rfl, by decide, rfl, rfl, mm_m 814 rfl rfl, fun _ => rfl⟩
set_option maxRecDepth 100000 in
theorem mm_pk7_29 : mm_pok "FairDeskModel" 29 1 7 6 0 := ⟨"FairDeskModel", mm_T7, 27, rfl, by decide, rfl, rfl, mm_m 815 rfl rfl, fun _ => rfl⟩
set_option maxRecDepth 100000 in
theorem mm_pk7_32 : mm_pok "FairDeskModel" 32 1 7 7 0 := ⟨"FairDeskModel", mm_T7, 27, rfl, by decide, rfl, rfl, mm_m 816 rfl rfl, fun _ => rfl⟩
set_option maxRecDepth 100000 in
theorem mm_pk7_35 : mm_pok "FairDeskModel" 35 0 7 8 0 := ⟨"FairDeskModel", mm_T7, 27, rfl, by decide, rfl, rfl, mm_m 817 rfl rfl, fun z => by cases z⟩
set_option maxRecDepth 100000 in
theorem mm_pk7_38 : mm_pok "FairDeskModel" 38 0 7 9 0 := ⟨"FairDeskModel", mm_T7, 27, rfl, by decide, rfl, rfl, mm_m 818 rfl rfl, fun z => by cases z⟩
set_option maxRecDepth 100000 in
theorem mm_pk7_42 : mm_pok "FairDeskModel" 42 1 7 10 0 := ⟨"FairDeskModel", mm_T7, 27, rfl, by decide, rfl, rfl, mm_m 819 rfl rfl, fun _ => rfl⟩
set_option maxRecDepth 100000 in
theorem mm_pk7_45 : mm_pok "FairDeskModel" 45 1 7 11 0 := ⟨"FairDeskModel", mm_T7, 27, rfl, by decide, rfl, rfl, mm_m 820 rfl rfl, fun _ => rfl⟩
set_option maxRecDepth 100000 in
theorem mm_pk7_48 : mm_pok "FairDeskModel" 48 1 7 12 0 := ⟨"FairDeskModel", mm_T7, 27, rfl, by decide, rfl, rfl, mm_m 821 rfl rfl, fun _ => rfl⟩
set_option maxRecDepth 100000 in
theorem mm_pk7_51 : mm_pok "FairDeskModel" 51 1 7 13 0 := ⟨"FairDeskModel", mm_T7, 27, rfl, by decide, rfl, rfl, mm_m 822 rfl rfl, fun _ => rfl⟩
set_option maxRecDepth 100000 in
theorem mm_pk7_55 : mm_pok "FairDeskModel" 55 1 7 14 0 := ⟨"FairDeskModel", mm_T7, 27, rfl, by decide, rfl, rfl, mm_m 823 rfl rfl, fun _ => rfl⟩
set_option maxRecDepth 100000 in
theorem mm_pk7_58 : mm_pok "FairDeskModel" 58 0 7 15 0 := ⟨"FairDeskModel", mm_T7, 27, rfl, by decide, rfl, rfl, mm_m 824 rfl rfl, fun z => by cases z⟩
set_option maxRecDepth 100000 in
theorem mm_pk7_61 : mm_pok "FairDeskModel" 61 1 7 16 0 := ⟨"FairDeskModel", mm_T7, 27, rfl, by decide, rfl, rfl, mm_m 825 rfl rfl, fun _ => rfl⟩
set_option maxRecDepth 100000 in
theorem mm_pk7_64 : mm_pok "FairDeskModel" 64 0 7 17 0 := ⟨"FairDeskModel", mm_T7, 27, rfl, by decide, rfl, rfl, mm_m 826 rfl rfl, fun z => by cases z⟩
set_option maxRecDepth 100000 in
theorem mm_pk7_67 : mm_pok "FairDeskModel" 67 1 7 18 0 := ⟨"FairDeskModel", mm_T7, 27, rfl, by decide, rfl, rfl, mm_m 827 rfl rfl, fun _ => rfl⟩
set_option maxRecDepth 100000 in
theorem mm_pk7_70 : mm_pok "FairDeskModel" 70 1 7 19 0 := ⟨"FairDeskModel", mm_T7, 27, rfl, by decide, rfl, rfl, mm_m 828 rfl rfl, fun _ => rfl⟩
set_option maxRecDepth 100000 in
theorem mm_pk7_73 : mm_pok "FairDeskModel" 73 1 7 20 0 := ⟨"FairDeskModel", mm_T7, 27, rfl, by decide, rfl, rfl, mm_m 829 rfl rfl, fun _ => rfl⟩
set_option maxRecDepth 100000 in
theorem mm_pk7_76 : mm_pok "FairDeskModel" 76 1 7 21 0 := ⟨"FairDeskModel", mm_T7, 27, rfl, by decide, rfl, rfl, mm_m 830 rfl rfl, fun _ => rfl⟩
set_option maxRecDepth 100000 in
theorem mm_pk7_79 : mm_pok "FairDeskModel" 79 1 7 22 0 := ⟨"FairDeskModel", mm_T7, 27, rfl, by decide, rfl, rfl, mm_m 831 rfl rfl, fun _ => rfl⟩
set_option maxRecDepth 100000 in
theorem mm_pk7_82 : mm_pok "FairDeskModel" 82 1 7 23 0 := ⟨"FairDeskModel", mm_T7, 27, rfl, by decide, rfl, rfl, mm_m 832 rfl rfl, fun _ => rfl⟩
set_option maxRecDepth 100000 in
theorem mm_pk7_85 : mm_pok "FairDeskModel" 85 0 7 24 0 := ⟨"FairDeskModel", mm_T7, 27, rfl, by decide, rfl, rfl, mm_m 833 rfl rfl, fun z => by cases z⟩
set_option maxRecDepth 100000 in
theorem mm_pk7_89 : mm_pok "FairDeskModel" 89 0 7 25 0 := ⟨"FairDeskModel", mm_T7, 27, rfl, by decide, rfl, rfl, mm_m 834 rfl rfl, fun z => by cases z⟩
set_option maxRecDepth 100000 in
theorem mm_pk7_92 : mm_pok "FairDeskModel" 92 1 7 26 0 := ⟨"FairDeskModel", mm_T7, 27, rfl, by decide, rfl, rfl, mm_m 835 rfl rfl, fun _ => rfl⟩
set_option maxRecDepth 100000 in
theorem mm_pk7_95 : mm_pok "FairDeskModel" 95 2 91 1 0 := ⟨mm_mt91, rfl, mm_m 805 rfl rfl, mm_m 807 rfl rfl, mm_m 22 rfl rfl, ⟨mm_T7, 27, rfl⟩, rfl⟩
set_option maxRecDepth 100000 in
theorem mm_pk7_99 : mm_pok "FairDeskModel" 99 2 92 2 0 := ⟨mm_mt92, rfl, mm_m 936 rfl rfl, mm_m 938 rfl rfl, mm_m 28 rfl rfl, ⟨mm_T7, 27, rfl⟩, rfl⟩
set_option maxRecDepth 100000 in
theorem mm_pk7_103 : mm_pok "FairDeskModel" 103 2 93 2 0 := ⟨mm_mt93, rfl, mm_m 932 rfl rfl, mm_m 934 rfl rfl, mm_m 27 rfl rfl, ⟨mm_T7, 27, rfl⟩, rfl⟩
set_option maxRecDepth 100000 in
theorem mm_pk7_107 : mm_pok "FairDeskModel" 107 11 0 0 65536 := mm_m 952 rfl rfl
set_option maxRecDepth 100000 in
theorem mm_pk7_108 : mm_pok "FairDeskModel" 108 3 100 2 0 := ⟨mm_mt100, mm_m 1003 rfl rfl, mm_m 1004 rfl rfl, rfl⟩
set_option maxRecDepth 100000 in
theorem mm_pk7_112 : mm_pok "FairDeskModel" 112 2 102 2 0 := ⟨mm_mt102, rfl, mm_m 999 rfl rfl, mm_m 1001 rfl rfl, mm_m 34 rfl rfl, ⟨mm_T7, 27, rfl⟩, rfl⟩
set_option maxRecDepth 100000 in
theorem mm_pk7_116 : mm_pok "FairDeskModel" 116 2 103 2 0 := ⟨mm_mt103, rfl, mm_m 1041 rfl rfl, mm_m 1043 rfl rfl, mm_m 39 rfl rfl, ⟨mm_T7, 27, rfl⟩, rfl⟩
set_option maxRecDepth 100000 in
theorem mm_pk7_119 : mm_pok "FairDeskModel" 119 2 104 5 0 := ⟨mm_mt104, rfl, mm_m 1037 rfl rfl, mm_m 1039 rfl rfl, mm_m 38 rfl rfl, ⟨mm_T7, 27, rfl⟩, rfl⟩
set_option maxRecDepth 100000 in
theorem mm_pk7_123 : mm_pok "FairDeskModel" 123 2 105 5 0 := ⟨mm_mt105, rfl, mm_m 1045 rfl rfl, mm_m 1047 rfl rfl, mm_m 40 rfl rfl, ⟨mm_T7, 27, rfl⟩, rfl⟩
set_option maxRecDepth 100000 in
theorem mm_pk7_126 : mm_pok "FairDeskModel" 126 2 107 5 0 := ⟨mm_mt107, rfl, mm_m 1026 rfl rfl, mm_m 1028 rfl rfl, mm_m 36 rfl rfl, ⟨mm_T7, 27, rfl⟩, rfl⟩
set_option maxRecDepth 100000 in
theorem mm_pk7_129 : mm_pok "FairDeskModel" 129 3 108 1 0 := ⟨mm_mt108, mm_m 1030 rfl rfl, mm_m 1031 rfl rfl, rfl⟩
set_option maxRecDepth 100000 in
theorem mm_pk7_133 : mm_pok "FairDeskModel" 133 2 110 2 0 := ⟨mm_mt110, rfl, mm_m 1033 rfl rfl, mm_m 1035 rfl rfl, mm_m 37 rfl rfl, ⟨mm_T7, 27, rfl⟩, rfl⟩
set_option maxRecDepth 100000 in
theorem mm_pk7_136 : mm_pok "FairDeskModel" 136 2 94 0 0 := ⟨mm_mt94, rfl, mm_m 904 rfl rfl, mm_m 906 rfl rfl, mm_m 23 rfl rfl, ⟨mm_T7, 27, rfl⟩, rfl⟩
set_option maxRecDepth 100000 in
theorem mm_pk7_139 : mm_pok "FairDeskModel" 139 2 112 1 0 := ⟨mm_mt112, rfl, mm_m 912 rfl rfl, mm_m 914 rfl rfl, mm_m 24 rfl rfl, ⟨mm_T7, 27, rfl⟩, rfl⟩
set_option maxRecDepth 100000 in
theorem mm_pk7_143 : mm_pok "FairDeskModel" 143 2 113 1 0 := ⟨mm_mt113, rfl, mm_m 916 rfl rfl, mm_m 918 rfl rfl, mm_m 25 rfl rfl, ⟨mm_T7, 27, rfl⟩, rfl⟩
set_option maxRecDepth 100000 in
theorem mm_pk7_146 : mm_pok "FairDeskModel" 146 2 95 0 0 := ⟨mm_mt95, rfl, mm_m 928 rfl rfl, mm_m 930 rfl rfl, mm_m 26 rfl rfl, ⟨mm_T7, 27, rfl⟩, rfl⟩
set_option maxRecDepth 100000 in
theorem mm_pk7_150 : mm_pok "FairDeskModel" 150 2 96 0 0 := ⟨mm_mt96, rfl, mm_m 940 rfl rfl, mm_m 942 rfl rfl, mm_m 29 rfl rfl, ⟨mm_T7, 27, rfl⟩, rfl⟩
set_option maxRecDepth 100000 in
theorem mm_pk7_153 : mm_pok "FairDeskModel" 153 2 97 0 0 := ⟨mm_mt97, rfl, mm_m 948 rfl rfl, mm_m 950 rfl rfl, mm_m 30 rfl rfl, ⟨mm_T7, 27, rfl⟩, rfl⟩
set_option maxRecDepth 100000 in
theorem mm_pk7_156 : mm_pok "FairDeskModel" 156 2 98 1 0 := ⟨mm_mt98, rfl, mm_m 953 rfl rfl, mm_m 955 rfl rfl, mm_m 31 rfl rfl, ⟨mm_T7, 27, rfl⟩, rfl⟩
set_option maxRecDepth 100000 in
theorem mm_pk7_159 : mm_pok "FairDeskModel" 159 11 0 0 100000 := mm_m 981 rfl rfl
set_option maxRecDepth 100000 in
theorem mm_pk7_160 : mm_pok "FairDeskModel" 160 11 0 0 600000 := mm_m 986 rfl rfl
set_option maxRecDepth 100000 in
theorem mm_pk7_161 : mm_pok "FairDeskModel" 161 2 99 1 0 := ⟨mm_mt99, rfl, mm_m 991 rfl rfl, mm_m 993 rfl rfl, mm_m 32 rfl rfl, ⟨mm_T7, 27, rfl⟩, rfl⟩
set_option maxRecDepth 100000 in
theorem mm_pk7_164 : mm_pok "FairDeskModel" 164 2 101 0 0 := ⟨mm_mt101, rfl, mm_m 995 rfl rfl, mm_m 997 rfl rfl, mm_m 33 rfl rfl, ⟨mm_T7, 27, rfl⟩, rfl⟩
set_option maxRecDepth 100000 in
theorem mm_pk7_167 : mm_pok "FairDeskModel" 167 2 109 0 0 := ⟨mm_mt109, rfl, mm_m 1022 rfl rfl, mm_m 1024 rfl rfl, mm_m 35 rfl rfl, ⟨mm_T7, 27, rfl⟩, rfl⟩
set_option maxRecDepth 100000 in
theorem mm_pk7_170 : mm_pok "FairDeskModel" 170 2 106 0 0 := ⟨mm_mt106, rfl, mm_m 1049 rfl rfl, mm_m 1051 rfl rfl, mm_m 41 rfl rfl, ⟨mm_T7, 27, rfl⟩, rfl⟩
set_option maxRecDepth 100000 in
theorem mm_pp7 : ∀ q ∈ mm_p7, mm_pok "FairDeskModel" q.1 q.2.1 q.2.2.1 q.2.2.2.1 q.2.2.2.2 := List.forall_mem_cons.mpr ⟨mm_pk7_1, List.forall_mem_cons.mpr ⟨mm_pk7_7, List.forall_mem_cons.mpr ⟨mm_pk7_13, List.forall_mem_cons.mpr ⟨mm_pk7_16, List.forall_mem_cons.mpr ⟨mm_pk7_19, List.forall_mem_cons.mpr ⟨mm_pk7_23, List.forall_mem_cons.mpr ⟨mm_pk7_26, List.forall_mem_cons.mpr ⟨mm_pk7_29, List.forall_mem_cons.mpr ⟨mm_pk7_32, List.forall_mem_cons.mpr ⟨mm_pk7_35, List.forall_mem_cons.mpr ⟨mm_pk7_38, List.forall_mem_cons.mpr ⟨mm_pk7_42, List.forall_mem_cons.mpr ⟨mm_pk7_45, List.forall_mem_cons.mpr ⟨mm_pk7_48, List.forall_mem_cons.mpr ⟨mm_pk7_51, List.forall_mem_cons.mpr ⟨mm_pk7_55, List.forall_mem_cons.mpr ⟨mm_pk7_58, List.forall_mem_cons.mpr ⟨mm_pk7_61, List.forall_mem_cons.mpr ⟨mm_pk7_64, List.forall_mem_cons.mpr ⟨mm_pk7_67, List.forall_mem_cons.mpr ⟨mm_pk7_70, List.forall_mem_cons.mpr ⟨mm_pk7_73, List.forall_mem_cons.mpr ⟨mm_pk7_76, List.forall_mem_cons.mpr ⟨mm_pk7_79, List.forall_mem_cons.mpr ⟨mm_pk7_82, List.forall_mem_cons.mpr ⟨mm_pk7_85, List.forall_mem_cons.mpr ⟨mm_pk7_89, List.forall_mem_cons.mpr ⟨mm_pk7_92, List.forall_mem_cons.mpr ⟨mm_pk7_95, List.forall_mem_cons.mpr ⟨mm_pk7_99, List.forall_mem_cons.mpr ⟨mm_pk7_103, List.forall_mem_cons.mpr ⟨mm_pk7_107, List.forall_mem_cons.mpr ⟨mm_pk7_108, List.forall_mem_cons.mpr ⟨mm_pk7_112, List.forall_mem_cons.mpr ⟨mm_pk7_116, List.forall_mem_cons.mpr ⟨mm_pk7_119, List.forall_mem_cons.mpr ⟨mm_pk7_123, List.forall_mem_cons.mpr ⟨mm_pk7_126, List.forall_mem_cons.mpr ⟨mm_pk7_129, List.forall_mem_cons.mpr ⟨mm_pk7_133, List.forall_mem_cons.mpr ⟨mm_pk7_136, List.forall_mem_cons.mpr ⟨mm_pk7_139, List.forall_mem_cons.mpr ⟨mm_pk7_143, List.forall_mem_cons.mpr ⟨mm_pk7_146, List.forall_mem_cons.mpr ⟨mm_pk7_150, List.forall_mem_cons.mpr ⟨mm_pk7_153, List.forall_mem_cons.mpr ⟨mm_pk7_156, List.forall_mem_cons.mpr ⟨mm_pk7_159, List.forall_mem_cons.mpr ⟨mm_pk7_160, List.forall_mem_cons.mpr ⟨mm_pk7_161, List.forall_mem_cons.mpr ⟨mm_pk7_164, List.forall_mem_cons.mpr ⟨mm_pk7_167, List.forall_mem_cons.mpr ⟨mm_pk7_170, fun _ h => absurd h List.not_mem_nil⟩⟩⟩⟩⟩⟩⟩⟩⟩⟩⟩⟩⟩⟩⟩⟩⟩⟩⟩⟩⟩⟩⟩⟩⟩⟩⟩⟩⟩⟩⟩⟩⟩⟩⟩⟩⟩⟩⟩⟩⟩⟩⟩⟩⟩⟩⟩⟩⟩⟩⟩⟩⟩
set_option maxRecDepth 100000 in
theorem mm_pk8_7 : mm_pok "FairDeskLaw" 7 2 1 1 0 := ⟨mm_mt1, rfl, mm_m 392 rfl rfl, mm_m 393 rfl rfl, mm_m 394 rfl rfl, ⟨mm_T0, 4, rfl⟩, rfl⟩
set_option maxRecDepth 100000 in
theorem mm_pk8_8 : mm_pok "FairDeskLaw" 8 8 0 4 0 := ⟨"FairDesk", mm_T0, rfl, mm_m 59 rfl rfl, mm_m 60 rfl rfl, mm_m 43 rfl rfl⟩
set_option maxRecDepth 100000 in
theorem mm_pk8_15 : mm_pok "FairDeskLaw" 15 2 2 1 0 := ⟨mm_mt2, rfl, mm_m 490 rfl rfl, mm_m 491 rfl rfl, mm_m 492 rfl rfl, ⟨mm_T0, 4, rfl⟩, rfl⟩
set_option maxRecDepth 100000 in
theorem mm_pk8_18 : mm_pok "FairDeskLaw" 18 2 3 3 0 := ⟨mm_mt3, rfl, mm_m 500 rfl rfl, mm_m 501 rfl rfl, mm_m 502 rfl rfl, ⟨mm_T0, 4, rfl⟩, rfl⟩
set_option maxRecDepth 100000 in
theorem mm_pk8_24 : mm_pok "FairDeskLaw" 24 2 4 1 0 := ⟨mm_mt4, rfl, mm_m 540 rfl rfl, mm_m 541 rfl rfl, mm_m 542 rfl rfl, ⟨mm_T0, 4, rfl⟩, rfl⟩
set_option maxRecDepth 100000 in
theorem mm_pk8_27 : mm_pok "FairDeskLaw" 27 2 6 0 0 := ⟨mm_mt6, rfl, mm_m 557 rfl rfl, mm_m 558 rfl rfl, mm_m 559 rfl rfl, ⟨mm_T0, 4, rfl⟩, rfl⟩
set_option maxRecDepth 100000 in
theorem mm_pk8_33 : mm_pok "FairDeskLaw" 33 2 7 2 0 := ⟨mm_mt7, rfl, mm_m 604 rfl rfl, mm_m 605 rfl rfl, mm_m 606 rfl rfl, ⟨mm_T0, 4, rfl⟩, rfl⟩
set_option maxRecDepth 100000 in
theorem mm_pk8_37 : mm_pok "FairDeskLaw" 37 2 8 1 0 := ⟨mm_mt8, rfl, mm_m 615 rfl rfl, mm_m 616 rfl rfl, mm_m 617 rfl rfl, ⟨mm_T0, 4, rfl⟩, rfl⟩
set_option maxRecDepth 100000 in
theorem mm_pk8_41 : mm_pok "FairDeskLaw" 41 2 9 2 0 := ⟨mm_mt9, rfl, mm_m 627 rfl rfl, mm_m 628 rfl rfl, mm_m 629 rfl rfl, ⟨mm_T0, 4, rfl⟩, rfl⟩
set_option maxRecDepth 100000 in
theorem mm_pk8_44 : mm_pok "FairDeskLaw" 44 2 10 3 0 := ⟨mm_mt10, rfl, mm_m 635 rfl rfl, mm_m 636 rfl rfl, mm_m 637 rfl rfl, ⟨mm_T0, 4, rfl⟩, rfl⟩
set_option maxRecDepth 100000 in
theorem mm_pk8_48 : mm_pok "FairDeskLaw" 48 2 11 1 0 := ⟨mm_mt11, rfl, mm_m 643 rfl rfl, mm_m 644 rfl rfl, mm_m 645 rfl rfl, ⟨mm_T0, 4, rfl⟩, rfl⟩
set_option maxRecDepth 100000 in
theorem mm_pk8_51 : mm_pok "FairDeskLaw" 51 2 12 3 0 := ⟨mm_mt12, rfl, mm_m 666 rfl rfl, mm_m 667 rfl rfl, mm_m 668 rfl rfl, ⟨mm_T0, 4, rfl⟩, rfl⟩
set_option maxRecDepth 100000 in
theorem mm_pk8_54 : mm_pok "FairDeskLaw" 54 2 13 1 0 := ⟨mm_mt13, rfl, mm_m 680 rfl rfl, mm_m 681 rfl rfl, mm_m 682 rfl rfl, ⟨mm_T0, 4, rfl⟩, rfl⟩
set_option maxRecDepth 100000 in
theorem mm_pk8_57 : mm_pok "FairDeskLaw" 57 2 14 0 0 := ⟨mm_mt14, rfl, mm_m 693 rfl rfl, mm_m 694 rfl rfl, mm_m 695 rfl rfl, ⟨mm_T0, 4, rfl⟩, rfl⟩
set_option maxRecDepth 100000 in
theorem mm_pk8_61 : mm_pok "FairDeskLaw" 61 2 15 2 0 := ⟨mm_mt15, rfl, mm_m 724 rfl rfl, mm_m 725 rfl rfl, mm_m 726 rfl rfl, ⟨mm_T0, 4, rfl⟩, rfl⟩
set_option maxRecDepth 100000 in
theorem mm_pk8_65 : mm_pok "FairDeskLaw" 65 2 16 1 0 := ⟨mm_mt16, rfl, mm_m 749 rfl rfl, mm_m 750 rfl rfl, mm_m 751 rfl rfl, ⟨mm_T0, 4, rfl⟩, rfl⟩
set_option maxRecDepth 100000 in
theorem mm_pk8_68 : mm_pok "FairDeskLaw" 68 2 17 3 0 := ⟨mm_mt17, rfl, mm_m 758 rfl rfl, mm_m 759 rfl rfl, mm_m 760 rfl rfl, ⟨mm_T0, 4, rfl⟩, rfl⟩
set_option maxRecDepth 100000 in
theorem mm_pk8_71 : mm_pok "FairDeskLaw" 71 2 19 2 0 := ⟨mm_mt19, rfl, mm_m 771 rfl rfl, mm_m 772 rfl rfl, mm_m 773 rfl rfl, ⟨mm_T0, 4, rfl⟩, rfl⟩
set_option maxRecDepth 100000 in
theorem mm_pk8_74 : mm_pok "FairDeskLaw" 74 2 20 3 0 := ⟨mm_mt20, rfl, mm_m 791 rfl rfl, mm_m 792 rfl rfl, mm_m 793 rfl rfl, ⟨mm_T0, 4, rfl⟩, rfl⟩
set_option maxRecDepth 100000 in
theorem mm_pk8_78 : mm_pok "FairDeskLaw" 78 4 0 0 0 := ⟨mm_mt0, rfl, mm_m 61 rfl rfl, mm_m 62 rfl rfl, ⟨rfl, rfl⟩, rfl⟩
set_option maxRecDepth 100000 in
theorem mm_pk8_79 : mm_pok "FairDeskLaw" 79 8 7 27 0 := ⟨"FairDeskModel", mm_T7, rfl, mm_m 799 rfl rfl, mm_m 800 rfl rfl, mm_m 50 rfl rfl⟩
set_option maxRecDepth 100000 in
theorem mm_pk8_81 : mm_pok "FairDeskLaw" 81 4 90 0 0 := ⟨mm_mt90, rfl, mm_m 801 rfl rfl, mm_m 802 rfl rfl, ⟨rfl, rfl⟩, rfl⟩
set_option maxRecDepth 100000 in
theorem mm_pk8_82 : mm_pok "FairDeskLaw" 82 3 134 2 0 := ⟨mm_mt134, mm_m 388 rfl rfl, mm_m 389 rfl rfl, rfl⟩
set_option maxRecDepth 100000 in
theorem mm_pk8_87 : mm_pok "FairDeskLaw" 87 2 114 1 0 := ⟨mm_mt114, rfl, mm_m 896 rfl rfl, mm_m 897 rfl rfl, mm_m 898 rfl rfl, ⟨mm_T7, 27, rfl⟩, rfl⟩
set_option maxRecDepth 100000 in
theorem mm_pk8_88 : mm_pok "FairDeskLaw" 88 2 111 0 0 := ⟨mm_mt111, rfl, mm_m 892 rfl rfl, mm_m 893 rfl rfl, mm_m 894 rfl rfl, ⟨mm_T7, 27, rfl⟩, rfl⟩
set_option maxRecDepth 100000 in
theorem mm_pk8_91 : mm_pok "FairDeskLaw" 91 3 135 2 0 := ⟨mm_mt135, mm_m 487 rfl rfl, mm_m 488 rfl rfl, rfl⟩
set_option maxRecDepth 100000 in
theorem mm_pk8_93 : mm_pok "FairDeskLaw" 93 2 115 1 0 := ⟨mm_mt115, rfl, mm_m 900 rfl rfl, mm_m 901 rfl rfl, mm_m 902 rfl rfl, ⟨mm_T7, 27, rfl⟩, rfl⟩
set_option maxRecDepth 100000 in
theorem mm_pk8_94 : mm_pok "FairDeskLaw" 94 3 136 5 0 := ⟨mm_mt136, mm_m 496 rfl rfl, mm_m 497 rfl rfl, rfl⟩
set_option maxRecDepth 100000 in
theorem mm_pk8_97 : mm_pok "FairDeskLaw" 97 2 116 3 0 := ⟨mm_mt116, rfl, mm_m 908 rfl rfl, mm_m 909 rfl rfl, mm_m 910 rfl rfl, ⟨mm_T7, 27, rfl⟩, rfl⟩
set_option maxRecDepth 100000 in
theorem mm_pk8_98 : mm_pok "FairDeskLaw" 98 3 137 2 0 := ⟨mm_mt137, mm_m 537 rfl rfl, mm_m 538 rfl rfl, rfl⟩
set_option maxRecDepth 100000 in
theorem mm_pk8_100 : mm_pok "FairDeskLaw" 100 2 117 1 0 := ⟨mm_mt117, rfl, mm_m 920 rfl rfl, mm_m 921 rfl rfl, mm_m 922 rfl rfl, ⟨mm_T7, 27, rfl⟩, rfl⟩
set_option maxRecDepth 100000 in
theorem mm_pk8_101 : mm_pok "FairDeskLaw" 101 2 5 0 0 := ⟨mm_mt5, rfl, mm_m 271 rfl rfl, mm_m 272 rfl rfl, mm_m 273 rfl rfl, ⟨mm_T0, 4, rfl⟩, rfl⟩
set_option maxRecDepth 100000 in
theorem mm_pk8_104 : mm_pok "FairDeskLaw" 104 2 118 0 0 := ⟨mm_mt118, rfl, mm_m 924 rfl rfl, mm_m 925 rfl rfl, mm_m 926 rfl rfl, ⟨mm_T7, 27, rfl⟩, rfl⟩
set_option maxRecDepth 100000 in
theorem mm_pk8_105 : mm_pok "FairDeskLaw" 105 3 138 2 0 := ⟨mm_mt138, mm_m 553 rfl rfl, mm_m 554 rfl rfl, rfl⟩
set_option maxRecDepth 100000 in
theorem mm_pk8_108 : mm_pok "FairDeskLaw" 108 2 119 0 0 := ⟨mm_mt119, rfl, mm_m 944 rfl rfl, mm_m 945 rfl rfl, mm_m 946 rfl rfl, ⟨mm_T7, 27, rfl⟩, rfl⟩
set_option maxRecDepth 100000 in
theorem mm_pk8_109 : mm_pok "FairDeskLaw" 109 3 139 4 0 := ⟨mm_mt139, mm_m 601 rfl rfl, mm_m 602 rfl rfl, rfl⟩
set_option maxRecDepth 100000 in
theorem mm_pk8_112 : mm_pok "FairDeskLaw" 112 2 120 2 0 := ⟨mm_mt120, rfl, mm_m 957 rfl rfl, mm_m 958 rfl rfl, mm_m 959 rfl rfl, ⟨mm_T7, 27, rfl⟩, rfl⟩
set_option maxRecDepth 100000 in
theorem mm_pk8_113 : mm_pok "FairDeskLaw" 113 3 140 3 0 := ⟨mm_mt140, mm_m 612 rfl rfl, mm_m 613 rfl rfl, rfl⟩
set_option maxRecDepth 100000 in
theorem mm_pk8_116 : mm_pok "FairDeskLaw" 116 2 121 1 0 := ⟨mm_mt121, rfl, mm_m 961 rfl rfl, mm_m 962 rfl rfl, mm_m 963 rfl rfl, ⟨mm_T7, 27, rfl⟩, rfl⟩
set_option maxRecDepth 100000 in
theorem mm_pk8_117 : mm_pok "FairDeskLaw" 117 3 141 4 0 := ⟨mm_mt141, mm_m 624 rfl rfl, mm_m 625 rfl rfl, rfl⟩
set_option maxRecDepth 100000 in
theorem mm_pk8_119 : mm_pok "FairDeskLaw" 119 2 122 2 0 := ⟨mm_mt122, rfl, mm_m 965 rfl rfl, mm_m 966 rfl rfl, mm_m 967 rfl rfl, ⟨mm_T7, 27, rfl⟩, rfl⟩
set_option maxRecDepth 100000 in
theorem mm_pk8_120 : mm_pok "FairDeskLaw" 120 3 142 5 0 := ⟨mm_mt142, mm_m 632 rfl rfl, mm_m 633 rfl rfl, rfl⟩
set_option maxRecDepth 100000 in
theorem mm_pk8_123 : mm_pok "FairDeskLaw" 123 2 123 3 0 := ⟨mm_mt123, rfl, mm_m 969 rfl rfl, mm_m 970 rfl rfl, mm_m 971 rfl rfl, ⟨mm_T7, 27, rfl⟩, rfl⟩
set_option maxRecDepth 100000 in
theorem mm_pk8_124 : mm_pok "FairDeskLaw" 124 3 143 3 0 := ⟨mm_mt143, mm_m 640 rfl rfl, mm_m 641 rfl rfl, rfl⟩
set_option maxRecDepth 100000 in
theorem mm_pk8_126 : mm_pok "FairDeskLaw" 126 2 124 1 0 := ⟨mm_mt124, rfl, mm_m 973 rfl rfl, mm_m 974 rfl rfl, mm_m 975 rfl rfl, ⟨mm_T7, 27, rfl⟩, rfl⟩
set_option maxRecDepth 100000 in
theorem mm_pk8_127 : mm_pok "FairDeskLaw" 127 3 144 5 0 := ⟨mm_mt144, mm_m 663 rfl rfl, mm_m 664 rfl rfl, rfl⟩
set_option maxRecDepth 100000 in
theorem mm_pk8_129 : mm_pok "FairDeskLaw" 129 2 125 3 0 := ⟨mm_mt125, rfl, mm_m 977 rfl rfl, mm_m 978 rfl rfl, mm_m 979 rfl rfl, ⟨mm_T7, 27, rfl⟩, rfl⟩
set_option maxRecDepth 100000 in
theorem mm_pk8_130 : mm_pok "FairDeskLaw" 130 3 145 3 0 := ⟨mm_mt145, mm_m 677 rfl rfl, mm_m 678 rfl rfl, rfl⟩
set_option maxRecDepth 100000 in
theorem mm_pk8_132 : mm_pok "FairDeskLaw" 132 2 126 1 0 := ⟨mm_mt126, rfl, mm_m 982 rfl rfl, mm_m 983 rfl rfl, mm_m 984 rfl rfl, ⟨mm_T7, 27, rfl⟩, rfl⟩
set_option maxRecDepth 100000 in
theorem mm_pk8_133 : mm_pok "FairDeskLaw" 133 3 146 2 0 := ⟨mm_mt146, mm_m 690 rfl rfl, mm_m 691 rfl rfl, rfl⟩
set_option maxRecDepth 100000 in
theorem mm_pk8_135 : mm_pok "FairDeskLaw" 135 2 127 0 0 := ⟨mm_mt127, rfl, mm_m 987 rfl rfl, mm_m 988 rfl rfl, mm_m 989 rfl rfl, ⟨mm_T7, 27, rfl⟩, rfl⟩
set_option maxRecDepth 100000 in
theorem mm_pk8_136 : mm_pok "FairDeskLaw" 136 3 147 4 0 := ⟨mm_mt147, mm_m 721 rfl rfl, mm_m 722 rfl rfl, rfl⟩
set_option maxRecDepth 100000 in
theorem mm_pk8_138 : mm_pok "FairDeskLaw" 138 2 128 2 0 := ⟨mm_mt128, rfl, mm_m 1006 rfl rfl, mm_m 1007 rfl rfl, mm_m 1008 rfl rfl, ⟨mm_T7, 27, rfl⟩, rfl⟩
set_option maxRecDepth 100000 in
theorem mm_pk8_139 : mm_pok "FairDeskLaw" 139 3 148 2 0 := ⟨mm_mt148, mm_m 746 rfl rfl, mm_m 747 rfl rfl, rfl⟩
set_option maxRecDepth 100000 in
theorem mm_pk8_141 : mm_pok "FairDeskLaw" 141 2 129 1 0 := ⟨mm_mt129, rfl, mm_m 1010 rfl rfl, mm_m 1011 rfl rfl, mm_m 1012 rfl rfl, ⟨mm_T7, 27, rfl⟩, rfl⟩
set_option maxRecDepth 100000 in
theorem mm_pk8_142 : mm_pok "FairDeskLaw" 142 3 149 5 0 := ⟨mm_mt149, mm_m 755 rfl rfl, mm_m 756 rfl rfl, rfl⟩
set_option maxRecDepth 100000 in
theorem mm_pk8_144 : mm_pok "FairDeskLaw" 144 2 130 3 0 := ⟨mm_mt130, rfl, mm_m 1014 rfl rfl, mm_m 1015 rfl rfl, mm_m 1016 rfl rfl, ⟨mm_T7, 27, rfl⟩, rfl⟩
set_option maxRecDepth 100000 in
theorem mm_pk8_145 : mm_pok "FairDeskLaw" 145 2 18 1 0 := ⟨mm_mt18, rfl, mm_m 307 rfl rfl, mm_m 308 rfl rfl, mm_m 309 rfl rfl, ⟨mm_T0, 4, rfl⟩, rfl⟩
set_option maxRecDepth 100000 in
theorem mm_pk8_149 : mm_pok "FairDeskLaw" 149 2 131 1 0 := ⟨mm_mt131, rfl, mm_m 1018 rfl rfl, mm_m 1019 rfl rfl, mm_m 1020 rfl rfl, ⟨mm_T7, 27, rfl⟩, rfl⟩
set_option maxRecDepth 100000 in
theorem mm_pk8_150 : mm_pok "FairDeskLaw" 150 3 150 4 0 := ⟨mm_mt150, mm_m 768 rfl rfl, mm_m 769 rfl rfl, rfl⟩
set_option maxRecDepth 100000 in
theorem mm_pk8_152 : mm_pok "FairDeskLaw" 152 2 132 2 0 := ⟨mm_mt132, rfl, mm_m 1053 rfl rfl, mm_m 1054 rfl rfl, mm_m 1055 rfl rfl, ⟨mm_T7, 27, rfl⟩, rfl⟩
set_option maxRecDepth 100000 in
theorem mm_pk8_153 : mm_pok "FairDeskLaw" 153 3 151 5 0 := ⟨mm_mt151, mm_m 788 rfl rfl, mm_m 789 rfl rfl, rfl⟩
set_option maxRecDepth 100000 in
theorem mm_pk8_155 : mm_pok "FairDeskLaw" 155 2 133 3 0 := ⟨mm_mt133, rfl, mm_m 1057 rfl rfl, mm_m 1058 rfl rfl, mm_m 1059 rfl rfl, ⟨mm_T7, 27, rfl⟩, rfl⟩
set_option maxRecDepth 100000 in
theorem mm_pp8 : ∀ q ∈ mm_p8, mm_pok "FairDeskLaw" q.1 q.2.1 q.2.2.1 q.2.2.2.1 q.2.2.2.2 := List.forall_mem_cons.mpr ⟨mm_pk8_7, List.forall_mem_cons.mpr ⟨mm_pk8_8, List.forall_mem_cons.mpr ⟨mm_pk8_15, List.forall_mem_cons.mpr ⟨mm_pk8_18, List.forall_mem_cons.mpr ⟨mm_pk8_24, List.forall_mem_cons.mpr ⟨mm_pk8_27, List.forall_mem_cons.mpr ⟨mm_pk8_33, List.forall_mem_cons.mpr ⟨mm_pk8_37, List.forall_mem_cons.mpr ⟨mm_pk8_41, List.forall_mem_cons.mpr ⟨mm_pk8_44, List.forall_mem_cons.mpr ⟨mm_pk8_48, List.forall_mem_cons.mpr ⟨mm_pk8_51, List.forall_mem_cons.mpr ⟨mm_pk8_54, List.forall_mem_cons.mpr ⟨mm_pk8_57, List.forall_mem_cons.mpr ⟨mm_pk8_61, List.forall_mem_cons.mpr ⟨mm_pk8_65, List.forall_mem_cons.mpr ⟨mm_pk8_68, List.forall_mem_cons.mpr ⟨mm_pk8_71, List.forall_mem_cons.mpr ⟨mm_pk8_74, List.forall_mem_cons.mpr ⟨mm_pk8_78, List.forall_mem_cons.mpr ⟨mm_pk8_79, List.forall_mem_cons.mpr ⟨mm_pk8_81, List.forall_mem_cons.mpr ⟨mm_pk8_82, List.forall_mem_cons.mpr ⟨mm_pk8_87, List.forall_mem_cons.mpr ⟨mm_pk8_88, List.forall_mem_cons.mpr ⟨mm_pk8_91, List.forall_mem_cons.mpr ⟨mm_pk8_93, List.forall_mem_cons.mpr ⟨mm_pk8_94, List.forall_mem_cons.mpr ⟨mm_pk8_97, List.forall_mem_cons.mpr ⟨mm_pk8_98, List.forall_mem_cons.mpr ⟨mm_pk8_100, List.forall_mem_cons.mpr ⟨mm_pk8_101, List.forall_mem_cons.mpr ⟨mm_pk8_104, List.forall_mem_cons.mpr ⟨mm_pk8_105, List.forall_mem_cons.mpr ⟨mm_pk8_108, List.forall_mem_cons.mpr ⟨mm_pk8_109, List.forall_mem_cons.mpr ⟨mm_pk8_112, List.forall_mem_cons.mpr ⟨mm_pk8_113, List.forall_mem_cons.mpr ⟨mm_pk8_116, List.forall_mem_cons.mpr ⟨mm_pk8_117, List.forall_mem_cons.mpr ⟨mm_pk8_119, List.forall_mem_cons.mpr ⟨mm_pk8_120, List.forall_mem_cons.mpr ⟨mm_pk8_123, List.forall_mem_cons.mpr ⟨mm_pk8_124, List.forall_mem_cons.mpr ⟨mm_pk8_126, List.forall_mem_cons.mpr ⟨mm_pk8_127, List.forall_mem_cons.mpr ⟨mm_pk8_129, List.forall_mem_cons.mpr ⟨mm_pk8_130, List.forall_mem_cons.mpr ⟨mm_pk8_132, List.forall_mem_cons.mpr ⟨mm_pk8_133, List.forall_mem_cons.mpr ⟨mm_pk8_135, List.forall_mem_cons.mpr ⟨mm_pk8_136, List.forall_mem_cons.mpr ⟨mm_pk8_138, List.forall_mem_cons.mpr ⟨mm_pk8_139, List.forall_mem_cons.mpr ⟨mm_pk8_141, List.forall_mem_cons.mpr ⟨mm_pk8_142, List.forall_mem_cons.mpr ⟨mm_pk8_144, List.forall_mem_cons.mpr ⟨mm_pk8_145, List.forall_mem_cons.mpr ⟨mm_pk8_149, List.forall_mem_cons.mpr ⟨mm_pk8_150, List.forall_mem_cons.mpr ⟨mm_pk8_152, List.forall_mem_cons.mpr ⟨mm_pk8_153, List.forall_mem_cons.mpr ⟨mm_pk8_155, fun _ h => absurd h List.not_mem_nil⟩⟩⟩⟩⟩⟩⟩⟩⟩⟩⟩⟩⟩⟩⟩⟩⟩⟩⟩⟩⟩⟩⟩⟩⟩⟩⟩⟩⟩⟩⟩⟩⟩⟩⟩⟩⟩⟩⟩⟩⟩⟩⟩⟩⟩⟩⟩⟩⟩⟩⟩⟩⟩⟩⟩⟩⟩⟩⟩⟩⟩⟩⟩
theorem mm_pls : ∀ (k : Nat), ∀ q ∈ mm_pl k, mm_pok (mm_ownC k) q.1 q.2.1 q.2.2.1 q.2.2.2.1 q.2.2.2.2
  | 0 => mm_pp0
  | 1 => mm_pp1
  | 2 => mm_pp2
  | 3 => mm_pp3
  | 4 => mm_pp4
  | 5 => mm_pp5
  | 6 => mm_pp6
  | 7 => mm_pp7
  | _ + 8 => mm_pp8
theorem mm_pool_ok {j idx t a b : Nat} {z : Int} (h : mm_pool j idx = some (t, a, b, z)) : mm_pok (mm_own j) idx t a b z := mm_pls (mm_cn j) _ (mm_lk_mem h)
end
section
/-! A little machine of our own: cells by their number in a list, no tables, no addresses. A later part proves that the real one does what it does. -/
/-- a cell: what it is (below 50 an object of mm_cl, from 50 on an array), what it holds -/
abbrev MC : Type := Nat × List Value
abbrev MH : Type := List MC
abbrev ML : Type := List (Nat × Value)
/-- what a step does: it goes on (place, locals, stack, cells, how many cells and slots are new); it returns; it calls; it throws -/
abbrev MN : Type := Nat × ML × List Value × MH × Nat × Nat
abbrev MA : Type := MN ⊕ Option Value ⊕ (Nat × List Value × List Value) ⊕ Nat
def mm_look {α : Type} : List (Nat × α) → Nat → Option α
  | [], _ => none
  | q :: r, i => match Nat.beq q.1 i with
    | true => some q.2
    | false => mm_look r i
def mm_st1 (L : ML) (i : Nat) (v : Value) : ML := (i, v) :: L.filter (fun q => !(q.1 == i) && !(q.1 + 1 == i && q.2.category == 2))
def mm_st2 (L : ML) (i : Nat) (v : Value) : ML := (i, v) :: L.filter (fun q => !(q.1 == i) && (!(q.1 == i + 1) && !(q.1 + 1 == i && q.2.category == 2)))
def mm_words (S : List Value) : Nat := (S.map fun v => v.category).sum
def mm_go (pc : Nat) (L : ML) (S : List Value) (M : MH) : Option MN := some (pc, L, S, M, 0, 0)
def mm_br (b : Bool) (pc : Nat) (off : Int) (L : ML) (S : List Value) (M : MH) : Option MN :=
  match decide ((pc : Int) + off = ((((pc : Int) + off).toNat : Nat) : Int)) with
  | true => match b with
    | true => mm_go ((pc : Int) + off).toNat L S M
    | false => mm_go (pc + 3) L S M
  | false => none
def mm_iload (to i : Nat) (L : ML) (S : List Value) (M : MH) : Option MN := match mm_look L i with
  | some (.int x) => mm_go to L (.int x :: S) M
  | _ => none
def mm_lload (to i : Nat) (L : ML) (S : List Value) (M : MH) : Option MN := match mm_look L i with
  | some (.long x) => mm_go to L (.long x :: S) M
  | _ => none
def mm_aload (to i : Nat) (L : ML) (S : List Value) (M : MH) : Option MN := match mm_look L i with
  | some (.ref x) => mm_go to L (.ref x :: S) M
  | _ => none
def mm_istore (mx to i : Nat) (L : ML) (S : List Value) (M : MH) : Option MN := match S with
  | .int x :: r => match Nat.blt i mx with
    | true => mm_go to (mm_st1 L i (.int x)) r M
    | false => none
  | _ => none
def mm_lstore (mx to i : Nat) (L : ML) (S : List Value) (M : MH) : Option MN := match S with
  | .long x :: r => match Nat.blt (i + 1) mx with
    | true => mm_go to (mm_st2 L i (.long x)) r M
    | false => none
  | _ => none
def mm_astore (mx to i : Nat) (L : ML) (S : List Value) (M : MH) : Option MN := match S with
  | .ref x :: r => match Nat.blt i mx with
    | true => mm_go to (mm_st1 L i (.ref x)) r M
    | false => none
  | _ => none
def mm_iinc (mx pc i : Nat) (n : Int) (L : ML) (S : List Value) (M : MH) : Option MN := match mm_look L i with
  | some (.int x) => match Nat.blt i mx with
    | true => mm_go (pc + 3) (mm_st1 L i (.int (x + Int32.ofInt n))) S M
    | false => none
  | _ => none
def mm_i2 (f : Int32 → Int32 → Int32) (pc : Nat) (L : ML) (S : List Value) (M : MH) : Option MN := match S with
  | .int y :: .int x :: r => mm_go (pc + 1) L (.int (f x y) :: r) M
  | _ => none
def mm_i2z (f : Int32 → Int32 → Int32) (pc : Nat) (L : ML) (S : List Value) (M : MH) : Option MN := match S with
  | .int y :: .int x :: r => match decide (y = 0) with
    | true => none
    | false => mm_go (pc + 1) L (.int (f x y) :: r) M
  | _ => none
def mm_l2 (f : Int64 → Int64 → Int64) (pc : Nat) (L : ML) (S : List Value) (M : MH) : Option MN := match S with
  | .long y :: .long x :: r => mm_go (pc + 1) L (.long (f x y) :: r) M
  | _ => none
def mm_l2z (f : Int64 → Int64 → Int64) (pc : Nat) (L : ML) (S : List Value) (M : MH) : Option MN := match S with
  | .long y :: .long x :: r => match decide (y = 0) with
    | true => none
    | false => mm_go (pc + 1) L (.long (f x y) :: r) M
  | _ => none
/-- an array's element, and with another value there -/
def mm_ald (kd : Nat) (pc : Nat) (L : ML) (S : List Value) (M : MH) : Option MN := match S with
  | .int i :: .ref a :: r => match M[a]? with
    | some (k, vs) => match Nat.beq (mm_akd k) kd && !(decide (i < 0)) with
      | true => match vs[i.toNatClampNeg]? with
        | some v => mm_go (pc + 1) L (v :: r) M
        | none => none
      | false => none
    | none => none
  | _ => none
def mm_put (M : MH) (a i : Nat) (v : Value) : MH := match M[a]? with
  | some (k, vs) => M.set a (k, vs.set i v)
  | none => M
def mm_ast (w kd : Nat) (ok : Value → Bool) (pc : Nat) (L : ML) (S : List Value) (M : MH) : Option MN := match S with
  | v :: .int i :: .ref a :: r => match M[a]? with
    | some (k, vs) => match Nat.beq (mm_akd k) kd && !(decide (i < 0)) && Nat.blt i.toNatClampNeg vs.length && ok v && Nat.ble w a with
      | true => mm_go (pc + 1) L r (mm_put M a i.toNatClampNeg v)
      | false => none
    | none => none
  | _ => none
def mm_isI : Value → Bool
  | .int _ => true
  | _ => false
def mm_isL : Value → Bool
  | .long _ => true
  | _ => false
def mm_isZ : Value → Bool
  | .int x => decide (x = 0) || decide (x = 1)
  | _ => false
/-- a pool's entry: what it is, two numbers, a constant -/
abbrev ME : Type := Nat × Nat × Nat × Int
def mm_new (to : Nat) (c : MC) (n : Nat) (L : ML) (S : List Value) (M : MH) : Option MN := some (to, L, .ref M.length :: S, M ++ [c], 1, n)
def mm_newa (to kd : Nat) (z : Value) (L : ML) (S : List Value) (M : MH) : Option MN := match S with
  | .int n :: r => match !(decide (n < 0)) && Nat.blt n.toNatClampNeg 1000 with
    | true => mm_new to (kd, List.replicate n.toNatClampNeg z) n.toNatClampNeg L r M
    | false => none
  | _ => none
/-- n rows of k zeros behind the cells -/
def mm_grid (ok ik n k : Nat) (o : Nat) : MH := (ok, (List.range n).map fun i => Value.ref (o + 1 + i)) :: List.replicate n (ik, List.replicate k (Value.int 0))
def mm_multi (to ok ik : Nat) (L : ML) (S : List Value) (M : MH) : Option MN := match S with
  | .int k :: .int n :: r => match !(decide (n < 0)) && Nat.blt n.toNatClampNeg 1000 && !(decide (k < 0)) && Nat.blt k.toNatClampNeg 1000 with
    | true => some (to, L, .ref M.length :: r, M ++ mm_grid ok ik n.toNatClampNeg k.toNatClampNeg M.length, 1 + n.toNatClampNeg, n.toNatClampNeg + n.toNatClampNeg * k.toNatClampNeg)
    | false => none
  | _ => none
def mm_getf (to ci k : Nat) (L : ML) (S : List Value) (M : MH) : Option MN := match S with
  | .ref a :: r => match M[a]? with
    | some (kd, fs) => match Nat.beq kd ci with
      | true => match fs[k]? with
        | some v => mm_go to L (v :: r) M
        | none => none
      | false => none
    | none => none
  | _ => none
def mm_putf (w to ci k : Nat) (ok : Value → Bool) (L : ML) (S : List Value) (M : MH) : Option MN := match S with
  | v :: .ref a :: r => match M[a]? with
    | some (kd, fs) => match Nat.beq kd ci && Nat.blt k fs.length && Nat.beq fs.length (mm_def ci).length && ok v && Nat.ble w a with
      | true => mm_go to L r (mm_put M a k v)
      | false => none
    | none => none
  | _ => none
def mm_fitty (ty : FieldType) (v : Value) : Bool := decide (narrow ty v = v) && fits ty v
/-- a call: n arguments lie on the stack, for a method of an object (its class: ci) that object below them -/
def mm_callV (j n ci : Nat) (S : List Value) (M : MH) : Option MA := match S.drop n with
  | .ref a :: r => match M[a]? with
    | some (kd, _) => match Nat.beq kd ci && Nat.ble (mm_words r) 8 && Nat.beq (S.take n).length n && Nat.ble (1 + mm_words (S.take n)) (mm_maxL j) with
      | true => some (.inr (.inr (.inl (j, .ref a :: (S.take n).reverse, r))))
      | false => none
    | none => none
  | _ => none
def mm_callS (j n : Nat) (S : List Value) : Option MA := match Nat.ble (mm_words (S.drop n)) 8 && Nat.beq (S.take n).length n && Nat.ble (mm_words (S.take n)) (mm_maxL j) with
  | true => some (.inr (.inr (.inl (j, (S.take n).reverse, S.drop n))))
  | false => none
/-- a method of the JDK that is taken as one step -/
def mm_cpys (ws : List Value) (at0 : Nat) : List Value → List Value
  | [] => ws
  | x :: xs => mm_cpys (ws.set at0 x) (at0 + 1) xs
def mm_cpy (vs ws : List Value) (sp dp n : Nat) : List Value := mm_cpys ws dp ((vs.drop sp).take n)
def mm_nat (w d x pc : Nat) (L : ML) (S : List Value) (M : MH) : Option MN := match d with
  | 0 => none
  | _ + 1 => match x, S with
    | 0, .int y :: .int x :: r => match Nat.ble (mm_words r) 8 with
      | true => mm_go (pc + 3) L (.int (if x < y then y else x) :: r) M
      | false => none
    | 1, .int y :: .int x :: r => match Nat.ble (mm_words r) 8 with
      | true => mm_go (pc + 3) L (.int (if y < x then y else x) :: r) M
      | false => none
    | 2, .long y :: .long x :: r => match Nat.ble (mm_words r) 8 with
      | true => mm_go (pc + 3) L (.long (if y < x then x else y) :: r) M
      | false => none
    | 3, .long y :: .long x :: r => match Nat.ble (mm_words r) 8 with
      | true => mm_go (pc + 3) L (.long (if y < x then y else x) :: r) M
      | false => none
    | 4, .long x :: r => match Nat.ble (mm_words r) 8 with
      | true => mm_go (pc + 3) L (.long (if 0 < x then x else -x) :: r) M
      | false => none
    | 5, .int n :: .int dp :: .ref b :: .int sp :: .ref a :: r => match M[a]?, M[b]? with
      | some (ka, vs), some (kb, ws) => match Nat.ble (mm_words r) 8 && Nat.beq (mm_akd ka) 1 && Nat.beq (mm_akd kb) 1 && !(decide (n < 0)) && !(decide (sp < 0)) && !(decide (dp < 0)) && Nat.ble (sp.toNatClampNeg + n.toNatClampNeg) vs.length && Nat.ble (dp.toNatClampNeg + n.toNatClampNeg) ws.length && Nat.ble w b && (vs.all mm_isI) with
        | true => mm_go (pc + 3) L r (M.set b (kb, mm_cpy vs ws sp.toNatClampNeg dp.toNatClampNeg n.toNatClampNeg))
        | false => none
      | _, _ => none
    | 6, .ref _ :: r => match Nat.ble (mm_words r) 8 with
      | true => mm_go (pc + 3) L r M
      | false => none
    | _, _ => none
def mm_jmp (pc : Nat) (off : Int) (L : ML) (S : List Value) (M : MH) : Option MN := match decide ((pc : Int) + off = ((((pc : Int) + off).toNat : Nat) : Int)) with
  | true => mm_go ((pc : Int) + off).toNat L S M
  | false => none
def mm_tsw (pc : Nat) (dflt lo hi : Int) (offs : Array Int) (L : ML) (S : List Value) (M : MH) : Option MN := match S with
  | .int x :: r => match decide (x.toInt < lo) || decide (hi < x.toInt) with
    | true => mm_jmp pc dflt L r M
    | false => match offs[(x.toInt - lo).toNat]? with
      | some off => mm_jmp pc off L r M
      | none => none
  | _ => none
def mm_if (c : ClassFile.Cond) (x y : Int32) : Bool := match c with
  | .eq => decide (x = y)
  | .ne => !(decide (x = y))
  | .lt => decide (x < y)
  | .ge => decide (y ≤ x)
  | .gt => decide (y < x)
  | .le => decide (x ≤ y)
def mm_if1 (c : ClassFile.Cond) (pc : Nat) (off : Int) (L : ML) (S : List Value) (M : MH) : Option MN := match S with
  | .int x :: r => mm_br (mm_if c x 0) pc off L r M
  | _ => none
def mm_if2 (c : ClassFile.Cond) (pc : Nat) (off : Int) (L : ML) (S : List Value) (M : MH) : Option MN := match S with
  | .int y :: .int x :: r => mm_br (mm_if c x y) pc off L r M
  | _ => none
def mm_ret1 (j : Nat) (S : List Value) : Option MA := match S with
  | [.int v] => match mm_ret j with
    | some ty => match decide (narrow ty (.int v) = .int v) with
      | true => some (.inr (.inl (some (.int v))))
      | false => none
    | none => none
  | _ => none
def mm_retl (j : Nat) (S : List Value) : Option MA := match S with
  | [.long v] => match mm_ret j with
    | some .long => some (.inr (.inl (some (.long v))))
    | _ => none
  | _ => none
def mm_reta (j : Nat) (S : List Value) : Option MA := match S with
  | [.ref v] => match mm_ret j with
    | some (.object _) => some (.inr (.inl (some (.ref v))))
    | some (.array _) => some (.inr (.inl (some (.ref v))))
    | _ => none
  | _ => none
def mm_retv (j : Nat) (S : List Value) : Option MA := match S with
  | [] => match mm_ret j with
    | none => some (.inr (.inl none))
    | _ => none
  | _ => none
/-- new X, dup, ldc, its constructor, athrow: taken as one -/
def mm_thr (d j pc x : Nat) (S : List Value) : Option MA := match mm_at j (pc + 3), mm_at j (pc + 4), mm_at j (pc + 6), mm_at j (pc + 9) with
  | some .dup, some (.ldc k2), some (.invokespecial k3), some .athrow => match mm_pool j k2, mm_pool j k3 with
    | some (13, _, _, _), some (16, y, _, _) => match Nat.beq x y && Nat.ble 8 d && Nat.ble (mm_words S) 6 with
      | true => some (.inr (.inr (.inr x)))
      | false => none
    | _, _ => none
  | _, _, _, _ => none
def mm_step (w d j : Nat) (i : Instr) (pc : Nat) (L : ML) (S : List Value) (M : MH) : Option MN := match i with
  | .iconst n => mm_go (pc + 1) L (.int (Int32.ofInt n) :: S) M
  | .bipush n => mm_go (pc + 2) L (.int (Int8.ofInt n).toInt32 :: S) M
  | .sipush n => mm_go (pc + 3) L (.int (Int16.ofInt n).toInt32 :: S) M
  | .lconst n => mm_go (pc + 1) L (.long (Int64.ofNat (n : Nat)) :: S) M
  | .ldc k => match mm_pool j k with
    | some (11, _, _, z) => mm_go (pc + 2) L (.int (Int32.ofInt z) :: S) M
    | _ => none
  | .ldc2_w k => match mm_pool j k with
    | some (12, _, _, z) => mm_go (pc + 3) L (.long (Int64.ofInt z) :: S) M
    | _ => none
  | .iload_n n => mm_iload (pc + 1) n L S M
  | .iload n => mm_iload (pc + 2) n L S M
  | .lload_n n => mm_lload (pc + 1) n L S M
  | .lload n => mm_lload (pc + 2) n L S M
  | .aload_n n => mm_aload (pc + 1) n L S M
  | .aload n => mm_aload (pc + 2) n L S M
  | .istore_n n => mm_istore (mm_maxL j) (pc + 1) n L S M
  | .istore n => mm_istore (mm_maxL j) (pc + 2) n L S M
  | .lstore_n n => mm_lstore (mm_maxL j) (pc + 1) n L S M
  | .lstore n => mm_lstore (mm_maxL j) (pc + 2) n L S M
  | .astore_n n => mm_astore (mm_maxL j) (pc + 1) n L S M
  | .astore n => mm_astore (mm_maxL j) (pc + 2) n L S M
  | .iinc i n => mm_iinc (mm_maxL j) pc i n L S M
  | .iadd => mm_i2 (fun x y => x + y) pc L S M
  | .isub => mm_i2 (fun x y => x - y) pc L S M
  | .imul => mm_i2 (fun x y => x * y) pc L S M
  | .iand => mm_i2 (fun x y => x &&& y) pc L S M
  | .ior => mm_i2 (fun x y => x ||| y) pc L S M
  | .ixor => mm_i2 (fun x y => x ^^^ y) pc L S M
  | .ishl => mm_i2 (fun x y => x <<< (y &&& 31)) pc L S M
  | .ishr => mm_i2 (fun x y => x >>> (y &&& 31)) pc L S M
  | .idiv => mm_i2z (fun x y => x / y) pc L S M
  | .irem => mm_i2z (fun x y => x - x / y * y) pc L S M
  | .ladd => mm_l2 (fun x y => x + y) pc L S M
  | .lsub => mm_l2 (fun x y => x - y) pc L S M
  | .lmul => mm_l2 (fun x y => x * y) pc L S M
  | .ldiv => mm_l2z (fun x y => x / y) pc L S M
  | .lrem => mm_l2z (fun x y => x - x / y * y) pc L S M
  | .lcmp => match S with
    | .long y :: .long x :: r => mm_go (pc + 1) L (.int (lg_cmp x y) :: r) M
    | _ => none
  | .i2l => match S with
    | .int x :: r => mm_go (pc + 1) L (.long x.toInt64 :: r) M
    | _ => none
  | .l2i => match S with
    | .long x :: r => mm_go (pc + 1) L (.int x.toInt32 :: r) M
    | _ => none
  | .ineg => match S with
    | .int x :: r => mm_go (pc + 1) L (.int (-x) :: r) M
    | _ => none
  | .lneg => match S with
    | .long x :: r => mm_go (pc + 1) L (.long (-x) :: r) M
    | _ => none
  | .dup => match S with
    | v :: r => match Nat.beq v.category 1 with
      | true => mm_go (pc + 1) L (v :: v :: r) M
      | false => none
    | _ => none
  | .dup2 => match S with
    | v :: w :: r => match Nat.beq v.category 1 && Nat.beq w.category 1 with
      | true => mm_go (pc + 1) L (v :: w :: v :: w :: r) M
      | false => none
    | _ => none
  | .pop => match S with
    | v :: r => match Nat.beq v.category 1 with
      | true => mm_go (pc + 1) L r M
      | false => none
    | _ => none
  | .ifCond c off => mm_if1 c pc off L S M
  | .if_icmp c off => mm_if2 c pc off L S M
  | .goto off => mm_jmp pc off L S M
  | .tableswitch dflt lo hi offs => mm_tsw pc dflt lo hi offs L S M
  | .iaload => mm_ald 1 pc L S M
  | .laload => mm_ald 2 pc L S M
  | .baload => mm_ald 3 pc L S M
  | .aaload => mm_ald 4 pc L S M
  | .iastore => mm_ast w 1 mm_isI pc L S M
  | .lastore => mm_ast w 2 mm_isL pc L S M
  | .bastore => mm_ast w 3 mm_isZ pc L S M
  | .aastore => match S with
    | .ref v :: .int i :: .ref a :: r => match M[a]?, M[v]? with
      | some (k, _), some (k2, _) => match Nat.beq (mm_comp k) k2 && Nat.blt k2 50 with
        | true => mm_ast w 4 (fun _ => true) pc L (.ref v :: .int i :: .ref a :: r) M
        | false => none
      | _, _ => none
    | _ => none
  | .arraylength => match S with
    | .ref a :: r => match M[a]? with
      | some (k, vs) => match Nat.blt 0 (mm_akd k) && Nat.blt vs.length 100000 with
        | true => mm_go (pc + 1) L (.int (Int32.ofNat vs.length) :: r) M
        | false => none
      | none => none
    | _ => none
  | .newarray .int => mm_newa (pc + 2) 50 (.int 0) L S M
  | .newarray .long => mm_newa (pc + 2) 51 (.long 0) L S M
  | .newarray .boolean => mm_newa (pc + 2) 52 (.int 0) L S M
  | .anewarray k => match mm_pool j (100000 + k) with
    | some (9, kd, _, _) => mm_newa (pc + 3) kd .null L S M
    | _ => none
  | .multianewarray k 2 => match mm_pool j k with
    | some (10, ok, ik, _) => mm_multi (pc + 4) ok ik L S M
    | _ => none
  | .getfield k => match mm_pool j k with
    | some (0, ci, f, _) => mm_getf (pc + 3) ci f L S M
    | some (1, ci, f, _) => mm_getf (pc + 3) ci f L S M
    | _ => none
  | .putfield k => match mm_pool j k with
    | some (0, ci, f, _) => mm_putf w (pc + 3) ci f (mm_fitty (mm_fty ci f)) L S M
    | some (1, ci, f, _) => match mm_ctor j with
      | true => mm_putf w (pc + 3) ci f (mm_fitty (mm_fty ci f)) L S M
      | false => none
    | _ => none
  | _ => none
def mm_inl (x : Option MN) : Option MA := match x with
  | some n => some (.inl n)
  | none => none
def mm_act (w d j : Nat) (i : Instr) (pc : Nat) (L : ML) (S : List Value) (M : MH) : Option MA := match i with
  | .new k => match mm_pool j k with
    | some (8, ci, n, _) => mm_inl (mm_new (pc + 3) (ci, mm_def ci) n L S M)
    | some (14, x, _, _) => mm_thr d j pc x S
    | _ => none
  | .invokevirtual k => match mm_pool j k with
    | some (2, j', n, _) => mm_callV j' n (mm_cls j') S M
    | some (6, j', n, _) => mm_callV j' n (mm_cls j') S M
    | _ => none
  | .invokespecial k => match mm_pool j k with
    | some (4, j', n, _) => mm_callV j' n (mm_cls j') S M
    | some (5, j', n, _) => mm_callV j' n (mm_cls j') S M
    | some (15, _, _, _) => mm_inl (mm_nat w d 6 pc L S M)
    | _ => none
  | .invokestatic k => match mm_pool j k with
    | some (3, j', n, _) => mm_callS j' n S
    | some (7, x, _, _) => match Nat.blt x 6 with
      | true => mm_inl (mm_nat w d x pc L S M)
      | false => none
    | _ => none
  | .ireturn => mm_ret1 j S
  | .lreturn => mm_retl j S
  | .areturn => mm_reta j S
  | .return_ => mm_retv j S
  | i => mm_inl (mm_step w d j i pc L S M)
abbrev MR : Type := (Option Value ⊕ Nat) × MH × Nat × Nat
/-- w: cells below it may not be written; f: fuel; d: how deep it may call; the last two: cells and slots made so far. A method that throws is run once more with no old cell to be written, and what it left is dropped. -/
def mm_run : Nat → Nat → Nat → Nat → Nat → ML → List Value → MH → Nat → Nat → Option MR
  | 0, _, _, _, _, _, _, _, _, _ => none
  | f + 1, w, d, j, pc, L, S, M, c, n => match mm_at j pc with
    | none => none
    | some i => match mm_act w d j i pc L S M with
      | none => none
      | some (.inl (_, _, _, _, 0, _ + 1)) => none
      | some (.inl (pc', L', S', M', 0, 0)) => mm_run f w d j pc' L' S' M' c n
      | some (.inl (pc', L', S', M', dc + 1, dn)) => mm_run f w d j pc' L' S' M' (c + (dc + 1)) (n + dn)
      | some (.inr (.inl v)) => some (.inl v, M, c, n)
      | some (.inr (.inr (.inr x))) => some (.inr x, M, c + 1, n + 6)
      | some (.inr (.inr (.inl (j', as, r)))) => match d with
        | 0 => none
        | d' + 1 => match mm_run f w d' j' 0 (lv_args 0 as) [] M c n with
          | none => none
          | some (.inl v, M', c', n') => mm_run f w (d' + 1) j (pc + 3) L (v.toList ++ r) M' c' n'
          | some (.inr _, _, _, _) => match mm_run f M.length d' j' 0 (lv_args 0 as) [] M c n with
            | some (.inr x, _, c', n') => match mm_hand j pc x with
              | none => none
              | some (to, k) => mm_run f w (d' + 1) j to (L.filter fun q => !(q.1 == k) && !(q.1 + 1 == k && q.2.category == 2)) [] M c' n'
            | _ => none
end
section
/-! What ties the little machine's numbers to the real one's cells: values, lists of values, locals, cells. -/
def mm_vr (ads : List Nat) (v rv : Value) : Prop := match v with
  | .ref k => ∃ q, ads[k]? = some q ∧ rv = .ref q
  | w => rv = w
theorem mm_get_app {ads y : List Nat} {k q : Nat} (h : ads[k]? = some q) : (ads ++ y)[k]? = some q := by
  rw [List.getElem?_append_left (List.getElem?_eq_some_iff.mp h).1]; exact h
theorem mm_vr.mono {ads y : List Nat} {v rv : Value} (h : mm_vr ads v rv) : mm_vr (ads ++ y) v rv := by
  cases v with
  | ref k =>
    obtain ⟨q, h1, h2⟩ := h
    exact ⟨q, mm_get_app h1, h2⟩
  | _ => exact h
theorem mm_vr.cat {ads : List Nat} {v rv : Value} (h : mm_vr ads v rv) : rv.category = v.category := by
  cases v with
  | ref k =>
    obtain ⟨q, -, h2⟩ := h
    rw [h2]; rfl
  | _ => rw [show rv = _ from h]
theorem mm_vr.fit {ads : List Nat} {v rv : Value} {ty : FieldType} (h : mm_vr ads v rv) (h1 : narrow ty v = v) (h2 : fits ty v = true) : narrow ty rv = rv ∧ fits ty rv = true := by
  cases v with
  | ref k =>
    obtain ⟨q, -, h3⟩ := h
    subst h3
    cases ty <;> simp_all [narrow, fits]
  | _ => rw [show rv = _ from h]; exact ⟨h1, h2⟩
def mm_fa {α β : Type} (R : α → β → Prop) : List α → List β → Prop
  | [], [] => True
  | a :: as, b :: bs => R a b ∧ mm_fa R as bs
  | _, _ => False
theorem mm_fa.mono {α β : Type} {R R' : α → β → Prop} (h : ∀ a b, R a b → R' a b) : ∀ {as : List α} {bs : List β}, mm_fa R as bs → mm_fa R' as bs
  | [], [], _ => trivial
  | _ :: _, _ :: _, q => ⟨h _ _ q.1, mm_fa.mono h q.2⟩
  | [], _ :: _, q => q.elim
  | _ :: _, [], q => q.elim
theorem mm_fa.len {α β : Type} {R : α → β → Prop} : ∀ {as : List α} {bs : List β}, mm_fa R as bs → as.length = bs.length
  | [], [], _ => rfl
  | _ :: _, _ :: _, q => congrArg (· + 1) (mm_fa.len q.2)
  | [], _ :: _, q => q.elim
  | _ :: _, [], q => q.elim
theorem mm_fa.inv {α β : Type} {R : α → β → Prop} {a : α} {as : List α} : ∀ {bs : List β}, mm_fa R (a :: as) bs → ∃ b bs', bs = b :: bs' ∧ R a b ∧ mm_fa R as bs'
  | b :: bs, q => ⟨b, bs, rfl, q.1, q.2⟩
  | [], q => q.elim
theorem mm_fa.nil {α β : Type} {R : α → β → Prop} : ∀ {bs : List β}, mm_fa R [] bs → bs = []
  | [], _ => rfl
  | _ :: _, q => q.elim
theorem mm_fa.get {α β : Type} {R : α → β → Prop} : ∀ {as : List α} {bs : List β}, mm_fa R as bs → ∀ {i : Nat} {a : α}, as[i]? = some a → ∃ b, bs[i]? = some b ∧ R a b
  | [], [], _, i, a, h => by simp at h
  | x :: as, y :: bs, q, 0, a, h => by
    simp at h; subst h; exact ⟨y, by simp, q.1⟩
  | x :: as, y :: bs, q, i + 1, a, h => by
    simp at h
    obtain ⟨b, h1, h2⟩ := mm_fa.get q.2 h
    exact ⟨b, by simpa using h1, h2⟩
  | [], _ :: _, q, _, _, _ => q.elim
  | _ :: _, [], q, _, _, _ => q.elim
theorem mm_fa.set {α β : Type} {R : α → β → Prop} {a : α} {b : β} (h : R a b) : ∀ {as : List α} {bs : List β} (i : Nat), mm_fa R as bs → mm_fa R (as.set i a) (bs.set i b)
  | [], [], _, _ => trivial
  | _ :: _, _ :: _, 0, q => ⟨h, q.2⟩
  | _ :: _, _ :: _, i + 1, q => ⟨q.1, mm_fa.set h i q.2⟩
  | [], _ :: _, _, q => q.elim
  | _ :: _, [], _, q => q.elim
theorem mm_fa.app {α β : Type} {R : α → β → Prop} {cs : List α} {ds : List β} (h : mm_fa R cs ds) : ∀ {as : List α} {bs : List β}, mm_fa R as bs → mm_fa R (as ++ cs) (bs ++ ds)
  | [], [], _ => h
  | _ :: _, _ :: _, q => ⟨q.1, mm_fa.app h q.2⟩
  | [], _ :: _, q => q.elim
  | _ :: _, [], q => q.elim
theorem mm_fa.rev {α β : Type} {R : α → β → Prop} : ∀ {as : List α} {bs : List β}, mm_fa R as bs → mm_fa R as.reverse bs.reverse
  | [], [], _ => trivial
  | a :: as, b :: bs, q => by
    rw [List.reverse_cons, List.reverse_cons]
    exact mm_fa.app (R := R) (cs := [a]) (ds := [b]) ⟨q.1, trivial⟩ (mm_fa.rev q.2)
  | [], _ :: _, q => q.elim
  | _ :: _, [], q => q.elim
theorem mm_fa.take {α β : Type} {R : α → β → Prop} : ∀ {as : List α} {bs : List β} (n : Nat), mm_fa R as bs → mm_fa R (as.take n) (bs.take n)
  | _, _, 0, _ => by simp [mm_fa]
  | [], [], _ + 1, _ => trivial
  | _ :: _, _ :: _, n + 1, q => ⟨q.1, mm_fa.take n q.2⟩
  | [], _ :: _, _ + 1, q => q.elim
  | _ :: _, [], _ + 1, q => q.elim
theorem mm_fa.drop {α β : Type} {R : α → β → Prop} : ∀ {as : List α} {bs : List β} (n : Nat), mm_fa R as bs → mm_fa R (as.drop n) (bs.drop n)
  | _, _, 0, q => q
  | [], [], _ + 1, _ => trivial
  | _ :: _, _ :: _, n + 1, q => mm_fa.drop n q.2
  | [], _ :: _, _ + 1, q => q.elim
  | _ :: _, [], _ + 1, q => q.elim
theorem mm_fa.rep {α β : Type} {R : α → β → Prop} {a : α} {b : β} (h : R a b) : ∀ n : Nat, mm_fa R (List.replicate n a) (List.replicate n b)
  | 0 => trivial
  | n + 1 => ⟨h, mm_fa.rep h n⟩
theorem mm_fa.fil {α β : Type} {R : α → β → Prop} {f : α → Bool} {g : β → Bool} (h : ∀ a b, R a b → f a = g b) : ∀ {as : List α} {bs : List β}, mm_fa R as bs → mm_fa R (as.filter f) (bs.filter g)
  | [], [], _ => trivial
  | a :: as, b :: bs, q => by
    have e := h a b q.1
    cases hb : g b with
    | true => rw [List.filter_cons_of_pos (by rw [e]; exact hb), List.filter_cons_of_pos hb]; exact ⟨q.1, mm_fa.fil h q.2⟩
    | false => rw [List.filter_cons_of_neg (by rw [e, hb]; decide), List.filter_cons_of_neg (by rw [hb]; decide)]; exact mm_fa.fil h q.2
  | [], _ :: _, q => q.elim
  | _ :: _, [], q => q.elim
theorem mm_words_eq {ads : List Nat} : ∀ {S st : List Value}, mm_fa (mm_vr ads) S st → (st.map fun v => v.category).sum = mm_words S
  | [], [], _ => rfl
  | _ :: _, _ :: _, q => by
    have h := mm_words_eq q.2
    simp only [mm_words, List.map_cons, List.sum_cons] at h ⊢
    rw [q.1.cat, h]
  | [], _ :: _, q => q.elim
  | _ :: _, [], q => q.elim
/-- the locals -/
def mm_lq (ads : List Nat) (q r : Nat × Value) : Prop := q.1 = r.1 ∧ mm_vr ads q.2 r.2
def mm_lr (ads : List Nat) (nL : Nat) (L : ML) (ls : Array Slot) : Prop := ∃ RL : ML, lv_has ls nL RL ∧ mm_fa (mm_lq ads) L RL
theorem mm_lr.mono {ads y : List Nat} {nL : Nat} {L : ML} {ls : Array Slot} (h : mm_lr ads nL L ls) : mm_lr (ads ++ y) nL L ls := by
  obtain ⟨RL, h1, h2⟩ := h
  exact ⟨RL, h1, h2.mono fun a b q => ⟨q.1, q.2.mono⟩⟩
theorem mm_look_fa {ads : List Nat} {i : Nat} {v : Value} : ∀ {L RL : ML}, mm_fa (mm_lq ads) L RL → mm_look L i = some v → ∃ r, r ∈ RL ∧ r.1 = i ∧ mm_vr ads v r.2
  | [], [], _, h => by simp [mm_look] at h
  | q :: L, r :: RL, hq, h => by
    unfold mm_look at h
    cases e : Nat.beq q.1 i with
    | true =>
      rw [e] at h
      cases h
      exact ⟨r, List.mem_cons_self, hq.1.1 ▸ (Nat.eq_of_beq_eq_true e), hq.1.2⟩
    | false =>
      rw [e] at h
      obtain ⟨r', h1, h2⟩ := mm_look_fa hq.2 h
      exact ⟨r', List.mem_cons_of_mem _ h1, h2⟩
  | [], _ :: _, q, _ => q.elim
  | _ :: _, [], q, _ => q.elim
theorem mm_lr.at {ads : List Nat} {nL i : Nat} {L : ML} {ls : Array Slot} {v : Value} (h : mm_lr ads nL L ls) (hf : mm_look L i = some v) : ∃ rv, mm_vr ads v rv ∧ ls[i]? = some (.val rv) := by
  obtain ⟨RL, h1, h2⟩ := h
  obtain ⟨r, h3, h4, h5⟩ := mm_look_fa h2 hf
  exact ⟨r.2, h5, h4 ▸ h1.2.2 r h3⟩
theorem mm_lr.st1 {ads : List Nat} {i : Nat} {L RL : ML} {v rv : Value} (h : mm_fa (mm_lq ads) L RL) (hv : mm_vr ads v rv) : mm_fa (mm_lq ads) (mm_st1 L i v) ((i, rv) :: RL.filter (fun q => !(q.1 == i) && !(q.1 + 1 == i && q.2.category == 2))) :=
  ⟨⟨rfl, hv⟩, mm_fa.fil (fun a b q => by rw [q.1, q.2.cat]) h⟩
theorem mm_lr.st2 {ads : List Nat} {i : Nat} {L RL : ML} {v rv : Value} (h : mm_fa (mm_lq ads) L RL) (hv : mm_vr ads v rv) : mm_fa (mm_lq ads) (mm_st2 L i v) ((i, rv) :: RL.filter (fun q => !(q.1 == i) && (!(q.1 == i + 1) && !(q.1 + 1 == i && q.2.category == 2)))) :=
  ⟨⟨rfl, hv⟩, mm_fa.fil (fun a b q => by rw [q.1, q.2.cat]) h⟩
theorem mm_lr_args {ads : List Nat} : ∀ {as bs : List Value} (i : Nat), mm_fa (mm_vr ads) as bs → mm_fa (mm_lq ads) (lv_args i as) (lv_args i bs)
  | [], [], _, _ => trivial
  | a :: as, b :: bs, i, q => by
    refine ⟨⟨rfl, q.1⟩, ?_⟩
    rw [q.1.cat]
    exact mm_lr_args _ q.2
  | [], _ :: _, _, q => q.elim
  | _ :: _, [], _, q => q.elim
/-- the cells: D says which class has which number, and where its fields lie -/
def mm_cr (D : va_G) (ads : List Nat) (c : MC) (q : Nat) (H : Heap) : Prop :=
  (c.1 < 50 → ∃ cell : Cell, H[q]? = some cell ∧ cell.cls = D.1 c.1 ∧ cell.vm = .none ∧ ∀ (j : Nat) (v : Value), c.2[j]? = some v → ∃ rv, cell.slots[D.2 c.1 j]? = some rv ∧ mm_vr ads v rv) ∧
  (50 ≤ c.1 → ∃ (cell : Cell) (rvs : List Value), H[q]? = some cell ∧ cell.cls = D.1 c.1 ∧ cell.vm ≠ .unknown ∧ cell.vm.isStatics = false ∧ cell.slots = rvs.toArray ∧ mm_fa (mm_vr ads) c.2 rvs)
def mm_hr (D : va_G) (ads : List Nat) (M : MH) (H : Heap) : Prop := ads.length = M.length ∧ (∀ (i j q : Nat), ads[i]? = some q → ads[j]? = some q → i = j) ∧ ∀ (k : Nat) (c : MC), M[k]? = some c → ∃ q, ads[k]? = some q ∧ mm_cr D ads c q H
theorem mm_cr.kept {D : va_G} {ads : List Nat} {c : MC} {q : Nat} {H H1 : Heap} (h : mm_cr D ads c q H) (e : H1[q]? = H[q]?) : mm_cr D ads c q H1 := by
  unfold mm_cr at h ⊢
  rw [e]
  exact h
theorem mm_cr.mono {D : va_G} {ads y : List Nat} {c : MC} {q : Nat} {H : Heap} (h : mm_cr D ads c q H) : mm_cr D (ads ++ y) c q H := by
  refine ⟨fun hc => ?_, fun hc => ?_⟩
  · obtain ⟨cell, h1, h2, h3, h4⟩ := h.1 hc
    exact ⟨cell, h1, h2, h3, fun j v hj => by obtain ⟨rv, a, b⟩ := h4 j v hj; exact ⟨rv, a, b.mono⟩⟩
  · obtain ⟨cell, rvs, h1, h2, h3, h4, h5, h6⟩ := h.2 hc
    exact ⟨cell, rvs, h1, h2, h3, h4, h5, h6.mono fun _ _ => mm_vr.mono⟩
theorem mm_cr.lt {D : va_G} {ads : List Nat} {c : MC} {q : Nat} {H : Heap} (h : mm_cr D ads c q H) : q < H.size := by
  rcases Nat.lt_or_ge c.1 50 with hc | hc
  · obtain ⟨cell, h1, -⟩ := h.1 hc
    exact (Array.getElem?_eq_some_iff.mp h1).1
  · obtain ⟨cell, rvs, h1, -⟩ := h.2 hc
    exact (Array.getElem?_eq_some_iff.mp h1).1
theorem mm_hr.at {D : va_G} {ads : List Nat} {M : MH} {H : Heap} {k q : Nat} {c : MC} (h : mm_hr D ads M H) (hk : M[k]? = some c) (hq : ads[k]? = some q) : mm_cr D ads c q H := by
  obtain ⟨q', h1, h2⟩ := h.2.2 k c hk
  cases hq.symm.trans h1
  exact h2
theorem mm_hr.lt {D : va_G} {ads : List Nat} {M : MH} {H : Heap} {k q : Nat} (h : mm_hr D ads M H) (hq : ads[k]? = some q) : q < H.size := by
  have hl := (List.getElem?_eq_some_iff.mp hq).1
  rw [h.1] at hl
  exact (h.at (List.getElem?_eq_getElem hl) hq).lt
/-- one cell is another now, the others as they were -/
theorem mm_hr.set {D : va_G} {ads : List Nat} {M : MH} {H H1 : Heap} {k q : Nat} {c : MC} (h : mm_hr D ads M H) (hq : ads[k]? = some q) (hc : mm_cr D ads c q H1) (ho : ∀ x, x ≠ q → H1[x]? = H[x]?) : mm_hr D ads (M.set k c) H1 := by
  refine ⟨by rw [List.length_set]; exact h.1, h.2.1, fun k2 c2 hk2 => ?_⟩
  by_cases e : k2 = k
  · subst e
    have hl := (List.getElem?_eq_some_iff.mp hq).1
    rw [h.1] at hl
    rw [List.getElem?_set_self hl] at hk2
    cases hk2
    exact ⟨q, hq, hc⟩
  · rw [List.getElem?_set_ne (Ne.symm e)] at hk2
    obtain ⟨q2, h1, h2⟩ := h.2.2 k2 c2 hk2
    refine ⟨q2, h1, h2.kept (ho q2 fun z => e ?_)⟩
    subst z
    exact h.2.1 _ _ _ h1 hq
/-- a new cell -/
theorem mm_hr.push {D : va_G} {ads : List Nat} {M : MH} {H H1 : Heap} {c : MC} (h : mm_hr D ads M H) (hc : mm_cr D (ads ++ [H.size]) c H.size H1) (ho : ∀ x, x < H.size → H1[x]? = H[x]?) : mm_hr D (ads ++ [H.size]) (M ++ [c]) H1 := by
  refine ⟨by simp [h.1], fun i j q hi hj => ?_, fun k c2 hk => ?_⟩
  · have hl : ∀ {i : Nat}, (ads ++ [H.size])[i]? = some q → i ≠ ads.length → ads[i]? = some q := by
      intro i hi hne
      rcases Nat.lt_or_ge i ads.length with hh | hh
      · rw [List.getElem?_append_left hh] at hi; exact hi
      · rw [List.getElem?_append_right hh] at hi
        have := (List.getElem?_eq_some_iff.mp hi).1
        simp at this
        omega
    have hs : (ads ++ [H.size])[ads.length]? = some H.size := by simp
    by_cases e1 : i = ads.length
    · by_cases e2 : j = ads.length
      · rw [e1, e2]
      · subst e1
        rw [hs] at hi
        cases hi
        exact absurd (h.lt (hl hj e2)) (Nat.lt_irrefl _)
    · by_cases e2 : j = ads.length
      · subst e2
        rw [hs] at hj
        cases hj
        exact absurd (h.lt (hl hi e1)) (Nat.lt_irrefl _)
      · exact h.2.1 _ _ _ (hl hi e1) (hl hj e2)
  · rcases Nat.lt_or_ge k M.length with hh | hh
    · rw [List.getElem?_append_left hh] at hk
      obtain ⟨q, h1, h2⟩ := h.2.2 k c2 hk
      exact ⟨q, mm_get_app h1, (h2.kept (ho q (h.lt h1))).mono⟩
    · rw [List.getElem?_append_right hh] at hk
      have h0 := (List.getElem?_eq_some_iff.mp hk).1
      have hz : k - M.length = 0 := by simp at h0; omega
      rw [hz] at hk
      cases hk
      have : k = ads.length := by rw [h.1]; omega
      subst this
      exact ⟨H.size, by simp, hc⟩
end
section
/-! What the tables say of the classes, the methods, the pools. -/
theorem mm_nm0 : ∀ a, a < 4 → ∀ b, b < 4 → a ≠ b → (mm_T0 a).2.1 ≠ (mm_T0 b).2.1 := by decide +kernel
theorem mm_tok0 : ∀ k, k < 4 → parseFieldDescriptor (mm_T0 k).2.2.1 = some (mm_ty0 k) := by decide +kernel
set_option maxRecDepth 100000 in
theorem mm_u0 : ∀ w ∈ u_ws "FairDesk" mm_T0 4, w ∈ mm_ws := by
  intro w hw
  have e : u_ws "FairDesk" mm_T0 4 = [.laysFinal "FairDesk" "FairDesk" "goods" "LFairDesk$Goods;", .laysFinal "FairDesk" "FairDesk" "house" "LFairDesk$House;", .laysFinal "FairDesk" "FairDesk" "cakeTable" "LFairDesk$CakeTable;", .lays "FairDesk" "FairDesk" "peopleCount" "I"] := rfl
  rw [e] at hw
  simp only [List.mem_cons, List.not_mem_nil, or_false] at hw
  rcases hw with rfl | rfl | rfl | rfl
  · exact mm_m 262 rfl rfl
  · exact mm_m 264 rfl rfl
  · exact mm_m 266 rfl rfl
  · exact mm_m 268 rfl rfl
theorem mm_df0 : (mm_def 0).length = 4 ∧ ∀ k, k < 4 → (mm_def 0)[k]? = some (defaultValue (mm_fty 0 k)) := by decide +kernel
theorem mm_nm1 : ∀ a, a < 5 → ∀ b, b < 5 → a ≠ b → (mm_T1 a).2.1 ≠ (mm_T1 b).2.1 := by decide +kernel
theorem mm_tok1 : ∀ k, k < 5 → parseFieldDescriptor (mm_T1 k).2.2.1 = some (mm_ty1 k) := by decide +kernel
set_option maxRecDepth 100000 in
theorem mm_u1 : ∀ w ∈ u_ws "FairDesk$BundleSearch" mm_T1 5, w ∈ mm_ws := by
  intro w hw
  have e : u_ws "FairDesk$BundleSearch" mm_T1 5 = [.lays "FairDesk$BundleSearch" "FairDesk$BundleSearch" "bundles" "I", .lays "FairDesk$BundleSearch" "FairDesk$BundleSearch" "items" "I", .lays "FairDesk$BundleSearch" "FairDesk$BundleSearch" "values" "[I", .lays "FairDesk$BundleSearch" "FairDesk$BundleSearch" "best" "I", .laysFinal "FairDesk$BundleSearch" "FairDesk$BundleSearch" "sums" "[I"] := rfl
  rw [e] at hw
  simp only [List.mem_cons, List.not_mem_nil, or_false] at hw
  rcases hw with rfl | rfl | rfl | rfl | rfl
  · exact mm_m 122 rfl rfl
  · exact mm_m 124 rfl rfl
  · exact mm_m 126 rfl rfl
  · exact mm_m 128 rfl rfl
  · exact mm_m 130 rfl rfl
theorem mm_df1 : (mm_def 1).length = 5 ∧ ∀ k, k < 5 → (mm_def 1)[k]? = some (defaultValue (mm_fty 1 k)) := by decide +kernel
theorem mm_nm2 : ∀ a, a < 12 → ∀ b, b < 12 → a ≠ b → (mm_T2 a).2.1 ≠ (mm_T2 b).2.1 := by decide +kernel
theorem mm_tok2 : ∀ k, k < 12 → parseFieldDescriptor (mm_T2 k).2.2.1 = some (mm_ty2 k) := by decide +kernel
set_option maxRecDepth 100000 in
theorem mm_u2 : ∀ w ∈ u_ws "FairDesk$CakeTable" mm_T2 12, w ∈ mm_ws := by
  intro w hw
  have e : u_ws "FairDesk$CakeTable" mm_T2 12 = [.lays "FairDesk$CakeTable" "FairDesk$CakeTable" "people" "I", .lays "FairDesk$CakeTable" "FairDesk$CakeTable" "length" "I", .lays "FairDesk$CakeTable" "FairDesk$CakeTable" "wasCut" "Z", .laysFinal "FairDesk$CakeTable" "FairDesk$CakeTable" "densities" "[[I", .laysFinal "FairDesk$CakeTable" "FairDesk$CakeTable" "begins" "[LFairDesk$Fraction;", .laysFinal "FairDesk$CakeTable" "FairDesk$CakeTable" "ends" "[LFairDesk$Fraction;", .laysFinal "FairDesk$CakeTable" "FairDesk$CakeTable" "marks" "[LFairDesk$Fraction;", .laysFinal "FairDesk$CakeTable" "FairDesk$CakeTable" "served" "[Z", .laysFinal "FairDesk$CakeTable" "FairDesk$CakeTable" "order" "[I", .laysFinal "FairDesk$CakeTable" "FairDesk$CakeTable" "here" "LFairDesk$Fraction;", .laysFinal "FairDesk$CakeTable" "FairDesk$CakeTable" "amount" "LFairDesk$Fraction;", .laysFinal "FairDesk$CakeTable" "FairDesk$CakeTable" "tasted" "LFairDesk$Fraction;"] := rfl
  rw [e] at hw
  simp only [List.mem_cons, List.not_mem_nil, or_false] at hw
  rcases hw with rfl | rfl | rfl | rfl | rfl | rfl | rfl | rfl | rfl | rfl | rfl | rfl
  · exact mm_m 232 rfl rfl
  · exact mm_m 234 rfl rfl
  · exact mm_m 236 rfl rfl
  · exact mm_m 238 rfl rfl
  · exact mm_m 240 rfl rfl
  · exact mm_m 242 rfl rfl
  · exact mm_m 244 rfl rfl
  · exact mm_m 246 rfl rfl
  · exact mm_m 248 rfl rfl
  · exact mm_m 250 rfl rfl
  · exact mm_m 252 rfl rfl
  · exact mm_m 254 rfl rfl
theorem mm_df2 : (mm_def 2).length = 12 ∧ ∀ k, k < 12 → (mm_def 2)[k]? = some (defaultValue (mm_fty 2 k)) := by decide +kernel
theorem mm_nm3 : ∀ a, a < 2 → ∀ b, b < 2 → a ≠ b → (mm_T3 a).2.1 ≠ (mm_T3 b).2.1 := by decide +kernel
theorem mm_tok3 : ∀ k, k < 2 → parseFieldDescriptor (mm_T3 k).2.2.1 = some (mm_ty3 k) := by decide +kernel
set_option maxRecDepth 100000 in
theorem mm_u3 : ∀ w ∈ u_ws "FairDesk$Fraction" mm_T3 2, w ∈ mm_ws := by
  intro w hw
  have e : u_ws "FairDesk$Fraction" mm_T3 2 = [.lays "FairDesk$Fraction" "FairDesk$Fraction" "top" "J", .lays "FairDesk$Fraction" "FairDesk$Fraction" "bottom" "J"] := rfl
  rw [e] at hw
  simp only [List.mem_cons, List.not_mem_nil, or_false] at hw
  rcases hw with rfl | rfl
  · exact mm_m 178 rfl rfl
  · exact mm_m 180 rfl rfl
theorem mm_df3 : (mm_def 3).length = 2 ∧ ∀ k, k < 2 → (mm_def 3)[k]? = some (defaultValue (mm_fty 3 k)) := by decide +kernel
theorem mm_nm4 : ∀ a, a < 8 → ∀ b, b < 8 → a ≠ b → (mm_T4 a).2.1 ≠ (mm_T4 b).2.1 := by decide +kernel
theorem mm_tok4 : ∀ k, k < 8 → parseFieldDescriptor (mm_T4 k).2.2.1 = some (mm_ty4 k) := by decide +kernel
set_option maxRecDepth 100000 in
theorem mm_u4 : ∀ w ∈ u_ws "FairDesk$Goods" mm_T4 8, w ∈ mm_ws := by
  intro w hw
  have e : u_ws "FairDesk$Goods" mm_T4 8 = [.lays "FairDesk$Goods" "FairDesk$Goods" "people" "I", .lays "FairDesk$Goods" "FairDesk$Goods" "items" "I", .laysFinal "FairDesk$Goods" "FairDesk$Goods" "values" "[[I", .laysFinal "FairDesk$Goods" "FairDesk$Goods" "holders" "[I", .laysFinal "FairDesk$Goods" "FairDesk$Goods" "enviers" "[I", .laysFinal "FairDesk$Goods" "FairDesk$Goods" "takers" "[I", .laysFinal "FairDesk$Goods" "FairDesk$Goods" "productSearch" "LFairDesk$ProductSearch;", .laysFinal "FairDesk$Goods" "FairDesk$Goods" "bundleSearch" "LFairDesk$BundleSearch;"] := rfl
  rw [e] at hw
  simp only [List.mem_cons, List.not_mem_nil, or_false] at hw
  rcases hw with rfl | rfl | rfl | rfl | rfl | rfl | rfl | rfl
  · exact mm_m 145 rfl rfl
  · exact mm_m 147 rfl rfl
  · exact mm_m 149 rfl rfl
  · exact mm_m 151 rfl rfl
  · exact mm_m 153 rfl rfl
  · exact mm_m 155 rfl rfl
  · exact mm_m 157 rfl rfl
  · exact mm_m 159 rfl rfl
theorem mm_df4 : (mm_def 4).length = 8 ∧ ∀ k, k < 8 → (mm_def 4)[k]? = some (defaultValue (mm_fty 4 k)) := by decide +kernel
theorem mm_nm5 : ∀ a, a < 9 → ∀ b, b < 9 → a ≠ b → (mm_T5 a).2.1 ≠ (mm_T5 b).2.1 := by decide +kernel
theorem mm_tok5 : ∀ k, k < 9 → parseFieldDescriptor (mm_T5 k).2.2.1 = some (mm_ty5 k) := by decide +kernel
set_option maxRecDepth 100000 in
theorem mm_u5 : ∀ w ∈ u_ws "FairDesk$House" mm_T5 9, w ∈ mm_ws := by
  intro w hw
  have e : u_ws "FairDesk$House" mm_T5 9 = [.lays "FairDesk$House" "FairDesk$House" "people" "I", .lays "FairDesk$House" "FairDesk$House" "totalRent" "I", .lays "FairDesk$House" "FairDesk$House" "divided" "Z", .lays "FairDesk$House" "FairDesk$House" "bestSum" "I", .laysFinal "FairDesk$House" "FairDesk$House" "values" "[[I", .laysFinal "FairDesk$House" "FairDesk$House" "roomsTried" "[I", .laysFinal "FairDesk$House" "FairDesk$House" "roomsGot" "[I", .laysFinal "FairDesk$House" "FairDesk$House" "leads" "[I", .laysFinal "FairDesk$House" "FairDesk$House" "rents" "[LFairDesk$Fraction;"] := rfl
  rw [e] at hw
  simp only [List.mem_cons, List.not_mem_nil, or_false] at hw
  rcases hw with rfl | rfl | rfl | rfl | rfl | rfl | rfl | rfl | rfl
  · exact mm_m 192 rfl rfl
  · exact mm_m 194 rfl rfl
  · exact mm_m 196 rfl rfl
  · exact mm_m 198 rfl rfl
  · exact mm_m 200 rfl rfl
  · exact mm_m 202 rfl rfl
  · exact mm_m 204 rfl rfl
  · exact mm_m 206 rfl rfl
  · exact mm_m 208 rfl rfl
theorem mm_df5 : (mm_def 5).length = 9 ∧ ∀ k, k < 9 → (mm_def 5)[k]? = some (defaultValue (mm_fty 5 k)) := by decide +kernel
theorem mm_nm6 : ∀ a, a < 9 → ∀ b, b < 9 → a ≠ b → (mm_T6 a).2.1 ≠ (mm_T6 b).2.1 := by decide +kernel
theorem mm_tok6 : ∀ k, k < 9 → parseFieldDescriptor (mm_T6 k).2.2.1 = some (mm_ty6 k) := by decide +kernel
set_option maxRecDepth 100000 in
theorem mm_u6 : ∀ w ∈ u_ws "FairDesk$ProductSearch" mm_T6 9, w ∈ mm_ws := by
  intro w hw
  have e : u_ws "FairDesk$ProductSearch" mm_T6 9 = [.lays "FairDesk$ProductSearch" "FairDesk$ProductSearch" "people" "I", .lays "FairDesk$ProductSearch" "FairDesk$ProductSearch" "items" "I", .lays "FairDesk$ProductSearch" "FairDesk$ProductSearch" "values" "[[I", .lays "FairDesk$ProductSearch" "FairDesk$ProductSearch" "bestHolders" "[I", .lays "FairDesk$ProductSearch" "FairDesk$ProductSearch" "bestCount" "I", .lays "FairDesk$ProductSearch" "FairDesk$ProductSearch" "bestProduct" "J", .laysFinal "FairDesk$ProductSearch" "FairDesk$ProductSearch" "holders" "[I", .laysFinal "FairDesk$ProductSearch" "FairDesk$ProductSearch" "held" "[I", .laysFinal "FairDesk$ProductSearch" "FairDesk$ProductSearch" "rest" "[[I"] := rfl
  rw [e] at hw
  simp only [List.mem_cons, List.not_mem_nil, or_false] at hw
  rcases hw with rfl | rfl | rfl | rfl | rfl | rfl | rfl | rfl | rfl
  · exact mm_m 91 rfl rfl
  · exact mm_m 93 rfl rfl
  · exact mm_m 95 rfl rfl
  · exact mm_m 97 rfl rfl
  · exact mm_m 99 rfl rfl
  · exact mm_m 101 rfl rfl
  · exact mm_m 103 rfl rfl
  · exact mm_m 105 rfl rfl
  · exact mm_m 107 rfl rfl
theorem mm_df6 : (mm_def 6).length = 9 ∧ ∀ k, k < 9 → (mm_def 6)[k]? = some (defaultValue (mm_fty 6 k)) := by decide +kernel
theorem mm_nm7 : ∀ a, a < 27 → ∀ b, b < 27 → a ≠ b → (mm_T7 a).2.1 ≠ (mm_T7 b).2.1 := by decide +kernel
theorem mm_tok7 : ∀ k, k < 27 → parseFieldDescriptor (mm_T7 k).2.2.1 = some (mm_ty7 k) := by decide +kernel
set_option maxRecDepth 100000 in
theorem mm_u7 : ∀ w ∈ u_ws "FairDeskModel" mm_T7 27, w ∈ mm_ws := by
  intro w hw
  have e : u_ws "FairDeskModel" mm_T7 27 = [.lays "FairDeskModel" "FairDeskModel" "thrownCode" "I", .lays "FairDeskModel" "FairDeskModel" "people" "I", .lays "FairDeskModel" "FairDeskModel" "items" "I", .laysFinal "FairDeskModel" "FairDeskModel" "values" "[I", .laysFinal "FairDeskModel" "FairDeskModel" "holder" "[I", .laysFinal "FairDeskModel" "FairDeskModel" "way" "[I", .laysFinal "FairDeskModel" "FairDeskModel" "worths" "[I", .laysFinal "FairDeskModel" "FairDeskModel" "rooms" "[I", .lays "FairDeskModel" "FairDeskModel" "total" "I", .lays "FairDeskModel" "FairDeskModel" "divided" "Z", .laysFinal "FairDeskModel" "FairDeskModel" "roomOf" "[I", .laysFinal "FairDeskModel" "FairDeskModel" "tryRoom" "[I", .laysFinal "FairDeskModel" "FairDeskModel" "more" "[I", .laysFinal "FairDeskModel" "FairDeskModel" "rentAbove" "[J", .laysFinal "FairDeskModel" "FairDeskModel" "rentBelow" "[J", .lays "FairDeskModel" "FairDeskModel" "length" "I", .laysFinal "FairDeskModel" "FairDeskModel" "density" "[I", .lays "FairDeskModel" "FairDeskModel" "isCut" "Z", .laysFinal "FairDeskModel" "FairDeskModel" "fromAbove" "[J", .laysFinal "FairDeskModel" "FairDeskModel" "fromBelow" "[J", .laysFinal "FairDeskModel" "FairDeskModel" "toAbove" "[J", .laysFinal "FairDeskModel" "FairDeskModel" "toBelow" "[J", .laysFinal "FairDeskModel" "FairDeskModel" "markAbove" "[J", .laysFinal "FairDeskModel" "FairDeskModel" "markBelow" "[J", .lays "FairDeskModel" "FairDeskModel" "above" "J", .lays "FairDeskModel" "FairDeskModel" "below" "J", .laysFinal "FairDeskModel" "FairDeskModel" "group" "[I"] := rfl
  rw [e] at hw
  simp only [List.mem_cons, List.not_mem_nil, or_false] at hw
  rcases hw with rfl | rfl | rfl | rfl | rfl | rfl | rfl | rfl | rfl | rfl | rfl | rfl | rfl | rfl | rfl | rfl | rfl | rfl | rfl | rfl | rfl | rfl | rfl | rfl | rfl | rfl | rfl
  · exact mm_m 836 rfl rfl
  · exact mm_m 838 rfl rfl
  · exact mm_m 840 rfl rfl
  · exact mm_m 842 rfl rfl
  · exact mm_m 844 rfl rfl
  · exact mm_m 846 rfl rfl
  · exact mm_m 848 rfl rfl
  · exact mm_m 850 rfl rfl
  · exact mm_m 852 rfl rfl
  · exact mm_m 854 rfl rfl
  · exact mm_m 856 rfl rfl
  · exact mm_m 858 rfl rfl
  · exact mm_m 860 rfl rfl
  · exact mm_m 862 rfl rfl
  · exact mm_m 864 rfl rfl
  · exact mm_m 866 rfl rfl
  · exact mm_m 868 rfl rfl
  · exact mm_m 870 rfl rfl
  · exact mm_m 872 rfl rfl
  · exact mm_m 874 rfl rfl
  · exact mm_m 876 rfl rfl
  · exact mm_m 878 rfl rfl
  · exact mm_m 880 rfl rfl
  · exact mm_m 882 rfl rfl
  · exact mm_m 884 rfl rfl
  · exact mm_m 886 rfl rfl
  · exact mm_m 888 rfl rfl
theorem mm_df7 : (mm_def 7).length = 27 ∧ ∀ k, k < 27 → (mm_def 7)[k]? = some (defaultValue (mm_fty 7 k)) := by decide +kernel
theorem mm_cl_ok {ci N : Nat} {C : String} {T : u_T} (h : mm_cl[ci]? = some (C, T, N)) : ci < 50 ∧ (∀ w ∈ u_ws C T N, w ∈ mm_ws) ∧ (∀ k, k < N → parseFieldDescriptor (T k).2.2.1 = some (mm_fty ci k)) ∧ (∀ a, a < N → ∀ b, b < N → a ≠ b → (T a).2.1 ≠ (T b).2.1) ∧ ((mm_def ci).length = N ∧ ∀ k, k < N → (mm_def ci)[k]? = some (defaultValue (mm_fty ci k))) := by
  match ci, h with
  | 0, h => cases h; exact ⟨by decide, mm_u0, mm_tok0, mm_nm0, mm_df0⟩
  | 1, h => cases h; exact ⟨by decide, mm_u1, mm_tok1, mm_nm1, mm_df1⟩
  | 2, h => cases h; exact ⟨by decide, mm_u2, mm_tok2, mm_nm2, mm_df2⟩
  | 3, h => cases h; exact ⟨by decide, mm_u3, mm_tok3, mm_nm3, mm_df3⟩
  | 4, h => cases h; exact ⟨by decide, mm_u4, mm_tok4, mm_nm4, mm_df4⟩
  | 5, h => cases h; exact ⟨by decide, mm_u5, mm_tok5, mm_nm5, mm_df5⟩
  | 6, h => cases h; exact ⟨by decide, mm_u6, mm_tok6, mm_nm6, mm_df6⟩
  | 7, h => cases h; exact ⟨by decide, mm_u7, mm_tok7, mm_nm7, mm_df7⟩
  | _ + 8, h => cases h
theorem mm_vr_def (ads : List Nat) (ty : FieldType) : mm_vr ads (defaultValue ty) (defaultValue ty) := by
  cases ty <;> rfl
theorem mm_comp_ok {k k2 : Nat} (h1 : mm_akd k = 4) (h2 : mm_comp k = k2) (h3 : k2 < 50) : ∃ t C T N, k = 50 + t ∧ mm_arr[t]? = some (.object C) ∧ mm_cl[k2]? = some (C, T, N) := by
  unfold mm_comp at h2
  split at h2
  · subst h2
    exact ⟨3, "FairDesk$Fraction", mm_T3, 2, rfl, rfl, rfl⟩
  · subst h2
    exact absurd h3 (by decide)
set_option maxRecDepth 100000 in
theorem mm_w_i : Cond.arrayClass .int ∈ mm_ws := mm_m 110 rfl rfl
set_option maxRecDepth 100000 in
theorem mm_w_l : Cond.arrayClass .long ∈ mm_ws := mm_m 891 rfl rfl
set_option maxRecDepth 100000 in
theorem mm_w_z : Cond.arrayClass .boolean ∈ mm_ws := mm_m 257 rfl rfl
end
section
/-! What is known of the tables at a method's start, and how it moves on. -/
/-- the statics that are there aren't among the cells that may change -/
def mm_sep (s : State) (A : Nat → Prop) : Prop := ∀ (a : Nat) (cell : Cell), s.heap[a]? = some cell → cell.vm.isStatics = true → ¬ A a
def mm_AOA (U : State) : Prop := (Cond.arrayOver (.array .int)).before #[] U = true
theorem mm_AOA.moved {u U : State} (hvm : u.vm.Alike U.vm) (h : mm_AOA u) : mm_AOA U := by
  obtain ⟨comp, c, k, h1, h2, h3, h4, h5⟩ := arrayOverA_spec h
  obtain ⟨k', hk', he⟩ := hvm.2.2 _ _ h3
  have hi : (U.vm.classes.findIdx? fun (x : Class) => match x.kind with | .array component _ => component == comp | _ => false) = some c := by
    have e1 := (va_idx_bare U.vm comp).symm
    first | rw [hvm.bare_eq] at e1 | rw [← hvm.bare_eq] at e1
    exact e1.trans ((va_idx_bare u.vm comp).trans h2)
  have hkind : k'.kind = .array comp (.array .int) := by rw [he]; exact h4
  have f1 : U.vm.findClass (FieldType.array .int).toString = some comp := by rw [hvm.findClass]; exact h1
  have f2 : U.vm.findClass ("[" ++ (FieldType.array .int).toString) = some c := by rw [hvm.findClass]; exact h5
  unfold mm_AOA Cond.before Cond.holds
  simp only [Cond.value]
  rw [f1, Option.bind_some]
  refine (congrArg (fun o : Option Nat => (o.bind (fun c => (U.vm.classes[c]?).map fun (k : Class) => match k.kind with | .array _ ty => decide (ty = FieldType.array .int) && decide (U.vm.findClass ("[" ++ (FieldType.array .int).toString) = some c) | _ => false) == some true)) hi).trans ?_
  simp [hk', hkind, f2]
/-- a static that holds a reference or null -/
def mm_zs (C n d : String) (U : State) : Prop := (Cond.laysStatic C n d).before #[] U = true ∧ (Cond.isRef (.static C n d)).before #[] U = true
theorem mm_zs.move {C n d : String} {s U : State} (hvm : s.vm.Alike U.vm) (hh : ∀ (a : Nat) (cell : Cell), s.heap[a]? = some cell → cell.vm.isStatics = true → U.heap[a]? = some cell) (h : mm_zs C n d s) : mm_zs C n d U := by
  obtain ⟨h1, h2⟩ := h
  obtain ⟨c, k, i, f, a, cell, hc, hi, hst, ha, hcell, hs, hcls, hlt, hty⟩ := Cond.laysStatic_spec h1
  obtain ⟨k', hi', he⟩ := State.fieldFound?_setVm hvm hi
  have hi' : U.fieldFound? C n d = some (c, k', i, f) := hi'
  have hcell' := hh a cell hcell hs
  have ha' : k'.statics = some a := by rw [he]; exact ha
  have hc' : U.vm.findClass C = some c := by rw [hvm.findClass]; exact hc
  refine ⟨Cond.laysStatic_of hc' hi' hst ha' hcell' hs hcls hlt (by rw [he]; exact hty), ?_⟩
  have ev : (Term.static C n d).eval #[] s none [] s = cell.slots[f.slot]? := by simp [Term.eval, State.fieldNamed?, hi, hst, ha, hcell, hs]
  have ev' : (Term.static C n d).eval #[] U none [] U = cell.slots[f.slot]? := by simp [Term.eval, State.fieldNamed?, hi', hst, ha', hcell', hs]
  simp only [Cond.before, Cond.holds, Cond.value, ev, ev'] at h2 ⊢
  exact h2
def mm_xw : List Cond := [.declares (Bundle.initS "java/lang/RuntimeException"), .declares (Bundle.initS "java/lang/Exception"), .declares (Bundle.initS "java/lang/Throwable"), .castable "java/lang/IllegalArgumentException" "java/lang/IllegalArgumentException", .castable "java/lang/IndexOutOfBoundsException" "java/lang/IndexOutOfBoundsException", .castable "java/lang/IllegalStateException" "java/lang/IllegalStateException"]
theorem mm_xw_warm {s U : State} (hW : s.WarmedH U.vm) (h : ∀ w ∈ mm_xw, va_Nw w s) : ∀ w ∈ mm_xw, va_Nw w U := by
  intro w hw
  have h1 := h w hw
  simp only [mm_xw, List.mem_cons, List.not_mem_nil, or_false] at hw
  rcases hw with rfl | rfl | rfl | rfl | rfl | rfl
  · exact va_Nw.warmD hW h1
  · exact va_Nw.warmD hW h1
  · exact va_Nw.warmD hW h1
  · exact va_Nw.warmC hW h1
  · exact va_Nw.warmC hW h1
  · exact va_Nw.warmC hW h1
theorem mm_xw_same {u U : State} (hv : u.vm = U.vm) (h : ∀ w ∈ mm_xw, va_Nw w u) : ∀ w ∈ mm_xw, va_Nw w U := by
  intro w hw
  have h1 := h w hw
  simp only [mm_xw, List.mem_cons, List.not_mem_nil, or_false] at hw
  rcases hw with rfl | rfl | rfl | rfl | rfl | rfl <;> exact va_Nw.same rfl hv h1
def mm_nc : List (String × String) := [("java/lang/IndexOutOfBoundsException", "java/lang/IllegalArgumentException"), ("java/lang/IllegalStateException", "java/lang/IndexOutOfBoundsException")]
def mm_ex (U : State) : Prop := (∀ q ∈ mm_nest, va_Nw (.methodLinkNest q.1 q.2.1 (mm_y q.2.2.1) q.2.2.2) U) ∧ va_AO "FairDesk$Fraction" U ∧ mm_AOA U ∧ (∀ q ∈ mm_strs, ∃ a, vk_R q.1 q.2.1 q.2.2 a U) ∧ (∀ w ∈ mm_xw, va_Nw w U) ∧ (∀ q ∈ mm_nc, va_Nc q.1 q.2 U) ∧ mm_zs "java/lang/Throwable" "UNASSIGNED_STACK" "[Ljava/lang/StackTraceElement;" U ∧ mm_zs "java/lang/Throwable" "SUPPRESSED_SENTINEL" "Ljava/util/List;" U
/-- the classes of D are those of the tables -/
def mm_kn (D : va_G) (U : State) : Prop := va_K D mm_cl [] U ∧ (∀ (t : Nat) (ty : FieldType), mm_arr[t]? = some ty → ArrOfT U (D.1 (50 + t)) ty ∧ va_RA U (D.1 (50 + t)) ty) ∧ ArrOfT U (D.1 99) .int ∧ mm_ex U
theorem mm_kn.calling {D : va_G} {U : State} {g : JFrame} {mk : MethodId} {a : Array Value} (h : mm_kn D U) : mm_kn D (U.calling g mk a) := by
  have hvm : U.vm.Alike (U.calling g mk a).vm := Vm.Alike.refl U.vm
  obtain ⟨e1, e2, e3, e4, e5, e6, e7, e8⟩ := h.2.2.2
  exact ⟨va_K.moved hvm h.1, fun t ty ht => ⟨arrOfT_moved hvm (h.2.1 t ty ht).1, (h.2.1 t ty ht).2.moved hvm⟩, arrOfT_moved hvm h.2.2.1, fun q hq => va_Nw.same rfl rfl (e1 q hq), va_AO.moved hvm e2, mm_AOA.moved hvm e3,
    fun q hq => by obtain ⟨a, ha⟩ := e4 q hq; exact ⟨a, vk_R.same rfl ha⟩, mm_xw_same (u := U) rfl e5, fun q hq => va_Nc.moved hvm (e6 q hq), mm_zs.move hvm (fun _ _ z _ => z) e7, mm_zs.move hvm (fun _ _ z _ => z) e8⟩
theorem mm_kn.move {D : va_G} {A : Nat → Prop} {s U : State} {locs : List Loc} (h : mm_kn D s) (hW : s.WarmedH U.vm) (hS : va_S A s.heap U.heap locs) (hsep : mm_sep s A) : mm_kn D U := by
  have hvm := hW.alike
  obtain ⟨e1, e2, e3, e4, e5, e6, e7, e8⟩ := h.2.2.2
  have hh : ∀ (a : Nat) (cell : Cell), s.heap[a]? = some cell → cell.vm.isStatics = true → U.heap[a]? = some cell := fun a cell h1 h2 => by
    rw [hS.2.1 a (Array.getElem?_eq_some_iff.mp h1).1 (hsep a cell h1 h2)]; exact h1
  exact ⟨va_K.moved hvm h.1, fun t ty ht => ⟨arrOfT_moved hvm (h.2.1 t ty ht).1, (h.2.1 t ty ht).2.moved hvm⟩, arrOfT_moved hvm h.2.2.1, fun q hq => va_Nw.warmM hW (e1 q hq), va_AO.moved hvm e2, mm_AOA.moved hvm e3,
    fun q hq => by obtain ⟨a, ha⟩ := e4 q hq; exact ⟨a, vk_R.warm hW ha⟩, mm_xw_warm hW e5, fun q hq => va_Nc.moved hvm (e6 q hq), mm_zs.move hvm hh e7, mm_zs.move hvm hh e8⟩
theorem mm_kn.nest {D : va_G} {U : State} (h : mm_kn D U) {own host : String} {idx j : Nat} (hq : (own, idx, j, host) ∈ mm_nest) : va_Nw (.methodLinkNest own idx (mm_y j) host) U := h.2.2.2.1 _ hq
theorem mm_arr1 {D : va_G} {s : State} {k : Nat} (hK : mm_kn D s) (h : mm_akd k = 1) : ArrOfT s (D.1 k) .int := by
  unfold mm_akd at h
  split at h <;> first | (cases h; done) | skip
  · exact (hK.2.1 0 _ rfl).1
  · exact hK.2.2.1
theorem mm_arr2 {D : va_G} {s : State} {k : Nat} (hK : mm_kn D s) (h : mm_akd k = 2) : ArrOfT s (D.1 k) .long := by
  unfold mm_akd at h
  split at h <;> first | (cases h; done) | skip
  exact (hK.2.1 1 _ rfl).1
theorem mm_arr3 {D : va_G} {s : State} {k : Nat} (hK : mm_kn D s) (h : mm_akd k = 3) : ArrOfT s (D.1 k) .boolean := by
  unfold mm_akd at h
  split at h <;> first | (cases h; done) | skip
  exact (hK.2.1 2 _ rfl).1
theorem mm_arr4 {D : va_G} {s : State} {k : Nat} (hK : mm_kn D s) (h : mm_akd k = 4) : ∃ ty : FieldType, ty.isReference = true ∧ ArrOfT s (D.1 k) ty := by
  unfold mm_akd at h
  split at h <;> first | (cases h; done) | skip
  · exact ⟨_, rfl, (hK.2.1 3 _ rfl).1⟩
  · exact ⟨_, rfl, (hK.2.1 4 _ rfl).1⟩
theorem mm_arr0 {D : va_G} {s : State} {k : Nat} (hK : mm_kn D s) (h : 0 < mm_akd k) : ∃ ty : FieldType, ArrOfT s (D.1 k) ty := by
  unfold mm_akd at h
  split at h <;> first | (exact absurd h (by decide)) | skip
  · exact ⟨_, (hK.2.1 0 _ rfl).1⟩
  · exact ⟨_, (hK.2.1 1 _ rfl).1⟩
  · exact ⟨_, (hK.2.1 2 _ rfl).1⟩
  · exact ⟨_, (hK.2.1 3 _ rfl).1⟩
  · exact ⟨_, (hK.2.1 4 _ rfl).1⟩
  · exact ⟨_, hK.2.2.1⟩
end
section
/-! The real machine does what the little one does, an instruction a row. -/
/-- what stays in a method -/
def mm_fx (p : Program) (s : State) (m : MethodId) (args : Array Value) (meth : Method) (c : Code) (j : Nat) (D : va_G) : Prop :=
  p.tables.exec = Jvm.exec ∧ c.code = mm_bytes j ∧ c.maxLocals = mm_maxL j ∧ s.vm.findClass (mm_own j) = some m.cls ∧ (∀ w ∈ mm_ws, w.before args s = true) ∧ mm_kn D s ∧ meth.sig.returnType = mm_ret j ∧ meth.locks = false ∧ (mm_ctor j = true → meth.name = "<init>") ∧ c.exceptionTable.toList.map (fun h => (h.startPc, h.endPc, h.handlerPc, h.catchType)) = mm_hh j
def mm_wd (D : va_G) (A : Nat → Prop) (H0 : Heap) (w : Nat) (ads : List Nat) (M : MH) (H : Heap) (locs : List Loc) : Prop := mm_hr D ads M H ∧ va_S A H0 H locs ∧ (∀ (k q : Nat), w ≤ k → ads[k]? = some q → A q) ∧ ∀ q, H0.size ≤ q → A q
def mm_G (p : Program) (l : Launch) (e : Env) (R : Room) (s : State) (m : MethodId) (args : Array Value) (below : List Frame) (meth : Method) (c : Code) (Q : State → Prop) (D : va_G) (A : Nat → Prop) (H0 : Heap) (w nL cells slots : Nat) (ads : List Nat) (pc : Nat) (L : ML) (S : List Value) (M : MH) : Prop :=
  ∀ (H : Heap) (locs : List Loc) (ls : Array Slot) (st : List Value), mm_wd D A H0 w ads M H locs → mm_lr ads nL L ls → mm_fa (mm_vr ads) S st → W p l e R s m args below meth c H locs cells slots Q (F0 m pc ls st)
def mm_N (p : Program) (l : Launch) (e : Env) (R : Room) (s : State) (m : MethodId) (args : Array Value) (below : List Frame) (meth : Method) (c : Code) (Q : State → Prop) (D : va_G) (A : Nat → Prop) (H0 : Heap) (w nL cells slots : Nat) (ads : List Nat) (n : MN) : Prop :=
  ∀ y : List Nat, mm_G p l e R s m args below meth c Q D A H0 w nL (cells + n.2.2.2.2.1) (slots + n.2.2.2.2.2) (ads ++ y) n.1 n.2.1 n.2.2.1 n.2.2.2.1
theorem mm_dec.by {cc : ByteArray} {pc : Nat} {i : Instr} (h : mm_dec cc pc i) (n : Nat) (hn : mm_len i = n + 1) : decode cc pc = .ok (i, n + 1) := by
  obtain ⟨len, h1, h2⟩ := h
  rcases h2 with h2 | h2
  · rw [hn] at h2; cases h2
  · rw [h1, h2, hn]
section MS
variable {p : Program} {l : Launch} {e : Env} {R : Room} {s : State} {m : MethodId} {args : Array Value} {below : List Frame} {meth : Method} {c : Code} {Q : State → Prop} {D : va_G} {A : Nat → Prop} {H0 : Heap} {w j pc cells slots : Nat} {ads : List Nat} {L : ML} {S : List Value} {M : MH} {n : MN}
theorem mm_of_go (h : mm_go pc L S M = some n) (k : mm_N p l e R s m args below meth c Q D A H0 w (mm_maxL j) cells slots ads n) : mm_G p l e R s m args below meth c Q D A H0 w (mm_maxL j) cells slots ads pc L S M := by
  cases h
  have h := k []
  rw [List.append_nil] at h
  exact h
theorem mm_of_br {b : Bool} {off : Int} (h : mm_br b pc off L S M = some n) (k : mm_N p l e R s m args below meth c Q D A H0 w (mm_maxL j) cells slots ads n) : ∃ tgt : Nat, (pc : Int) + off = (tgt : Int) ∧ (b = true → mm_G p l e R s m args below meth c Q D A H0 w (mm_maxL j) cells slots ads tgt L S M) ∧ (b = false → mm_G p l e R s m args below meth c Q D A H0 w (mm_maxL j) cells slots ads (pc + 3) L S M) := by
  unfold mm_br at h
  split at h
  · rename_i hv
    refine ⟨((pc : Int) + off).toNat, of_decide_eq_true hv, fun e => ?_, fun e => ?_⟩
    · subst e; exact mm_of_go h k
    · subst e; exact mm_of_go h k
  · cases h
theorem mm_of_jmp {off : Int} (h : mm_jmp pc off L S M = some n) (k : mm_N p l e R s m args below meth c Q D A H0 w (mm_maxL j) cells slots ads n) : ∃ tgt : Nat, (pc : Int) + off = (tgt : Int) ∧ mm_G p l e R s m args below meth c Q D A H0 w (mm_maxL j) cells slots ads tgt L S M := by
  unfold mm_jmp at h
  split at h
  · rename_i hv
    exact ⟨((pc : Int) + off).toNat, of_decide_eq_true hv, mm_of_go h k⟩
  · cases h
theorem mm_s_i2 {f : Int32 → Int32 → Int32} (row : ∀ (x y : Int32) (H : Heap) (locs : List Loc) (ls : Array Slot) (rest : List Value), W p l e R s m args below meth c H locs cells slots Q (F0 m (pc + 1) ls (.int (f x y) :: rest)) → W p l e R s m args below meth c H locs cells slots Q (F0 m pc ls (.int y :: .int x :: rest))) (h : mm_i2 f pc L S M = some n) (k : mm_N p l e R s m args below meth c Q D A H0 w (mm_maxL j) cells slots ads n) : mm_G p l e R s m args below meth c Q D A H0 w (mm_maxL j) cells slots ads pc L S M := by
  intro H locs ls st hw hl hs
  unfold mm_i2 at h
  split at h
  · obtain ⟨b1, t1, rfl, h1, hs'⟩ := hs.inv
    clear hs
    have hs := hs'
    clear hs'
    obtain ⟨b2, t2, rfl, h2, hs'⟩ := hs.inv
    clear hs
    have hs := hs'
    clear hs'
    cases h1; cases h2
    exact row _ _ _ _ _ _ (mm_of_go h k H locs ls _ hw hl ⟨rfl, hs⟩)
  · cases h
theorem mm_s_i2z {f : Int32 → Int32 → Int32} (row : ∀ (x y : Int32) (H : Heap) (locs : List Loc) (ls : Array Slot) (rest : List Value), ¬ y = 0 → W p l e R s m args below meth c H locs cells slots Q (F0 m (pc + 1) ls (.int (f x y) :: rest)) → W p l e R s m args below meth c H locs cells slots Q (F0 m pc ls (.int y :: .int x :: rest))) (h : mm_i2z f pc L S M = some n) (k : mm_N p l e R s m args below meth c Q D A H0 w (mm_maxL j) cells slots ads n) : mm_G p l e R s m args below meth c Q D A H0 w (mm_maxL j) cells slots ads pc L S M := by
  intro H locs ls st hw hl hs
  unfold mm_i2z at h
  split at h
  · obtain ⟨b1, t1, rfl, h1, hs'⟩ := hs.inv
    clear hs
    have hs := hs'
    clear hs'
    obtain ⟨b2, t2, rfl, h2, hs'⟩ := hs.inv
    clear hs
    have hs := hs'
    clear hs'
    cases h1; cases h2
    split at h
    · cases h
    · rename_i hz
      exact row _ _ _ _ _ _ (of_decide_eq_false hz) (mm_of_go h k H locs ls _ hw hl ⟨rfl, hs⟩)
  · cases h
theorem mm_s_l2 {f : Int64 → Int64 → Int64} (row : ∀ (x y : Int64) (H : Heap) (locs : List Loc) (ls : Array Slot) (rest : List Value), W p l e R s m args below meth c H locs cells slots Q (F0 m (pc + 1) ls (.long (f x y) :: rest)) → W p l e R s m args below meth c H locs cells slots Q (F0 m pc ls (.long y :: .long x :: rest))) (h : mm_l2 f pc L S M = some n) (k : mm_N p l e R s m args below meth c Q D A H0 w (mm_maxL j) cells slots ads n) : mm_G p l e R s m args below meth c Q D A H0 w (mm_maxL j) cells slots ads pc L S M := by
  intro H locs ls st hw hl hs
  unfold mm_l2 at h
  split at h
  · obtain ⟨b1, t1, rfl, h1, hs'⟩ := hs.inv
    clear hs
    have hs := hs'
    clear hs'
    obtain ⟨b2, t2, rfl, h2, hs'⟩ := hs.inv
    clear hs
    have hs := hs'
    clear hs'
    cases h1; cases h2
    exact row _ _ _ _ _ _ (mm_of_go h k H locs ls _ hw hl ⟨rfl, hs⟩)
  · cases h
theorem mm_s_l2z {f : Int64 → Int64 → Int64} (row : ∀ (x y : Int64) (H : Heap) (locs : List Loc) (ls : Array Slot) (rest : List Value), ¬ y = 0 → W p l e R s m args below meth c H locs cells slots Q (F0 m (pc + 1) ls (.long (f x y) :: rest)) → W p l e R s m args below meth c H locs cells slots Q (F0 m pc ls (.long y :: .long x :: rest))) (h : mm_l2z f pc L S M = some n) (k : mm_N p l e R s m args below meth c Q D A H0 w (mm_maxL j) cells slots ads n) : mm_G p l e R s m args below meth c Q D A H0 w (mm_maxL j) cells slots ads pc L S M := by
  intro H locs ls st hw hl hs
  unfold mm_l2z at h
  split at h
  · obtain ⟨b1, t1, rfl, h1, hs'⟩ := hs.inv
    clear hs
    have hs := hs'
    clear hs'
    obtain ⟨b2, t2, rfl, h2, hs'⟩ := hs.inv
    clear hs
    have hs := hs'
    clear hs'
    cases h1; cases h2
    split at h
    · cases h
    · rename_i hz
      exact row _ _ _ _ _ _ (of_decide_eq_false hz) (mm_of_go h k H locs ls _ hw hl ⟨rfl, hs⟩)
  · cases h
theorem mm_s_push {to : Nat} {v : Value} (hv : ∀ ads, mm_vr ads v v) (row : ∀ (H : Heap) (locs : List Loc) (ls : Array Slot) (rest : List Value), W p l e R s m args below meth c H locs cells slots Q (F0 m to ls (v :: rest)) → W p l e R s m args below meth c H locs cells slots Q (F0 m pc ls rest)) (h : mm_go to L (v :: S) M = some n) (k : mm_N p l e R s m args below meth c Q D A H0 w (mm_maxL j) cells slots ads n) : mm_G p l e R s m args below meth c Q D A H0 w (mm_maxL j) cells slots ads pc L S M := by
  intro H locs ls st hw hl hs
  exact row _ _ _ _ (mm_of_go h k H locs ls _ hw hl ⟨hv _, hs⟩)
theorem mm_s_iload {to i : Nat} (row : ∀ (x : Int32) (H : Heap) (locs : List Loc) (ls : Array Slot) (rest : List Value), ls[i]? = some (.val (.int x)) → W p l e R s m args below meth c H locs cells slots Q (F0 m to ls (.int x :: rest)) → W p l e R s m args below meth c H locs cells slots Q (F0 m pc ls rest)) (h : mm_iload to i L S M = some n) (k : mm_N p l e R s m args below meth c Q D A H0 w (mm_maxL j) cells slots ads n) : mm_G p l e R s m args below meth c Q D A H0 w (mm_maxL j) cells slots ads pc L S M := by
  intro H locs ls st hw hl hs
  unfold mm_iload at h
  split at h
  · rename_i x hx
    obtain ⟨rv, h1, h2⟩ := hl.at hx
    cases h1
    exact row _ _ _ _ _ h2 (mm_of_go h k H locs ls _ hw hl ⟨rfl, hs⟩)
  · cases h
theorem mm_s_lload {to i : Nat} (row : ∀ (x : Int64) (H : Heap) (locs : List Loc) (ls : Array Slot) (rest : List Value), ls[i]? = some (.val (.long x)) → W p l e R s m args below meth c H locs cells slots Q (F0 m to ls (.long x :: rest)) → W p l e R s m args below meth c H locs cells slots Q (F0 m pc ls rest)) (h : mm_lload to i L S M = some n) (k : mm_N p l e R s m args below meth c Q D A H0 w (mm_maxL j) cells slots ads n) : mm_G p l e R s m args below meth c Q D A H0 w (mm_maxL j) cells slots ads pc L S M := by
  intro H locs ls st hw hl hs
  unfold mm_lload at h
  split at h
  · rename_i x hx
    obtain ⟨rv, h1, h2⟩ := hl.at hx
    cases h1
    exact row _ _ _ _ _ h2 (mm_of_go h k H locs ls _ hw hl ⟨rfl, hs⟩)
  · cases h
theorem mm_s_aload {to i : Nat} (row : ∀ (x : Nat) (H : Heap) (locs : List Loc) (ls : Array Slot) (rest : List Value), ls[i]? = some (.val (.ref x)) → W p l e R s m args below meth c H locs cells slots Q (F0 m to ls (.ref x :: rest)) → W p l e R s m args below meth c H locs cells slots Q (F0 m pc ls rest)) (h : mm_aload to i L S M = some n) (k : mm_N p l e R s m args below meth c Q D A H0 w (mm_maxL j) cells slots ads n) : mm_G p l e R s m args below meth c Q D A H0 w (mm_maxL j) cells slots ads pc L S M := by
  intro H locs ls st hw hl hs
  unfold mm_aload at h
  split at h
  · rename_i x hx
    obtain ⟨rv, ⟨q, hq, rfl⟩, h2⟩ := hl.at hx
    exact row _ _ _ _ _ h2 (mm_of_go h k H locs ls _ hw hl ⟨⟨q, hq, rfl⟩, hs⟩)
  · cases h
theorem mm_s_istore {to i : Nat} (row : ∀ (x : Int32) (H : Heap) (locs : List Loc) (ls : Array Slot) (rest : List Value) (lv : ML), lv_has ls (mm_maxL j) lv → i < mm_maxL j → (∀ ls' : Array Slot, lv_has ls' (mm_maxL j) ((i, Value.int x) :: lv.filter (fun q => !(q.1 == i) && !(q.1 + 1 == i && q.2.category == 2))) → W p l e R s m args below meth c H locs cells slots Q (F0 m to ls' rest)) → W p l e R s m args below meth c H locs cells slots Q (F0 m pc ls (.int x :: rest))) (h : mm_istore (mm_maxL j) to i L S M = some n) (k : mm_N p l e R s m args below meth c Q D A H0 w (mm_maxL j) cells slots ads n) : mm_G p l e R s m args below meth c Q D A H0 w (mm_maxL j) cells slots ads pc L S M := by
  intro H locs ls st hw hl hs
  unfold mm_istore at h
  split at h
  · obtain ⟨b1, t1, rfl, h1, hs'⟩ := hs.inv
    clear hs
    have hs := hs'
    clear hs'
    cases h1
    split at h
    · rename_i hi
      obtain ⟨RL, hl1, hl2⟩ := hl
      exact row _ _ _ _ _ RL hl1 (Nat.le_of_ble_eq_true hi) (fun ls' hl' => mm_of_go h k H locs ls' _ hw ⟨_, hl', mm_lr.st1 hl2 rfl⟩ hs)
    · cases h
  · cases h
theorem mm_s_lstore {to i : Nat} (row : ∀ (x : Int64) (H : Heap) (locs : List Loc) (ls : Array Slot) (rest : List Value) (lv : ML), lv_has ls (mm_maxL j) lv → i + 1 < mm_maxL j → (∀ ls' : Array Slot, lv_has ls' (mm_maxL j) ((i, Value.long x) :: lv.filter (fun q => !(q.1 == i) && (!(q.1 == i + 1) && !(q.1 + 1 == i && q.2.category == 2)))) → W p l e R s m args below meth c H locs cells slots Q (F0 m to ls' rest)) → W p l e R s m args below meth c H locs cells slots Q (F0 m pc ls (.long x :: rest))) (h : mm_lstore (mm_maxL j) to i L S M = some n) (k : mm_N p l e R s m args below meth c Q D A H0 w (mm_maxL j) cells slots ads n) : mm_G p l e R s m args below meth c Q D A H0 w (mm_maxL j) cells slots ads pc L S M := by
  intro H locs ls st hw hl hs
  unfold mm_lstore at h
  split at h
  · obtain ⟨b1, t1, rfl, h1, hs'⟩ := hs.inv
    clear hs
    have hs := hs'
    clear hs'
    cases h1
    split at h
    · rename_i hi
      obtain ⟨RL, hl1, hl2⟩ := hl
      exact row _ _ _ _ _ RL hl1 (Nat.le_of_ble_eq_true hi) (fun ls' hl' => mm_of_go h k H locs ls' _ hw ⟨_, hl', mm_lr.st2 hl2 rfl⟩ hs)
    · cases h
  · cases h
theorem mm_s_astore {to i : Nat} (row : ∀ (x : Nat) (H : Heap) (locs : List Loc) (ls : Array Slot) (rest : List Value) (lv : ML), lv_has ls (mm_maxL j) lv → i < mm_maxL j → (∀ ls' : Array Slot, lv_has ls' (mm_maxL j) ((i, Value.ref x) :: lv.filter (fun q => !(q.1 == i) && !(q.1 + 1 == i && q.2.category == 2))) → W p l e R s m args below meth c H locs cells slots Q (F0 m to ls' rest)) → W p l e R s m args below meth c H locs cells slots Q (F0 m pc ls (.ref x :: rest))) (h : mm_astore (mm_maxL j) to i L S M = some n) (k : mm_N p l e R s m args below meth c Q D A H0 w (mm_maxL j) cells slots ads n) : mm_G p l e R s m args below meth c Q D A H0 w (mm_maxL j) cells slots ads pc L S M := by
  intro H locs ls st hw hl hs
  unfold mm_astore at h
  split at h
  · obtain ⟨b1, t1, rfl, ⟨q, hq, rfl⟩, hs'⟩ := hs.inv
    clear hs
    have hs := hs'
    clear hs'
    split at h
    · rename_i hi
      obtain ⟨RL, hl1, hl2⟩ := hl
      exact row _ _ _ _ _ RL hl1 (Nat.le_of_ble_eq_true hi) (fun ls' hl' => mm_of_go h k H locs ls' _ hw ⟨_, hl', mm_lr.st1 hl2 ⟨q, hq, rfl⟩⟩ hs)
    · cases h
  · cases h
theorem mm_s_iinc (hf : mm_fx p s m args meth c j D) {i : Nat} {z : Int} (hd : mm_dec (mm_bytes j) pc (.iinc i z)) (h : mm_iinc (mm_maxL j) pc i z L S M = some n) (k : mm_N p l e R s m args below meth c Q D A H0 w (mm_maxL j) cells slots ads n) : mm_G p l e R s m args below meth c Q D A H0 w (mm_maxL j) cells slots ads pc L S M := by
  intro H locs ls st hw hl hs
  unfold mm_iinc at h
  split at h
  · rename_i x hx
    split at h
    · rename_i hi
      obtain ⟨RL, hl1, hl2⟩ := hl
      obtain ⟨r, h3, h4, h5⟩ := mm_look_fa hl2 hx
      obtain ⟨i', v'⟩ := r
      cases h4; cases h5
      obtain ⟨kx, hk⟩ := List.getElem?_of_mem h3
      exact lv_iinc hf.1 hf.2.1 (hd.by 2 rfl) hl1 hk rfl (Nat.le_of_ble_eq_true hi) rfl (fun ls' hl' => mm_of_go h k H locs ls' _ hw ⟨_, hl', mm_lr.st1 hl2 rfl⟩ hs)
    · cases h
  · cases h
theorem mm_s_if1 (hf : mm_fx p s m args meth c j D) {q : ClassFile.Cond} {off : Int} (hd : mm_dec (mm_bytes j) pc (.ifCond q off)) (h : mm_if1 q pc off L S M = some n) (k : mm_N p l e R s m args below meth c Q D A H0 w (mm_maxL j) cells slots ads n) : mm_G p l e R s m args below meth c Q D A H0 w (mm_maxL j) cells slots ads pc L S M := by
  intro H locs ls st hw hl hs
  unfold mm_if1 at h
  split at h
  · obtain ⟨b1, t1, rfl, h1, hs'⟩ := hs.inv
    clear hs
    have hs := hs'
    clear hs'
    cases h1
    obtain ⟨tgt, ht, kt, kf⟩ := mm_of_br h k
    cases q with
    | eq => exact lv_if_eq hf.1 hf.2.1 (hd.by 2 rfl) ht (fun z => kt (decide_eq_true z) H locs ls _ hw hl hs) (fun z => kf (decide_eq_false z) H locs ls _ hw hl hs)
    | ne => exact lv_if_ne hf.1 hf.2.1 (hd.by 2 rfl) ht (fun z => kt (by simp [mm_if, z]) H locs ls _ hw hl hs) (fun z => kf (by simp [mm_if, z]) H locs ls _ hw hl hs)
    | lt => exact lv_if_lt hf.1 hf.2.1 (hd.by 2 rfl) ht (fun z => kt (decide_eq_true z) H locs ls _ hw hl hs) (fun z => kf (decide_eq_false z) H locs ls _ hw hl hs)
    | ge => exact lv_if_ge hf.1 hf.2.1 (hd.by 2 rfl) ht (fun z => kt (decide_eq_true z) H locs ls _ hw hl hs) (fun z => kf (decide_eq_false z) H locs ls _ hw hl hs)
    | gt => exact lv_if_gt hf.1 hf.2.1 (hd.by 2 rfl) ht (fun z => kt (decide_eq_true z) H locs ls _ hw hl hs) (fun z => kf (decide_eq_false z) H locs ls _ hw hl hs)
    | le => exact lv_if_le hf.1 hf.2.1 (hd.by 2 rfl) ht (fun z => kt (decide_eq_true z) H locs ls _ hw hl hs) (fun z => kf (decide_eq_false z) H locs ls _ hw hl hs)
  · cases h
theorem mm_s_if2 (hf : mm_fx p s m args meth c j D) {q : ClassFile.Cond} {off : Int} (hd : mm_dec (mm_bytes j) pc (.if_icmp q off)) (h : mm_if2 q pc off L S M = some n) (k : mm_N p l e R s m args below meth c Q D A H0 w (mm_maxL j) cells slots ads n) : mm_G p l e R s m args below meth c Q D A H0 w (mm_maxL j) cells slots ads pc L S M := by
  intro H locs ls st hw hl hs
  unfold mm_if2 at h
  split at h
  · obtain ⟨b1, t1, rfl, h1, hs'⟩ := hs.inv
    clear hs
    have hs := hs'
    clear hs'
    obtain ⟨b2, t2, rfl, h2, hs'⟩ := hs.inv
    clear hs
    have hs := hs'
    clear hs'
    cases h1; cases h2
    obtain ⟨tgt, ht, kt, kf⟩ := mm_of_br h k
    cases q with
    | eq => exact lv_icmp_eq hf.1 hf.2.1 (hd.by 2 rfl) ht (fun z => kt (decide_eq_true z) H locs ls _ hw hl hs) (fun z => kf (decide_eq_false z) H locs ls _ hw hl hs)
    | ne => exact lv_icmp_ne hf.1 hf.2.1 (hd.by 2 rfl) ht (fun z => kt (by simp [mm_if, z]) H locs ls _ hw hl hs) (fun z => kf (by simp [mm_if, z]) H locs ls _ hw hl hs)
    | lt => exact lv_icmp_lt hf.1 hf.2.1 (hd.by 2 rfl) ht (fun z => kt (decide_eq_true z) H locs ls _ hw hl hs) (fun z => kf (decide_eq_false z) H locs ls _ hw hl hs)
    | ge => exact lv_icmp_ge hf.1 hf.2.1 (hd.by 2 rfl) ht (fun z => kt (decide_eq_true z) H locs ls _ hw hl hs) (fun z => kf (decide_eq_false z) H locs ls _ hw hl hs)
    | gt => exact lv_icmp_gt hf.1 hf.2.1 (hd.by 2 rfl) ht (fun z => kt (decide_eq_true z) H locs ls _ hw hl hs) (fun z => kf (decide_eq_false z) H locs ls _ hw hl hs)
    | le => exact lv_icmp_le hf.1 hf.2.1 (hd.by 2 rfl) ht (fun z => kt (decide_eq_true z) H locs ls _ hw hl hs) (fun z => kf (decide_eq_false z) H locs ls _ hw hl hs)
  · cases h
theorem mm_s_goto (hf : mm_fx p s m args meth c j D) {off : Int} (hd : mm_dec (mm_bytes j) pc (.goto off)) (h : mm_jmp pc off L S M = some n) (k : mm_N p l e R s m args below meth c Q D A H0 w (mm_maxL j) cells slots ads n) : mm_G p l e R s m args below meth c Q D A H0 w (mm_maxL j) cells slots ads pc L S M := by
  intro H locs ls st hw hl hs
  obtain ⟨tgt, ht, kt⟩ := mm_of_jmp h k
  exact lv_goto hf.1 hf.2.1 (hd.by 2 rfl) ht (kt H locs ls _ hw hl hs)
theorem mm_s_tsw (hf : mm_fx p s m args meth c j D) {dflt lo hi : Int} {offs : Array Int} (hd : mm_dec (mm_bytes j) pc (.tableswitch dflt lo hi offs)) (h : mm_tsw pc dflt lo hi offs L S M = some n) (k : mm_N p l e R s m args below meth c Q D A H0 w (mm_maxL j) cells slots ads n) : mm_G p l e R s m args below meth c Q D A H0 w (mm_maxL j) cells slots ads pc L S M := by
  intro H locs ls st hw hl hs
  obtain ⟨len, hd, -⟩ := hd
  unfold mm_tsw at h
  split at h
  · rename_i x r
    obtain ⟨b1, t1, rfl, h1, hs'⟩ := hs.inv
    clear hs
    have hs := hs'
    clear hs'
    cases h1
    split at h
    · rename_i hb
      obtain ⟨tgt, ht, kt⟩ := mm_of_jmp h k
      refine lv_tableOut hf.1 hf.2.1 hd ?_ ht (kt H locs ls _ hw hl hs)
      rcases Bool.or_eq_true_iff.mp hb with z | z
      · exact Or.inl (of_decide_eq_true z)
      · exact Or.inr (of_decide_eq_true z)
    · rename_i hb
      have hb := Bool.or_eq_false_iff.mp hb
      split at h
      · rename_i off ho
        obtain ⟨tgt, ht, kt⟩ := mm_of_jmp h k
        exact lv_tableIn hf.1 hf.2.1 hd (of_decide_eq_false hb.1) (of_decide_eq_false hb.2) ho ht (kt H locs ls _ hw hl hs)
      · cases h
  · cases h
end MS
end
section
/-! The steps that read and write cells. -/
theorem mm_isArr {s : State} {cell : Cell} {cA : ClassId} {ty : FieldType} (h : ArrOfT s cA ty) (hc : cell.cls = cA) (hv : cell.vm.isStatics = false) : s.isArrayOf cell ty := by
  obtain ⟨-, k, hk, comp, hkind⟩ := h 0 (fun _ => .null)
  exact ⟨VmData.ne_statics_of hv, k, by rw [hc]; exact hk, comp, hkind⟩
theorem mm_in {i : Int32} {n : Nat} (h0 : ¬ i < 0) (h : i.toNatClampNeg < n) : ¬ (i < 0 ∨ n ≤ i.toNatClampNeg) := fun z => by
  rcases z with z | z
  · exact h0 z
  · omega
section MS2
variable {p : Program} {l : Launch} {e : Env} {R : Room} {s : State} {m : MethodId} {args : Array Value} {below : List Frame} {meth : Method} {c : Code} {Q : State → Prop} {D : va_G} {A : Nat → Prop} {H0 : Heap} {w j pc cells slots : Nat} {ads : List Nat} {L : ML} {S : List Value} {M : MH} {n : MN}
theorem mm_s_ald {kd : Nat} (hkd : kd ≠ 0) (row : ∀ (q k2 : Nat) (cell : Cell) (i : Int32) (v : Value) (H : Heap) (locs : List Loc) (ls : Array Slot) (rest : List Value), H[q]? = some cell → cell.cls = D.1 k2 → mm_akd k2 = kd → cell.vm ≠ .unknown → cell.vm.isStatics = false → ¬ (i < 0 ∨ cell.slots.size ≤ i.toNatClampNeg) → cell.slots[i.toNatClampNeg]? = some v → W p l e R s m args below meth c H locs cells slots Q (F0 m (pc + 1) ls (v :: rest)) → W p l e R s m args below meth c H locs cells slots Q (F0 m pc ls (.int i :: .ref q :: rest))) (h : mm_ald kd pc L S M = some n) (k : mm_N p l e R s m args below meth c Q D A H0 w (mm_maxL j) cells slots ads n) : mm_G p l e R s m args below meth c Q D A H0 w (mm_maxL j) cells slots ads pc L S M := by
  intro H locs ls st hw hl hs
  unfold mm_ald at h
  split at h
  · rename_i i a r
    obtain ⟨b1, t1, rfl, h1, hs'⟩ := hs.inv
    clear hs
    have hs := hs'
    clear hs'
    obtain ⟨b2, t2, rfl, ⟨q, hq, rfl⟩, hs'⟩ := hs.inv
    clear hs
    have hs := hs'
    clear hs'
    cases h1
    split at h
    · rename_i k2 vs hM
      split at h
      · rename_i hb
        obtain ⟨hb1, hb2⟩ := Bool.and_eq_true_iff.mp hb
        have hk2 : mm_akd k2 = kd := Nat.eq_of_beq_eq_true hb1
        have hi0 : ¬ i < 0 := of_decide_eq_false (by simpa using hb2)
        split at h
        · rename_i v hv
          obtain ⟨cell, rvs, c1, c2, c3, c4, c5, c6⟩ := (hw.1.at hM hq).2 (mm_akd_ge (by rw [hk2]; exact hkd))
          obtain ⟨rv, g1, g2⟩ := c6.get hv
          have hlt : i.toNatClampNeg < rvs.length := (List.getElem?_eq_some_iff.mp g1).1
          exact row q k2 cell i rv H locs ls _ c1 c2 hk2 c3 c4 (mm_in hi0 (by rw [c5]; simpa using hlt)) (by rw [c5]; simpa using g1) (mm_of_go h k H locs ls _ hw hl ⟨g2, hs⟩)
        · cases h
      · cases h
    · cases h
  · cases h
/-- the cells behind a store into an array -/
theorem mm_wd.arr {ads : List Nat} {M : MH} {H H1 : Heap} {locs : List Loc} {a q i kd : Nat} {vs : List Value} {v rv : Value} {cell : Cell} (hw : mm_wd D A H0 w ads M H locs) (hM : M[a]? = some (kd, vs)) (hq : ads[a]? = some q) (ha : w ≤ a) (hkd : 50 ≤ kd) (hc : H[q]? = some cell) (hv : mm_vr ads v rv)
    (e1 : H1[q]? = some (cell.setSlot i rv)) (e2 : H1.size = H.size) (e3 : ∀ x, x ≠ q → H1[x]? = H[x]?) : mm_wd D A H0 w ads (mm_put M a i v) H1 (locs ++ [⟨q, i⟩]) := by
  obtain ⟨cell', rvs, c1, c2, c3, c4, c5, c6⟩ := (hw.1.at hM hq).2 hkd
  cases hc.symm.trans c1
  have hp : mm_put M a i v = M.set a (kd, vs.set i v) := by unfold mm_put; rw [hM]
  rw [hp]
  refine ⟨hw.1.set hq ⟨fun z => absurd z (Nat.not_lt.mpr hkd), fun _ => ⟨cell.setSlot i rv, rvs.set i rv, e1, c2, c3, c4, ?_, c6.set hv i⟩⟩ e3, hw.2.1.put e2 e3 (hw.2.2.1 a q ha hq), hw.2.2.1, hw.2.2.2⟩
  simp [Cell.setSlot, c5]
theorem mm_s_ast {kd : Nat} {ok : Value → Bool} (hkd : kd ≠ 0) (row : ∀ (q k2 : Nat) (cell : Cell) (i : Int32) (v rv : Value) (H : Heap) (locs : List Loc) (ls : Array Slot) (rest : List Value), ok v = true → mm_vr ads v rv → H[q]? = some cell → cell.cls = D.1 k2 → mm_akd k2 = kd → cell.vm ≠ .unknown → cell.vm.isStatics = false → ¬ (i < 0 ∨ cell.slots.size ≤ i.toNatClampNeg) → (∀ H1 : Heap, H1[q]? = some (cell.setSlot i.toNatClampNeg rv) → H1.size = H.size → (∀ x, x ≠ q → H1[x]? = H[x]?) → W p l e R s m args below meth c H1 (locs ++ [⟨q, i.toNatClampNeg⟩]) cells slots Q (F0 m (pc + 1) ls rest)) → W p l e R s m args below meth c H locs cells slots Q (F0 m pc ls (rv :: .int i :: .ref q :: rest))) (h : mm_ast w kd ok pc L S M = some n) (k : mm_N p l e R s m args below meth c Q D A H0 w (mm_maxL j) cells slots ads n) : mm_G p l e R s m args below meth c Q D A H0 w (mm_maxL j) cells slots ads pc L S M := by
  intro H locs ls st hw hl hs
  unfold mm_ast at h
  split at h
  · rename_i v i a r
    obtain ⟨b0, t0, rfl, h0, hs'⟩ := hs.inv
    clear hs
    have hs := hs'
    clear hs'
    obtain ⟨b1, t1, rfl, h1, hs'⟩ := hs.inv
    clear hs
    have hs := hs'
    clear hs'
    obtain ⟨b2, t2, rfl, ⟨q, hq, rfl⟩, hs'⟩ := hs.inv
    clear hs
    have hs := hs'
    clear hs'
    cases h1
    split at h
    · rename_i k2 vs hM
      split at h
      · rename_i hb
        simp only [Bool.and_eq_true] at hb
        obtain ⟨⟨⟨⟨hb1, hb2⟩, hb3⟩, hb4⟩, hb5⟩ := hb
        have hk2 : mm_akd k2 = kd := Nat.eq_of_beq_eq_true hb1
        have hi0 : ¬ i < 0 := of_decide_eq_false (by simpa using hb2)
        have hlt : i.toNatClampNeg < vs.length := Nat.le_of_ble_eq_true hb3
        have ha : w ≤ a := Nat.le_of_ble_eq_true hb5
        have hge := mm_akd_ge (k := k2) (by rw [hk2]; exact hkd)
        obtain ⟨cell, rvs, c1, c2, c3, c4, c5, c6⟩ := (hw.1.at hM hq).2 hge
        have hlen : cell.slots.size = vs.length := by rw [c5]; simpa using c6.len.symm
        exact row q k2 cell i v b0 H locs ls _ hb4 h0 c1 c2 hk2 c3 c4 (mm_in hi0 (by rw [hlen]; exact hlt)) (fun H1 e1 e2 e3 => mm_of_go h k H1 _ ls _ (hw.arr hM hq ha hge c1 h0 e1 e2 e3) hl hs)
      · cases h
    · cases h
  · cases h
theorem mm_s_getf (hf : mm_fx p s m args meth c j D) {idx ci f : Nat} {fin : Bool} (hp : mm_fok (mm_own j) idx ci f fin) (hd : mm_dec (mm_bytes j) pc (.getfield idx)) (h : mm_getf (pc + 3) ci f L S M = some n) (k : mm_N p l e R s m args below meth c Q D A H0 w (mm_maxL j) cells slots ads n) : mm_G p l e R s m args below meth c Q D A H0 w (mm_maxL j) cells slots ads pc L S M := by
  intro H locs ls st hw hl hs
  obtain ⟨hx, hb, hml, hown, hts, hK, -⟩ := hf
  obtain ⟨C, T, N, p1, p2, p3, -, p5, -⟩ := hp
  obtain ⟨d1, d2, d3, d4, d5⟩ := mm_cl_ok p1
  unfold mm_getf at h
  split at h
  · obtain ⟨b2, t2, rfl, ⟨q, hq, rfl⟩, hs'⟩ := hs.inv
    clear hs
    have hs := hs'
    clear hs'
    split at h
    · rename_i kd fs hM
      split at h
      · rename_i hbq
        have hkd : kd = ci := Nat.eq_of_beq_eq_true hbq
        subst hkd
        split at h
        · rename_i v hv
          obtain ⟨cell, c1, c2, c3, c4⟩ := (hw.1.at hM hq).1 d1
          obtain ⟨rv, g1, g2⟩ := c4 f v hv
          obtain ⟨hS, hfc, kC, hkC, hkind⟩ := hK.1.1 kd _ p1
          obtain ⟨cf, kf, fi, fd, hi, hsl⟩ := hS f p2
          rw [p3] at hi
          exact W.getf hx hb hown (hts _ p5) hi (u_facts hfc hkC (by have := u_lays hts d2 p2; rw [p3] at this; exact this) hi).1 c1 (by rw [c3]; exact fun z => by cases z) (v := rv) (by rw [hsl]; exact g1) rfl rfl (hd.by 2 rfl) (mm_of_go h k H locs ls _ hw hl ⟨g2, hs⟩)
        · cases h
      · cases h
    · cases h
  · cases h
theorem mm_wd.obj {ads : List Nat} {M : MH} {H H1 : Heap} {locs : List Loc} {a q f ci N : Nat} {fs : List Value} {v rv : Value} {cell : Cell} (hw : mm_wd D A H0 w ads M H locs) (hM : M[a]? = some (ci, fs)) (hq : ads[a]? = some q) (ha : w ≤ a) (hci : ci < 50) (hc : H[q]? = some cell) (hv : mm_vr ads v rv) (hf : f < fs.length) (hN : fs.length = N)
    (hap : ∀ x y, x < N → y < N → x ≠ y → (D.2 ci) x ≠ (D.2 ci) y)
    (e1 : H1[q]? = some (cell.setSlot (D.2 ci f) rv)) (e2 : H1.size = H.size) (e3 : ∀ x, x ≠ q → H1[x]? = H[x]?) : mm_wd D A H0 w ads (mm_put M a f v) H1 (locs ++ [⟨q, D.2 ci f⟩]) := by
  obtain ⟨cell', c1, c2, c3, c4⟩ := (hw.1.at hM hq).1 hci
  cases hc.symm.trans c1
  have hp : mm_put M a f v = M.set a (ci, fs.set f v) := by unfold mm_put; rw [hM]
  rw [hp]
  refine ⟨hw.1.set hq ⟨fun _ => ⟨cell.setSlot (D.2 ci f) rv, e1, c2, c3, fun x w hx => ?_⟩, fun z => absurd hci (Nat.not_lt.mpr z)⟩ e3, hw.2.1.put e2 e3 (hw.2.2.1 a q ha hq), hw.2.2.1, hw.2.2.2⟩
  obtain ⟨rw0, g1, g2⟩ := c4 f _ (List.getElem?_eq_getElem hf)
  have hlt := k2_hasslot g1
  by_cases hxf : x = f
  · subst hxf
    rw [List.getElem?_set_self hf] at hx
    cases hx
    exact ⟨rv, by simp [Cell.setSlot, hlt], hv⟩
  · rw [List.getElem?_set_ne (Ne.symm hxf)] at hx
    obtain ⟨r2, g3, g4⟩ := c4 x w hx
    have hxl : x < fs.length := (List.getElem?_eq_some_iff.mp hx).1
    exact ⟨r2, by rw [slot_ne cell rv (hap f x (by omega) (by omega) (Ne.symm hxf))]; exact g3, g4⟩
theorem mm_s_putf (hf : mm_fx p s m args meth c j D) {idx ci f : Nat} {fin : Bool} (hp : mm_fok (mm_own j) idx ci f fin) (hfin : fin = true → mm_ctor j = true) (hd : mm_dec (mm_bytes j) pc (.putfield idx)) (h : mm_putf w (pc + 3) ci f (mm_fitty (mm_fty ci f)) L S M = some n) (k : mm_N p l e R s m args below meth c Q D A H0 w (mm_maxL j) cells slots ads n) : mm_G p l e R s m args below meth c Q D A H0 w (mm_maxL j) cells slots ads pc L S M := by
  intro H locs ls st hw hl hs
  obtain ⟨hx, hb, hml, hown, hts, hK, -, -, hin, -⟩ := hf
  obtain ⟨C, T, N, p1, p2, p3, p4, p5, p6⟩ := hp
  obtain ⟨d1, d2, d3, d4, d5⟩ := mm_cl_ok p1
  have hap := va_apart (own := C) hts d2 (mm_fty ci) d3 d4 hK.1 p1
  unfold mm_putf at h
  split at h
  · rename_i v a r
    obtain ⟨b0, t0, rfl, h0, hs'⟩ := hs.inv
    clear hs
    have hs := hs'
    clear hs'
    obtain ⟨b2, t2, rfl, ⟨q, hq, rfl⟩, hs'⟩ := hs.inv
    clear hs
    have hs := hs'
    clear hs'
    split at h
    · rename_i kd fs hM
      split at h
      · rename_i hbq
        simp only [Bool.and_eq_true] at hbq
        obtain ⟨⟨⟨⟨hb1, hb2⟩, hb3⟩, hb4⟩, hb5⟩ := hbq
        have hkd : kd = ci := Nat.eq_of_beq_eq_true hb1
        subst hkd
        have hlt : f < fs.length := Nat.le_of_ble_eq_true hb2
        have hlen : fs.length = N := (Nat.eq_of_beq_eq_true hb3).trans d5.1
        have ha : w ≤ a := Nat.le_of_ble_eq_true hb5
        obtain ⟨hn, hft⟩ := Bool.and_eq_true_iff.mp hb4
        obtain ⟨hn, hft⟩ := h0.fit (of_decide_eq_true hn) hft
        obtain ⟨cell, c1, c2, c3, c4⟩ := (hw.1.at hM hq).1 d1
        obtain ⟨rv0, g1, g2⟩ := c4 f _ (List.getElem?_eq_getElem hlt)
        obtain ⟨hS, hfc, kC, hkC, hkind⟩ := hK.1.1 kd _ p1
        obtain ⟨cf, kf, fi, fd, hi, hsl⟩ := hS f p2
        have hlay := hts _ (d2 _ (u_in_lay p2))
        have hfacts := u_facts hfc hkC (u_lays hts d2 p2) hi
        cases fin with
        | false =>
          unfold u_lay at hlay
          rw [if_neg (by rw [p4]; decide)] at hlay
          have h6 := u_store hfc hkC hkind hlay hi (d3 f p2) hn hft
          rw [p3] at hi
          refine W.putK hx hb (f := fd) ⟨hown, hts _ p5, ⟨_, _, _, hi⟩, hfacts.1⟩ (by rw [c2]; exact h6) c1 c3 (by rw [hsl]; exact k2_hasslot g1) rfl rfl (hd.by 2 rfl) fun H1 e1 e2 e3 => ?_
          rw [hsl] at e1 ⊢
          exact mm_of_go h k H1 _ ls _ (hw.obj hM hq ha d1 c1 h0 hlt hlen hap e1 e2 e3) hl hs
        | true =>
          unfold u_lay at hlay
          rw [if_pos p4] at hlay
          have hcf : m.cls = cf := by
            obtain ⟨_, _, c', _, _, _, -, -, hf', -, -, -, hown2, -⟩ := Cond.laysFinal_spec hlay
            have e1 : c' = cf := by have := hi.symm.trans hf'; simp at this; exact this.1.symm
            rw [p3, p6 rfl] at hown2
            rw [← e1]; exact Option.some.inj (hown.symm.trans hown2)
          have h6 := u_fits hfc hkC hkind (Or.inr hlay) hi (d3 f p2) hn hft
          rw [p3] at hi
          refine W.putFinK hx hb hown (hts _ p5) hi hfacts.1 hcf (hin (hfin rfl)) (by rw [c2]; exact h6) c1 c3 (by rw [hsl]; exact k2_hasslot g1) rfl rfl (hd.by 2 rfl) fun H1 e1 e2 e3 => ?_
          rw [hsl] at e1 ⊢
          exact mm_of_go h k H1 _ ls _ (hw.obj hM hq ha d1 c1 h0 hlt hlen hap e1 e2 e3) hl hs
      · cases h
    · cases h
  · cases h
/-- the cells with a new one -/
theorem mm_wd.push {ads : List Nat} {M : MH} {H H1 : Heap} {locs : List Loc} {x : MC} (hw : mm_wd D A H0 w ads M H locs) (hc : mm_cr D (ads ++ [H.size]) x H.size H1) (hz : H1.size = H.size + 1) (ho : ∀ q, q < H.size → H1[q]? = H[q]?) : mm_wd D A H0 w (ads ++ [H.size]) (M ++ [x]) H1 locs := by
  refine ⟨hw.1.push hc ho, ⟨Nat.le_trans hw.2.1.1 (by omega), fun q h1 h2 => (ho q (Nat.lt_of_lt_of_le h1 hw.2.1.1)).trans (hw.2.1.2.1 q h1 h2), hw.2.1.2.2⟩, fun k q hk hq => ?_, hw.2.2.2⟩
  rcases Nat.lt_or_ge k ads.length with hh | hh
  · rw [List.getElem?_append_left hh] at hq; exact hw.2.2.1 k q hk hq
  · rw [List.getElem?_append_right hh] at hq
    have h0 := (List.getElem?_eq_some_iff.mp hq).1
    have hz : k - ads.length = 0 := by simp at h0; omega
    rw [hz] at hq
    cases hq
    exact hw.2.2.2 _ hw.2.1.1
theorem mm_s_new (hf : mm_fx p s m args meth c j D) {idx ci N : Nat} (hp : mm_nok (mm_own j) idx ci N) (hd : mm_dec (mm_bytes j) pc (.new idx)) (hc1 : cells + 1 ≤ R.cells) (hs1 : slots + N ≤ R.slots) (h : mm_new (pc + 3) (ci, mm_def ci) N L S M = some n) (k : mm_N p l e R s m args below meth c Q D A H0 w (mm_maxL j) cells slots ads n) : mm_G p l e R s m args below meth c Q D A H0 w (mm_maxL j) cells slots ads pc L S M := by
  intro H locs ls st hw hl hs
  obtain ⟨hx, hb, hml, hown, hts, hK, -⟩ := hf
  obtain ⟨C, T, p1, p2, p3, p4⟩ := hp
  obtain ⟨d1, d2, d3, d4, d5⟩ := mm_cl_ok p1
  cases h
  have hKn := hK.1.1 ci _ p1
  refine W.newcK hx hb hown (hts _ p2) (hts _ p3) (hts _ p4) rfl (hd.by 2 rfl) hc1 hs1 hKn.2.1 rfl fun H1 kC hkC e1 z1 o1 => ?_
  obtain ⟨cell, c1, c2, c3, c4⟩ := u_born (mm_fty ci) hts d2 hKn hkC e1 d3
  refine k [H.size] H1 locs ls _ (hw.push ⟨fun _ => ⟨cell, c1, c2, c3, fun x v hx => ?_⟩, fun z => absurd d1 (Nat.not_lt.mpr z)⟩ z1 o1) hl.mono ⟨⟨H.size, by rw [← hw.1.1]; simp, rfl⟩, hs.mono fun _ _ => mm_vr.mono⟩
  have hxl : x < N := by rw [← d5.1]; exact (List.getElem?_eq_some_iff.mp hx).1
  have e5 := d5.2 x hxl
  rw [e5] at hx
  cases hx
  exact ⟨_, c4 x hxl, mm_vr_def _ _⟩
theorem mm_s_newa (hf : mm_fx p s m args meth c j D) {at0 : ArrayType} {ty : FieldType} {kd : Nat} {z : Value} (hty : newarray.typeOf at0 = ty) (hw0 : Cond.arrayClass ty ∈ mm_ws) (hkd : mm_arr[kd]? = some ty) (hz : defaultValue ty = z) (hzr : ∀ ads, mm_vr ads z z) (hby : componentBytes ty ≤ 8) (hprim : ∀ (C : String), ty ≠ .object C) (hd : mm_dec (mm_bytes j) pc (.newarray at0)) (hc1 : cells + n.2.2.2.2.1 ≤ R.cells) (hs1 : slots + n.2.2.2.2.2 ≤ R.slots) (h : mm_newa (pc + 2) (50 + kd) z L S M = some n) (k : mm_N p l e R s m args below meth c Q D A H0 w (mm_maxL j) cells slots ads n) : mm_G p l e R s m args below meth c Q D A H0 w (mm_maxL j) cells slots ads pc L S M := by
  intro H locs ls st hw hl hs
  obtain ⟨hx, hb, hml, hown, hts, hK, -⟩ := hf
  subst hty
  unfold mm_newa at h
  split at h
  · rename_i i r
    obtain ⟨b0, t0, rfl, h0, hs'⟩ := hs.inv
    clear hs
    have hs := hs'
    clear hs'
    cases h0
    split at h
    · rename_i hbq
      obtain ⟨hb1, hb2⟩ := Bool.and_eq_true_iff.mp hbq
      have hi0 : ¬ i < 0 := of_decide_eq_false (by simpa using hb1)
      have hlt : i.toNatClampNeg < 1000 := Nat.le_of_ble_eq_true hb2
      cases h
      refine va_newaK hx hb (hts _ hw0) rfl (hd.by 1 rfl) rfl hi0 rfl (Nat.le_trans (Nat.mul_le_mul (Nat.le_of_lt hlt) hby) (by decide)) hc1 hs1 rfl fun H1 cA e1 z1 o1 hAr hNm => ?_
      have hcA : cA = D.1 (50 + kd) := by
        have h9 := (hK.2.1 kd _ hkd).2
        have h8 : s.vm.findClass ("[" ++ (newarray.typeOf at0).toString) = some (D.1 (50 + kd)) := by
          cases at0 <;> exact h9
        exact Option.some.inj (hNm.symm.trans h8)
      refine k [H.size] H1 locs ls _ (hw.push ⟨fun z => absurd z (by omega), fun _ => ⟨_, List.replicate i.toNatClampNeg (defaultValue (newarray.typeOf at0)), e1, hcA, (fun z => by cases z), rfl, ?_, mm_fa.rep (by rw [hz]; exact hzr _) _⟩⟩ z1 o1) hl.mono ⟨⟨H.size, by rw [← hw.1.1]; simp, rfl⟩, hs.mono fun _ _ => mm_vr.mono⟩
      rw [← arrV_new]
      simp
    · cases h
  · cases h
theorem mm_s_anew (hf : mm_fx p s m args meth c j D) {idx kd : Nat} (hp : mm_aok (mm_own j) (100000 + idx) kd) (hd : mm_dec (mm_bytes j) pc (.anewarray idx)) (hc1 : cells + n.2.2.2.2.1 ≤ R.cells) (hs1 : slots + n.2.2.2.2.2 ≤ R.slots) (h : mm_newa (pc + 3) kd .null L S M = some n) (k : mm_N p l e R s m args below meth c Q D A H0 w (mm_maxL j) cells slots ads n) : mm_G p l e R s m args below meth c Q D A H0 w (mm_maxL j) cells slots ads pc L S M := by
  intro H locs ls st hw hl hs
  obtain ⟨hx, hb, hml, hown, hts, hK, -⟩ := hf
  obtain ⟨t, C, i0, rfl, hi0, p1, p2, p3⟩ := hp
  have hi0 : idx = i0 := by omega
  subst hi0
  unfold mm_newa at h
  split at h
  · rename_i i r
    obtain ⟨b0, t0, rfl, h0, hs'⟩ := hs.inv
    clear hs
    have hs := hs'
    clear hs'
    cases h0
    split at h
    · rename_i hbq
      obtain ⟨hb1, hb2⟩ := Bool.and_eq_true_iff.mp hbq
      have hi0 : ¬ i < 0 := of_decide_eq_false (by simpa using hb1)
      have hlt : i.toNatClampNeg < 1000 := Nat.le_of_ble_eq_true hb2
      cases h
      subst p3
      refine W.anew hx hb hown (hts _ p2) (va_AO.use hK.2.2.2.2.1) rfl (hd.by 2 rfl) rfl hi0 (by omega) hc1 hs1 fun cA kA comp q1 q2 q3 q4 => ?_
      have hcA : cA = D.1 (50 + t) := by
        obtain ⟨kA', comp', -, -, -, h8⟩ := (hK.2.1 t _ p1).2
        exact Option.some.inj (q1.symm.trans h8)
      have e1 : (H.push { cls := cA, slots := Array.replicate i.toNatClampNeg .null, vm := .none })[H.size]? = some { cls := cA, slots := Array.replicate i.toNatClampNeg .null, vm := .none } := by simp
      refine k [H.size] _ locs ls _ (hw.push ⟨fun z => absurd z (by omega), fun _ => ⟨_, List.replicate i.toNatClampNeg .null, e1, hcA, (fun z => by cases z), rfl, by simp, mm_fa.rep (R := mm_vr _) (show mm_vr _ .null .null from rfl) _⟩⟩ (by simp) (fun q hq => by rw [Array.getElem?_push, if_neg (Nat.ne_of_lt hq)])) hl.mono ⟨⟨H.size, by rw [← hw.1.1]; simp, rfl⟩, hs.mono fun _ _ => mm_vr.mono⟩
    · cases h
  · cases h
end MS2
end
section
/-! All steps that go on, in one. -/
section MS3
variable {p : Program} {l : Launch} {e : Env} {R : Room} {s : State} {m : MethodId} {args : Array Value} {below : List Frame} {meth : Method} {c : Code} {Q : State → Prop} {D : va_G} {A : Nat → Prop} {H0 : Heap} {w d j pc cells slots : Nat} {ads : List Nat} {L : ML} {S : List Value} {M : MH} {n : MN}
theorem mm_nat_room (hR1 : d ≤ R.frames) (hR2 : 64 * d ≤ R.locals) {d' : Nat} (hd : d = d' + 1) : 1 ≤ R.frames ∧ 64 ≤ R.locals := by omega
theorem mm_s_max (hf : mm_fx p s m args meth c j D) {idx : Nat} (hR1 : 1 ≤ R.frames) (hR2 : 64 ≤ R.locals) (hc : cells ≤ R.cells) (hs0 : slots ≤ R.slots) (hd : mm_dec (mm_bytes j) pc (.invokestatic idx)) (hp : Cond.methodLink (mm_own j) idx Lib.Math.max.name ∈ mm_ws ∧ Cond.static Lib.Math.max.name ∈ mm_ws ∧ Cond.initialized "java/lang/Math" ∈ mm_ws ∧ Cond.code Lib.Math.max.name Lib.Math.max.code 2 (some .int) ∈ mm_ws) {x y : Int32} {r : List Value} (hr : mm_words r ≤ 8) (h : mm_go (pc + 3) L (.int (if x < y then y else x) :: r) M = some n) (k : mm_N p l e R s m args below meth c Q D A H0 w (mm_maxL j) cells slots ads n) : mm_G p l e R s m args below meth c Q D A H0 w (mm_maxL j) cells slots ads pc L (.int y :: .int x :: r) M := by
  intro H locs ls st hw hl hs
  obtain ⟨b1, t1, rfl, h1, hs'⟩ := hs.inv
  clear hs
  have hs := hs'
  clear hs'
  obtain ⟨b2, t2, rfl, h2, hs'⟩ := hs.inv
  clear hs
  have hs := hs'
  clear hs'
  cases h1; cases h2
  obtain ⟨RL, hl1, -⟩ := id hl
  exact va_mmax hf.1 hf.2.1 (by rw [hf.2.2.1, hl1.1]) hf.2.2.2.1 (hf.2.2.2.2.1 _ hp.1) (hf.2.2.2.2.1 _ hp.2.1) (hf.2.2.2.2.1 _ hp.2.2.1) (hf.2.2.2.2.1 _ hp.2.2.2) hR1 (by rw [mm_words_eq hs]; omega) hc hs0 (hd.by 2 rfl) (mm_of_go h k H locs ls _ hw hl ⟨rfl, hs⟩)
theorem mm_s_min (hf : mm_fx p s m args meth c j D) {idx : Nat} (hR1 : 1 ≤ R.frames) (hR2 : 64 ≤ R.locals) (hc : cells ≤ R.cells) (hs0 : slots ≤ R.slots) (hd : mm_dec (mm_bytes j) pc (.invokestatic idx)) (hp : Cond.methodLink (mm_own j) idx Lib.Math.min.name ∈ mm_ws ∧ Cond.static Lib.Math.min.name ∈ mm_ws ∧ Cond.initialized "java/lang/Math" ∈ mm_ws ∧ Cond.code Lib.Math.min.name Lib.Math.min.code 2 (some .int) ∈ mm_ws) {x y : Int32} {r : List Value} (hr : mm_words r ≤ 8) (h : mm_go (pc + 3) L (.int (if y < x then y else x) :: r) M = some n) (k : mm_N p l e R s m args below meth c Q D A H0 w (mm_maxL j) cells slots ads n) : mm_G p l e R s m args below meth c Q D A H0 w (mm_maxL j) cells slots ads pc L (.int y :: .int x :: r) M := by
  intro H locs ls st hw hl hs
  obtain ⟨b1, t1, rfl, h1, hs'⟩ := hs.inv
  clear hs
  have hs := hs'
  clear hs'
  obtain ⟨b2, t2, rfl, h2, hs'⟩ := hs.inv
  clear hs
  have hs := hs'
  clear hs'
  cases h1; cases h2
  obtain ⟨RL, hl1, -⟩ := id hl
  exact va_mmin hf.1 hf.2.1 (by rw [hf.2.2.1, hl1.1]) hf.2.2.2.1 (hf.2.2.2.2.1 _ hp.1) (hf.2.2.2.2.1 _ hp.2.1) (hf.2.2.2.2.1 _ hp.2.2.1) (hf.2.2.2.2.1 _ hp.2.2.2) hR1 (by rw [mm_words_eq hs]; omega) hc hs0 (hd.by 2 rfl) (mm_of_go h k H locs ls _ hw hl ⟨rfl, hs⟩)
theorem mm_s_maxl (hf : mm_fx p s m args meth c j D) {idx : Nat} (hR1 : 1 ≤ R.frames) (hR2 : 64 ≤ R.locals) (hc : cells ≤ R.cells) (hs0 : slots ≤ R.slots) (hd : mm_dec (mm_bytes j) pc (.invokestatic idx)) (hp : Cond.methodLink (mm_own j) idx Lib.MathLoose.max_long.x ∈ mm_ws ∧ Cond.static Lib.MathLoose.max_long.x ∈ mm_ws ∧ Cond.initialized "java/lang/Math" ∈ mm_ws ∧ Cond.code Lib.MathLoose.max_long.x Lib.MathLoose.max_long.code 4 (some .long) ∈ mm_ws) {x y : Int64} {r : List Value} (hr : mm_words r ≤ 8) (h : mm_go (pc + 3) L (.long (if y < x then x else y) :: r) M = some n) (k : mm_N p l e R s m args below meth c Q D A H0 w (mm_maxL j) cells slots ads n) : mm_G p l e R s m args below meth c Q D A H0 w (mm_maxL j) cells slots ads pc L (.long y :: .long x :: r) M := by
  intro H locs ls st hw hl hs
  obtain ⟨b1, t1, rfl, h1, hs'⟩ := hs.inv
  clear hs
  have hs := hs'
  clear hs'
  obtain ⟨b2, t2, rfl, h2, hs'⟩ := hs.inv
  clear hs
  have hs := hs'
  clear hs'
  cases h1; cases h2
  obtain ⟨RL, hl1, -⟩ := id hl
  exact va_mmax_long hf.1 hf.2.1 (by rw [hf.2.2.1, hl1.1]) hf.2.2.2.1 (hf.2.2.2.2.1 _ hp.1) (hf.2.2.2.2.1 _ hp.2.1) (hf.2.2.2.2.1 _ hp.2.2.1) (hf.2.2.2.2.1 _ hp.2.2.2) hR1 (by rw [mm_words_eq hs]; omega) hc hs0 (hd.by 2 rfl) (mm_of_go h k H locs ls _ hw hl ⟨rfl, hs⟩)
theorem mm_s_minl (hf : mm_fx p s m args meth c j D) {idx : Nat} (hR1 : 1 ≤ R.frames) (hR2 : 64 ≤ R.locals) (hc : cells ≤ R.cells) (hs0 : slots ≤ R.slots) (hd : mm_dec (mm_bytes j) pc (.invokestatic idx)) (hp : Cond.methodLink (mm_own j) idx Lib.MathLoose.min_long.x ∈ mm_ws ∧ Cond.static Lib.MathLoose.min_long.x ∈ mm_ws ∧ Cond.initialized "java/lang/Math" ∈ mm_ws ∧ Cond.code Lib.MathLoose.min_long.x Lib.MathLoose.min_long.code 4 (some .long) ∈ mm_ws) {x y : Int64} {r : List Value} (hr : mm_words r ≤ 8) (h : mm_go (pc + 3) L (.long (if y < x then y else x) :: r) M = some n) (k : mm_N p l e R s m args below meth c Q D A H0 w (mm_maxL j) cells slots ads n) : mm_G p l e R s m args below meth c Q D A H0 w (mm_maxL j) cells slots ads pc L (.long y :: .long x :: r) M := by
  intro H locs ls st hw hl hs
  obtain ⟨b1, t1, rfl, h1, hs'⟩ := hs.inv
  clear hs
  have hs := hs'
  clear hs'
  obtain ⟨b2, t2, rfl, h2, hs'⟩ := hs.inv
  clear hs
  have hs := hs'
  clear hs'
  cases h1; cases h2
  obtain ⟨RL, hl1, -⟩ := id hl
  exact va_mmin_long hf.1 hf.2.1 (by rw [hf.2.2.1, hl1.1]) hf.2.2.2.1 (hf.2.2.2.2.1 _ hp.1) (hf.2.2.2.2.1 _ hp.2.1) (hf.2.2.2.2.1 _ hp.2.2.1) (hf.2.2.2.2.1 _ hp.2.2.2) hR1 (by rw [mm_words_eq hs]; omega) hc hs0 (hd.by 2 rfl) (mm_of_go h k H locs ls _ hw hl ⟨rfl, hs⟩)
theorem mm_s_absl (hf : mm_fx p s m args meth c j D) {idx : Nat} (hR1 : 1 ≤ R.frames) (hR2 : 64 ≤ R.locals) (hc : cells ≤ R.cells) (hs0 : slots ≤ R.slots) (hd : mm_dec (mm_bytes j) pc (.invokestatic idx)) (hp : Cond.methodLink (mm_own j) idx Lib.MathLoose.abs_long.x ∈ mm_ws ∧ Cond.static Lib.MathLoose.abs_long.x ∈ mm_ws ∧ Cond.initialized "java/lang/Math" ∈ mm_ws ∧ Cond.code Lib.MathLoose.abs_long.x Lib.MathLoose.abs_long.code 2 (some .long) ∈ mm_ws) {x : Int64} {r : List Value} (hr : mm_words r ≤ 8) (h : mm_go (pc + 3) L (.long (if 0 < x then x else -x) :: r) M = some n) (k : mm_N p l e R s m args below meth c Q D A H0 w (mm_maxL j) cells slots ads n) : mm_G p l e R s m args below meth c Q D A H0 w (mm_maxL j) cells slots ads pc L (.long x :: r) M := by
  intro H locs ls st hw hl hs
  obtain ⟨b1, t1, rfl, h1, hs'⟩ := hs.inv
  clear hs
  have hs := hs'
  clear hs'
  cases h1
  obtain ⟨RL, hl1, -⟩ := id hl
  exact va_mabs_long hf.1 hf.2.1 (by rw [hf.2.2.1, hl1.1]) hf.2.2.2.1 (hf.2.2.2.2.1 _ hp.1) (hf.2.2.2.2.1 _ hp.2.1) (hf.2.2.2.2.1 _ hp.2.2.1) (hf.2.2.2.2.1 _ hp.2.2.2) hR1 (by rw [mm_words_eq hs]; omega) hc hs0 (hd.by 2 rfl) (mm_of_go h k H locs ls _ hw hl ⟨rfl, hs⟩)
theorem mm_s_oinit (hf : mm_fx p s m args meth c j D) {idx : Nat} (hR1 : 1 ≤ R.frames) (hR2 : 64 ≤ R.locals) (hd : mm_dec (mm_bytes j) pc (.invokespecial idx)) (hp : Cond.methodLink (mm_own j) idx Lib.objectInit ∈ mm_ws ∧ Cond.instanceMethod Lib.objectInit ∈ mm_ws ∧ Cond.code Lib.objectInit ⟨#[0xb1]⟩ 1 none ∈ mm_ws) {x : Nat} {r : List Value} (hr : mm_words r ≤ 8) (h : mm_go (pc + 3) L r M = some n) (k : mm_N p l e R s m args below meth c Q D A H0 w (mm_maxL j) cells slots ads n) : mm_G p l e R s m args below meth c Q D A H0 w (mm_maxL j) cells slots ads pc L (.ref x :: r) M := by
  intro H locs ls st hw hl hs
  obtain ⟨b1, t1, rfl, ⟨q, hq, rfl⟩, hs'⟩ := hs.inv
  clear hs
  have hs := hs'
  clear hs'
  obtain ⟨RL, hl1, -⟩ := id hl
  refine W.objInit hf.1 hf.2.1 hf.2.2.2.1 (hf.2.2.2.2.1 _ hp.1) (hf.2.2.2.2.1 _ hp.2.1) (hf.2.2.2.2.1 _ hp.2.2) rfl (by rw [hf.2.2.1]; exact hl1.1) rfl (hd.by 2 rfl) hR1 ?_ (mm_of_go h k H locs ls _ hw hl hs)
  rw [mm_words_eq hs]
  show 2 * 0 + _ + 12 ≤ _
  omega
end MS3
end
section
section MS5
variable {p : Program} {l : Launch} {e : Env} {R : Room} {s : State} {m : MethodId} {args : Array Value} {below : List Frame} {meth : Method} {c : Code} {Q : State → Prop} {D : va_G} {A : Nat → Prop} {H0 : Heap} {w d j pc cells slots : Nat} {ads : List Nat} {L : ML} {S : List Value} {M : MH} {n : MN}
theorem mm_s_aast (hf : mm_fx p s m args meth c j D) (hd : mm_dec (mm_bytes j) pc .aastore) (h : mm_step w d j .aastore pc L S M = some n) (k : mm_N p l e R s m args below meth c Q D A H0 w (mm_maxL j) cells slots ads n) : mm_G p l e R s m args below meth c Q D A H0 w (mm_maxL j) cells slots ads pc L S M := by
  intro H locs ls st hw hl hs
  obtain ⟨hx, hb, hml, hown, hts, hK, -⟩ := hf
  simp only [mm_step] at h
  split at h
  · rename_i v i a r
    split at h
    · rename_i k1 vs k2 ws hM hM2
      split at h
      · rename_i hbq0
        obtain ⟨hq1, hq2⟩ := Bool.and_eq_true_iff.mp hbq0
        have hk2 : mm_comp k1 = k2 := Nat.eq_of_beq_eq_true hq1
        have hlt2 : k2 < 50 := Nat.le_of_ble_eq_true hq2
        simp only [mm_ast, hM] at h
        obtain ⟨b0, t0, rfl, ⟨q0, hq0, rfl⟩, hs'⟩ := hs.inv
        clear hs
        have hs := hs'
        clear hs'
        obtain ⟨b1, t1, rfl, h1, hs'⟩ := hs.inv
        clear hs
        have hs := hs'
        clear hs'
        obtain ⟨b2, t2, rfl, ⟨q, hq, rfl⟩, hs'⟩ := hs.inv
        clear hs
        have hs := hs'
        clear hs'
        cases h1
        split at h
        · rename_i hbq
          simp only [Bool.and_eq_true] at hbq
          obtain ⟨⟨⟨⟨hb1, hb2⟩, hb3⟩, -⟩, hb5⟩ := hbq
          have hk1 : mm_akd k1 = 4 := Nat.eq_of_beq_eq_true hb1
          have hi0 : ¬ i < 0 := of_decide_eq_false (by simpa using hb2)
          have hlt : i.toNatClampNeg < vs.length := Nat.le_of_ble_eq_true hb3
          have ha : w ≤ a := Nat.le_of_ble_eq_true hb5
          have hge := mm_akd_ge (k := k1) (by rw [hk1]; decide)
          obtain ⟨t, C, T, N, rfl, w1, w2⟩ := mm_comp_ok hk1 hk2 hlt2
          obtain ⟨cell, rvs, c1, c2, c3, c4, c5, c6⟩ := (hw.1.at hM hq).2 hge
          obtain ⟨cv, v1, v2, v3, -⟩ := (hw.1.at hM2 hq0).1 hlt2
          have hlen : cell.slots.size = vs.length := by rw [c5]; simpa using c6.len.symm
          obtain ⟨-, kA, comp, r1, r2, r3, r4⟩ := hK.2.1 t _ w1
          obtain ⟨-, hfc, kC, hkC, hkd⟩ := hK.1.1 k2 _ w2
          have hcomp : comp = D.1 k2 := Option.some.inj (r3.symm.trans hfc)
          subst hcomp
          refine W.aast hx hb c1 (VmData.ne_statics_of c4) c3 (by rw [c2]; exact r1) r2 rfl hkC ⟨hi0, by rw [hlen]; exact hlt⟩ v1 (fun z hz => by rw [v3] at hz; cases hz) (by rw [v2]; exact hkC) (by rw [v2]; exact va_assign (C := C) ⟨hfc, kC, hkC, hkd⟩) rfl rfl (hd.by 0 rfl) (fun H1 e1 e2 e3 => mm_of_go h k H1 _ ls _ (hw.arr hM hq ha hge c1 ⟨q0, hq0, rfl⟩ e1 e2 e3) hl hs)
        · cases h
      · cases h
    · cases h
  · cases h
theorem mm_grid_hr {D : va_G} {ads : List Nat} {M : MH} {H F : Heap} {N K : Nat} {cA cI : ClassId} (h : mm_hr D ads M H) (hA : cA = D.1 54) (hI : cI = D.1 50)
    (hold : ∀ x, x < H.size → F[x]? = H[x]?) (hrow : ∀ j, j < N → F[H.size + 1 + j]? = some (Jvm.Free.Multi.innerC cI K (.int 0))) (hout : F[H.size]? = some (Jvm.Free.Multi.outerC cA N H.size N)) :
    mm_hr D (ads ++ (H.size :: (List.range N).map fun i => H.size + 1 + i)) (M ++ mm_grid 54 50 N K M.length) F := by
  have hget : ∀ i, i < N → ((List.range N).map fun i => H.size + 1 + i)[i]? = some (H.size + 1 + i) := fun i hi => by
    rw [List.getElem?_map, List.getElem?_range hi]; rfl
  have hread : ∀ (i q : Nat), (ads ++ (H.size :: (List.range N).map fun i => H.size + 1 + i))[i]? = some q → (i < ads.length ∧ ads[i]? = some q) ∨ (ads.length ≤ i ∧ q = H.size + (i - ads.length) ∧ i - ads.length ≤ N) := by
    intro i q hq
    rcases Nat.lt_or_ge i ads.length with hh | hh
    · rw [List.getElem?_append_left hh] at hq
      exact Or.inl ⟨hh, hq⟩
    · rw [List.getElem?_append_right hh] at hq
      cases hz : i - ads.length with
      | zero =>
        rw [hz] at hq
        cases hq
        exact Or.inr ⟨hh, rfl, by omega⟩
      | succ z =>
        rw [hz, List.getElem?_cons_succ] at hq
        have hlt := (List.getElem?_eq_some_iff.mp hq).1
        simp only [List.length_map, List.length_range] at hlt
        rw [hget z hlt] at hq
        cases hq
        exact Or.inr ⟨hh, by omega, by omega⟩
  refine ⟨by simp [h.1, mm_grid], fun i j q hi hj => ?_, fun k c hk => ?_⟩
  · rcases hread i q hi with ⟨a1, a2⟩ | ⟨a1, a2, a3⟩ <;> rcases hread j q hj with ⟨b1, b2⟩ | ⟨b1, b2, b3⟩
    · exact h.2.1 _ _ _ a2 b2
    · have := h.lt a2; omega
    · have := h.lt b2; omega
    · omega
  · rcases Nat.lt_or_ge k M.length with hh | hh
    · rw [List.getElem?_append_left hh] at hk
      obtain ⟨q, h1, h2⟩ := h.2.2 k c hk
      exact ⟨q, mm_get_app h1, (h2.kept (hold q (h.lt h1))).mono⟩
    · rw [List.getElem?_append_right hh] at hk
      have hl : ads.length ≤ k := by rw [h.1]; exact hh
      unfold mm_grid at hk
      cases hz : k - M.length with
      | zero =>
        rw [hz] at hk
        cases hk
        have hkl : k - ads.length = 0 := by rw [h.1]; exact hz
        refine ⟨H.size, by rw [List.getElem?_append_right hl, hkl]; rfl, ⟨fun z => absurd z (show ¬ (54 : Nat) < 50 by decide), fun _ => ⟨_, (List.range N).map (fun i => Value.ref (H.size + 1 + i)), hout, ?_, ?_, ?_, ?_, ?_⟩⟩⟩
        · exact ((Jvm.Free.Multi.outerC_facts cA N H.size N).1).trans hA
        · rw [(Jvm.Free.Multi.outerC_facts cA N H.size N).2.1]; exact fun z => by cases z
        · rw [(Jvm.Free.Multi.outerC_facts cA N H.size N).2.1]; rfl
        · apply Array.ext_getElem?
          intro i
          rcases Nat.lt_or_ge i N with hi | hi
          · rw [Jvm.Free.Multi.outerC_slot cA N H.size N i hi, if_pos hi]
            simp [hi]
          · rw [Array.getElem?_eq_none (by rw [(Jvm.Free.Multi.outerC_facts cA N H.size N).2.2]; exact hi)]
            simp [hi]
        · have gen : ∀ l : List Nat, (∀ x ∈ l, x < N) → mm_fa (mm_vr (ads ++ (H.size :: (List.range N).map fun i => H.size + 1 + i))) (l.map fun i => Value.ref (M.length + 1 + i)) (l.map fun i => Value.ref (H.size + 1 + i)) := by
            intro l
            induction l with
            | nil => intro _; trivial
            | cons x xs ih =>
              intro hx
              refine ⟨⟨H.size + 1 + x, ?_, rfl⟩, ih fun y hy => hx y (List.mem_cons_of_mem _ hy)⟩
              rw [List.getElem?_append_right (by rw [h.1]; omega)]
              have e0 : M.length + 1 + x - ads.length = x + 1 := by rw [h.1]; omega
              rw [e0, List.getElem?_cons_succ]
              exact hget x (hx x List.mem_cons_self)
          exact gen _ fun x hx => List.mem_range.mp hx
      | succ z =>
        rw [hz, List.getElem?_cons_succ] at hk
        have hlt := (List.getElem?_eq_some_iff.mp hk).1
        simp only [List.length_replicate] at hlt
        rw [List.getElem?_replicate, if_pos hlt] at hk
        cases hk
        refine ⟨H.size + 1 + z, ?_, ⟨fun y => absurd y (show ¬ (50 : Nat) < 50 by decide), fun _ => ⟨_, List.replicate K (.int 0), hrow z hlt, hI, (fun y => by cases y), rfl, by simp [Jvm.Free.Multi.innerC], mm_fa.rep (R := mm_vr _) (show mm_vr _ (.int 0) (.int 0) from rfl) _⟩⟩⟩
        rw [List.getElem?_append_right hl]
        have e0 : k - ads.length = z + 1 := by rw [h.1]; exact hz
        rw [e0, List.getElem?_cons_succ]
        exact hget z hlt
theorem mm_s_multi (hf : mm_fx p s m args meth c j D) {idx ok ik : Nat} (hp : mm_mok (mm_own j) idx ok ik) (hd : mm_dec (mm_bytes j) pc (.multianewarray idx 2)) (hc1 : cells + n.2.2.2.2.1 ≤ R.cells) (hs1 : slots + n.2.2.2.2.2 ≤ R.slots) (h : mm_multi (pc + 4) ok ik L S M = some n) (k : mm_N p l e R s m args below meth c Q D A H0 w (mm_maxL j) cells slots ads n) : mm_G p l e R s m args below meth c Q D A H0 w (mm_maxL j) cells slots ads pc L S M := by
  intro H locs ls st hw hl hs
  obtain ⟨hx, hb, hml, hown, hts, hK, -⟩ := hf
  obtain ⟨rfl, rfl, p1, p2⟩ := hp
  unfold mm_multi at h
  split at h
  · rename_i y z r
    obtain ⟨b0, t0, rfl, h0, hs'⟩ := hs.inv
    clear hs
    have hs := hs'
    clear hs'
    obtain ⟨b1, t1, rfl, h1, hs'⟩ := hs.inv
    clear hs
    have hs := hs'
    clear hs'
    cases h0; cases h1
    split at h
    · rename_i hbq
      simp only [Bool.and_eq_true] at hbq
      obtain ⟨⟨⟨b1, b2⟩, b3⟩, b4⟩ := hbq
      have q1 : ¬ z < 0 := of_decide_eq_false (by simpa using b1)
      have q2 : z.toNatClampNeg < 1000 := Nat.le_of_ble_eq_true b2
      have q3 : ¬ y < 0 := of_decide_eq_false (by simpa using b3)
      have q4 : y.toNatClampNeg < 1000 := Nat.le_of_ble_eq_true b4
      cases h
      intro T hT X
      have hbytes : y.toNatClampNeg * componentBytes .int ≤ 536870912 := by show y.toNatClampNeg * 4 ≤ _; omega
      obtain ⟨vm₁, cA, comp, -, fA, fC, hO, -, X', step⟩ := X.multianewarray2F hx hown (hts _ p1) hK.2.2.2.2.2.1 (hts _ p2) (g := F0 m pc ls (.int y :: .int z :: t1)) rfl (by rw [hb]; exact hd.by 3 rfl) rfl q1 q3 (by omega) hbytes (by omega) rfl rfl hc1 hs1
      have hcA : cA = D.1 54 := Option.some.inj (fA.symm.trans (hK.2.1 4 _ rfl).2)
      have hcI : comp = D.1 50 := Option.some.inj (fC.symm.trans (hK.2.1 0 _ rfl).2)
      generalize hF : Jvm.Free.Multi.fill (T.setVm vm₁) cA comp z.toNatClampNeg y.toNatClampNeg (defaultValue .int) z.toNatClampNeg = F at X' step
      have hTh : (T.setVm vm₁).heap = H := hT
      obtain ⟨f1, f2, -, -⟩ := Jvm.Free.Multi.fill_facts (T.setVm vm₁) cA comp z.toNatClampNeg y.toNatClampNeg (defaultValue .int) z.toNatClampNeg
      rw [hF, hTh] at f1 f2
      have hold : ∀ x : Nat, x < H.size → F.heap[x]? = H[x]? := fun x hx => by
        have := Jvm.Free.Multi.fill_old (T.setVm vm₁) cA comp z.toNatClampNeg y.toNatClampNeg (defaultValue .int) (a := x) (by rw [hTh]; exact hx) z.toNatClampNeg
        rw [hF, hTh] at this
        exact this
      have hrow : ∀ i : Nat, i < z.toNatClampNeg → F.heap[H.size + 1 + i]? = some (Jvm.Free.Multi.innerC comp y.toNatClampNeg (.int 0)) := fun i hi => by
        have := Jvm.Free.Multi.fill_inner (T.setVm vm₁) cA comp z.toNatClampNeg y.toNatClampNeg (defaultValue .int) z.toNatClampNeg i hi
        rw [hF, hTh] at this
        exact this
      have hhr := mm_grid_hr (N := z.toNatClampNeg) (K := y.toNatClampNeg) hw.1 hcA hcI hold hrow f2
      have hwd : mm_wd D A H0 w (ads ++ (H.size :: (List.range z.toNatClampNeg).map fun i => H.size + 1 + i)) (M ++ mm_grid 54 50 z.toNatClampNeg y.toNatClampNeg M.length) F.heap locs := by
        refine ⟨hhr, ⟨by rw [f1]; have := hw.2.1.1; omega, fun q h1 h2 => (hold q (Nat.lt_of_lt_of_le h1 hw.2.1.1)).trans (hw.2.1.2.1 q h1 h2), hw.2.1.2.2⟩, fun k0 q hk hq => ?_, hw.2.2.2⟩
        rcases Nat.lt_or_ge k0 ads.length with hh | hh
        · rw [List.getElem?_append_left hh] at hq; exact hw.2.2.1 k0 q hk hq
        · rw [List.getElem?_append_right hh] at hq
          have hmem := List.mem_of_getElem? hq
          refine hw.2.2.2 q (Nat.le_trans hw.2.1.1 ?_)
          rcases List.mem_cons.mp hmem with rfl | hmem
          · exact Nat.le_refl _
          · obtain ⟨i, -, rfl⟩ := List.mem_map.mp hmem
            omega
      have kk := k (H.size :: (List.range z.toNatClampNeg).map fun i => H.size + 1 + i) F.heap locs ls (.ref H.size :: t1) hwd hl.mono ⟨⟨H.size, by rw [← hw.1.1]; simp, rfl⟩, hs.mono fun _ _ => mm_vr.mono⟩ F rfl
      have e1 : cells + (1 + z.toNatClampNeg) = cells + 1 + z.toNatClampNeg := by omega
      have e2 : slots + (z.toNatClampNeg + z.toNatClampNeg * y.toNatClampNeg) = slots + z.toNatClampNeg + z.toNatClampNeg * y.toNatClampNeg := by omega
      rw [show cells + (pc + 4, L, Value.ref M.length :: r, M ++ mm_grid 54 50 z.toNatClampNeg y.toNatClampNeg M.length, 1 + z.toNatClampNeg, z.toNatClampNeg + z.toNatClampNeg * y.toNatClampNeg).2.2.2.2.1 = cells + 1 + z.toNatClampNeg from e1, show slots + (pc + 4, L, Value.ref M.length :: r, M ++ mm_grid 54 50 z.toNatClampNeg y.toNatClampNeg M.length, 1 + z.toNatClampNeg, z.toNatClampNeg + z.toNatClampNeg * y.toNatClampNeg).2.2.2.2.2 = slots + z.toNatClampNeg + z.toNatClampNeg * y.toNatClampNeg from e2] at kk
      obtain ⟨t, a1, b1⟩ := kk X'
      refine ⟨t, step t ?_, b1⟩
      have e : T.heap.size = H.size := by rw [hT]
      rw [e]
      exact a1
    · cases h
  · cases h
end MS5
end
section
/-! System.arraycopy between arrays of ints. -/
theorem mm_pairs {ads : List Nat} (at0 : Nat) : ∀ (xs rxs : List Value) (i : Nat) (ws rws : List Value) (ce : Cell), mm_fa (mm_vr ads) xs rxs → mm_fa (mm_vr ads) ws rws → ce.slots = rws.toArray →
    ∃ rws', (ce.storePairs at0 (rxs.zipIdx i)).slots = rws'.toArray ∧ mm_fa (mm_vr ads) (mm_cpys ws (at0 + i) xs) rws'
  | [], [], i, ws, rws, ce, _, h2, h3 => ⟨rws, h3, h2⟩
  | x :: xs, y :: ys, i, ws, rws, ce, h1, h2, h3 => by
    rw [List.zipIdx_cons]
    exact mm_pairs at0 xs ys (i + 1) (ws.set (at0 + i) x) (rws.set (at0 + i) y) (ce.setSlot (at0 + i) y) h1.2 (h2.set h1.1 _) (by simp [Cell.setSlot, h3])
  | [], _ :: _, _, _, _, _, h1, _, _ => h1.elim
  | _ :: _, [], _, _, _, _, h1, _, _ => h1.elim
theorem mm_stretch {cell : Cell} {rvs : List Value} (h : cell.slots = rvs.toArray) {sp n : Nat} (hl : sp + n ≤ rvs.length) : cell.stretch sp n = (rvs.drop sp).take n := by
  unfold Cell.stretch
  apply List.ext_getElem?
  intro i
  rw [List.getElem?_map, List.getElem?_take, h]
  by_cases hi : i < n
  · rw [List.getElem?_range hi, if_pos hi, List.getElem?_drop]
    have hlt : sp + i < rvs.length := by omega
    simp [Array.getD_eq_getD_getElem?, hlt]
  · rw [if_neg hi, List.getElem?_eq_none (by simpa using hi)]
    rfl
theorem mm_clamp {z : Int32} (h : ¬ z < 0) : z.toInt = (z.toNatClampNeg : Int) := by
  have h0 : (0 : Int) ≤ z.toInt := by
    have := Int32.not_lt.mp h
    simpa using Int32.le_iff_toInt_le.mp this
  show z.toInt = ((z.toInt.toNat : Nat) : Int)
  omega
section MS6
variable {p : Program} {l : Launch} {e : Env} {R : Room} {s : State} {m : MethodId} {args : Array Value} {below : List Frame} {meth : Method} {c : Code} {Q : State → Prop} {D : va_G} {A : Nat → Prop} {H0 : Heap} {w d j pc cells slots : Nat} {ads : List Nat} {L : ML} {S : List Value} {M : MH} {n : MN}
theorem mm_s_copy (hf : mm_fx p s m args meth c j D) {idx : Nat} (hR1 : 1 ≤ R.frames) (hR2 : 64 ≤ R.locals) (hd : mm_dec (mm_bytes j) pc (.invokestatic idx)) (hp : Cond.methodLink (mm_own j) idx arraycopyName ∈ mm_ws ∧ Cond.native arraycopyName ∈ mm_ws ∧ Cond.static arraycopyName ∈ mm_ws ∧ Cond.initialized "java/lang/System" ∈ mm_ws) {z dp sp : Int32} {a b ka kb : Nat} {vs ws r : List Value} (hM1 : M[a]? = some (ka, vs)) (hM2 : M[b]? = some (kb, ws))
    (hq : (Nat.ble (mm_words r) 8 && Nat.beq (mm_akd ka) 1 && Nat.beq (mm_akd kb) 1 && !(decide (z < 0)) && !(decide (sp < 0)) && !(decide (dp < 0)) && Nat.ble (sp.toNatClampNeg + z.toNatClampNeg) vs.length && Nat.ble (dp.toNatClampNeg + z.toNatClampNeg) ws.length && Nat.ble w b && (vs.all mm_isI)) = true)
    (h : mm_go (pc + 3) L r (M.set b (kb, mm_cpy vs ws sp.toNatClampNeg dp.toNatClampNeg z.toNatClampNeg)) = some n) (k : mm_N p l e R s m args below meth c Q D A H0 w (mm_maxL j) cells slots ads n) : mm_G p l e R s m args below meth c Q D A H0 w (mm_maxL j) cells slots ads pc L (.int z :: .int dp :: .ref b :: .int sp :: .ref a :: r) M := by
  intro H locs ls st hw hl hs T hT X
  obtain ⟨hx, hb, hml, hown, hts, hK, -⟩ := hf
  simp only [Bool.and_eq_true] at hq
  obtain ⟨⟨⟨⟨⟨⟨⟨⟨⟨q1, q2⟩, q3⟩, q4⟩, q5⟩, q6⟩, q7⟩, q8⟩, q9⟩, q10⟩ := hq
  have q1 := Nat.le_of_ble_eq_true q1
  have q2 : mm_akd ka = 1 := Nat.eq_of_beq_eq_true q2
  have q3 : mm_akd kb = 1 := Nat.eq_of_beq_eq_true q3
  have q4 : ¬ z < 0 := of_decide_eq_false (by simpa using q4)
  have q5 : ¬ sp < 0 := of_decide_eq_false (by simpa using q5)
  have q6 : ¬ dp < 0 := of_decide_eq_false (by simpa using q6)
  have q7 := Nat.le_of_ble_eq_true q7
  have q8 := Nat.le_of_ble_eq_true q8
  have q9 : w ≤ b := Nat.le_of_ble_eq_true q9
  obtain ⟨b1, t1, rfl, g1, hs'⟩ := hs.inv
  clear hs
  have hs := hs'
  clear hs'
  obtain ⟨b2, t2, rfl, g2, hs'⟩ := hs.inv
  clear hs
  have hs := hs'
  clear hs'
  obtain ⟨b3, t3, rfl, ⟨qb, hqb, rfl⟩, hs'⟩ := hs.inv
  clear hs
  have hs := hs'
  clear hs'
  obtain ⟨b4, t4, rfl, g4, hs'⟩ := hs.inv
  clear hs
  have hs := hs'
  clear hs'
  obtain ⟨b5, t5, rfl, ⟨qa, hqa, rfl⟩, hs'⟩ := hs.inv
  clear hs
  have hs := hs'
  clear hs'
  cases g1; cases g2; cases g4
  obtain ⟨RL, hl1, hl2⟩ := id hl
  have hge1 := mm_akd_ge (k := ka) (by rw [q2]; decide)
  have hge2 := mm_akd_ge (k := kb) (by rw [q3]; decide)
  obtain ⟨ca, rvs, c1, c2, c3, c4, c5, c6⟩ := (hw.1.at hM1 hqa).2 hge1
  obtain ⟨cb, rws, d1, d2, d3, d4, d5, d6⟩ := (hw.1.at hM2 hqb).2 hge2
  obtain ⟨-, k0, hk0, cm0, hkk0⟩ := mm_isArr (mm_arr1 hK q2) c2 c4
  obtain ⟨-, k1, hk1, cm1, hkk1⟩ := mm_isArr (mm_arr1 hK q3) d2 d4
  have hl1' : rvs.length = vs.length := c6.len.symm
  have hl2' : rws.length = ws.length := d6.len.symm
  have hfw : nativeFrameWords "java/lang/System" "arraycopy" 5 = 7 := by decide
  obtain ⟨vm', X', step⟩ := X.arraycopy hx hown (hts _ hp.1) (hts _ hp.2.1) (hts _ hp.2.2.1) (hts _ hp.2.2.2) (src := qa) (dst := qb) (cs := ca) (cd := cb) (srcPos := sp) (destPos := dp) (n := z) (by rw [hT]; exact c1) (by rw [hT]; exact d1)
    (VmData.ne_statics_of c4) (VmData.ne_statics_of d4) c3 d3 hk0 hk1 hkk0 hkk1 (by decide) q5 q6 q4
    (by rw [mm_clamp q5, mm_clamp q4, c5]; simp; omega) (by rw [mm_clamp q6, mm_clamp q4, d5]; simp; omega)
    (fun vm₁ _ i hi => by
      have hlt : sp.toNatClampNeg + i < rvs.length := by omega
      have hlt' : sp.toNatClampNeg + i < vs.length := by omega
      obtain ⟨rv, w1, w2⟩ := c6.get (List.getElem?_eq_getElem hlt')
      have hI : mm_isI vs[sp.toNatClampNeg + i] = true := List.all_eq_true.mp q10 _ (List.getElem_mem hlt')
      have e0 : ca.slots.getD (sp.toNatClampNeg + i) .null = rv := by
        rw [c5, Array.getD_eq_getD_getElem?]
        simp [w1]
      rw [e0]
      generalize vs[sp.toNatClampNeg + i] = vv at w2 hI
      cases vv <;> first | (cases hI; done) | skip
      cases w2
      exact ⟨rfl, trivial⟩)
    (g := F0 m pc ls (.int z :: .int dp :: .ref qb :: .int sp :: .ref qa :: t5)) rfl (by rw [hml]; exact hl1.1) (rest := t5) rfl (by rw [hb]; exact hd.by 2 rfl) hR1 (by rw [mm_words_eq hs, hfw]; show 2 * 0 + _ + _ ≤ _; omega)
  have hstr : ca.stretch sp.toNatClampNeg z.toNatClampNeg = (rvs.drop sp.toNatClampNeg).take z.toNatClampNeg := mm_stretch c5 (by omega)
  have hfa := mm_fa.take z.toNatClampNeg (mm_fa.drop sp.toNatClampNeg c6)
  obtain ⟨rws', w1, w2⟩ := mm_pairs dp.toNatClampNeg _ _ 0 _ _ cb hfa d6 d5
  have hfacts := Cell.storePairs_facts cb dp.toNatClampNeg (((rvs.drop sp.toNatClampNeg).take z.toNatClampNeg).zipIdx 0)
  have hcp : copied ca cb sp dp z = cb.storePairs dp.toNatClampNeg (((rvs.drop sp.toNatClampNeg).take z.toNatClampNeg).zipIdx 0) := by
    show cb.storePairs _ _ = _
    rw [hstr]
  rw [hcp] at X' step
  generalize cb.storePairs dp.toNatClampNeg (((rvs.drop sp.toNatClampNeg).take z.toNatClampNeg).zipIdx 0) = cn at X' step w1 hfacts
  have hlt : qb < H.size := (Array.getElem?_eq_some_iff.mp d1).1
  have hheap : ((T.setVm vm').setCell qb cn).heap = H.setIfInBounds qb cn := by rw [← hT]; rfl
  have oq : ∀ q : Nat, q ≠ qb → (H.setIfInBounds qb cn)[q]? = H[q]? := fun q hq => by simp [Array.getElem?_setIfInBounds, Ne.symm hq]
  have hwd : mm_wd D A H0 w ads (M.set b (kb, mm_cpy vs ws sp.toNatClampNeg dp.toNatClampNeg z.toNatClampNeg)) (H.setIfInBounds qb cn) (locs ++ (ca.stretch sp.toNatClampNeg z.toNatClampNeg).zipIdx.map fun q => ⟨qb, dp.toNatClampNeg + q.2⟩) := by
    refine ⟨hw.1.set hqb ⟨fun z => absurd z (Nat.not_lt.mpr hge2), fun _ => ⟨cn, rws', by simp [hlt], hfacts.1.trans d2, by rw [hfacts.2.1]; exact d3, by rw [hfacts.2.1]; exact d4, w1, w2⟩⟩ oq, ⟨by simp; exact hw.2.1.1, fun q h1 h2 => ?_, fun q hq => ?_⟩, hw.2.2.1, hw.2.2.2⟩
    · rw [oq q (fun z => h2 (by rw [z]; exact hw.2.2.1 b qb q9 hqb))]
      exact hw.2.1.2.1 q h1 h2
    · rcases List.mem_append.mp hq with h | h
      · exact hw.2.1.2.2 q h
      · obtain ⟨z, -, hz⟩ := List.mem_map.mp h
        rw [← hz]
        exact hw.2.2.1 b qb q9 hqb
  obtain ⟨t, a1, b1⟩ := mm_of_go h k _ _ ls _ hwd hl hs _ hheap X'
  exact ⟨t, step t a1, b1⟩
end MS6
end
section
/-! The contract of a method is what the little machine says of it. -/
def mm_A (w : Nat) (ads : List Nat) (sz : Nat) : Nat → Prop := fun q => (∃ k, w ≤ k ∧ ads[k]? = some q) ∨ sz ≤ q
def mm_P (D : va_G) (ads : List Nat) (M : MH) (as : List Value) (sz : Nat) : Array Value → State → Prop := fun v U => ∃ ras : List Value, v = ras.toArray ∧ mm_fa (mm_vr ads) as ras ∧ mm_hr D ads M U.heap ∧ mm_kn D U ∧ U.heap.size = sz
theorem mm_P_blind {D : va_G} {ads : List Nat} {M : MH} {as : List Value} {sz : Nat} : FrameBlind (mm_P D ads M as sz) := fun a U g mk h => by
  obtain ⟨ras, h1, h2, h3, h4, h5⟩ := h
  exact ⟨ras, h1, h2, h3, mm_kn.calling h4, h5⟩
def mm_rv (ads : List Nat) : Option Value → Option Value → Prop
  | none, none => True
  | some v, some rv => mm_vr ads v rv
  | _, _ => False
def mm_Q (D : va_G) (w : Nat) (ads : List Nat) (M1 : MH) (v : Option Value) (sz : Nat) : Array Value → State → Outcome → State → Prop := fun _ st o t => (∃ (y : List Nat) (rv : Option Value), o = .returned rv ∧ mm_rv (ads ++ y) v rv ∧ mm_hr D (ads ++ y) M1 t.heap ∧ ∀ (k q : Nat), w ≤ k → (ads ++ y)[k]? = some q → mm_A w ads sz q) ∧ va_F (mm_A w ads sz) st t
def mm_rm (d c n : Nat) : Room := { frames := d, cells := c, slots := n, locals := 64 * d }
def mm_wsm (j : Nat) : List Cond := mm_cw j :: mm_ws
theorem mm_met {l : Launch} {j : Nat} {rm : Room} {Pc : Array Value → State → Prop} {Qc : Array Value → State → Outcome → State → Prop} {mc ms : Nat} {free : Addr → Prop} (hy : plainName (mm_y j).cls = true)
    (body : ∀ p e s m args below meth c s₁, BodyLoose p l (mm_y j) (headSpec (mm_wsm j) rm) (mm_bytes j) (mm_maxL j) (mm_ret j) e s m args below meth c s₁ → c.maxLocals = mm_maxL j → Pc args s →
      W p l e (headSpec (mm_wsm j) rm).room s m args below meth c s.heap [] 0 0 (MQ below Qc args s mc ms free) (entryFrame m args (mm_maxL j))) : Met l (mm_y j) (mm_wsm j) rm Pc Qc mc ms free := by
  cases hh : mm_hh j with
  | nil => exact Met.ofW (ws' := mm_ws) hy (by unfold mm_wsm mm_cw; rw [hh]) body
  | cons q r => exact va_MetW (ws' := mm_ws) (hh := q :: r) hy (by unfold mm_wsm mm_cw; rw [hh]) body
section MM
variable {p : Program} {l : Launch} {e : Env} {R : Room} {s : State} {m : MethodId} {args : Array Value} {below : List Frame} {meth : Method} {c : Code} {Q : State → Prop} {D : va_G} {A : Nat → Prop} {d j pc cells slots : Nat} {ads : List Nat} {L : ML} {S : List Value} {M : MH} {n : MN}
theorem mm_back (hts : ∀ w ∈ mm_ws, w.before args s = true) {j' dd cc nn : Nat} {Pc : Array Value → State → Prop} {Qc : Array Value → State → Outcome → State → Prop} {free : Addr → Prop} (hm : mm_meth j') (hM : Met l (mm_y j') (mm_wsm j') (mm_rm dd cc nn) Pc Qc cc nn free) (hbl : FrameBlind Pc) (hR1 : dd + 1 ≤ R.frames) (hR2 : 64 * (dd + 1) ≤ R.locals) : Back l R p e below s args (mm_y j') 3 8 (PreOf R cc nn Pc) (PostOf Qc cc nn free) := by
  obtain ⟨h1, h2, h3, h4, h5, h6, h7⟩ := hm
  have hG : ∀ w ∈ mm_wsm j', w ∈ mm_ws ∧ ((w.onTables && w.keeps) = true ∨ ∃ ty, w = .arrayClass ty) := by
    intro w hw
    rcases List.mem_cons.mp hw with rfl | hw
    · exact ⟨h2, mm_good _ h2⟩
    · exact ⟨hw, mm_good _ hw⟩
  have hws := pay_in hts hG
  have hini : ∀ (a' : Array Value) (U : State), s.WarmedH U.vm → (Cond.initialized (mm_y j').cls).before a' U = true := fun a' U hW => hws _ (List.mem_cons_of_mem _ h3) a' U hW
  have hloc : 8 + (mm_maxL j' + 11) + (mm_rm dd cc nn).locals ≤ R.locals := by show 8 + (mm_maxL j' + 11) + 64 * dd ≤ R.locals; omega
  cases hh : mm_hh j' with
  | nil => exact back_of (bytes := mm_bytes j') (maxL := mm_maxL j') (ret := mm_ret j') hM hbl rfl rfl hR1 hloc hws (by unfold mm_wsm mm_cw; rw [hh]; exact List.mem_cons_self) hini
  | cons q r => exact va_backW (hh := q :: r) (bytes := mm_bytes j') (maxL := mm_maxL j') (ret := mm_ret j') hM hbl rfl rfl hR1 hloc hws (by unfold mm_wsm mm_cw; rw [hh]; exact List.mem_cons_self) hini
end MM
end
section
/-! A call that comes back. -/
theorem mm_fa.split {α β : Type} {R : α → β → Prop} : ∀ {as cs : List α} {bs : List β}, mm_fa R (as ++ cs) bs → ∃ b1 b2, bs = b1 ++ b2 ∧ mm_fa R as b1 ∧ mm_fa R cs b2
  | [], cs, bs, h => ⟨[], bs, rfl, trivial, h⟩
  | a :: as, cs, b :: bs, h => by
    obtain ⟨b1, b2, e, h1, h2⟩ := mm_fa.split h.2
    exact ⟨b :: b1, b2, by rw [e]; rfl, ⟨h.1, h1⟩, h2⟩
  | _ :: _, _, [], h => h.elim
theorem mm_lenok.at {j' n : Nat} (h : mm_lenok j' n) : ∀ sig, parseMethodDescriptor (mm_y j').desc = some sig → n = sig.parameters.length := fun sig hs => by
  unfold mm_lenok at h
  rw [hs] at h
  exact (Option.some.inj h).symm
/-- a call of the method j' with the arguments as, r staying on the stack -/
def mm_callI (j pc : Nat) (S : List Value) (M : MH) (j' : Nat) (as r : List Value) : Prop := mm_words r ≤ 8 ∧ mm_words as ≤ mm_maxL j' ∧
  ((∃ (b : Nat) (As : List Value), as = .ref b :: As ∧ S = As.reverse ++ .ref b :: r ∧ (∃ fs, M[b]? = some (mm_cls j', fs)) ∧ ∃ idx, (mm_dec (mm_bytes j) pc (.invokevirtual idx) ∧ (mm_vok (mm_own j) idx j' As.length ∨ mm_nvok (mm_own j) idx j' As.length)) ∨ (mm_dec (mm_bytes j) pc (.invokespecial idx) ∧ (mm_iok (mm_own j) idx j' As.length ∨ mm_niok (mm_own j) idx j' As.length))) ∨
   (S = as.reverse ++ r ∧ ∃ idx, mm_dec (mm_bytes j) pc (.invokestatic idx) ∧ mm_sok (mm_own j) idx j' as.length))
theorem mm_callI.meth {j pc : Nat} {S : List Value} {M : MH} {j' : Nat} {as r : List Value} (h : mm_callI j pc S M j' as r) : mm_meth j' := by
  obtain ⟨-, -, ⟨b, As, -, -, -, idx, ⟨-, h | h⟩ | ⟨-, h | h⟩⟩ | ⟨-, idx, -, h⟩⟩ := h <;> exact h.1
theorem mm_codeb {j : Nat} {s : State} {args : Array Value} (hts : ∀ w ∈ mm_ws, w.before args s = true) (hm : mm_meth j) (hh : mm_hh j = []) : (Cond.code (mm_y j) (mm_bytes j) (mm_maxL j) (mm_ret j)).before args s = true := by
  have h := hm.2.1
  unfold mm_cw at h
  rw [hh] at h
  exact hts _ h
section MC1
variable {p : Program} {l : Launch} {e : Env} {R : Room} {s : State} {m : MethodId} {args : Array Value} {below : List Frame} {meth : Method} {c : Code} {T : State} {locs : List Loc} {cells slots : Nat}
theorem mm_callSW (X : Stand p l e R s m args below meth c T locs cells slots) (hexec : p.tables.exec = Jvm.exec) {own : String} {index : Nat} {y : MethodName} {bytes : ByteArray} {maxL : Nat} {ret : Option FieldType} {hh : List (Nat × Nat × Nat × Nat)}
    (hown : s.vm.findClass own = some m.cls) (hlink : (Cond.methodLink own index y).before args s = true) (hstat : (Cond.static y).before args s = true) (hinit : (Cond.initialized y.cls).before args s = true)
    (hcode : (Cond.codeWith y bytes maxL ret hh).before args s = true) (hy : y.cls ≠ "java/lang/invoke/MethodHandle" ∧ y.cls ≠ "java/lang/invoke/VarHandle")
    {W : Nat} {Pre : Pt → Array Value → Prop} {Post : Pt → Array Value → Option Value → Pt → Prop} (hK : Back l R p e below s args y 3 W Pre Post)
    {g : JFrame} (hg : g.method = m) (hsize : g.locals.size = c.maxLocals) {argsL rest : List Value} (hlen : ∀ sig, parseMethodDescriptor y.desc = some sig → argsL.length = sig.parameters.length)
    (hstack : g.stack = argsL.reverse ++ rest) (hW : 2 * g.monitorRoom + (rest.map fun v => v.category).sum ≤ W) (hdg : decode c.code g.pc = .ok (.invokestatic index, 3))
    (hpre : ∀ vm₁, s.WarmedH vm₁ → Pre ⟨T.setVm vm₁, locs, cells, slots⟩ argsL.toArray) :
    ∃ (v : Option Value) (vm₁ : Vm) (B : Pt), s.WarmedH vm₁ ∧ Stand p l e R s m args below meth c B.U B.locs B.cells B.slots ∧ Post ⟨T.setVm vm₁, locs, cells, slots⟩ argsL.toArray v B ∧
      ∀ target, Steps p.tables e below (B.U.setTop { g with pc := g.pc + 3, stack := v.toList ++ rest }) target → Steps p.tables e below (T.setTop g) target := by
  obtain ⟨mk, methM, cM, hnamed, hmethM, -, -, -, -, -, -, hsigM⟩ := Cond.codeWith_spec hcode
  have hstatic : methM.isStatic = true := Cond.static_spec hnamed hmethM hstat
  obtain ⟨kP, hkP, -⟩ := className_of_methodNamed hnamed
  have hinitP : kP.init = .initialized := Cond.initialized_spec (findClass_of_methodNamed hnamed) hkP hinit
  obtain ⟨vm₁, X₁, hstep₁⟩ := X.invokestatic hexec hown hlink hnamed hmethM hstatic hkP hinitP hy (g := g) hg (argsL := argsL) (rest := rest) (hlen _ hsigM) hstack hdg
  obtain ⟨v, B, X', hpost, hsteps⟩ := hK m meth c ⟨T.setVm vm₁, locs, cells, slots⟩ { g with stack := rest } (.invokestatic index) mk argsL.toArray X₁ hg hsize hdg hW (X₁.named hnamed) (hpre vm₁ X₁.warmed)
  exact ⟨v, vm₁, B, X₁.warmed, X', hpost, fun target h => hstep₁ _ fun acts => by rw [doInvoke_state]; exact hsteps.trans h⟩
theorem mm_call {j j' pc : Nat} {S : List Value} {M : MH} {as r : List Value} {D : va_G} {ads : List Nat} {ls : Array Slot} {st : List Value} (hf : mm_fx p s m args meth c j D) (hI : mm_callI j pc S M j' as r) (X : Stand p l e R s m args below meth c T locs cells slots) (hh : mm_hr D ads M T.heap) (hsz : ls.size = mm_maxL j) (hs : mm_fa (mm_vr ads) S st)
    {Pre : Pt → Array Value → Prop} {Post : Pt → Array Value → Option Value → Pt → Prop} (hK : Back l R p e below s args (mm_y j') 3 8 Pre Post)
    (hpre : ∀ (ras : List Value), mm_fa (mm_vr ads) as ras → ∀ vm₁, s.WarmedH vm₁ → Pre ⟨T.setVm vm₁, locs, cells, slots⟩ ras.toArray) :
    ∃ (ras rr : List Value) (v : Option Value) (vm₁ : Vm) (B : Pt), mm_fa (mm_vr ads) as ras ∧ mm_fa (mm_vr ads) r rr ∧ s.WarmedH vm₁ ∧ Stand p l e R s m args below meth c B.U B.locs B.cells B.slots ∧ Post ⟨T.setVm vm₁, locs, cells, slots⟩ ras.toArray v B ∧
      ∀ target, Steps p.tables e below (B.U.setTop (F0 m (pc + 3) ls (v.toList ++ rr))) target → Steps p.tables e below (T.setTop (F0 m pc ls st)) target := by
  obtain ⟨hx, hb, hml, hown, hts, hkn, -⟩ := hf
  obtain ⟨hw, hwa, h | h⟩ := hI
  · obtain ⟨b, As, rfl, rfl, ⟨fs, hM⟩, idx, h⟩ := h
    obtain ⟨t1, t2, rfl, g1, g2⟩ := hs.split
    obtain ⟨q0, rr, rfl, ⟨q, hq, rfl⟩, g3⟩ := g2.inv
    have g4 := g1.rev
    rw [List.reverse_reverse] at g4
    have hlen : As.length = t1.reverse.length := g4.len
    have hst : t1 ++ Value.ref q :: rr = t1.reverse.reverse ++ Value.ref q :: rr := by rw [List.reverse_reverse]
    have hpre' := hpre (.ref q :: t1.reverse) ⟨⟨q, hq, rfl⟩, g4⟩
    have hwr : 2 * (F0 m pc ls (t1 ++ Value.ref q :: rr)).monitorRoom + (rr.map fun v => v.category).sum ≤ 8 := by
      rw [mm_words_eq g3]
      show 2 * 0 + _ ≤ 8
      omega
    rcases h with ⟨hd, h | h⟩ | ⟨hd, h | h⟩
    · obtain ⟨hm, hhh, w1, w2, w3, ⟨T0, N0, w4⟩, w5⟩ := h
      obtain ⟨d1, -⟩ := mm_cl_ok w4
      obtain ⟨cell, c1, c2, c3, -⟩ := (hh.at hM hq).1 d1
      obtain ⟨-, hfc, -⟩ := hkn.1.1 _ _ w4
      obtain ⟨v, vm₁, B, z1, z2, z3, z4⟩ := callV X hx (C := mm_own j') (bytes := mm_bytes j') (maxL := mm_maxL j') (ret := mm_ret j') hown (hts _ w1) (hts _ w2) (hts _ w3) (mm_codeb hts hm hhh) hm.2.2.2.2.1 hK c1 (by rw [c3]; rfl) (by rw [c2]; exact hfc) (g := F0 m pc ls (t1 ++ Value.ref q :: rr)) rfl (hsz.trans hml.symm) (argsL := t1.reverse) (rest := rr) (fun sig hsg => by rw [← hlen]; exact w5.at sig hsg) hst hwr (by rw [hb]; exact hd.by 2 rfl) hpre'
      exact ⟨.ref q :: t1.reverse, rr, v, vm₁, B, ⟨⟨q, hq, rfl⟩, g4⟩, g3, z1, z2, z3, z4⟩
    · obtain ⟨hm, hhh, ⟨host, w1⟩, w2, w3, ⟨T0, N0, w4⟩, w5⟩ := h
      obtain ⟨d1, -⟩ := mm_cl_ok w4
      obtain ⟨cell, c1, c2, c3, -⟩ := (hh.at hM hq).1 d1
      obtain ⟨-, hfc, -⟩ := hkn.1.1 _ _ w4
      obtain ⟨v, vm₁, B, z1, z2, z3, z4⟩ := va_callVN X hx (C := mm_own j') (bytes := mm_bytes j') (maxL := mm_maxL j') (ret := mm_ret j') hown (va_Nw.use rfl (hkn.nest w1)) (hts _ w2) (hts _ w3) (mm_codeb hts hm hhh) hm.2.2.2.2.1 hK c1 (by rw [c3]; rfl) (by rw [c2]; exact hfc) (g := F0 m pc ls (t1 ++ Value.ref q :: rr)) rfl (hsz.trans hml.symm) (argsL := t1.reverse) (rest := rr) (fun sig hsg => by rw [← hlen]; exact w5.at sig hsg) hst hwr (by rw [hb]; exact hd.by 2 rfl) hpre'
      exact ⟨.ref q :: t1.reverse, rr, v, vm₁, B, ⟨⟨q, hq, rfl⟩, g4⟩, g3, z1, z2, z3, z4⟩
    · obtain ⟨hm, hhh, w1, w2, ⟨w3, w4⟩, w5⟩ := h
      have hcd := mm_codeb hts hm hhh
      rw [w4] at hcd
      obtain ⟨v, vm₁, B, z1, z2, z3, z4⟩ := callI X hx (bytes := mm_bytes j') (maxL := mm_maxL j') hown w3 (hts _ w1) (hts _ w2) hcd hm.2.2.2.2.1 hK (g := F0 m pc ls (t1 ++ Value.ref q :: rr)) rfl (hsz.trans hml.symm) (a := q) (argsL := t1.reverse) (rest := rr) (fun sig hsg => by rw [← hlen]; exact w5.at sig hsg) hst hwr (by rw [hb]; exact hd.by 2 rfl) hpre'
      exact ⟨.ref q :: t1.reverse, rr, v, vm₁, B, ⟨⟨q, hq, rfl⟩, g4⟩, g3, z1, z2, z3, z4⟩
    · obtain ⟨hm, hhh, ⟨host, w1⟩, w2, ⟨w3, w4⟩, w5⟩ := h
      have hcd := mm_codeb hts hm hhh
      rw [w4] at hcd
      obtain ⟨v, vm₁, B, z1, z2, z3, z4⟩ := va_callIN X hx (bytes := mm_bytes j') (maxL := mm_maxL j') hown w3 (va_Nw.use rfl (hkn.nest w1)) (hts _ w2) hcd hm.2.2.2.2.1 hK (g := F0 m pc ls (t1 ++ Value.ref q :: rr)) rfl (hsz.trans hml.symm) (a := q) (argsL := t1.reverse) (rest := rr) (fun sig hsg => by rw [← hlen]; exact w5.at sig hsg) hst hwr (by rw [hb]; exact hd.by 2 rfl) hpre'
      exact ⟨.ref q :: t1.reverse, rr, v, vm₁, B, ⟨⟨q, hq, rfl⟩, g4⟩, g3, z1, z2, z3, z4⟩
  · obtain ⟨rfl, idx, hd, hm, w1, w2, w5⟩ := h
    obtain ⟨t1, rr, rfl, g1, g3⟩ := hs.split
    have g4 := g1.rev
    rw [List.reverse_reverse] at g4
    have hlen : as.length = t1.reverse.length := g4.len
    have hst : t1 ++ rr = t1.reverse.reverse ++ rr := by rw [List.reverse_reverse]
    have hpre' := hpre t1.reverse g4
    have hwr : 2 * (F0 m pc ls (t1 ++ rr)).monitorRoom + (rr.map fun v => v.category).sum ≤ 8 := by
      rw [mm_words_eq g3]
      show 2 * 0 + _ ≤ 8
      omega
    have hini := hts _ hm.2.2.1
    cases hhh : mm_hh j' with
    | nil =>
      obtain ⟨v, vm₁, B, z1, z2, z3, z4⟩ := callS X hx (bytes := mm_bytes j') (maxL := mm_maxL j') (ret := mm_ret j') hown (hts _ w1) (hts _ w2) hini (mm_codeb hts hm hhh) hm.2.2.2.2.1 hK (g := F0 m pc ls (t1 ++ rr)) rfl (hsz.trans hml.symm) (argsL := t1.reverse) (rest := rr) (fun sig hsg => by rw [← hlen]; exact w5.at sig hsg) hst hwr (by rw [hb]; exact hd.by 2 rfl) hpre'
      exact ⟨_, rr, v, vm₁, B, g4, g3, z1, z2, z3, z4⟩
    | cons qq qr =>
      have hcd := hm.2.1
      unfold mm_cw at hcd
      rw [hhh] at hcd
      obtain ⟨v, vm₁, B, z1, z2, z3, z4⟩ := mm_callSW X hx (bytes := mm_bytes j') (maxL := mm_maxL j') (ret := mm_ret j') (hh := qq :: qr) hown (hts _ w1) (hts _ w2) hini (hts _ hcd) hm.2.2.2.2.1 hK (g := F0 m pc ls (t1 ++ rr)) rfl (hsz.trans hml.symm) (argsL := t1.reverse) (rest := rr) (fun sig hsg => by rw [← hlen]; exact w5.at sig hsg) hst hwr (by rw [hb]; exact hd.by 2 rfl) hpre'
      exact ⟨_, rr, v, vm₁, B, g4, g3, z1, z2, z3, z4⟩
end MC1
section MC2
variable {p : Program} {l : Launch} {e : Env} {R : Room} {s : State} {m : MethodId} {args : Array Value} {below : List Frame} {meth : Method} {c : Code} {Q : State → Prop} {D : va_G} {A : Nat → Prop} {w d j j' pc cells slots : Nat} {ads : List Nat} {L : ML} {S : List Value} {M M1 : MH} {as r : List Value}
theorem mm_s_call {dd cc nn : Nat} {v : Option Value} (hf : mm_fx p s m args meth c j D) (hsep : mm_sep s A) (hI : mm_callI j pc S M j' as r) (hM : ∀ (sz : Nat), Met l (mm_y j') (mm_wsm j') (mm_rm dd cc nn) (mm_P D ads M as sz) (mm_Q D w ads M1 v sz) cc nn (mm_A w ads sz)) (hR1 : dd + 1 ≤ R.frames) (hR2 : 64 * (dd + 1) ≤ R.locals) (hc : cells + cc ≤ R.cells) (hn : slots + nn ≤ R.slots)
    (k : ∀ y : List Nat, mm_G p l e R s m args below meth c Q D A s.heap w (mm_maxL j) (cells + cc) (slots + nn) (ads ++ y) (pc + 3) L (v.toList ++ r) M1) : mm_G p l e R s m args below meth c Q D A s.heap w (mm_maxL j) cells slots ads pc L S M := by
  intro H locs ls st hw hl hs T hT X
  obtain ⟨RL, hl1, hl2⟩ := id hl
  have hK := mm_back (R := R) (p := p) (e := e) (below := below) hf.2.2.2.2.1 hI.meth (hM H.size) mm_P_blind hR1 hR2
  obtain ⟨ras, rr, v', vm₁, B, g1, g2, hW₁, X', ⟨g, mk, t, Lo, e1, e2, hq, e3, hL, e4, e5⟩, st'⟩ := mm_call hf hI X (by rw [hT]; exact hw.1) hl1.1 hs hK (fun ras hr vm₁ hW => ⟨hc, hn, ras, rfl, hr, by show mm_hr D ads M T.heap; rw [hT]; exact hw.1, hf.2.2.2.2.2.1.move (A := A) hW (by show va_S A s.heap T.heap locs; rw [hT]; exact hw.2.1) hsep, by show T.heap.size = H.size; rw [hT]⟩)
  obtain ⟨⟨y, rv, ho, hr1, hr2, hr3⟩, hF⟩ := hq
  cases ho
  obtain ⟨B1, B2, B3, B4⟩ := B
  dsimp only [Pt.U, Pt.locs, Pt.cells, Pt.slots] at X' e1 e2 e3 e4 e5 st'
  subst e3; subst e4; subst e5
  have hAA : ∀ q, mm_A w ads H.size q → A q := by
    intro q hq
    rcases hq with ⟨k0, h0, h1⟩ | h1
    · exact hw.2.2.1 k0 q h0 h1
    · exact hw.2.2.2 q (Nat.le_trans hw.2.1.1 h1)
  have hF1 : H.size ≤ B1.heap.size := by
    have := hF.1
    rw [e1]
    rw [show ((T.setVm vm₁).calling g mk ras.toArray).heap = T.heap from rfl, hT] at this
    exact this
  have hF2 : ∀ q : Nat, q < H.size → ¬ mm_A w ads H.size q → B1.heap[q]? = H[q]? := by
    intro q h1 h2
    have := hF.2 q (by rw [show ((T.setVm vm₁).calling g mk ras.toArray).heap = T.heap from rfl, hT]; exact h1) h2
    rw [e1, this, show ((T.setVm vm₁).calling g mk ras.toArray).heap = T.heap from rfl, hT]
  have hwd : mm_wd D A s.heap w (ads ++ y) M1 B1.heap (locs ++ Lo) := by
    refine ⟨by rw [e1]; exact hr2, ⟨Nat.le_trans hw.2.1.1 hF1, fun q h1 h2 => ?_, fun q hq => ?_⟩, fun k0 q h0 h1 => hAA q (hr3 k0 q h0 h1), hw.2.2.2⟩
    · rw [hF2 q (Nat.lt_of_lt_of_le h1 hw.2.1.1) (fun z => h2 (hAA q z))]
      exact hw.2.1.2.1 q h1 h2
    · rcases List.mem_append.mp hq with h | h
      · exact hw.2.1.2.2 q h
      · exact hAA _ (hL q h)
  have hfa : mm_fa (mm_vr (ads ++ y)) (v.toList ++ r) (v'.toList ++ rr) := by
    refine mm_fa.app (g2.mono fun _ _ => mm_vr.mono) ?_
    cases v <;> cases v' <;> first | exact hr1.elim | trivial | exact ⟨hr1, trivial⟩
  obtain ⟨t2, a1, b1⟩ := k y B1.heap (locs ++ Lo) ls (v'.toList ++ rr) hwd hl.mono hfa B1 rfl X'
  exact ⟨t2, st' t2 a1, b1⟩
end MC2
end
section
/-! Who catches what, by the law's tables. -/
def mm_hok (j pc x to kx : Nat) : Prop := mm_own j = "FairDeskLaw" ∧ (∃ idx, mm_dec (mm_bytes j) pc (.invokevirtual idx)) ∧ ∃ (pre : List (Nat × Nat × Nat × Nat)) (a b hp ct : Nat) (rest : List (Nat × Nat × Nat × Nat)), mm_hh j = pre ++ (a, b, hp, ct) :: rest ∧ a ≤ pc ∧ pc < b ∧ ct ≠ 0 ∧ Cond.classLink "FairDeskLaw" ct (mm_xn x) ∈ mm_ws ∧ Cond.castable (mm_xn x) (mm_xn x) ∈ mm_xw ∧ (∀ q ∈ pre, q.2.2.2 ≠ 0 ∧ ∃ Y, Cond.classLink "FairDeskLaw" q.2.2.2 Y ∈ mm_ws ∧ (mm_xn x, Y) ∈ mm_nc) ∧ kx < mm_maxL j ∧ ((∃ z : Fin 4, (z : Nat) = kx ∧ mm_dec (mm_bytes j) hp (.astore_n z) ∧ to = hp + 1) ∨ (mm_dec (mm_bytes j) hp (.astore kx) ∧ to = hp + 2))
set_option maxRecDepth 100000 in
theorem mm_hd0 : mm_hok 134 2 0 9 2 := by
  refine ⟨rfl, ⟨_, mm_at_ok (j := 134) (pc := 2) rfl⟩, [], 0, 5, 8, 13, [], rfl, by decide, by decide, by decide, mm_m 391 rfl rfl, by decide, ?_, by decide, Or.inl ⟨2, rfl, mm_at_ok (j := 134) (pc := 8) rfl, rfl⟩⟩
  exact fun _ h => absurd h List.not_mem_nil
set_option maxRecDepth 100000 in
theorem mm_hd1 : mm_hok 135 2 0 9 2 := by
  refine ⟨rfl, ⟨_, mm_at_ok (j := 135) (pc := 2) rfl⟩, [], 0, 5, 8, 13, [], rfl, by decide, by decide, by decide, mm_m 391 rfl rfl, by decide, ?_, by decide, Or.inl ⟨2, rfl, mm_at_ok (j := 135) (pc := 8) rfl, rfl⟩⟩
  exact fun _ h => absurd h List.not_mem_nil
set_option maxRecDepth 100000 in
theorem mm_hd2 : mm_hok 136 7 0 17 5 := by
  refine ⟨rfl, ⟨_, mm_at_ok (j := 136) (pc := 7) rfl⟩, [], 0, 12, 15, 13, [(0, 12, 19, 22)], rfl, by decide, by decide, by decide, mm_m 391 rfl rfl, by decide, ?_, by decide, Or.inr ⟨mm_at_ok (j := 136) (pc := 15) rfl, rfl⟩⟩
  exact fun _ h => absurd h List.not_mem_nil
set_option maxRecDepth 100000 in
theorem mm_hd3 : mm_hok 136 7 1 21 5 := by
  refine ⟨rfl, ⟨_, mm_at_ok (j := 136) (pc := 7) rfl⟩, [(0, 12, 15, 13)], 0, 12, 19, 22, [], rfl, by decide, by decide, by decide, mm_m 499 rfl rfl, by decide, ?_, by decide, Or.inr ⟨mm_at_ok (j := 136) (pc := 19) rfl, rfl⟩⟩
  intro q hq
  rw [List.mem_singleton.mp hq]
  exact ⟨by decide, "java/lang/IllegalArgumentException", mm_m 391 rfl rfl, by decide⟩
set_option maxRecDepth 100000 in
theorem mm_hd4 : mm_hok 137 2 1 9 2 := by
  refine ⟨rfl, ⟨_, mm_at_ok (j := 137) (pc := 2) rfl⟩, [], 0, 5, 8, 22, [], rfl, by decide, by decide, by decide, mm_m 499 rfl rfl, by decide, ?_, by decide, Or.inl ⟨2, rfl, mm_at_ok (j := 137) (pc := 8) rfl, rfl⟩⟩
  exact fun _ h => absurd h List.not_mem_nil
set_option maxRecDepth 100000 in
theorem mm_hd5 : mm_hok 138 3 2 11 2 := by
  refine ⟨rfl, ⟨_, mm_at_ok (j := 138) (pc := 3) rfl⟩, [], 0, 7, 10, 31, [], rfl, by decide, by decide, by decide, mm_m 556 rfl rfl, by decide, ?_, by decide, Or.inl ⟨2, rfl, mm_at_ok (j := 138) (pc := 10) rfl, rfl⟩⟩
  exact fun _ h => absurd h List.not_mem_nil
set_option maxRecDepth 100000 in
theorem mm_hd6 : mm_hok 139 5 1 15 4 := by
  refine ⟨rfl, ⟨_, mm_at_ok (j := 139) (pc := 5) rfl⟩, [], 0, 10, 13, 22, [], rfl, by decide, by decide, by decide, mm_m 499 rfl rfl, by decide, ?_, by decide, Or.inr ⟨mm_at_ok (j := 139) (pc := 13) rfl, rfl⟩⟩
  exact fun _ h => absurd h List.not_mem_nil
set_option maxRecDepth 100000 in
theorem mm_hd7 : mm_hok 140 4 1 13 3 := by
  refine ⟨rfl, ⟨_, mm_at_ok (j := 140) (pc := 4) rfl⟩, [], 0, 9, 12, 22, [], rfl, by decide, by decide, by decide, mm_m 499 rfl rfl, by decide, ?_, by decide, Or.inl ⟨3, rfl, mm_at_ok (j := 140) (pc := 12) rfl, rfl⟩⟩
  exact fun _ h => absurd h List.not_mem_nil
set_option maxRecDepth 100000 in
theorem mm_hd8 : mm_hok 141 5 1 15 4 := by
  refine ⟨rfl, ⟨_, mm_at_ok (j := 141) (pc := 5) rfl⟩, [], 0, 10, 13, 22, [], rfl, by decide, by decide, by decide, mm_m 499 rfl rfl, by decide, ?_, by decide, Or.inr ⟨mm_at_ok (j := 141) (pc := 13) rfl, rfl⟩⟩
  exact fun _ h => absurd h List.not_mem_nil
set_option maxRecDepth 100000 in
theorem mm_hd9 : mm_hok 142 7 1 17 5 := by
  refine ⟨rfl, ⟨_, mm_at_ok (j := 142) (pc := 7) rfl⟩, [], 0, 12, 15, 22, [], rfl, by decide, by decide, by decide, mm_m 499 rfl rfl, by decide, ?_, by decide, Or.inr ⟨mm_at_ok (j := 142) (pc := 15) rfl, rfl⟩⟩
  exact fun _ h => absurd h List.not_mem_nil
set_option maxRecDepth 100000 in
theorem mm_hd10 : mm_hok 143 4 1 13 3 := by
  refine ⟨rfl, ⟨_, mm_at_ok (j := 143) (pc := 4) rfl⟩, [], 0, 9, 12, 22, [(0, 9, 15, 31)], rfl, by decide, by decide, by decide, mm_m 499 rfl rfl, by decide, ?_, by decide, Or.inl ⟨3, rfl, mm_at_ok (j := 143) (pc := 12) rfl, rfl⟩⟩
  exact fun _ h => absurd h List.not_mem_nil
set_option maxRecDepth 100000 in
theorem mm_hd11 : mm_hok 143 4 2 16 3 := by
  refine ⟨rfl, ⟨_, mm_at_ok (j := 143) (pc := 4) rfl⟩, [(0, 9, 12, 22)], 0, 9, 15, 31, [], rfl, by decide, by decide, by decide, mm_m 556 rfl rfl, by decide, ?_, by decide, Or.inl ⟨3, rfl, mm_at_ok (j := 143) (pc := 15) rfl, rfl⟩⟩
  intro q hq
  rw [List.mem_singleton.mp hq]
  exact ⟨by decide, "java/lang/IndexOutOfBoundsException", mm_m 499 rfl rfl, by decide⟩
set_option maxRecDepth 100000 in
theorem mm_hd12 : mm_hok 144 7 0 17 5 := by
  refine ⟨rfl, ⟨_, mm_at_ok (j := 144) (pc := 7) rfl⟩, [], 0, 12, 15, 13, [(0, 12, 19, 22)], rfl, by decide, by decide, by decide, mm_m 391 rfl rfl, by decide, ?_, by decide, Or.inr ⟨mm_at_ok (j := 144) (pc := 15) rfl, rfl⟩⟩
  exact fun _ h => absurd h List.not_mem_nil
set_option maxRecDepth 100000 in
theorem mm_hd13 : mm_hok 144 7 1 21 5 := by
  refine ⟨rfl, ⟨_, mm_at_ok (j := 144) (pc := 7) rfl⟩, [(0, 12, 15, 13)], 0, 12, 19, 22, [], rfl, by decide, by decide, by decide, mm_m 499 rfl rfl, by decide, ?_, by decide, Or.inr ⟨mm_at_ok (j := 144) (pc := 19) rfl, rfl⟩⟩
  intro q hq
  rw [List.mem_singleton.mp hq]
  exact ⟨by decide, "java/lang/IllegalArgumentException", mm_m 391 rfl rfl, by decide⟩
set_option maxRecDepth 100000 in
theorem mm_hd14 : mm_hok 145 4 0 13 3 := by
  refine ⟨rfl, ⟨_, mm_at_ok (j := 145) (pc := 4) rfl⟩, [], 0, 9, 12, 13, [], rfl, by decide, by decide, by decide, mm_m 391 rfl rfl, by decide, ?_, by decide, Or.inl ⟨3, rfl, mm_at_ok (j := 145) (pc := 12) rfl, rfl⟩⟩
  exact fun _ h => absurd h List.not_mem_nil
set_option maxRecDepth 100000 in
theorem mm_hd15 : mm_hok 146 3 2 12 2 := by
  refine ⟨rfl, ⟨_, mm_at_ok (j := 146) (pc := 3) rfl⟩, [], 0, 8, 11, 31, [], rfl, by decide, by decide, by decide, mm_m 556 rfl rfl, by decide, ?_, by decide, Or.inl ⟨2, rfl, mm_at_ok (j := 146) (pc := 11) rfl, rfl⟩⟩
  exact fun _ h => absurd h List.not_mem_nil
set_option maxRecDepth 100000 in
theorem mm_hd16 : mm_hok 147 5 1 14 4 := by
  refine ⟨rfl, ⟨_, mm_at_ok (j := 147) (pc := 5) rfl⟩, [], 0, 9, 12, 22, [(0, 9, 16, 31)], rfl, by decide, by decide, by decide, mm_m 499 rfl rfl, by decide, ?_, by decide, Or.inr ⟨mm_at_ok (j := 147) (pc := 12) rfl, rfl⟩⟩
  exact fun _ h => absurd h List.not_mem_nil
set_option maxRecDepth 100000 in
theorem mm_hd17 : mm_hok 147 5 2 18 4 := by
  refine ⟨rfl, ⟨_, mm_at_ok (j := 147) (pc := 5) rfl⟩, [(0, 9, 12, 22)], 0, 9, 16, 31, [], rfl, by decide, by decide, by decide, mm_m 556 rfl rfl, by decide, ?_, by decide, Or.inr ⟨mm_at_ok (j := 147) (pc := 16) rfl, rfl⟩⟩
  intro q hq
  rw [List.mem_singleton.mp hq]
  exact ⟨by decide, "java/lang/IndexOutOfBoundsException", mm_m 499 rfl rfl, by decide⟩
set_option maxRecDepth 100000 in
theorem mm_hd18 : mm_hok 148 2 0 9 2 := by
  refine ⟨rfl, ⟨_, mm_at_ok (j := 148) (pc := 2) rfl⟩, [], 0, 5, 8, 13, [], rfl, by decide, by decide, by decide, mm_m 391 rfl rfl, by decide, ?_, by decide, Or.inl ⟨2, rfl, mm_at_ok (j := 148) (pc := 8) rfl, rfl⟩⟩
  exact fun _ h => absurd h List.not_mem_nil
set_option maxRecDepth 100000 in
theorem mm_hd19 : mm_hok 149 7 0 17 5 := by
  refine ⟨rfl, ⟨_, mm_at_ok (j := 149) (pc := 7) rfl⟩, [], 0, 12, 15, 13, [(0, 12, 19, 22)], rfl, by decide, by decide, by decide, mm_m 391 rfl rfl, by decide, ?_, by decide, Or.inr ⟨mm_at_ok (j := 149) (pc := 15) rfl, rfl⟩⟩
  exact fun _ h => absurd h List.not_mem_nil
set_option maxRecDepth 100000 in
theorem mm_hd20 : mm_hok 149 7 1 21 5 := by
  refine ⟨rfl, ⟨_, mm_at_ok (j := 149) (pc := 7) rfl⟩, [(0, 12, 15, 13)], 0, 12, 19, 22, [], rfl, by decide, by decide, by decide, mm_m 499 rfl rfl, by decide, ?_, by decide, Or.inr ⟨mm_at_ok (j := 149) (pc := 19) rfl, rfl⟩⟩
  intro q hq
  rw [List.mem_singleton.mp hq]
  exact ⟨by decide, "java/lang/IllegalArgumentException", mm_m 391 rfl rfl, by decide⟩
set_option maxRecDepth 100000 in
theorem mm_hd21 : mm_hok 150 5 1 14 4 := by
  refine ⟨rfl, ⟨_, mm_at_ok (j := 150) (pc := 5) rfl⟩, [], 0, 9, 12, 22, [(0, 9, 16, 31)], rfl, by decide, by decide, by decide, mm_m 499 rfl rfl, by decide, ?_, by decide, Or.inr ⟨mm_at_ok (j := 150) (pc := 12) rfl, rfl⟩⟩
  exact fun _ h => absurd h List.not_mem_nil
set_option maxRecDepth 100000 in
theorem mm_hd22 : mm_hok 150 5 2 18 4 := by
  refine ⟨rfl, ⟨_, mm_at_ok (j := 150) (pc := 5) rfl⟩, [(0, 9, 12, 22)], 0, 9, 16, 31, [], rfl, by decide, by decide, by decide, mm_m 556 rfl rfl, by decide, ?_, by decide, Or.inr ⟨mm_at_ok (j := 150) (pc := 16) rfl, rfl⟩⟩
  intro q hq
  rw [List.mem_singleton.mp hq]
  exact ⟨by decide, "java/lang/IndexOutOfBoundsException", mm_m 499 rfl rfl, by decide⟩
set_option maxRecDepth 100000 in
theorem mm_hd23 : mm_hok 151 7 1 16 5 := by
  refine ⟨rfl, ⟨_, mm_at_ok (j := 151) (pc := 7) rfl⟩, [], 0, 11, 14, 22, [(0, 11, 18, 31)], rfl, by decide, by decide, by decide, mm_m 499 rfl rfl, by decide, ?_, by decide, Or.inr ⟨mm_at_ok (j := 151) (pc := 14) rfl, rfl⟩⟩
  exact fun _ h => absurd h List.not_mem_nil
set_option maxRecDepth 100000 in
theorem mm_hd24 : mm_hok 151 7 2 20 5 := by
  refine ⟨rfl, ⟨_, mm_at_ok (j := 151) (pc := 7) rfl⟩, [(0, 11, 14, 22)], 0, 11, 18, 31, [], rfl, by decide, by decide, by decide, mm_m 556 rfl rfl, by decide, ?_, by decide, Or.inr ⟨mm_at_ok (j := 151) (pc := 18) rfl, rfl⟩⟩
  intro q hq
  rw [List.mem_singleton.mp hq]
  exact ⟨by decide, "java/lang/IndexOutOfBoundsException", mm_m 499 rfl rfl, by decide⟩
theorem mm_hand_ok {j pc x to kx : Nat} (h : mm_hand j pc x = some (to, kx)) : mm_hok j pc x to kx := by
  unfold mm_hand at h
  split at h
  · cases h; exact mm_hd0
  · cases h; exact mm_hd1
  · cases h; exact mm_hd2
  · cases h; exact mm_hd3
  · cases h; exact mm_hd4
  · cases h; exact mm_hd5
  · cases h; exact mm_hd6
  · cases h; exact mm_hd7
  · cases h; exact mm_hd8
  · cases h; exact mm_hd9
  · cases h; exact mm_hd10
  · cases h; exact mm_hd11
  · cases h; exact mm_hd12
  · cases h; exact mm_hd13
  · cases h; exact mm_hd14
  · cases h; exact mm_hd15
  · cases h; exact mm_hd16
  · cases h; exact mm_hd17
  · cases h; exact mm_hd18
  · cases h; exact mm_hd19
  · cases h; exact mm_hd20
  · cases h; exact mm_hd21
  · cases h; exact mm_hd22
  · cases h; exact mm_hd23
  · cases h; exact mm_hd24
  · cases h
def mm_xsup : List String := ["java/lang/RuntimeException", "java/lang/Exception"]
def mm_zl : List Cond := [.laysStatic "java/lang/Throwable" "UNASSIGNED_STACK" "[Ljava/lang/StackTraceElement;", .isRef (.static "java/lang/Throwable" "UNASSIGNED_STACK" "[Ljava/lang/StackTraceElement;"), .laysStatic "java/lang/Throwable" "SUPPRESSED_SENTINEL" "Ljava/util/List;", .isRef (.static "java/lang/Throwable" "SUPPRESSED_SENTINEL" "Ljava/util/List;")]
theorem mm_oa0 : (Bundle.ownAtoms "FairDesk" 42 "java/lang/IllegalArgumentException" mm_xsup).all (fun a => (goodWord a && decide (a ∈ tables_1)) || decide (a ∈ mm_xw) || decide (a ∈ mm_zl)) = true := by decide +kernel
theorem mm_oa1 : (Bundle.ownAtoms "FairDesk" 69 "java/lang/IndexOutOfBoundsException" mm_xsup).all (fun a => (goodWord a && decide (a ∈ tables_1)) || decide (a ∈ mm_xw) || decide (a ∈ mm_zl)) = true := by decide +kernel
theorem mm_oa2 : (Bundle.ownAtoms "FairDesk" 91 "java/lang/IllegalStateException" mm_xsup).all (fun a => (goodWord a && decide (a ∈ tables_1)) || decide (a ∈ mm_xw) || decide (a ∈ mm_zl)) = true := by decide +kernel
theorem mm_oa_rest {own own2 : String} {ic ic2 : Nat} {X : String} {a : Cond} (h : a ∈ Bundle.ownAtoms own ic X mm_xsup) : a = .methodLink own ic (Bundle.initS X) ∨ a ∈ Bundle.ownAtoms own2 ic2 X mm_xsup := by
  simp only [Bundle.ownAtoms, List.mem_append, List.mem_cons] at h ⊢
  rcases h with h | h | h
  · exact Or.inr (Or.inl h)
  · exact Or.inl h
  · exact Or.inr (Or.inr (Or.inr h))
theorem mm_xw_use {w : Cond} (hw : w ∈ mm_xw) {args : Array Value} {s : State} (h : va_Nw w s) : w.before args s = true := by
  simp only [mm_xw, List.mem_cons, List.not_mem_nil, or_false] at hw
  rcases hw with rfl | rfl | rfl | rfl | rfl | rfl <;> exact va_Nw.use rfl h
theorem mm_atoms_of {D : va_G} {args : Array Value} {s : State} (hts : ∀ w ∈ mm_ws, w.before args s = true) (hK : mm_kn D s) {l : List Cond} (hl : l.all (fun a => (goodWord a && decide (a ∈ tables_1)) || decide (a ∈ mm_xw) || decide (a ∈ mm_zl)) = true) : ∀ a ∈ l, a.before args s = true := by
  intro a ha
  have h := List.all_eq_true.mp hl a ha
  rcases Bool.or_eq_true_iff.mp h with h | h
  · rcases Bool.or_eq_true_iff.mp h with h | h
    · obtain ⟨h1, h2⟩ := Bool.and_eq_true_iff.mp h
      exact hts a (List.mem_filter.mpr ⟨List.mem_append_right _ (of_decide_eq_true h2), h1⟩)
    · exact mm_xw_use (of_decide_eq_true h) (hK.2.2.2.2.2.2.2.1 a (of_decide_eq_true h))
  · have h := of_decide_eq_true h
    obtain ⟨-, -, -, -, -, -, e7, e8⟩ := hK.2.2.2
    simp only [mm_zl, List.mem_cons, List.not_mem_nil, or_false] at h
    rcases h with rfl | rfl | rfl | rfl
    · exact e7.1
    · exact e7.2
    · exact e8.1
    · exact e8.2
theorem mm_xn_two (n : Nat) : mm_xn (n + 2) = "java/lang/IllegalStateException" := rfl
theorem mm_atoms {D : va_G} {args : Array Value} {s : State} (hts : ∀ w ∈ mm_ws, w.before args s = true) (hK : mm_kn D s) {own : String} {ic x : Nat} (hx : Cond.methodLink own ic (Bundle.initS (mm_xn x)) ∈ mm_ws) : ∀ a ∈ Bundle.ownAtoms own ic (mm_xn x) mm_xsup, a.before args s = true := by
  intro a ha
  match x, hx, ha with
  | 0, hx, ha =>
    rcases mm_oa_rest (own2 := "FairDesk") (ic2 := 42) ha with rfl | ha
    · exact hts _ hx
    · exact mm_atoms_of hts hK mm_oa0 a ha
  | 1, hx, ha =>
    rcases mm_oa_rest (own2 := "FairDesk") (ic2 := 69) ha with rfl | ha
    · exact hts _ hx
    · exact mm_atoms_of hts hK mm_oa1 a ha
  | n + 2, hx, ha =>
    rcases mm_oa_rest (own2 := "FairDesk") (ic2 := 91) ha with rfl | ha
    · exact hts _ hx
    · exact mm_atoms_of hts hK mm_oa2 a ha
theorem mm_xn_fit (x : Nat) : Bundle.fit (mm_xn x) = true := by
  match x with
  | 0 => decide
  | 1 => decide
  | n + 2 => exact (by decide : Bundle.fit "java/lang/IllegalStateException" = true)
theorem mm_xsup_fit : ∀ n ∈ mm_xsup, Bundle.fit n = true := by decide
end
section
/-! All steps that go on, in one row. -/
section MS4
variable {p : Program} {l : Launch} {e : Env} {R : Room} {s : State} {m : MethodId} {args : Array Value} {below : List Frame} {meth : Method} {c : Code} {Q : State → Prop} {D : va_G} {A : Nat → Prop} {H0 : Heap} {w d j pc cells slots : Nat} {ads : List Nat} {L : ML} {S : List Value} {M : MH} {n : MN}
theorem mm_s_step {i : Instr} (hf : mm_fx p s m args meth c j D) (hat : mm_at j pc = some i) (hR1 : d ≤ R.frames) (hR2 : 64 * d ≤ R.locals) (hc : cells + n.2.2.2.2.1 ≤ R.cells) (hs0 : slots + n.2.2.2.2.2 ≤ R.slots) (h : mm_step w d j i pc L S M = some n) (k : mm_N p l e R s m args below meth c Q D A H0 w (mm_maxL j) cells slots ads n) : mm_G p l e R s m args below meth c Q D A H0 w (mm_maxL j) cells slots ads pc L S M := by
  have hd := mm_at_ok hat
  have hx := hf.1
  have hb := hf.2.1
  have hown := hf.2.2.2.1
  have hts := hf.2.2.2.2.1
  have hK := hf.2.2.2.2.2.1
  cases i with
  | iconst z => refine mm_s_push ?_ (fun H locs ls rest kk => lv_iconst hx hb (hd.by 0 rfl) rfl kk) h k; exact fun _ => rfl
  | bipush z => refine mm_s_push ?_ (fun H locs ls rest kk => lv_bipush hx hb (hd.by 1 rfl) rfl kk) h k; exact fun _ => rfl
  | sipush z => refine mm_s_push ?_ (fun H locs ls rest kk => lv_sipush hx hb (hd.by 2 rfl) rfl kk) h k; exact fun _ => rfl
  | lconst z => refine mm_s_push ?_ (fun H locs ls rest kk => lv_lconst hx hb (hd.by 0 rfl) rfl kk) h k; exact fun _ => rfl
  | ldc z =>
    simp only [mm_step] at h
    split at h
    · rename_i hp
      refine mm_s_push ?_ (fun H locs ls rest kk => lv_ldc hx hb hown (hts _ (mm_pool_ok hp)) (hd.by 1 rfl) kk) h k
      exact fun _ => rfl
    · cases h
  | ldc2_w z =>
    simp only [mm_step] at h
    split at h
    · rename_i hp
      refine mm_s_push ?_ (fun H locs ls rest kk => lv_ldc2 hx hb hown (hts _ (mm_pool_ok hp)) (hd.by 2 rfl) kk) h k
      exact fun _ => rfl
    · cases h
  | iload_n z => exact mm_s_iload (fun x H locs ls rest hq kk => lv_iload_n hx hb (hd.by 0 rfl) rfl hq kk) h k
  | iload z => exact mm_s_iload (fun x H locs ls rest hq kk => lv_iload hx hb (hd.by 1 rfl) hq kk) h k
  | istore_n z => exact mm_s_istore (fun x H locs ls rest lv hq hi kk => lv_istore_n hx hb (hd.by 0 rfl) rfl hq hi rfl kk) h k
  | istore z => exact mm_s_istore (fun x H locs ls rest lv hq hi kk => lv_istore hx hb (hd.by 1 rfl) hq hi rfl kk) h k
  | lload_n z => exact mm_s_lload (fun x H locs ls rest hq kk => lv_lload_n hx hb (hd.by 0 rfl) rfl hq kk) h k
  | lload z => exact mm_s_lload (fun x H locs ls rest hq kk => lv_lload hx hb (hd.by 1 rfl) hq kk) h k
  | lstore_n z => exact mm_s_lstore (fun x H locs ls rest lv hq hi kk => lv_lstore_n hx hb (hd.by 0 rfl) rfl hq hi rfl kk) h k
  | lstore z => exact mm_s_lstore (fun x H locs ls rest lv hq hi kk => lv_lstore hx hb (hd.by 1 rfl) hq hi rfl kk) h k
  | aload_n z => exact mm_s_aload (fun x H locs ls rest hq kk => lv_aload_n hx hb (hd.by 0 rfl) rfl hq kk) h k
  | aload z => exact mm_s_aload (fun x H locs ls rest hq kk => lv_aload hx hb (hd.by 1 rfl) hq kk) h k
  | astore_n z => exact mm_s_astore (fun x H locs ls rest lv hq hi kk => lv_astore_n hx hb (hd.by 0 rfl) rfl hq hi rfl kk) h k
  | astore z => exact mm_s_astore (fun x H locs ls rest lv hq hi kk => lv_astore hx hb (hd.by 1 rfl) hq hi rfl kk) h k
  | iinc i z => exact mm_s_iinc hf hd h k
  | iadd => exact mm_s_i2 (fun x y H locs ls rest kk => lv_iadd hx hb (hd.by 0 rfl) kk) h k
  | isub => exact mm_s_i2 (fun x y H locs ls rest kk => lv_isub hx hb (hd.by 0 rfl) kk) h k
  | imul => exact mm_s_i2 (fun x y H locs ls rest kk => lv_imul hx hb (hd.by 0 rfl) kk) h k
  | iand => exact mm_s_i2 (fun x y H locs ls rest kk => lv_iand hx hb (hd.by 0 rfl) kk) h k
  | ior => exact mm_s_i2 (fun x y H locs ls rest kk => lv_ior hx hb (hd.by 0 rfl) kk) h k
  | ixor => exact mm_s_i2 (fun x y H locs ls rest kk => lv_ixor hx hb (hd.by 0 rfl) kk) h k
  | ishl => exact mm_s_i2 (fun x y H locs ls rest kk => lv_ishl hx hb (hd.by 0 rfl) kk) h k
  | ishr => exact mm_s_i2 (fun x y H locs ls rest kk => lv_ishr hx hb (hd.by 0 rfl) kk) h k
  | idiv => exact mm_s_i2z (fun x y H locs ls rest hz kk => lv_idiv hx hb (hd.by 0 rfl) hz kk) h k
  | irem => exact mm_s_i2z (fun x y H locs ls rest hz kk => lv_irem hx hb (hd.by 0 rfl) hz kk) h k
  | ladd => exact mm_s_l2 (fun x y H locs ls rest kk => lv_ladd hx hb (hd.by 0 rfl) kk) h k
  | lsub => exact mm_s_l2 (fun x y H locs ls rest kk => lv_lsub hx hb (hd.by 0 rfl) kk) h k
  | lmul => exact mm_s_l2 (fun x y H locs ls rest kk => lv_lmul hx hb (hd.by 0 rfl) kk) h k
  | ldiv => exact mm_s_l2z (fun x y H locs ls rest hz kk => lv_ldiv hx hb (hd.by 0 rfl) hz kk) h k
  | lrem => exact mm_s_l2z (fun x y H locs ls rest hz kk => lv_lrem hx hb (hd.by 0 rfl) hz kk) h k
  | lcmp =>
    simp only [mm_step] at h
    split at h
    · intro H locs ls st hw hl hs
      obtain ⟨b1, t1, rfl, h1, hs'⟩ := hs.inv
      clear hs
      have hs := hs'
      clear hs'
      obtain ⟨b2, t2, rfl, h2, hs'⟩ := hs.inv
      clear hs
      have hs := hs'
      clear hs'
      cases h1; cases h2
      exact W.lcmp hx hb (hd.by 0 rfl) (mm_of_go h k H locs ls _ hw hl ⟨rfl, hs⟩)
    · cases h
  | i2l =>
    simp only [mm_step] at h
    split at h
    · intro H locs ls st hw hl hs
      obtain ⟨b1, t1, rfl, h1, hs'⟩ := hs.inv
      clear hs
      have hs := hs'
      clear hs'
      cases h1
      exact lv_i2l hx hb (hd.by 0 rfl) rfl (mm_of_go h k H locs ls _ hw hl ⟨rfl, hs⟩)
    · cases h
  | l2i =>
    simp only [mm_step] at h
    split at h
    · intro H locs ls st hw hl hs
      obtain ⟨b1, t1, rfl, h1, hs'⟩ := hs.inv
      clear hs
      have hs := hs'
      clear hs'
      cases h1
      exact lv_l2i hx hb (hd.by 0 rfl) rfl (mm_of_go h k H locs ls _ hw hl ⟨rfl, hs⟩)
    · cases h
  | ineg =>
    simp only [mm_step] at h
    split at h
    · intro H locs ls st hw hl hs
      obtain ⟨b1, t1, rfl, h1, hs'⟩ := hs.inv
      clear hs
      have hs := hs'
      clear hs'
      cases h1
      exact lv_ineg hx hb (hd.by 0 rfl) (mm_of_go h k H locs ls _ hw hl ⟨rfl, hs⟩)
    · cases h
  | lneg =>
    simp only [mm_step] at h
    split at h
    · intro H locs ls st hw hl hs
      obtain ⟨b1, t1, rfl, h1, hs'⟩ := hs.inv
      clear hs
      have hs := hs'
      clear hs'
      cases h1
      exact lv_lneg hx hb (hd.by 0 rfl) (mm_of_go h k H locs ls _ hw hl ⟨rfl, hs⟩)
    · cases h
  | dup =>
    simp only [mm_step] at h
    split at h
    · split at h
      · rename_i hq
        intro H locs ls st hw hl hs
        obtain ⟨b1, t1, rfl, h1, hs'⟩ := hs.inv
        clear hs
        have hs := hs'
        clear hs'
        exact lv_dup hx hb (hd.by 0 rfl) (h1.cat.trans (Nat.eq_of_beq_eq_true hq)) (mm_of_go h k H locs ls _ hw hl ⟨h1, h1, hs⟩)
      · cases h
    · cases h
  | pop =>
    simp only [mm_step] at h
    split at h
    · split at h
      · rename_i hq
        intro H locs ls st hw hl hs
        obtain ⟨b1, t1, rfl, h1, hs'⟩ := hs.inv
        clear hs
        have hs := hs'
        clear hs'
        exact lv_pop hx hb (hd.by 0 rfl) (h1.cat.trans (Nat.eq_of_beq_eq_true hq)) (mm_of_go h k H locs ls _ hw hl hs)
      · cases h
    · cases h
  | dup2 =>
    simp only [mm_step] at h
    split at h
    · split at h
      · rename_i hq
        obtain ⟨hq1, hq2⟩ := Bool.and_eq_true_iff.mp hq
        intro H locs ls st hw hl hs
        obtain ⟨b1, t1, rfl, h1, hs'⟩ := hs.inv
        clear hs
        have hs := hs'
        clear hs'
        obtain ⟨b2, t2, rfl, h2, hs'⟩ := hs.inv
        clear hs
        have hs := hs'
        clear hs'
        exact lv_dup2_11 hx hb (hd.by 0 rfl) (h1.cat.trans (Nat.eq_of_beq_eq_true hq1)) (h2.cat.trans (Nat.eq_of_beq_eq_true hq2)) (mm_of_go h k H locs ls _ hw hl ⟨h1, h2, h1, h2, hs⟩)
      · cases h
    · cases h
  | ifCond q off => exact mm_s_if1 hf hd h k
  | if_icmp q off => exact mm_s_if2 hf hd h k
  | goto off => exact mm_s_goto hf hd h k
  | tableswitch a b c0 o => exact mm_s_tsw hf hd h k
  | iaload => exact mm_s_ald (kd := 1) (by decide) (fun q k2 cell i v H locs ls rest c1 c2 c3 c4 c5 c6 c7 kk => W.iald hx hb c1 (mm_isArr (mm_arr1 hK c3) c2 c5) c4 c6 c7 rfl rfl (hd.by 0 rfl) kk) h k
  | laload => exact mm_s_ald (kd := 2) (by decide) (fun q k2 cell i v H locs ls rest c1 c2 c3 c4 c5 c6 c7 kk => W.lald hx hb c1 (mm_isArr (mm_arr2 hK c3) c2 c5) c4 c6 c7 rfl rfl (hd.by 0 rfl) kk) h k
  | baload => exact mm_s_ald (kd := 3) (by decide) (fun q k2 cell i v H locs ls rest c1 c2 c3 c4 c5 c6 c7 kk => W.zald hx hb c1 (mm_isArr (mm_arr3 hK c3) c2 c5) c4 c6 c7 rfl rfl (hd.by 0 rfl) kk) h k
  | aaload => exact mm_s_ald (kd := 4) (by decide) (fun q k2 cell i v H locs ls rest c1 c2 c3 c4 c5 c6 c7 kk => by
      obtain ⟨ty, hty, ha⟩ := mm_arr4 hK c3
      exact W.aald hx hb c1 (mm_isArr ha c2 c5) hty c4 c6 c7 rfl rfl (hd.by 0 rfl) kk) h k
  | iastore => exact mm_s_ast (kd := 1) (by decide) (fun q k2 cell i v rv H locs ls rest hv h0 c1 c2 c3 c4 c5 c6 kk => by
      cases v <;> first | (cases hv; done) | skip
      cases h0
      exact W.iast hx hb c1 (mm_isArr (mm_arr1 hK c3) c2 c5) c4 c6 rfl rfl (hd.by 0 rfl) kk) h k
  | lastore => exact mm_s_ast (kd := 2) (by decide) (fun q k2 cell i v rv H locs ls rest hv h0 c1 c2 c3 c4 c5 c6 kk => by
      cases v <;> first | (cases hv; done) | skip
      cases h0
      exact W.last hx hb c1 (mm_isArr (mm_arr2 hK c3) c2 c5) c4 c6 rfl rfl (hd.by 0 rfl) kk) h k
  | bastore => exact mm_s_ast (kd := 3) (by decide) (fun q k2 cell i v rv H locs ls rest hv h0 c1 c2 c3 c4 c5 c6 kk => by
      cases v <;> first | (cases hv; done) | skip
      rename_i x
      cases h0
      have hn : narrow .boolean (.int x) = .int x := by
        rcases Bool.or_eq_true_iff.mp hv with z | z
        · rw [of_decide_eq_true z]; rfl
        · rw [of_decide_eq_true z]; rfl
      exact W.zast hx hb c1 (mm_isArr (mm_arr3 hK c3) c2 c5) c4 c6 rfl rfl (hd.by 0 rfl) (fun H1 e1 e2 e3 => kk H1 (by rw [hn] at e1; exact e1) e2 e3)) h k
  | aastore => exact mm_s_aast hf hd h k
  | arraylength =>
    simp only [mm_step] at h
    split at h
    · split at h
      · rename_i a r k2 vs hM
        split at h
        · rename_i hq
          obtain ⟨hq1, hq2⟩ := Bool.and_eq_true_iff.mp hq
          intro H locs ls st hw hl hs
          obtain ⟨b1, t1, rfl, ⟨q, hq, rfl⟩, hs'⟩ := hs.inv
          clear hs
          have hs := hs'
          clear hs'
          obtain ⟨ty, ha⟩ := mm_arr0 hK (Nat.le_of_ble_eq_true hq1)
          obtain ⟨cell, rvs, c1, c2, c3, c4, c5, c6⟩ := (hw.1.at hM hq).2 (mm_akd_ge (fun z => by rw [z] at hq1; cases hq1))
          exact W.alen hx hb c1 (mm_isArr ha c2 c4) (by rw [c5, c6.len]; simp) rfl rfl (hd.by 0 rfl) (mm_of_go h k H locs ls _ hw hl ⟨rfl, hs⟩)
        · cases h
      · cases h
    · cases h
  | newarray t =>
    cases t <;> first | (cases h; done) | skip
    · exact mm_s_newa hf (ty := .boolean) (kd := 2) rfl mm_w_z rfl rfl (fun _ => rfl) (by decide) (fun _ z => by cases z) hd hc hs0 h k
    · exact mm_s_newa hf (ty := .int) (kd := 0) rfl mm_w_i rfl rfl (fun _ => rfl) (by decide) (fun _ z => by cases z) hd hc hs0 h k
    · exact mm_s_newa hf (ty := .long) (kd := 1) rfl mm_w_l rfl rfl (fun _ => rfl) (by decide) (fun _ z => by cases z) hd hc hs0 h k
  | anewarray z =>
    simp only [mm_step] at h
    split at h
    · rename_i hp
      exact mm_s_anew hf (mm_pool_ok hp) hd hc hs0 h k
    · cases h
  | multianewarray z y =>
    match y, hat, hd, h with
    | 2, hat, hd, h =>
      simp only [mm_step] at h
      split at h
      · rename_i hp
        exact mm_s_multi hf (mm_pool_ok hp) hd hc hs0 h k
      · cases h
    | 0, hat, hd, h => cases h
    | 1, hat, hd, h => cases h
    | y + 3, hat, hd, h => cases h
  | getfield z =>
    simp only [mm_step] at h
    split at h
    · rename_i hp
      exact mm_s_getf hf (mm_pool_ok hp) hd h k
    · rename_i hp
      exact mm_s_getf hf (mm_pool_ok hp) hd h k
    · cases h
  | putfield z =>
    simp only [mm_step] at h
    split at h
    · rename_i hp
      exact mm_s_putf hf (mm_pool_ok hp) (fun z => by cases z) hd h k
    · rename_i hp
      split at h
      · rename_i hct
        exact mm_s_putf hf (mm_pool_ok hp) (fun _ => hct) hd h k
      · cases h
    · cases h
  | _ => cases h
end MS4
end
section
/-! A run of the little machine is a run of the real one. -/
theorem mm_run_shift : ∀ (f w d j pc : Nat) (L : ML) (S : List Value) (M : MH) (c n : Nat) (o : Option Value ⊕ Nat) (M1 : MH) (c1 n1 : Nat), mm_run f w d j pc L S M c n = some (o, M1, c1, n1) → ∃ dc dn, c1 = c + dc ∧ n1 = n + dn ∧ ∀ c2 n2, mm_run f w d j pc L S M c2 n2 = some (o, M1, c2 + dc, n2 + dn)
  | 0, w, d, j, pc, L, S, M, c, n, o, M1, c1, n1, h => by cases h
  | f + 1, w, d, j, pc, L, S, M, c, n, o, M1, c1, n1, h => by
    unfold mm_run at h
    split at h
    · cases h
    · rename_i i hi
      split at h
      · cases h
      · cases h
      · rename_i pc' L' S' M' hs
        obtain ⟨dc, dn, e1, e2, e3⟩ := mm_run_shift f _ _ _ _ _ _ _ _ _ _ _ _ _ h
        refine ⟨dc, dn, e1, e2, fun c2 n2 => ?_⟩
        unfold mm_run
        simp only [hi, hs]
        exact e3 c2 n2
      · rename_i pc' L' S' M' ec en hs
        obtain ⟨dc, dn, e1, e2, e3⟩ := mm_run_shift f _ _ _ _ _ _ _ _ _ _ _ _ _ h
        refine ⟨ec + 1 + dc, en + dn, by omega, by omega, fun c2 n2 => ?_⟩
        unfold mm_run
        simp only [hi, hs]
        rw [e3]
        simp only [Nat.add_assoc]
      · rename_i v hs
        cases h
        refine ⟨0, 0, rfl, rfl, fun c2 n2 => ?_⟩
        unfold mm_run
        simp only [hi, hs]
        rfl
      · rename_i x hs
        cases h
        refine ⟨1, 6, rfl, rfl, fun c2 n2 => ?_⟩
        unfold mm_run
        simp only [hi, hs]
      · rename_i j' as r hs
        split at h
        · cases h
        · rename_i d'
          split at h
          · cases h
          · rename_i v M' c' n' hr
            obtain ⟨dc, dn, e1, e2, e3⟩ := mm_run_shift f _ _ _ _ _ _ _ _ _ _ _ _ _ hr
            obtain ⟨fc, fn, g1, g2, g3⟩ := mm_run_shift f _ _ _ _ _ _ _ _ _ _ _ _ _ h
            refine ⟨dc + fc, dn + fn, by omega, by omega, fun c2 n2 => ?_⟩
            unfold mm_run
            simp only [hi, hs, e3]
            rw [g3]
            simp only [Nat.add_assoc]
          · rename_i x0 M0 c00 n00 hr0
            obtain ⟨dc0, dn0, -, -, e30⟩ := mm_run_shift f _ _ _ _ _ _ _ _ _ _ _ _ _ hr0
            split at h
            · rename_i x M' c' n' hr
              split at h
              · cases h
              · rename_i to kx hh
                obtain ⟨dc, dn, e1, e2, e3⟩ := mm_run_shift f _ _ _ _ _ _ _ _ _ _ _ _ _ hr
                obtain ⟨fc, fn, g1, g2, g3⟩ := mm_run_shift f _ _ _ _ _ _ _ _ _ _ _ _ _ h
                refine ⟨dc + fc, dn + fn, by omega, by omega, fun c2 n2 => ?_⟩
                unfold mm_run
                simp only [hi, hs, e30, e3, hh]
                rw [g3]
                simp only [Nat.add_assoc]
            · cases h
/-- the place is a return of that value -/
def mm_retI (j pc : Nat) (v : Option Value) : Prop := match v with
  | none => mm_dec (mm_bytes j) pc .return_ ∧ mm_ret j = none
  | some (.int x) => mm_dec (mm_bytes j) pc .ireturn ∧ ∃ ty, mm_ret j = some ty ∧ narrow ty (.int x) = .int x
  | some (.long _) => mm_dec (mm_bytes j) pc .lreturn ∧ mm_ret j = some .long
  | some (.ref _) => mm_dec (mm_bytes j) pc .areturn ∧ ∃ ty, mm_ret j = some ty ∧ ((∃ n, ty = .object n) ∨ ∃ t, ty = .array t)
  | _ => False
theorem mm_inl_inv {x : Option MN} {a : MA} (h : mm_inl x = some a) : ∃ n, x = some n ∧ a = .inl n := by
  cases x with
  | none => cases h
  | some n => cases h; exact ⟨n, rfl, rfl⟩
theorem mm_ret1_inv {j pc : Nat} {S : List Value} {a : MA} (hd : mm_dec (mm_bytes j) pc .ireturn) (h : mm_ret1 j S = some a) : ∃ v, a = .inr (.inl v) ∧ mm_retI j pc v ∧ S = v.toList := by
  unfold mm_ret1 at h
  split at h
  · split at h
    · rename_i ty hty
      split at h
      · rename_i hn
        cases h
        exact ⟨_, rfl, ⟨hd, ty, hty, of_decide_eq_true hn⟩, rfl⟩
      · cases h
    · cases h
  · cases h
theorem mm_retl_inv {j pc : Nat} {S : List Value} {a : MA} (hd : mm_dec (mm_bytes j) pc .lreturn) (h : mm_retl j S = some a) : ∃ v, a = .inr (.inl v) ∧ mm_retI j pc v ∧ S = v.toList := by
  unfold mm_retl at h
  split at h
  · split at h
    · rename_i hty
      cases h
      exact ⟨_, rfl, ⟨hd, hty⟩, rfl⟩
    · cases h
  · cases h
theorem mm_reta_inv {j pc : Nat} {S : List Value} {a : MA} (hd : mm_dec (mm_bytes j) pc .areturn) (h : mm_reta j S = some a) : ∃ v, a = .inr (.inl v) ∧ mm_retI j pc v ∧ S = v.toList := by
  unfold mm_reta at h
  split at h
  · split at h
    · rename_i o hty
      cases h
      exact ⟨_, rfl, ⟨hd, _, hty, Or.inl ⟨o, rfl⟩⟩, rfl⟩
    · rename_i o hty
      cases h
      exact ⟨_, rfl, ⟨hd, _, hty, Or.inr ⟨o, rfl⟩⟩, rfl⟩
    · cases h
  · cases h
theorem mm_retv_inv {j pc : Nat} {S : List Value} {a : MA} (hd : mm_dec (mm_bytes j) pc .return_) (h : mm_retv j S = some a) : ∃ v, a = .inr (.inl v) ∧ mm_retI j pc v ∧ S = v.toList := by
  unfold mm_retv at h
  split at h
  · split at h
    · rename_i hty
      cases h
      exact ⟨_, rfl, ⟨hd, hty⟩, rfl⟩
    · cases h
  · cases h
theorem mm_words_app (a b : List Value) : mm_words (a ++ b) = mm_words a + mm_words b := by simp [mm_words]
theorem mm_words_rev (a : List Value) : mm_words a.reverse = mm_words a := by
  induction a with
  | nil => rfl
  | cons x xs ih => rw [List.reverse_cons, mm_words_app, ih]; simp [mm_words]; omega
theorem mm_callV_inv {j' n ci : Nat} {S : List Value} {M : MH} {a : MA} (h : mm_callV j' n ci S M = some a) : ∃ (b : Nat) (As r : List Value), a = .inr (.inr (.inl (j', .ref b :: As, r))) ∧ S = As.reverse ++ .ref b :: r ∧ (∃ fs, M[b]? = some (ci, fs)) ∧ As.length = n ∧ mm_words r ≤ 8 ∧ mm_words (.ref b :: As) ≤ mm_maxL j' := by
  unfold mm_callV at h
  split at h
  · rename_i b r hS
    split at h
    · rename_i kd fs hM
      split at h
      · rename_i hq
        simp only [Bool.and_eq_true] at hq
        obtain ⟨⟨⟨q1, q2⟩, q3⟩, q4⟩ := hq
        cases h
        have q1 := Nat.eq_of_beq_eq_true q1
        have q3 := Nat.eq_of_beq_eq_true q3
        subst q1
        refine ⟨b, (S.take n).reverse, r, rfl, ?_, ⟨fs, hM⟩, by simpa using q3, Nat.le_of_ble_eq_true q2, ?_⟩
        · rw [List.reverse_reverse, ← hS, List.take_append_drop]
        · have := Nat.le_of_ble_eq_true q4
          rw [show mm_words (.ref b :: (S.take n).reverse) = 1 + mm_words (S.take n).reverse from by simp [mm_words, Value.category], mm_words_rev]
          exact this
      · cases h
    · cases h
  · cases h
theorem mm_callS_inv {j' n : Nat} {S : List Value} {a : MA} (h : mm_callS j' n S = some a) : ∃ (as r : List Value), a = .inr (.inr (.inl (j', as, r))) ∧ S = as.reverse ++ r ∧ as.length = n ∧ mm_words r ≤ 8 ∧ mm_words as ≤ mm_maxL j' := by
  unfold mm_callS at h
  split at h
  · rename_i hq
    simp only [Bool.and_eq_true] at hq
    obtain ⟨⟨q2, q3⟩, q4⟩ := hq
    cases h
    have q3 := Nat.eq_of_beq_eq_true q3
    refine ⟨(S.take n).reverse, S.drop n, rfl, by rw [List.reverse_reverse, List.take_append_drop], by simpa using q3, Nat.le_of_ble_eq_true q2, ?_⟩
    rw [mm_words_rev]
    exact Nat.le_of_ble_eq_true q4
  · cases h
/-- the place is where x is made and thrown -/
def mm_thrI (d j pc x : Nat) (S : List Value) : Prop := ∃ k1 k2 k3, mm_dec (mm_bytes j) pc (.new k1) ∧ mm_dec (mm_bytes j) (pc + 3) .dup ∧ mm_dec (mm_bytes j) (pc + 4) (.ldc k2) ∧ mm_dec (mm_bytes j) (pc + 6) (.invokespecial k3) ∧ mm_dec (mm_bytes j) (pc + 9) .athrow ∧ mm_xnok (mm_own j) k1 x ∧ mm_strok (mm_own j) k2 ∧ mm_xiok (mm_own j) k3 x ∧ 8 ≤ d ∧ mm_words S ≤ 6
theorem mm_thr_inv {d j pc x k1 : Nat} {S : List Value} {a : MA} (hd : mm_dec (mm_bytes j) pc (.new k1)) (hp : mm_xnok (mm_own j) k1 x) (h : mm_thr d j pc x S = some a) : a = .inr (.inr (.inr x)) ∧ mm_thrI d j pc x S := by
  unfold mm_thr at h
  split at h
  · rename_i k2 k3 a1 a2 a3 a4
    split at h
    · rename_i y p1 p2
      split at h
      · rename_i hq
        simp only [Bool.and_eq_true] at hq
        obtain ⟨⟨q1, q2⟩, q3⟩ := hq
        have q1 := Nat.eq_of_beq_eq_true q1
        subst q1
        cases h
        exact ⟨rfl, k1, k2, k3, hd, mm_at_ok a1, mm_at_ok a2, mm_at_ok a3, mm_at_ok a4, hp, mm_pool_ok p1, mm_pool_ok p2, Nat.le_of_ble_eq_true q2, Nat.le_of_ble_eq_true q3⟩
      · cases h
    · cases h
  · cases h
/-- what a step may be -/
theorem mm_act_inv {w d j pc : Nat} {i : Instr} {L : ML} {S : List Value} {M : MH} {a : MA} (hat : mm_at j pc = some i) (h : mm_act w d j i pc L S M = some a) :
    (∃ n, a = .inl n ∧ (mm_step w d j i pc L S M = some n ∨ (∃ k ci N, i = .new k ∧ mm_nok (mm_own j) k ci N ∧ mm_new (pc + 3) (ci, mm_def ci) N L S M = some n) ∨ (∃ k, i = .invokespecial k ∧ mm_oiok (mm_own j) k ∧ mm_nat w d 6 pc L S M = some n) ∨ (∃ k x, i = .invokestatic k ∧ x < 6 ∧ mm_natok (mm_own j) k x ∧ mm_nat w d x pc L S M = some n))) ∨
    (∃ v, a = .inr (.inl v) ∧ mm_retI j pc v ∧ S = v.toList) ∨ (∃ j' as r, a = .inr (.inr (.inl (j', as, r))) ∧ mm_callI j pc S M j' as r) ∨ (∃ x, a = .inr (.inr (.inr x)) ∧ mm_thrI d j pc x S) := by
  have hd := mm_at_ok hat
  unfold mm_act at h
  split at h
  · split at h
    · rename_i hp
      obtain ⟨n, h1, rfl⟩ := mm_inl_inv h
      exact Or.inl ⟨n, rfl, Or.inr (Or.inl ⟨_, _, _, rfl, mm_pool_ok hp, h1⟩)⟩
    · rename_i hp
      obtain ⟨h1, h2⟩ := mm_thr_inv hd (mm_pool_ok hp) h
      exact Or.inr (Or.inr (Or.inr ⟨_, h1, h2⟩))
    · cases h
  · split at h
    · rename_i hp
      obtain ⟨b, As, r, h1, h2, h3, h4, h5, h6⟩ := mm_callV_inv h
      exact Or.inr (Or.inr (Or.inl ⟨_, _, _, h1, h5, h6, Or.inl ⟨b, As, rfl, h2, h3, _, Or.inl ⟨hd, Or.inl (by rw [h4]; exact mm_pool_ok hp)⟩⟩⟩))
    · rename_i hp
      obtain ⟨b, As, r, h1, h2, h3, h4, h5, h6⟩ := mm_callV_inv h
      exact Or.inr (Or.inr (Or.inl ⟨_, _, _, h1, h5, h6, Or.inl ⟨b, As, rfl, h2, h3, _, Or.inl ⟨hd, Or.inr (by rw [h4]; exact mm_pool_ok hp)⟩⟩⟩))
    · cases h
  · split at h
    · rename_i hp
      obtain ⟨b, As, r, h1, h2, h3, h4, h5, h6⟩ := mm_callV_inv h
      exact Or.inr (Or.inr (Or.inl ⟨_, _, _, h1, h5, h6, Or.inl ⟨b, As, rfl, h2, h3, _, Or.inr ⟨hd, Or.inl (by rw [h4]; exact mm_pool_ok hp)⟩⟩⟩))
    · rename_i hp
      obtain ⟨b, As, r, h1, h2, h3, h4, h5, h6⟩ := mm_callV_inv h
      exact Or.inr (Or.inr (Or.inl ⟨_, _, _, h1, h5, h6, Or.inl ⟨b, As, rfl, h2, h3, _, Or.inr ⟨hd, Or.inr (by rw [h4]; exact mm_pool_ok hp)⟩⟩⟩))
    · rename_i hp
      obtain ⟨n, h1, rfl⟩ := mm_inl_inv h
      exact Or.inl ⟨n, rfl, Or.inr (Or.inr (Or.inl ⟨_, rfl, mm_pool_ok hp, h1⟩))⟩
    · cases h
  · split at h
    · rename_i hp
      obtain ⟨as, r, h1, h2, h4, h5, h6⟩ := mm_callS_inv h
      exact Or.inr (Or.inr (Or.inl ⟨_, _, _, h1, h5, h6, Or.inr ⟨h2, _, hd, by rw [h4]; exact mm_pool_ok hp⟩⟩))
    · rename_i hp
      split at h
      · rename_i hw
        obtain ⟨n, h1, rfl⟩ := mm_inl_inv h
        exact Or.inl ⟨n, rfl, Or.inr (Or.inr (Or.inr ⟨_, _, rfl, Nat.le_of_ble_eq_true hw, mm_pool_ok hp, h1⟩))⟩
      · cases h
    · cases h
  · exact Or.inr (Or.inl (mm_ret1_inv hd h))
  · exact Or.inr (Or.inl (mm_retl_inv hd h))
  · exact Or.inr (Or.inl (mm_reta_inv hd h))
  · exact Or.inr (Or.inl (mm_retv_inv hd h))
  · obtain ⟨n, h1, rfl⟩ := mm_inl_inv h
    exact Or.inl ⟨n, rfl, Or.inl h1⟩
end
section
/-! A method that throws, and who catches it. -/
theorem mm_hr.kept {D : va_G} {ads : List Nat} {M : MH} {H H1 : Heap} (h : mm_hr D ads M H) (ho : ∀ x, x < H.size → H1[x]? = H[x]?) : mm_hr D ads M H1 := by
  refine ⟨h.1, h.2.1, fun k c hk => ?_⟩
  obtain ⟨q, h1, h2⟩ := h.2.2 k c hk
  exact ⟨q, h1, h2.kept (ho q (h.lt h1))⟩
theorem mm_same_nil {s s' : State} {k n : Nat} (h : s.sameButNew s' [] k n) : s.heap.size ≤ s'.heap.size ∧ ∀ a, a < s.heap.size → s'.heap[a]? = s.heap[a]? := by
  refine ⟨h.2.1, fun a ha => ?_⟩
  have e0 : s.heap[a]? = some s.heap[a] := Array.getElem?_eq_getElem ha
  obtain ⟨c', h1, h2, h3, h4⟩ := h.2.2.2.2.2 a _ e0
  rw [h1, e0, h2]
  have e : c'.slots = (s.heap[a]).slots := by
    apply Array.ext_getElem?
    intro i
    exact h4 i List.not_mem_nil
  rw [e]
def mm_QT (x cc nn : Nat) : Array Value → State → Outcome → State → Prop := fun _ st o t => ∃ (ad : Nat) (ce : Cell), o = .threw ad ∧ st.WarmedH t.vm ∧ st.sameButNew ({ t with vm := st.vm } : State) [] cc nn ∧ t.heap[ad]? = some ce ∧ ce.vm = .none ∧ st.vm.findClass (mm_xn x) = some ce.cls
def mm_end (p : Program) (l : Launch) (e : Env) (R : Room) (s : State) (m : MethodId) (args : Array Value) (below : List Frame) (meth : Method) (c : Code) (Q : State → Prop) (D : va_G) (A : Nat → Prop) (w j cells slots : Nat) (ads : List Nat) (o : Option Value ⊕ Nat) (M1 : MH) : Prop := match o with
  | .inl v => ∀ (y : List Nat) (H : Heap) (locs : List Loc) (ls : Array Slot) (rv : Option Value) (pc : Nat), mm_wd D A s.heap w (ads ++ y) M1 H locs → mm_rv (ads ++ y) v rv → mm_retI j pc v → W p l e R s m args below meth c H locs cells slots Q (F0 m pc ls rv.toList)
  | .inr x => ∀ (y : List Nat) (H : Heap) (locs : List Loc) (ls : Array Slot) (S st : List Value) (pc d cT nT : Nat), cells = cT + 1 → slots = nT + 6 → mm_wd D A s.heap w (ads ++ y) M1 H locs → ls.size = mm_maxL j → mm_fa (mm_vr (ads ++ y)) S st → mm_thrI d j pc x S → d ≤ R.frames → 64 * d ≤ R.locals → W p l e R s m args below meth c H locs cT nT Q (F0 m pc ls st)
theorem mm_end.mono {p : Program} {l : Launch} {e : Env} {R : Room} {s : State} {m : MethodId} {args : Array Value} {below : List Frame} {meth : Method} {c : Code} {Q : State → Prop} {D : va_G} {A : Nat → Prop} {w j cells slots : Nat} {ads : List Nat} {o : Option Value ⊕ Nat} {M1 : MH} (y : List Nat) (h : mm_end p l e R s m args below meth c Q D A w j cells slots ads o M1) : mm_end p l e R s m args below meth c Q D A w j cells slots (ads ++ y) o M1 := by
  cases o with
  | inl v =>
    intro y2 H locs ls rv pc h1 h2 h3
    rw [List.append_assoc] at h1 h2
    exact h (y ++ y2) H locs ls rv pc h1 h2 h3
  | inr x =>
    intro y2 H locs ls S st pc d cT nT h0 h00 h1 h2 h3
    rw [List.append_assoc] at h1 h3
    exact h (y ++ y2) H locs ls S st pc d cT nT h0 h00 h1 h2 h3
theorem mm_hex {p : Program} {l : Launch} {S : Spec} {j : Nat} {e : Env} {s : State} {m : MethodId} {args : Array Value} {below : List Frame} {meth : Method} {c : Code} {s₁ : State} (B : BodyLoose p l (mm_y j) S (mm_bytes j) (mm_maxL j) (mm_ret j) e s m args below meth c s₁) (h : (mm_cw j).before args s = true) : c.exceptionTable.toList.map (fun h => (h.startPc, h.endPc, h.handlerPc, h.catchType)) = mm_hh j := by
  unfold mm_cw at h
  cases hh : mm_hh j with
  | nil =>
    rw [hh] at h
    have h1 := B.noHandlers h
    have h2 : c.exceptionTable = #[] := by simpa using h1
    rw [h2]
    rfl
  | cons q r =>
    rw [hh] at h
    obtain ⟨m', meth', c', hn', hm', hc', -, -, he', -, -, -⟩ := Cond.codeWith_spec h
    cases B.named.symm.trans hn'
    cases B.method.symm.trans hm'
    cases (Stand.of_body B).code.symm.trans hc'
    exact he'
theorem mm_sl_len (vs : List Value) : (lg_sl vs).length = (vs.map fun v => v.category).sum := by
  induction vs with
  | nil => rfl
  | cons x xs ih =>
    unfold lg_sl at ih ⊢
    rw [List.flatMap_cons, List.length_append, ih]
    rcases lv_cat x with hc | hc <;> simp [hc]
theorem mm_sep_of {D : va_G} {ads : List Nat} {M : MH} {w : Nat} {s : State} (h3 : mm_hr D ads M s.heap) : mm_sep s (mm_A w ads s.heap.size) := by
  intro a cell ha hst hA
  rcases hA with ⟨k, hk, hq⟩ | hA
  · have hl := (List.getElem?_eq_some_iff.mp hq).1
    rw [h3.1] at hl
    have hcr := h3.at (List.getElem?_eq_getElem hl) hq
    rcases Nat.lt_or_ge (M[k]).1 50 with hc | hc
    · obtain ⟨cell', c1, c2, c3, -⟩ := hcr.1 hc
      cases ha.symm.trans c1
      rw [c3] at hst
      cases hst
    · obtain ⟨cell', rvs, c1, c2, c3, c4, -⟩ := hcr.2 hc
      cases ha.symm.trans c1
      rw [c4] at hst
      cases hst
  · exact absurd (Array.getElem?_eq_some_iff.mp ha).1 (Nat.not_lt.mpr hA)
theorem mm_metT_of {l : Launch} (hfl : l.flags = flags0) {j d cc nn x : Nat} {D : va_G} {ads : List Nat} {M M1 : MH} {as : List Value} (hm : mm_meth j) (hh0 : mm_hh j = []) (hwd : mm_words as ≤ mm_maxL j)
    (body : ∀ (p : Program) (e : Env) (s : State) (m : MethodId) (args : Array Value) (below : List Frame) (meth : Method) (c : Code) (Q : State → Prop) (A : Nat → Prop), mm_fx p s m args meth c j D → mm_sep s A → mm_end p l e (mm_rm d cc nn) s m args below meth c Q D A M.length j cc nn ads (.inr x) M1 → mm_G p l e (mm_rm d cc nn) s m args below meth c Q D A s.heap M.length (mm_maxL j) 0 0 ads 0 (lv_args 0 as) [] M) (sz : Nat) :
    MetFree l (mm_y j) (headSpec (mm_wsm j) (mm_rm d cc nn)) (mm_P D ads M as sz) (fun _ _ _ _ _ => True) (mm_QT x cc nn) := by
  have hcw : mm_cw j = Cond.code (mm_y j) (mm_bytes j) (mm_maxL j) (mm_ret j) := by unfold mm_cw; rw [hh0]
  refine MetFree.of_bodyS (code := mm_bytes j) (maxLocals := mm_maxL j) (ret := mm_ret j) hm.1 ?_ ?_
  · intro args s m h hn
    obtain ⟨meth, c, h1, h2, h3, h4, h5, h6, -, -⟩ := Cond.code_spec hn (atoms_spec (ws := mm_wsm j) h _ (by unfold mm_wsm; rw [hcw]; exact List.mem_cons_self))
    exact ⟨meth, c, h1, h2, h3, h4, h5, h6⟩
  · intro p e s m args below meth c s₁ B hml hv _
    have hh1 : s₁.heap = s.heap := by rw [B.state]; rfl
    obtain ⟨ras, rfl, h2, h3, h4, h5⟩ := hv
    subst h5
    have hts := atoms_spec (ws := mm_wsm j) B.pre
    have hown : s.vm.findClass (mm_own j) = some m.cls := by rw [← hm.2.2.2.1]; exact findClass_of_methodNamed B.named
    have hf : mm_fx p s m ras.toArray meth c j D := ⟨B.exec, B.bytes, hml, hown, fun w hw => hts w (List.mem_cons_of_mem _ hw), h4, B.returns, B.notSynchronized, fun hc => (name_of_methodNamed B.named B.method).1.trans (hm.2.2.2.2.2.2 hc), mm_hex B (hts _ List.mem_cons_self)⟩
    have hx := B.exec
    have hb := B.bytes
    have hlocks := B.notSynchronized
    have hlen : (lg_sl ras).length ≤ mm_maxL j := by
      have : (lg_sl ras).length = mm_words as := by rw [← mm_words_eq h2]; exact mm_sl_len ras
      rw [this]; exact hwd
    have hl := lv_entry ras (n := mm_maxL j) hlen
    have key : W p l e (headSpec (mm_wsm j) (mm_rm d cc nn)).room s m ras.toArray below meth c s.heap [] 0 0 (fun t => ∃ o, t.status = .running ∧ Ended t below o ∧ mm_QT x cc nn ras.toArray s o t) (entryFrame m ras.toArray (mm_maxL j)) := by
      rw [lg_entry_eq]
      refine body p e s m ras.toArray below meth c _ (mm_A M.length ads s.heap.size) hf (mm_sep_of h3) ?_ s.heap [] _ [] ⟨h3, va_S.rf, fun k q hk hq => Or.inl ⟨k, hk, hq⟩, fun q hq => Or.inr hq⟩ ⟨_, hl, mm_lr_args 0 h2⟩ trivial
      intro y H locs ls S st pc dd cT nT hcT hnT hw hls hst hI hd1 hd2
      obtain ⟨k1, k2, k3, d1, d2, d3, d4, d5, ⟨X, rfl, x1, x2, x3⟩, ⟨tx, htx⟩, ⟨X2, rfl, x4⟩, h8, h6⟩ := hI
      obtain ⟨qs, hZ⟩ := h4.2.2.2.2.2.2.1 _ htx
      have hts2 := hf.2.2.2.2.1
      obtain ⟨cX, kX, hfcX, -, -, -⟩ := Cond.instantiable_spec (hts2 _ x2)
      have hcc : cT + 1 ≤ (headSpec (mm_wsm j) (mm_rm d cc nn)).room.cells := by show cT + 1 ≤ cc; omega
      have hnn : nT + 6 ≤ (headSpec (mm_wsm j) (mm_rm d cc nn)).room.slots := by show nT + 6 ≤ nn; omega
      refine W.newcK hx hb hown (hts2 _ x1) (hts2 _ x2) (hts2 _ x3) rfl (d1.by 2 rfl) hcc hnn hfcX rfl fun H1 kC hkC e1 z1 o1 => ?_
      refine lv_dup hx hb (pc := pc + 3) (ls := ls) (rest := st) (d2.by 0 rfl) rfl ?_
      refine va_ldcS hx hb (pc := pc + 4) hown hZ (d3.by 1 rfl) ?_
      intro T hT X
      have hold : ∀ y ∈ locs, s.heap.size ≤ y.base := by
        intro y hy
        rcases hw.2.1.2.2 y hy with ⟨k, hk, hq⟩ | hq
        · have := (List.getElem?_eq_some_iff.mp hq).1
          rw [h3.1] at this
          omega
        · exact hq
      have X0 := Stand.forget (locs := []) (extra := locs) X hold
      have hout : ∀ z ∈ c.exceptionTable.toList, covers z (pc + 6 + 3) = false := by
        have he := hf.2.2.2.2.2.2.2.2.2
        rw [hh0] at he
        intro z hz
        rw [List.map_eq_nil_iff.mp he] at hz
        exact absurd hz List.not_mem_nil
      have hR2 : (headSpec (mm_wsm j) (mm_rm d cc nn)).room.locals = 64 * d := rfl
      have hR1 : (headSpec (mm_wsm j) (mm_rm d cc nn)).room.frames = d := rfl
      have hd1 : dd ≤ d := hd1
      obtain ⟨U, st1, hrun, hended, hWU, hsame, ce, hce, hoc⟩ := X0.ctorThrowS hx (Launch.traces_off hfl X.admits) (own := mm_own j) (cls := mm_xn x) (names := mm_xsup) (ic := k3) hown (mm_xn_fit x) mm_xsup_fit (mm_atoms hts2 h4 x4) (fun z hz => by cases hz) hfcX hkC (a := H.size) (by rw [hT]; exact e1) hw.2.1.1 (msg := .ref qs) rfl
        (g := F0 m (pc + 6) ls (.ref qs :: .ref H.size :: .ref H.size :: st)) rfl (by rw [hml]; exact hls) rfl rfl (rest := st) rfl (by rw [hb]; exact d4.by 2 rfl) (by rw [hb]; exact d5.by 0 rfl) hout
        (by show 2 + 3 < d; omega) (by
          show 2 * 0 + ((Value.ref H.size :: st).map fun v => v.category).sum + (13 * (2 + 1) + 42) ≤ 64 * d
          rw [List.map_cons, List.sum_cons, mm_words_eq hst]
          show 2 * 0 + (1 + _) + _ ≤ _
          omega) hlocks
      refine ⟨U, st1, .threw H.size, hrun, hended, H.size, ce, rfl, hWU, ?_, hce, hoc.vm, hoc.cls⟩
      rw [hcT, hnT]
      exact hsame
    obtain ⟨t, a1, o, b1, b2, b3⟩ := key s₁ hh1 (Stand.of_body B)
    exact ⟨t, o, a1, b1, b2, b3⟩
def mm_PT (x cc nn : Nat) : Pt → Array Value → Addr → Pt → Prop := fun A a v B => ∃ (g : JFrame) (mk : MethodId) (t : State) (ce : Cell), B.U.heap = t.heap ∧ (A.U.calling g mk a).sameButNew ({ t with vm := (A.U.calling g mk a).vm } : State) [] cc nn ∧ t.heap[v]? = some ce ∧ ce.vm = .none ∧ A.U.vm.findClass (mm_xn x) = some ce.cls ∧ B.locs = A.locs ∧ B.cells = A.cells + cc ∧ B.slots = A.slots + nn
section MT
variable {p : Program} {l : Launch} {e : Env} {R : Room} {s : State} {m : MethodId} {args : Array Value} {below : List Frame} {meth : Method} {c : Code} {Q : State → Prop} {D : va_G} {A : Nat → Prop} {w d j j' pc cells slots : Nat} {ads : List Nat} {L : ML} {S : List Value} {M M1 : MH} {as r : List Value}
theorem mm_backT (hts : ∀ w ∈ mm_ws, w.before args s = true) {dd cc nn x sz : Nat} (hm : mm_meth j') (hh0 : mm_hh j' = []) (hM : MetFree l (mm_y j') (headSpec (mm_wsm j') (mm_rm dd cc nn)) (mm_P D ads M as sz) (fun _ _ _ _ _ => True) (mm_QT x cc nn)) (hR1 : dd + 1 ≤ R.frames) (hR2 : 64 * (dd + 1) ≤ R.locals) : BackT l R p e below s args (mm_y j') 3 8 (PreOf R cc nn (mm_P D ads M as sz)) (mm_PT x cc nn) := by
  obtain ⟨h1, h2, h3, h4, h5, h6, h7⟩ := hm
  have hcw : mm_cw j' = Cond.code (mm_y j') (mm_bytes j') (mm_maxL j') (mm_ret j') := by unfold mm_cw; rw [hh0]
  have hG : ∀ w ∈ mm_wsm j', w ∈ mm_ws ∧ ((w.onTables && w.keeps) = true ∨ ∃ ty, w = .arrayClass ty) := by
    intro w hw
    rcases List.mem_cons.mp hw with rfl | hw
    · exact ⟨h2, mm_good _ h2⟩
    · exact ⟨hw, mm_good _ hw⟩
  have hws := pay_in hts hG
  have hloc : 8 + (mm_maxL j' + 11) + (mm_rm dd cc nn).locals ≤ R.locals := by show 8 + (mm_maxL j' + 11) + 64 * dd ≤ R.locals; omega
  refine BackT.of_free (S := headSpec (mm_wsm j') (mm_rm dd cc nn)) (P := mm_P D ads M as sz) (K := fun _ _ _ _ _ => True) (Q := mm_QT x cc nn) (bytes := mm_bytes j') (maxL := mm_maxL j') (ret := mm_ret j')
    (E := fun a st o t L k n => L = [] ∧ k = cc ∧ n = nn) hM hR1 hloc ?_ ?_ (fun _ _ _ _ _ _ _ _ _ => trivial) ?_ ?_
  · intro m meth c A a X hp
    exact ⟨atoms_intro fun w hw => hws w hw _ _ X.warmed, hws _ (by unfold mm_wsm; rw [hcw]; exact List.mem_cons_self) _ _ X.warmed, hws _ (List.mem_cons_of_mem _ h3) _ _ X.warmed, hp.1, hp.2.1⟩
  · intro m meth c A a g mk X hp
    exact mm_P_blind _ _ _ _ hp.2.2
  · intro a st o t h
    obtain ⟨ad, ce, rfl, hW, hsame, -⟩ := h
    exact ⟨[], cc, nn, ⟨⟨ad, rfl⟩, hW, hsame⟩, rfl, rfl, rfl⟩
  · intro m meth c A a g mk v t Lo k n X hp hq hF he
    obtain ⟨rfl, rfl, rfl⟩ := he
    obtain ⟨ad, ce, ho, hW, hsame, q1, q2, q3⟩ := hq
    cases ho
    exact ⟨g, mk, t, ce, rfl, hsame, q1, q2, q3, List.append_nil _, rfl, rfl⟩
theorem mm_dec_same {cc : ByteArray} {i i2 : Instr} (h : mm_dec cc pc i) (h2 : mm_dec cc pc i2) : i = i2 := by
  obtain ⟨_, a, -⟩ := h
  obtain ⟨_, b, -⟩ := h2
  have := a.symm.trans b
  injection this with this
  exact (Prod.mk.inj this).1
theorem mm_s_catch {dd cc nn x to kx : Nat} (hf : mm_fx p s m args meth c j D) (hsep : mm_sep s A) (hI : mm_callI j pc S M j' as r) (hhand : mm_hand j pc x = some (to, kx)) (hM : ∀ (sz : Nat), mm_hh j' = [] → MetFree l (mm_y j') (headSpec (mm_wsm j') (mm_rm dd cc nn)) (mm_P D ads M as sz) (fun _ _ _ _ _ => True) (mm_QT x cc nn)) (hR1 : dd + 1 ≤ R.frames) (hR2 : 64 * (dd + 1) ≤ R.locals) (hc : cells + cc ≤ R.cells) (hn : slots + nn ≤ R.slots)
    (k : mm_G p l e R s m args below meth c Q D A s.heap w (mm_maxL j) (cells + cc) (slots + nn) ads to (L.filter fun q => !(q.1 == kx) && !(q.1 + 1 == kx && q.2.category == 2)) [] M) : mm_G p l e R s m args below meth c Q D A s.heap w (mm_maxL j) cells slots ads pc L S M := by
  intro H locs ls st hw hl hs T hT X
  obtain ⟨RL, hl1, hl2⟩ := id hl
  obtain ⟨hx, hb, hml, hown, hts, hkn, -, -, -, hex⟩ := id hf
  obtain ⟨o1, ⟨idx0, o2⟩, pre, a0, b0, hp, ct, rest0, o3, o4, o5, o6, o7, o8, o9, o10, o11⟩ := mm_hand_ok hhand
  have hm := hI.meth
  obtain ⟨hwr0, hwa, h | h⟩ := hI
  · obtain ⟨b, As, rfl, rfl, ⟨fs, hMb⟩, idx, h⟩ := h
    rcases h with ⟨hd, h | h⟩ | ⟨hd, -⟩
    · obtain ⟨-, hhh, w1, w2, w3, ⟨T0, N0, w4⟩, w5⟩ := h
      obtain ⟨t1, t2, rfl, g1, g2⟩ := hs.split
      obtain ⟨q0, rr, rfl, ⟨q, hq, rfl⟩, g3⟩ := g2.inv
      have g4 := g1.rev
      rw [List.reverse_reverse] at g4
      have hlen : As.length = t1.reverse.length := g4.len
      have hst : t1 ++ Value.ref q :: rr = t1.reverse.reverse ++ Value.ref q :: rr := by rw [List.reverse_reverse]
      have hwr : 2 * (F0 m pc ls (t1 ++ Value.ref q :: rr)).monitorRoom + (rr.map fun v => v.category).sum ≤ 8 := by
        rw [mm_words_eq g3]
        show 2 * 0 + _ ≤ 8
        omega
      obtain ⟨d1, -⟩ := mm_cl_ok w4
      obtain ⟨cell, c1, c2, c3, -⟩ := (hw.1.at hMb hq).1 d1
      obtain ⟨-, hfc, -⟩ := hkn.1.1 _ _ w4
      have hK := mm_backT (R := R) (p := p) (e := e) (below := below) hts hm hhh (hM H.size hhh) hR1 hR2
      obtain ⟨mk, methM, hnamed, hmethM, hstM, habM⟩ := Cond.instanceMethod_spec (hts _ w2)
      obtain ⟨methM', cM, hmethM', -, -, -, -, -, -, hsigM⟩ := Cond.code_spec hnamed (mm_codeb hts hm hhh)
      cases hmethM.symm.trans hmethM'
      obtain ⟨c2', r2, m2, q1, q2, q3, q4, kP, hkP, hkPi⟩ := Cond.selects_spec (hts _ w3)
      have hclsB : s.vm.findClass (mm_own j') = some cell.cls := by rw [c2]; exact hfc
      cases hclsB.symm.trans q1
      cases (State.methodFound?_of_named hnamed hm.2.2.2.2.1).symm.trans q2
      cases hnamed.symm.trans q3
      have hselP : selectMethod e.platform s.vm cell.cls mk = .method mk := by rw [Launch.admits_selectMethod X.admits]; exact q4
      obtain ⟨vm₁, X₁, hstep₁⟩ := X.invokevirtual hx hown (hts _ w1) hnamed hmethM hstM hkP hkPi hm.2.2.2.2.1 (a := q) (cell := cell) (by rw [hT]; exact c1)
        (fun z hz => by rw [c3] at hz; cases hz) hselP hmethM habM hkP hkPi (g := F0 m pc ls (t1 ++ Value.ref q :: rr)) rfl (argsL := t1.reverse) (rest := rr) (by rw [← hlen]; exact w5.at _ hsigM) hst (by rw [hb]; exact hd.by 2 rfl)
      obtain ⟨v, ⟨B1, B2, B3, B4⟩, X', ⟨g, mk', t, ce, e1, e2, e3, e4, e5, e6, e7, e8⟩, hsteps⟩ := hK m meth c ⟨T.setVm vm₁, locs, cells, slots⟩ (F0 m pc ls rr) (.invokevirtual idx) mk (Value.ref q :: t1.reverse).toArray X₁ rfl (hl1.1.trans hml.symm) (by rw [hb]; exact hd.by 2 rfl) hwr (X₁.named hnamed)
        ⟨hc, hn, .ref q :: t1.reverse, rfl, ⟨⟨q, hq, rfl⟩, g4⟩, by show mm_hr D ads M T.heap; rw [hT]; exact hw.1, hkn.move (A := A) X₁.warmed (by show va_S A s.heap T.heap locs; rw [hT]; exact hw.2.1) hsep, by show T.heap.size = H.size; rw [hT]⟩
      dsimp only [Pt.U, Pt.locs, Pt.cells, Pt.slots] at X' e1 e2 e3 e4 e5 e6 e7 e8 hsteps
      subst e6; subst e7; subst e8
      obtain ⟨f1, f2⟩ := mm_same_nil e2
      have f1 : H.size ≤ B1.heap.size := by
        rw [e1, ← hT]; exact f1
      have f2 : ∀ a, a < H.size → B1.heap[a]? = H[a]? := fun a ha => by
        rw [e1, ← hT]; exact f2 a (by show a < T.heap.size; rw [hT]; exact ha)
      have hfcX : s.vm.findClass (mm_xn x) = some ce.cls := by
        have : (T.setVm vm₁).vm.findClass (mm_xn x) = s.vm.findClass (mm_xn x) := X₁.warmed.alike.findClass ..
        rw [← this]; exact e5
      rw [o1] at hown
      -- the handler
      rw [o3] at hex
      obtain ⟨preR, tlR, x1, x2, x3⟩ := List.map_eq_append_iff.mp hex
      obtain ⟨xR, restR, x4, x5, x6⟩ := List.map_eq_cons_iff.mp x3
      subst x4
      have hct : xR.catchType = ct := (congrArg (fun z : Nat × Nat × Nat × Nat => z.2.2.2) x5)
      have hhp : xR.handlerPc = hp := (congrArg (fun z : Nat × Nat × Nat × Nat => z.2.2.1) x5)
      have hsp : xR.startPc = a0 := (congrArg (fun z : Nat × Nat × Nat × Nat => z.1) x5)
      have hep : xR.endPc = b0 := (congrArg (fun z : Nat × Nat × Nat × Nat => z.2.1) x5)
      have hpl : e.platform.magicAccessors = ({} : Platform).magicAccessors := by rw [X.admits.platform]
      obtain ⟨cf, ct', hcf, hct', hfit⟩ := Cond.castable_spec (args := args) (mm_xw_use (args := args) o8 (hkn.2.2.2.2.2.2.2.1 _ o8))
      cases hfcX.symm.trans hcf
      cases hfcX.symm.trans hct'
      obtain ⟨hend, hk0⟩ := X'.catches_of_link hown (x := xR) (by rw [hct]; exact o6) (by rw [hct]; exact hts _ o7) hfcX hfit
      have hpass : ∀ y ∈ preR, RowPassed e.platform s m.cls (F0 m pc ls rr).pc ce.cls y := by
        intro y hy
        obtain ⟨n1, Y, n2, n3⟩ := o9 (y.startPc, y.endPc, y.handlerPc, y.catchType) (by rw [← x2]; exact List.mem_map.mpr ⟨y, hy, rfl⟩)
        obtain ⟨c'', hc'', hcl⟩ := Cond.classLink_spec hown (hts _ n2) e.platform hpl
        obtain ⟨ca, tb, z1, z2, z3⟩ := hkn.2.2.2.2.2.2.2.2.1 _ n3
        cases hfcX.symm.trans z1
        cases hc''.symm.trans z2
        exact Or.inr ⟨n1, c'', hcl, z3⟩
      obtain ⟨vm', X2, st2⟩ := X'.caughtThrough v (g := F0 m pc ls rr) rfl (by rw [e1]; exact e3) (by rw [e4]; rfl) hk0 preR xR restR x1 hpass (by simp only [covers, hsp, hep, Bool.and_eq_true, decide_eq_true_eq]; exact ⟨o4, o5⟩) hend
      rw [hhp] at st2
      have hwd : mm_wd D A s.heap w ads M B1.heap B2 := by
        refine ⟨hw.1.kept f2, ⟨Nat.le_trans hw.2.1.1 f1, fun q h1 h2 => ?_, hw.2.1.2.2⟩, hw.2.2.1, hw.2.2.2⟩
        rw [f2 q (Nat.lt_of_lt_of_le h1 hw.2.1.1)]
        exact hw.2.1.2.1 q h1 h2
      have hk2 : W p l e R s m args below meth c B1.heap B2 (cells + cc) (slots + nn) Q (F0 m hp ls [.ref v]) := by
        have fin : ∀ ls' : Array Slot, lv_has ls' (mm_maxL j) ((kx, Value.ref v) :: RL.filter (fun q => !(q.1 == kx) && !(q.1 + 1 == kx && q.2.category == 2))) → W p l e R s m args below meth c B1.heap B2 (cells + cc) (slots + nn) Q (F0 m to ls' []) := fun ls' hl' =>
          k B1.heap B2 ls' [] hwd ⟨_, ⟨hl'.1, hl'.2.1, fun q hq => hl'.2.2 q (List.mem_cons_of_mem _ hq)⟩, mm_fa.fil (fun a b q => by rw [q.1, q.2.cat]) hl2⟩ trivial
        rcases o11 with ⟨z, hz, hdz, rfl⟩ | ⟨hdz, rfl⟩
        · exact lv_astore_n hx hb (hdz.by 0 rfl) hz hl1 o10 rfl fin
        · exact lv_astore hx hb (hdz.by 1 rfl) hl1 o10 rfl fin
      obtain ⟨t9, a9, b9⟩ := hk2 (B1.setVm vm') rfl X2
      refine ⟨t9, hstep₁ _ fun acts => ?_, b9⟩
      rw [doInvoke_state]
      refine hsteps.trans ?_
      rw [X'.pushThrowing_eq]
      exact st2 _ a9
    · obtain ⟨-, -, ⟨host, hn0⟩, -⟩ := h
      rw [o1] at hn0
      exact absurd hn0 (by simp [mm_nest])
    · cases mm_dec_same o2 hd
  · obtain ⟨-, idx, hd, -⟩ := h
    cases mm_dec_same o2 hd
end MT
end
section
/-! Every run of the little machine is one of the real machine. -/
section MN1
variable {p : Program} {l : Launch} {e : Env} {R : Room} {s : State} {m : MethodId} {args : Array Value} {below : List Frame} {meth : Method} {c : Code} {Q : State → Prop} {D : va_G} {A : Nat → Prop} {H0 : Heap} {w d j pc cells slots : Nat} {ads : List Nat} {L : ML} {S : List Value} {M : MH} {n : MN}
theorem mm_s_nat {idx x : Nat} (hf : mm_fx p s m args meth c j D) (hR1 : d ≤ R.frames) (hR2 : 64 * d ≤ R.locals) (hc : cells ≤ R.cells) (hs0 : slots ≤ R.slots) (hw : x < 6) (hp : mm_natok (mm_own j) idx x) (hd : mm_dec (mm_bytes j) pc (.invokestatic idx)) (h : mm_nat w d x pc L S M = some n) (k : mm_N p l e R s m args below meth c Q D A H0 w (mm_maxL j) cells slots ads n) : mm_G p l e R s m args below meth c Q D A H0 w (mm_maxL j) cells slots ads pc L S M := by
  unfold mm_nat at h
  split at h
  · cases h
  · rename_i d'
    obtain ⟨r1, r2⟩ := mm_nat_room hR1 hR2 rfl
    split at h
    · split at h
      · rename_i hq
        exact mm_s_max hf r1 r2 hc hs0 hd hp (Nat.le_of_ble_eq_true hq) h k
      · cases h
    · split at h
      · rename_i hq
        exact mm_s_min hf r1 r2 hc hs0 hd hp (Nat.le_of_ble_eq_true hq) h k
      · cases h
    · split at h
      · rename_i hq
        exact mm_s_maxl hf r1 r2 hc hs0 hd hp (Nat.le_of_ble_eq_true hq) h k
      · cases h
    · split at h
      · rename_i hq
        exact mm_s_minl hf r1 r2 hc hs0 hd hp (Nat.le_of_ble_eq_true hq) h k
      · cases h
    · split at h
      · rename_i hq
        exact mm_s_absl hf r1 r2 hc hs0 hd hp (Nat.le_of_ble_eq_true hq) h k
      · cases h
    · split at h
      · rename_i hM1 hM2
        split at h
        · rename_i hq
          exact mm_s_copy hf r1 r2 hd hp hM1 hM2 hq h k
        · cases h
      · cases h
    · exact absurd hw (by decide)
    · cases h
theorem mm_s_oi {idx : Nat} (hf : mm_fx p s m args meth c j D) (hR1 : d ≤ R.frames) (hR2 : 64 * d ≤ R.locals) (hp : mm_oiok (mm_own j) idx) (hd : mm_dec (mm_bytes j) pc (.invokespecial idx)) (h : mm_nat w d 6 pc L S M = some n) (k : mm_N p l e R s m args below meth c Q D A H0 w (mm_maxL j) cells slots ads n) : mm_G p l e R s m args below meth c Q D A H0 w (mm_maxL j) cells slots ads pc L S M := by
  unfold mm_nat at h
  split at h
  · cases h
  · obtain ⟨r1, r2⟩ := mm_nat_room hR1 hR2 rfl
    split at h <;> first | (rename_i hz; exact absurd hz (by decide)) | skip
    · split at h
      · rename_i hq
        exact mm_s_oinit hf r1 r2 hd hp (Nat.le_of_ble_eq_true hq) h k
      · cases h
    · cases h
end MN1
theorem mm_rv_of {ads : List Nat} : ∀ {v : Option Value} {st : List Value}, mm_fa (mm_vr ads) v.toList st → ∃ rv : Option Value, st = rv.toList ∧ mm_rv ads v rv
  | none, [], _ => ⟨none, rfl, trivial⟩
  | some v, [rv], h => ⟨some rv, rfl, h.1⟩
  | none, _ :: _, h => h.elim
  | some _, [], h => h.elim
  | some _, _ :: _ :: _, h => h.2.elim
/-- a method's contract out of the walk of its body -/
theorem mm_met_of {l : Launch} {w j d cc nn : Nat} {D : va_G} {ads : List Nat} {M M1 : MH} {as : List Value} {v : Option Value} (hm : mm_meth j) (hwd : mm_words as ≤ mm_maxL j)
    (body : ∀ (p : Program) (e : Env) (s : State) (m : MethodId) (args : Array Value) (below : List Frame) (meth : Method) (c : Code) (Q : State → Prop) (A : Nat → Prop), mm_fx p s m args meth c j D → mm_sep s A → mm_end p l e (mm_rm d cc nn) s m args below meth c Q D A w j cc nn ads (.inl v) M1 → mm_G p l e (mm_rm d cc nn) s m args below meth c Q D A s.heap w (mm_maxL j) 0 0 ads 0 (lv_args 0 as) [] M) (sz : Nat) :
    Met l (mm_y j) (mm_wsm j) (mm_rm d cc nn) (mm_P D ads M as sz) (mm_Q D w ads M1 v sz) cc nn (mm_A w ads sz) := by
  refine mm_met hm.1 ?_
  intro p e s m args below meth c s₁ B hml hv
  obtain ⟨ras, rfl, h2, h3, h4, h5⟩ := hv
  subst h5
  have hts := atoms_spec (ws := mm_wsm j) B.pre
  have hown : s.vm.findClass (mm_own j) = some m.cls := by rw [← hm.2.2.2.1]; exact findClass_of_methodNamed B.named
  have hf : mm_fx p s m ras.toArray meth c j D := ⟨B.exec, B.bytes, hml, hown, fun w hw => hts w (List.mem_cons_of_mem _ hw), h4, B.returns, B.notSynchronized, fun hc => (name_of_methodNamed B.named B.method).1.trans (hm.2.2.2.2.2.2 hc), mm_hex B (hts _ List.mem_cons_self)⟩
  have hx := B.exec
  have hb := B.bytes
  have hr := B.returns
  have hlocks := B.notSynchronized
  have hsep : mm_sep s (mm_A w ads s.heap.size) := mm_sep_of h3
  have hlen : (lg_sl ras).length ≤ mm_maxL j := by
    have : (lg_sl ras).length = mm_words as := by rw [← mm_words_eq h2]; exact mm_sl_len ras
    rw [this]; exact hwd
  have hl := lv_entry ras (n := mm_maxL j) hlen
  rw [lg_entry_eq]
  refine body p e s m ras.toArray below meth c _ (mm_A w ads s.heap.size) hf hsep ?_ s.heap [] _ [] ⟨h3, va_S.rf, fun k q hk hq => Or.inl ⟨k, hk, hq⟩, fun q hq => Or.inr hq⟩ ⟨_, hl, mm_lr_args 0 h2⟩ trivial
  intro y H locs ls rv pc hw hrv hI
  have hq : ∀ t : State, t.heap = H → s.WarmedH t.vm → mm_Q D w ads M1 v s.heap.size ras.toArray s (.returned rv) t := fun t ht hW => ⟨⟨y, rv, rfl, hrv, by rw [ht]; exact hw.1, fun k q hk hq => hw.2.2.1 k q hk hq⟩, hw.2.1.F ht⟩
  cases v with
  | none =>
    cases rv with
    | some _ => exact hrv.elim
    | none => exact W.vret hx hb (hr.trans hI.2) hq hw.2.1.2.2 (hI.1.by 0 rfl)
  | some v =>
    cases rv with
    | none => exact hrv.elim
    | some rv =>
      cases v with
      | int x =>
        cases hrv
        obtain ⟨hd, ty, ht, hn⟩ := hI
        exact W.zret hx hb (hr.trans ht) hn hq hw.2.1.2.2 (hd.by 0 rfl)
      | long x =>
        cases hrv
        exact W.lret hx hb (hr.trans hI.2) hq hw.2.1.2.2 (hI.1.by 0 rfl)
      | ref x =>
        obtain ⟨q, hq0, rfl⟩ := hrv
        obtain ⟨hd, ty, ht, hn⟩ := hI
        exact W.aret hx hb (hr.trans ht) hn (Or.inr ⟨q, rfl⟩) hq hw.2.1.2.2 (hd.by 0 rfl)
      | _ => exact hI.elim
theorem mm_main : ∀ (f w d j pc : Nat) (L : ML) (S : List Value) (M : MH) (c0 n0 : Nat) (o : Option Value ⊕ Nat) (M1 : MH) (c1 n1 : Nat), mm_run f w d j pc L S M c0 n0 = some (o, M1, c1, n1) →
    ∀ (p : Program) (l : Launch) (e : Env) (R : Room) (s : State) (m : MethodId) (args : Array Value) (below : List Frame) (meth : Method) (c : Code) (Q : State → Prop) (D : va_G) (A : Nat → Prop) (ads : List Nat), l.flags = flags0 → mm_fx p s m args meth c j D → mm_sep s A → d ≤ R.frames → 64 * d ≤ R.locals → c1 ≤ R.cells → n1 ≤ R.slots →
    mm_end p l e R s m args below meth c Q D A w j c1 n1 ads o M1 → mm_G p l e R s m args below meth c Q D A s.heap w (mm_maxL j) c0 n0 ads pc L S M
  | 0, w, d, j, pc, L, S, M, c0, n0, o, M1, c1, n1, h => by cases h
  | f + 1, w, d, j, pc, L, S, M, c0, n0, o, M1, c1, n1, h => by
    intro p l e R s m args below meth c Q D A ads hfl hf hsep hR1 hR2 hc hn hend
    unfold mm_run at h
    split at h
    · cases h
    · rename_i i hat
      have hd := mm_at_ok hat
      split at h
      · cases h
      · cases h
      · rename_i pc' L' S' M' hs
        have kk : mm_N p l e R s m args below meth c Q D A s.heap w (mm_maxL j) c0 n0 ads (pc', L', S', M', 0, 0) := fun y => mm_main f _ _ _ _ _ _ _ _ _ _ _ _ _ h p l e R s m args below meth c Q D A (ads ++ y) hfl hf hsep hR1 hR2 hc hn (hend.mono y)
        obtain ⟨dc, dn, e1, e2, -⟩ := mm_run_shift f _ _ _ _ _ _ _ _ _ _ _ _ _ h
        have b1 : c0 + 0 ≤ R.cells := by omega
        have b2 : n0 + 0 ≤ R.slots := by omega
        rcases mm_act_inv hat hs with ⟨nn, hq, hq2⟩ | ⟨v, hq, -⟩ | ⟨_, _, _, hq, -⟩ | ⟨_, hq, -⟩
        · cases hq
          rcases hq2 with hq2 | ⟨k, ci, N, rfl, hp, hq2⟩ | ⟨k, rfl, hp, hq2⟩ | ⟨k, x, rfl, hw, hp, hq2⟩
          · exact mm_s_step hf hat hR1 hR2 b1 b2 hq2 kk
          · cases hq2
          · exact mm_s_oi hf hR1 hR2 hp hd hq2 kk
          · exact mm_s_nat hf hR1 hR2 b1 b2 hw hp hd hq2 kk
        · cases hq
        · cases hq
        · cases hq
      · rename_i pc' L' S' M' ec en hs
        have kk : mm_N p l e R s m args below meth c Q D A s.heap w (mm_maxL j) c0 n0 ads (pc', L', S', M', ec + 1, en) := fun y => mm_main f _ _ _ _ _ _ _ _ _ _ _ _ _ h p l e R s m args below meth c Q D A (ads ++ y) hfl hf hsep hR1 hR2 hc hn (hend.mono y)
        obtain ⟨dc, dn, e1, e2, -⟩ := mm_run_shift f _ _ _ _ _ _ _ _ _ _ _ _ _ h
        have b1 : c0 + (ec + 1) ≤ R.cells := by omega
        have b2 : n0 + en ≤ R.slots := by omega
        rcases mm_act_inv hat hs with ⟨nn, hq, hq2⟩ | ⟨v, hq, -⟩ | ⟨_, _, _, hq, -⟩ | ⟨_, hq, -⟩
        · cases hq
          rcases hq2 with hq2 | ⟨k, ci, N, rfl, hp, hq2⟩ | ⟨k, rfl, hp, hq2⟩ | ⟨k, x, rfl, hw, hp, hq2⟩
          · exact mm_s_step hf hat hR1 hR2 b1 b2 hq2 kk
          · cases hq2
            exact mm_s_new hf hp hd b1 b2 rfl kk
          · exact mm_s_oi hf hR1 hR2 hp hd hq2 kk
          · exact mm_s_nat hf hR1 hR2 (by omega) (by omega) hw hp hd hq2 kk
        · cases hq
        · cases hq
        · cases hq
      · rename_i v hs
        cases h
        rcases mm_act_inv hat hs with ⟨nn, hq, -⟩ | ⟨v', hq, hI, rfl⟩ | ⟨_, _, _, hq, -⟩ | ⟨_, hq, -⟩
        · cases hq
        · cases hq
          intro H locs ls st hw hl hst
          obtain ⟨rv, rfl, hrv⟩ := mm_rv_of hst
          have hend := hend.mono []
          exact hend [] H locs ls rv pc (by rw [List.append_nil, List.append_nil]; exact hw) (by rw [List.append_nil, List.append_nil]; exact hrv) hI
        · cases hq
        · cases hq
      · rename_i x hs
        cases h
        rcases mm_act_inv hat hs with ⟨nn, hq, -⟩ | ⟨v', hq, -⟩ | ⟨_, _, _, hq, -⟩ | ⟨x', hq, hI⟩
        · cases hq
        · cases hq
        · cases hq
        · cases hq
          intro H locs ls st hw hl hst
          obtain ⟨RL, hl1, -⟩ := hl
          exact hend [] H locs ls S st pc d c0 n0 rfl rfl (by rw [List.append_nil]; exact hw) hl1.1 (by rw [List.append_nil]; exact hst) hI hR1 hR2
      · rename_i j' as r hs
        rcases mm_act_inv hat hs with ⟨nn, hq, -⟩ | ⟨v', hq, -⟩ | ⟨_, _, _, hq, hI⟩ | ⟨_, hq, -⟩
        · cases hq
        · cases hq
        · cases hq
          split at h
          · cases h
          · rename_i d'
            split at h
            · cases h
            · rename_i v M' c' n' hr
              obtain ⟨dc, dn, e1, e2, e3⟩ := mm_run_shift f _ _ _ _ _ _ _ _ _ _ _ _ _ hr
              obtain ⟨fc, fn, g1, g2, -⟩ := mm_run_shift f _ _ _ _ _ _ _ _ _ _ _ _ _ h
              have e4 := e3 0 0
              rw [Nat.zero_add, Nat.zero_add] at e4
              refine mm_s_call (dd := d') (cc := dc) (nn := dn) hf hsep hI (fun sz => mm_met_of hI.meth hI.2.1 (fun p' e' s' m' args' below' meth' c' Q' A' hf' hsep' hend' => mm_main f _ _ _ _ _ _ _ _ _ _ _ _ _ e4 p' l e' (mm_rm d' dc dn) s' m' args' below' meth' c' Q' D A' ads hfl hf' hsep' (Nat.le_refl _) (Nat.le_refl _) (Nat.le_refl _) (Nat.le_refl _) hend') sz) hR1 hR2 (by omega) (by omega) (fun y => ?_)
              rw [← e1, ← e2]
              exact mm_main f _ _ _ _ _ _ _ _ _ _ _ _ _ h p l e R s m args below meth c Q D A (ads ++ y) hfl hf hsep hR1 hR2 hc hn (hend.mono y)
            · rename_i x0 M0 c00 n00 hr0
              split at h
              · rename_i x M' c' n' hr
                split at h
                · cases h
                · rename_i to kx hh
                  obtain ⟨dc, dn, e1, e2, e3⟩ := mm_run_shift f _ _ _ _ _ _ _ _ _ _ _ _ _ hr
                  obtain ⟨fc, fn, g1, g2, -⟩ := mm_run_shift f _ _ _ _ _ _ _ _ _ _ _ _ _ h
                  have e4 := e3 0 0
                  rw [Nat.zero_add, Nat.zero_add] at e4
                  refine mm_s_catch (dd := d') (cc := dc) (nn := dn) hf hsep hI hh (fun sz hh0 => mm_metT_of hfl hI.meth hh0 hI.2.1 (fun p' e' s' m' args' below' meth' c' Q' A' hf' hsep' hend' => mm_main f _ _ _ _ _ _ _ _ _ _ _ _ _ e4 p' l e' (mm_rm d' dc dn) s' m' args' below' meth' c' Q' D A' ads hfl hf' hsep' (Nat.le_refl _) (Nat.le_refl _) (Nat.le_refl _) (Nat.le_refl _) hend') sz) hR1 hR2 (by omega) (by omega) ?_
                  rw [← e1, ← e2]
                  exact mm_main f _ _ _ _ _ _ _ _ _ _ _ _ _ h p l e R s m args below meth c Q D A ads hfl hf hsep hR1 hR2 hc hn hend
              · cases h
        · cases hq
end
section
/-! THE CLAIM OUT OF ONE WALK OF THE LAW'S BODY. Your part is whole_start (and what it stands on); all else here is the same for every law, but numbers. -/
def R_law : String := "FairDeskLaw"
def lw_P (b : Addr) (xs : List Int32) (args : Array Value) (s : State) : Prop := args = #[.ref b] ∧ s.IntsAt b xs ∧ xs.length ≤ 2048 ∧ (Jvm.Cond.and given_1 narrow_1).before args s = true
def lw_Q (_ : Array Value) (s : State) (o : Outcome) (t : State) : Prop := o = .returned (some (.int 1)) ∧ Framed s o t [] 645488 7159639
def lw_Z (below : List Frame) (a : Array Value) (s : State) : State → Prop := fun t => ∃ o, t.status = .running ∧ Ended t below o ∧ lw_Q a s o t
/-- the law's own end, with 1 on the stack, nothing written that was there before, its room as the claim has it -/
theorem lw_ret {p : Program} {l : Launch} {e : Env} {s : State} {m : MethodId} {below : List Frame} {meth : Method} {c : Code} {b : Nat} (hx : p.tables.exec = Jvm.exec) (hb : c.code = code) (hr : meth.sig.returnType = ret) (hlocks : meth.locks = false) {pc : Nat} {H : Heap} {ls : Array Slot} (hdg : decode code pc = .ok (.ireturn, 1)) : W p l e room_1 s m #[Value.ref b] below meth c H [] 645488 7159639 (lw_Z below #[Value.ref b] s) (F0 m pc ls [.int 1]) := by
  intro T hT X
  obtain ⟨fs, hret, hrun, hended, hW, hframe⟩ := X.leave (v := some (.int 1)) (hlocks := hlocks) (fun h => by rw [hr] at h; cases h)
  have hmeth' : T.vm.method? m = some meth := X.method'
  refine ⟨T.setFrames fs, ?_, .returned (some (.int 1)), hrun, hended, rfl, ⟨_, rfl⟩, hW, hframe⟩
  jvm_step X.here [X.here.top, hx, hb, hdg, hmeth', hr, ret, narrow_b1]
  (try refine ⟨rfl, ?_⟩); (try refine ⟨rfl, ?_⟩)
  first | (intro acts; rw [hret _ acts rfl rfl rfl]) | rw [hret _ _ rfl rfl rfl]
  exact Steps.refl _
set_option maxRecDepth 100000 in
theorem mm_w_strs : ∀ q ∈ mm_strs, Cond.stringRef q.1 q.2.1 q.2.2 ∈ lw_tbl := by decide +kernel
set_option maxRecDepth 100000 in
theorem mm_w_nest : ∀ q ∈ mm_nest, Cond.methodLinkNest q.1 q.2.1 (mm_y q.2.2.1) q.2.2.2 ∈ lw_tbl := by decide +kernel
set_option maxRecDepth 100000 in
theorem mm_w_xw : ∀ w ∈ mm_xw, w ∈ lw_tbl := by decide +kernel
theorem mm_t_xw : ∀ w ∈ mm_xw, w.onTables = true := by decide +kernel
def mm_inst : List (String × Nat) := [("FairDesk", 4), ("FairDesk$BundleSearch", 5), ("FairDesk$CakeTable", 12), ("FairDesk$Fraction", 2), ("FairDesk$Goods", 8), ("FairDesk$House", 9), ("FairDesk$ProductSearch", 9), ("FairDeskModel", 27)]
set_option maxRecDepth 100000 in
theorem mm_w_inst : ∀ q ∈ mm_inst, Cond.instantiable q.1 q.2 ∈ lw_tbl := by decide +kernel
set_option maxRecDepth 100000 in
theorem mm_w_ao : Cond.arrayOver (.object "FairDesk$Fraction") ∈ lw_tbl ∧ Cond.arrayOver (.array .int) ∈ lw_tbl ∧ Cond.laysStatic "java/lang/Throwable" "UNASSIGNED_STACK" "[Ljava/lang/StackTraceElement;" ∈ lw_tbl ∧ Cond.laysStatic "java/lang/Throwable" "SUPPRESSED_SENTINEL" "Ljava/util/List;" ∈ lw_tbl := by decide +kernel
theorem mm_arrOf {s : State} {cA : ClassId} {kA : Class} {comp : ClassId} {ty : FieldType} (h1 : s.vm.classes[cA]? = some kA) (h2 : kA.kind = .array comp ty) : ArrOfT s cA ty := fun n z => ⟨fun k h => (by simp [arrV] at h), kA, h1, comp, h2⟩
theorem mm_cl_get (ci : Nat) (q : vw_C) (h : mm_cl[ci]? = some q) : ∃ N, (q.1, N) ∈ mm_inst := by
  match ci, h with
  | 0, h => cases h; exact ⟨4, by decide⟩
  | 1, h => cases h; exact ⟨5, by decide⟩
  | 2, h => cases h; exact ⟨12, by decide⟩
  | 3, h => cases h; exact ⟨2, by decide⟩
  | 4, h => cases h; exact ⟨8, by decide⟩
  | 5, h => cases h; exact ⟨9, by decide⟩
  | 6, h => cases h; exact ⟨9, by decide⟩
  | 7, h => cases h; exact ⟨27, by decide⟩
  | _ + 8, h => cases h
theorem mm_start_kn {s : State} {b : Nat} {scr : Cell} (hts : ∀ w ∈ lw_tbl, w.before #[Value.ref b] s = true) (hgv : (Jvm.Cond.and given_1 narrow_1).before #[Value.ref b] s = true) (hscr : s.isArrayOf scr .int) : ∃ D : va_G, mm_kn D s ∧ D.1 99 = scr.cls := by
  have hmw : ∀ w ∈ mm_ws, w.before #[Value.ref b] s = true := fun w hw => hts w (List.mem_filter.mp hw).1
  have hs := flat_of_before _ hgv
  have K : ∀ ci : Nat, ∃ r : ClassId × (Nat → Nat), ∀ q : vw_C, mm_cl[ci]? = some q → u_Kn s q.1 q.2.1 q.2.2 r.1 r.2 := by
    intro ci
    cases h : mm_cl[ci]? with
    | none => exact ⟨(0, fun _ => 0), fun q hq => by cases hq⟩
    | some q =>
      obtain ⟨C, T, N⟩ := q
      obtain ⟨k, hk⟩ := mm_cl_get ci _ h
      obtain ⟨cC, iS, hu⟩ := u_known (n := k) hmw (mm_cl_ok h).2.1 (hts _ (mm_w_inst _ hk))
      exact ⟨(cC, iS), fun q hq => by cases hq; exact hu⟩
  obtain ⟨wI, hw1⟩ : ∃ c : ClassId, ArrOfT s c .int ∧ va_RA s c .int := by
    obtain ⟨c, k, comp, h1, h2, h3⟩ := Cond.arrayClass_spec (hmw _ mm_w_i)
    exact ⟨c, mm_arrOf h2 h3, h1⟩
  obtain ⟨wL, hw2⟩ : ∃ c : ClassId, ArrOfT s c .long ∧ va_RA s c .long := by
    obtain ⟨c, k, comp, h1, h2, h3⟩ := Cond.arrayClass_spec (hmw _ mm_w_l)
    exact ⟨c, mm_arrOf h2 h3, h1⟩
  obtain ⟨wZ, hw3⟩ : ∃ c : ClassId, ArrOfT s c .boolean ∧ va_RA s c .boolean := by
    obtain ⟨c, k, comp, h1, h2, h3⟩ := Cond.arrayClass_spec (hmw _ mm_w_z)
    exact ⟨c, mm_arrOf h2 h3, h1⟩
  obtain ⟨wF, hw4⟩ : ∃ c : ClassId, ArrOfT s c (.object "FairDesk$Fraction") ∧ va_RA s c (.object "FairDesk$Fraction") := by
    obtain ⟨comp, c, k, h1, -, h2, h3, h4⟩ := Cond.arrayOver_spec (hts _ mm_w_ao.1)
    exact ⟨c, mm_arrOf h2 h3, k, comp, h2, h3, h1, h4⟩
  obtain ⟨wA, hw5⟩ : ∃ c : ClassId, ArrOfT s c (.array .int) ∧ va_RA s c (.array .int) := by
    obtain ⟨comp, c, k, h1, -, h2, h3, h4⟩ := arrayOverA_spec (hts _ mm_w_ao.2.1)
    exact ⟨c, mm_arrOf h2 h3, h4⟩
  refine ⟨(fun ci => if ci < 50 then (Classical.choose (K ci)).1 else if ci = 50 then wI else if ci = 51 then wL else if ci = 52 then wZ else if ci = 53 then wF else if ci = 54 then wA else scr.cls, fun ci => (Classical.choose (K ci)).2), ⟨⟨fun ci q hq => ?_, fun k q hq => by cases hq⟩, fun t ty ht => ?_, ?_, ?_⟩, rfl⟩
  · have hl : ci < 50 := (mm_cl_ok (C := q.1) (T := q.2.1) (N := q.2.2) hq).1
    show u_Kn s q.1 q.2.1 q.2.2 (if ci < 50 then (Classical.choose (K ci)).1 else _) _
    rw [if_pos hl]
    exact Classical.choose_spec (K ci) q hq
  · match t, ht with
    | 0, ht => cases ht; exact hw1
    | 1, ht => cases ht; exact hw2
    | 2, ht => cases ht; exact hw3
    | 3, ht => cases ht; exact hw4
    | 4, ht => cases ht; exact hw5
    | _ + 5, ht => cases ht
  · obtain ⟨k, hk, comp, hkind⟩ := hscr.2
    exact mm_arrOf hk hkind
  · refine ⟨fun q hq => va_Nw.of rfl (hts _ (mm_w_nest q hq)), va_AO.of (hts _ mm_w_ao.1), hts _ mm_w_ao.2.1, fun q hq => ?_, fun w hw => va_Nw.of (mm_t_xw w hw) (hts _ (mm_w_xw w hw)), fun q hq => ?_, ⟨hts _ mm_w_ao.2.2.1, ?_⟩, ⟨hts _ mm_w_ao.2.2.2, ?_⟩⟩
    · have hq1 : q.1 = "FairDesk" := by revert q; decide
      obtain ⟨cC, -, -, hfc, -⟩ := u_known (n := 4) hmw mm_u0 (hts _ (mm_w_inst ("FairDesk", 4) (by decide)))
      have h := hts _ (mm_w_strs q hq)
      obtain ⟨_, _, _, a, _, _, _, _, _, hev⟩ := Cond.stringRef_spec (by rw [hq1]; exact hfc) h
      exact ⟨a, vk_R.of h hev⟩
    · simp only [mm_nc, List.mem_cons, List.not_mem_nil, or_false] at hq
      rcases hq with rfl | rfl
      · exact va_Nc.of (hs _ (by decide +kernel))
      · exact va_Nc.of (hs _ (by decide +kernel))
    · have h : (Cond.isRef (.static "java/lang/Throwable" "UNASSIGNED_STACK" "[Ljava/lang/StackTraceElement;")).before #[Value.ref b] s = true := hs _ (by decide +kernel)
      exact h
    · have h : (Cond.isRef (.static "java/lang/Throwable" "SUPPRESSED_SENTINEL" "Ljava/util/List;")).before #[Value.ref b] s = true := hs _ (by decide +kernel)
      exact h
theorem mm_ints_fa (ads : List Nat) : ∀ xs : List Int32, mm_fa (mm_vr ads) (xs.map Value.int) (xs.map Value.int)
  | [] => trivial
  | _ :: xs => ⟨rfl, mm_ints_fa ads xs⟩
/-- a run of the little machine that answers 1 is one of the law -/
theorem mm_law {p : Program} {l : Launch} {e : Env} {s : State} {m : MethodId} {below : List Frame} {meth : Method} {c : Code} {b : Nat} {xs : List Int32} (hfl : l.flags = flags0) (hx : p.tables.exec = Jvm.exec) (hb : c.code = code) (hr : meth.sig.returnType = ret) (hml : c.maxLocals = 8) (hown : s.vm.findClass R_law = some m.cls) (hts : ∀ w ∈ lw_tbl, w.before #[Value.ref b] s = true) (hlk : meth.locks = false) (hex : c.exceptionTable.toList = []) (hgv : (Jvm.Cond.and given_1 narrow_1).before #[Value.ref b] s = true) (hX : s.IntsAt b xs)
    {f d : Nat} {M1 : MH} {c1 n1 : Nat} (hrun : mm_run f 1 d 152 0 [(0, .ref 0)] [] [(99, xs.map Value.int)] 0 0 = some (.inl (some (.int 1)), M1, c1, n1)) (hd : d ≤ 1312) (hc : c1 ≤ 645488) (hn : n1 ≤ 7159639) :
    W p l e room_1 s m #[Value.ref b] below meth c s.heap [] 0 0 (lw_Z below #[Value.ref b] s) (entryFrame m ([Value.ref b] : List Value).toArray 8) := by
  obtain ⟨scr, harrAt, hlist, hof, hsmall⟩ := hX
  obtain ⟨hcb, hkn, -, -⟩ := State.arrayAt?_spec harrAt
  obtain ⟨D, hK, hD⟩ := mm_start_kn hts hgv hof
  have hf : mm_fx p s m #[Value.ref b] meth c 152 D := ⟨hx, hb, hml, hown, fun w hw => hts w (List.mem_filter.mp hw).1, hK, hr, hlk, (fun z => by cases z), (by rw [hex]; rfl)⟩
  have hl := lv_entry [Value.ref b] (n := 8) (show 1 ≤ 8 by decide)
  have hG := mm_main f 1 d 152 0 _ _ _ _ _ _ _ _ _ hrun p l e room_1 s m #[Value.ref b] below meth c (lw_Z below #[Value.ref b] s) D (fun q => s.heap.size ≤ q) [b] hfl hf (fun a cell ha _ => Nat.not_le_of_lt (Array.getElem?_eq_some_iff.mp ha).1) (by show d ≤ 2048; omega) (by show 64 * d ≤ 84000; omega) hc hn (by
    intro y H locs ls rv pc hw hrv hI
    cases rv with
    | none => exact hrv.elim
    | some rv =>
      cases hrv
      exact va_forget (fun q hq => hw.2.1.2.2 q hq) (W.widen hc hn (lw_ret hx hb hr hlk (hI.1.by 0 rfl))))
  rw [lg_entry_eq]
  refine hG s.heap [] _ [] ⟨⟨rfl, fun i j q hi hj => ?_, fun k cc hk => ?_⟩, va_S.rf, fun k q hk hq => ?_, fun q hq => hq⟩ ⟨_, hl, mm_lr_args 0 (as := [Value.ref 0]) ⟨⟨b, rfl, rfl⟩, trivial⟩⟩ trivial
  · have h1 := (List.getElem?_eq_some_iff.mp hi).1
    have h2 := (List.getElem?_eq_some_iff.mp hj).1
    simp at h1 h2
    omega
  · have h1 := (List.getElem?_eq_some_iff.mp hk).1
    have h0 : k = 0 := by simp at h1; exact h1
    subst h0
    cases hk
    refine ⟨b, rfl, fun z => absurd (show 99 < 50 from z) (by decide), fun _ => ⟨scr, xs.map Value.int, hcb, hD.symm, hkn, ?_, ?_, mm_ints_fa _ xs⟩⟩
    · cases hv : scr.vm with
      | statics k => exact absurd hv (hof.1 k)
      | _ => rfl
    · rw [← hlist]
  · have h1 := (List.getElem?_eq_some_iff.mp hq).1
    simp at h1
    omega
end
section
/-! Runs of the little machine, one after the other: fuel, depth and room out of sight. -/
theorem mm_act_d {w d d' j pc : Nat} {i : Instr} {L : ML} {S : List Value} {M : MH} {a : MA} (hd : d ≤ d') (h : mm_act w d j i pc L S M = some a) : mm_act w d' j i pc L S M = some a := by
  have hn : ∀ x, ∀ n, mm_nat w d x pc L S M = some n → mm_nat w d' x pc L S M = some n := by
    intro x n h
    unfold mm_nat at h ⊢
    split at h
    · cases h
    · rename_i k
      cases d' with
      | zero => omega
      | succ d' => exact h
  have hi : ∀ x, mm_inl (mm_nat w d x pc L S M) = some a → mm_inl (mm_nat w d' x pc L S M) = some a := by
    intro x h
    unfold mm_inl at h ⊢
    split at h
    · rename_i n hq
      rw [hn x n hq]
      exact h
    · cases h
  have ht : ∀ x, mm_thr d j pc x S = some a → mm_thr d' j pc x S = some a := by
    intro x h
    unfold mm_thr at h ⊢
    split at h
    · split at h
      · rename_i y u0 u1 u2 hp
        split at h
        · rename_i hb
          simp only [Bool.and_eq_true] at hb
          have e : (Nat.beq x y && Nat.ble 8 d' && Nat.ble (mm_words S) 6) = true := by
            simp only [Bool.and_eq_true]
            exact ⟨⟨hb.1.1, Nat.ble_eq_true_of_le (Nat.le_trans (Nat.le_of_ble_eq_true hb.1.2) hd)⟩, hb.2⟩
          rw [e]
          exact h
        · cases h
      · cases h
    · cases h
  unfold mm_act at h ⊢
  split at h
  · split at h
    · exact h
    · exact ht _ h
    · cases h
  · exact h
  · split at h
    · exact h
    · exact h
    · exact hi 6 h
    · cases h
  · split at h
    · exact h
    · split at h
      · exact hi _ h
      · cases h
    · cases h
  · exact h
  · exact h
  · exact h
  · exact h
  · exact h
theorem mm_run_mono : ∀ (f f' w d d' j pc : Nat) (L : ML) (S : List Value) (M : MH) (c n : Nat) (r : MR), f ≤ f' → d ≤ d' → mm_run f w d j pc L S M c n = some r → mm_run f' w d' j pc L S M c n = some r
  | 0, f', w, d, d', j, pc, L, S, M, c, n, r, _, _, h => by cases h
  | f + 1, 0, w, d, d', j, pc, L, S, M, c, n, r, hf, hd, h => by omega
  | f + 1, f' + 1, w, d, d', j, pc, L, S, M, c, n, r, hf, hd, h => by
    have hf : f ≤ f' := by omega
    unfold mm_run at h
    split at h
    · cases h
    · rename_i i hi
      split at h
      · cases h
      · cases h
      · rename_i pc' L' S' M' hs
        have q := mm_run_mono f f' _ _ d' _ _ _ _ _ _ _ _ hf hd h
        unfold mm_run
        simp only [hi, mm_act_d hd hs]
        exact q
      · rename_i pc' L' S' M' ec en hs
        have q := mm_run_mono f f' _ _ d' _ _ _ _ _ _ _ _ hf hd h
        unfold mm_run
        simp only [hi, mm_act_d hd hs]
        exact q
      · rename_i v hs
        cases h
        unfold mm_run
        simp only [hi, mm_act_d hd hs]
      · rename_i x hs
        cases h
        unfold mm_run
        simp only [hi, mm_act_d hd hs]
      · rename_i j' as r' hs
        split at h
        · cases h
        · rename_i k
          cases d' with
          | zero => omega
          | succ k' =>
            have hk : k ≤ k' := by omega
            split at h
            · cases h
            · rename_i v M' c' n' hr
              have q1 := mm_run_mono f f' _ _ k' _ _ _ _ _ _ _ _ hf hk hr
              have q2 := mm_run_mono f f' _ _ (k' + 1) _ _ _ _ _ _ _ _ hf hd h
              unfold mm_run
              simp only [hi, mm_act_d hd hs, q1]
              exact q2
            · rename_i x0 M0 c00 n00 hr0
              split at h
              · rename_i x M' c' n' hr
                split at h
                · cases h
                · rename_i to kx hh
                  have q0 := mm_run_mono f f' _ _ k' _ _ _ _ _ _ _ _ hf hk hr0
                  have q1 := mm_run_mono f f' _ _ k' _ _ _ _ _ _ _ _ hf hk hr
                  have q2 := mm_run_mono f f' _ _ (k' + 1) _ _ _ _ _ _ _ _ hf hd h
                  unfold mm_run
                  simp only [hi, mm_act_d hd hs, q0, q1, hh]
                  exact q2
              · cases h
def mm_e (w d j pc : Nat) (L : ML) (S : List Value) (M : MH) (r : MR) : Prop := ∃ f, ∀ c n, mm_run f w d j pc L S M c n = some (r.1, r.2.1, c + r.2.2.1, n + r.2.2.2)
/-- what is known of the locals is V -/
def mm_E (w d j pc : Nat) (V : ML) (S : List Value) (M : MH) (r : MR) : Prop := ∀ L : ML, (∀ q ∈ V, mm_look L q.1 = some q.2) → mm_e w d j pc L S M r
theorem mm_look_cons {α : Type} (q : Nat × α) (r : List (Nat × α)) (i : Nat) : mm_look (q :: r) i = if q.1 = i then some q.2 else mm_look r i := by
  show (match Nat.beq q.1 i with | true => some q.2 | false => mm_look r i) = _
  by_cases h : q.1 = i
  · have e : Nat.beq q.1 i = true := by rw [h]; exact Nat.beq_refl i
    rw [if_pos h, e]
  · rw [if_neg h]
    cases e : Nat.beq q.1 i with
    | true => exact absurd (Nat.eq_of_beq_eq_true e) h
    | false => rfl
theorem mm_look_mem {α : Type} : ∀ {V : List (Nat × α)} {k : Nat} {v : α}, mm_look V k = some v → (k, v) ∈ V
  | [], _, _, h => by cases h
  | q :: V, k, v, h => by
    rw [mm_look_cons] at h
    split at h
    · rename_i e
      cases h
      rw [← e]
      exact List.mem_cons_self
    · exact List.mem_cons_of_mem _ (mm_look_mem h)
theorem mm_look_fil {k : Nat} {v : Value} {p : Nat × Value → Bool} (hp : p (k, v) = true) : ∀ {L : ML}, mm_look L k = some v → mm_look (L.filter p) k = some v
  | [], h => by cases h
  | q :: L, h => by
    rw [mm_look_cons] at h
    split at h
    · rename_i e
      cases h
      have hq : p q = true := by rw [← e] at hp; exact hp
      rw [List.filter_cons_of_pos hq, mm_look_cons, if_pos e]
    · rename_i e
      cases hq : p q with
      | true => rw [List.filter_cons_of_pos hq, mm_look_cons, if_neg e]; exact mm_look_fil hp h
      | false => rw [List.filter_cons_of_neg (by rw [hq]; decide)]; exact mm_look_fil hp h
theorem mm_inc1 {V L : ML} {i : Nat} {v : Value} (h : ∀ q ∈ V, mm_look L q.1 = some q.2) : ∀ q ∈ mm_st1 V i v, mm_look (mm_st1 L i v) q.1 = some q.2 := by
  intro q hq
  unfold mm_st1 at hq ⊢
  rcases List.mem_cons.mp hq with rfl | hq
  · rw [mm_look_cons, if_pos rfl]
  · obtain ⟨h1, h2⟩ := List.mem_filter.mp hq
    have hne : ¬ i = q.1 := by
      intro e
      subst e
      simp at h2
    rw [mm_look_cons, if_neg hne]
    exact mm_look_fil h2 (h q h1)
theorem mm_inc2 {V L : ML} {i : Nat} {v : Value} (h : ∀ q ∈ V, mm_look L q.1 = some q.2) : ∀ q ∈ mm_st2 V i v, mm_look (mm_st2 L i v) q.1 = some q.2 := by
  intro q hq
  unfold mm_st2 at hq ⊢
  rcases List.mem_cons.mp hq with rfl | hq
  · rw [mm_look_cons, if_pos rfl]
  · obtain ⟨h1, h2⟩ := List.mem_filter.mp hq
    have hne : ¬ i = q.1 := by
      intro e
      subst e
      simp at h2
    rw [mm_look_cons, if_neg hne]
    exact mm_look_fil h2 (h q h1)
def mm_sub : ML → ML → Prop
  | [], _ => True
  | q :: r, V => mm_look V q.1 = some q.2 ∧ mm_sub r V
theorem mm_sub_of : ∀ {V' V : ML}, mm_sub V' V → ∀ q ∈ V', q ∈ V
  | [], _, _, q, hq => by cases hq
  | x :: r, V, h, q, hq => by
    rcases List.mem_cons.mp hq with rfl | hq
    · exact mm_look_mem h.1
    · exact mm_sub_of h.2 q hq
section EV
variable {w d j pc pc' k : Nat} {V V' L : ML} {S S' : List Value} {M M' : MH} {r : MR} {i : Instr}
theorem mm_E.sub (hs : mm_sub V' V) (h : mm_E w d j pc V' S M r) : mm_E w d j pc V S M r := fun L hL => h L fun q hq => hL q (mm_sub_of hs q hq)
theorem mm_atc {C : List (Nat × Instr)} (hc : mm_code j = C) (h : mm_lk C pc = some i) : mm_at j pc = some i := by
  unfold mm_at
  rw [hc]
  exact h
theorem mm_plc {P : List (Nat × Nat × Nat × Nat × Int)} {q : Nat × Nat × Nat × Int} (hp : mm_pl (mm_cn j) = P) (h : mm_lk P k = some q) : mm_pool j k = some q := by
  unfold mm_pool
  rw [hp]
  exact h
theorem mm_e.one (hat : mm_at j pc = some i) (hact : mm_act w d j i pc L S M = some (.inl (pc', V', S', M', 0, 0))) (h : mm_e w d j pc' V' S' M' r) : mm_e w d j pc L S M r := by
  obtain ⟨f, hf⟩ := h
  refine ⟨f + 1, fun c n => ?_⟩
  unfold mm_run
  simp only [hat, hact]
  exact hf c n
/-- a step that leaves the locals alone -/
theorem mm_E.step (hat : mm_at j pc = some i) (hact : ∀ L : ML, mm_act w d j i pc L S M = some (.inl (pc', L, S', M', 0, 0))) (h : mm_E w d j pc' V S' M' r) : mm_E w d j pc V S M r := fun L hL => mm_e.one hat (hact L) (h L hL)
theorem mm_E.mono {d' : Nat} (hd : d ≤ d') (h : mm_E w d j pc V S M r) : mm_E w d' j pc V S M r := fun L hL => by
  obtain ⟨f, hf⟩ := h L hL
  exact ⟨f, fun c n => mm_run_mono f f _ _ _ _ _ _ _ _ _ _ _ (Nat.le_refl _) hd (hf c n)⟩
theorem mm_E.iload {x : Int32} (hat : mm_at j pc = some (.iload k)) (hv : mm_look V k = some (.int x)) (h : mm_E w d j (pc + 2) V (.int x :: S) M r) : mm_E w d j pc V S M r := fun L hL => by
  refine mm_e.one hat ?_ (h L hL)
  simp only [mm_act, mm_inl, mm_step, mm_iload, hL _ (mm_look_mem hv), mm_go]
theorem mm_E.iload_n {k : Fin 4} {x : Int32} (hat : mm_at j pc = some (.iload_n k)) (hv : mm_look V k = some (.int x)) (h : mm_E w d j (pc + 1) V (.int x :: S) M r) : mm_E w d j pc V S M r := fun L hL => by
  refine mm_e.one hat ?_ (h L hL)
  simp only [mm_act, mm_inl, mm_step, mm_iload, hL _ (mm_look_mem hv), mm_go]
theorem mm_E.lload {x : Int64} (hat : mm_at j pc = some (.lload k)) (hv : mm_look V k = some (.long x)) (h : mm_E w d j (pc + 2) V (.long x :: S) M r) : mm_E w d j pc V S M r := fun L hL => by
  refine mm_e.one hat ?_ (h L hL)
  simp only [mm_act, mm_inl, mm_step, mm_lload, hL _ (mm_look_mem hv), mm_go]
theorem mm_E.lload_n {k : Fin 4} {x : Int64} (hat : mm_at j pc = some (.lload_n k)) (hv : mm_look V k = some (.long x)) (h : mm_E w d j (pc + 1) V (.long x :: S) M r) : mm_E w d j pc V S M r := fun L hL => by
  refine mm_e.one hat ?_ (h L hL)
  simp only [mm_act, mm_inl, mm_step, mm_lload, hL _ (mm_look_mem hv), mm_go]
theorem mm_E.aload {x : Nat} (hat : mm_at j pc = some (.aload k)) (hv : mm_look V k = some (.ref x)) (h : mm_E w d j (pc + 2) V (.ref x :: S) M r) : mm_E w d j pc V S M r := fun L hL => by
  refine mm_e.one hat ?_ (h L hL)
  simp only [mm_act, mm_inl, mm_step, mm_aload, hL _ (mm_look_mem hv), mm_go]
theorem mm_E.aload_n {k : Fin 4} {x : Nat} (hat : mm_at j pc = some (.aload_n k)) (hv : mm_look V k = some (.ref x)) (h : mm_E w d j (pc + 1) V (.ref x :: S) M r) : mm_E w d j pc V S M r := fun L hL => by
  refine mm_e.one hat ?_ (h L hL)
  simp only [mm_act, mm_inl, mm_step, mm_aload, hL _ (mm_look_mem hv), mm_go]
theorem mm_E.istore {x : Int32} {mx : Nat} (hmx : mm_maxL j = mx) (hb : Nat.blt k mx = true) (hat : mm_at j pc = some (.istore k)) (h : mm_E w d j (pc + 2) (mm_st1 V k (.int x)) S M r) : mm_E w d j pc V (.int x :: S) M r := fun L hL => by
  refine mm_e.one hat ?_ (h _ (mm_inc1 hL))
  simp only [mm_act, mm_inl, mm_step, mm_istore, hmx, hb, mm_go]
theorem mm_E.istore_n {k : Fin 4} {x : Int32} {mx : Nat} (hmx : mm_maxL j = mx) (hb : Nat.blt k mx = true) (hat : mm_at j pc = some (.istore_n k)) (h : mm_E w d j (pc + 1) (mm_st1 V k (.int x)) S M r) : mm_E w d j pc V (.int x :: S) M r := fun L hL => by
  refine mm_e.one hat ?_ (h _ (mm_inc1 hL))
  simp only [mm_act, mm_inl, mm_step, mm_istore, hmx, hb, mm_go]
theorem mm_E.lstore {x : Int64} {mx : Nat} (hmx : mm_maxL j = mx) (hb : Nat.blt (k + 1) mx = true) (hat : mm_at j pc = some (.lstore k)) (h : mm_E w d j (pc + 2) (mm_st2 V k (.long x)) S M r) : mm_E w d j pc V (.long x :: S) M r := fun L hL => by
  refine mm_e.one hat ?_ (h _ (mm_inc2 hL))
  simp only [mm_act, mm_inl, mm_step, mm_lstore, hmx, hb, mm_go]
theorem mm_E.lstore_n {k : Fin 4} {x : Int64} {mx : Nat} (hmx : mm_maxL j = mx) (hb : Nat.blt (k + 1) mx = true) (hat : mm_at j pc = some (.lstore_n k)) (h : mm_E w d j (pc + 1) (mm_st2 V k (.long x)) S M r) : mm_E w d j pc V (.long x :: S) M r := fun L hL => by
  refine mm_e.one hat ?_ (h _ (mm_inc2 hL))
  simp only [mm_act, mm_inl, mm_step, mm_lstore, hmx, hb, mm_go]
theorem mm_E.astore {x : Nat} {mx : Nat} (hmx : mm_maxL j = mx) (hb : Nat.blt k mx = true) (hat : mm_at j pc = some (.astore k)) (h : mm_E w d j (pc + 2) (mm_st1 V k (.ref x)) S M r) : mm_E w d j pc V (.ref x :: S) M r := fun L hL => by
  refine mm_e.one hat ?_ (h _ (mm_inc1 hL))
  simp only [mm_act, mm_inl, mm_step, mm_astore, hmx, hb, mm_go]
theorem mm_E.astore_n {k : Fin 4} {x : Nat} {mx : Nat} (hmx : mm_maxL j = mx) (hb : Nat.blt k mx = true) (hat : mm_at j pc = some (.astore_n k)) (h : mm_E w d j (pc + 1) (mm_st1 V k (.ref x)) S M r) : mm_E w d j pc V (.ref x :: S) M r := fun L hL => by
  refine mm_e.one hat ?_ (h _ (mm_inc1 hL))
  simp only [mm_act, mm_inl, mm_step, mm_astore, hmx, hb, mm_go]
theorem mm_E.iinc {x : Int32} {n : Int} {mx : Nat} (hmx : mm_maxL j = mx) (hb : Nat.blt k mx = true) (hat : mm_at j pc = some (.iinc k n)) (hv : mm_look V k = some (.int x)) (h : mm_E w d j (pc + 3) (mm_st1 V k (.int (x + Int32.ofInt n))) S M r) : mm_E w d j pc V S M r := fun L hL => by
  refine mm_e.one hat ?_ (h _ (mm_inc1 hL))
  simp only [mm_act, mm_inl, mm_step, mm_iinc, hL _ (mm_look_mem hv), hmx, hb, mm_go]
end EV
end
section
/-! Numbers: what the machine holds as ints and longs are ours as integers; the cells after the two constructors, their ints given by a function. -/
abbrev mI (x : Int) : Value := .int (Int32.ofInt x)
abbrev mJ (x : Int) : Value := .long (Int64.ofInt x)
abbrev R32 (x : Int) : Prop := -2147483648 ≤ x ∧ x ≤ 2147483647
abbrev R64 (x : Int) : Prop := -9223372036854775808 ≤ x ∧ x ≤ 9223372036854775807
theorem mm_to32 {x : Int} (h : R32 x) : (Int32.ofInt x).toInt = x := Int32.toInt_ofInt_of_le (by simpa using h.1) (by have := h.2; simp; omega)
theorem mm_to64 {x : Int} (h : R64 x) : (Int64.ofInt x).toInt = x := Int64.toInt_ofInt_of_le (by simpa using h.1) (by have := h.2; simp; omega)
theorem mm_lt32 {x y : Int} (hx : R32 x) (hy : R32 y) : (Int32.ofInt x < Int32.ofInt y) ↔ x < y := by rw [Int32.lt_iff_toInt_lt, mm_to32 hx, mm_to32 hy]
theorem mm_le32 {x y : Int} (hx : R32 x) (hy : R32 y) : (Int32.ofInt x ≤ Int32.ofInt y) ↔ x ≤ y := by rw [Int32.le_iff_toInt_le, mm_to32 hx, mm_to32 hy]
theorem mm_eq32 {x y : Int} (hx : R32 x) (hy : R32 y) : (Int32.ofInt x = Int32.ofInt y) ↔ x = y := by rw [← Int32.toInt_inj, mm_to32 hx, mm_to32 hy]
theorem mm_lt64 {x y : Int} (hx : R64 x) (hy : R64 y) : (Int64.ofInt x < Int64.ofInt y) ↔ x < y := by rw [Int64.lt_iff_toInt_lt, mm_to64 hx, mm_to64 hy]
theorem mm_le64 {x y : Int} (hx : R64 x) (hy : R64 y) : (Int64.ofInt x ≤ Int64.ofInt y) ↔ x ≤ y := by rw [Int64.le_iff_toInt_le, mm_to64 hx, mm_to64 hy]
theorem mm_eq64 {x y : Int} (hx : R64 x) (hy : R64 y) : (Int64.ofInt x = Int64.ofInt y) ↔ x = y := by rw [← Int64.toInt_inj, mm_to64 hx, mm_to64 hy]
theorem mm_nat32 {x : Int} (h : R32 x) : (Int32.ofInt x).toNatClampNeg = x.toNat := by
  show (Int32.ofInt x).toInt.toNat = x.toNat
  rw [mm_to32 h]
theorem mm_neg32 {x : Int} (h : R32 x) (h0 : 0 ≤ x) : decide (Int32.ofInt x < 0) = false := decide_eq_false fun z => by
  have z : Int32.ofInt x < Int32.ofInt 0 := z
  rw [mm_lt32 h (by decide)] at z
  omega
theorem mm_wide {x : Int} (h : R32 x) : (Int32.ofInt x).toInt64 = Int64.ofInt x := by
  rw [← Int64.toInt_inj, Int32.toInt_toInt64, mm_to32 h, mm_to64 (by omega)]
theorem mm_div32 {x y : Int} (hx : R32 x) (hy : R32 y) (h0 : 0 ≤ x) (h1 : 0 < y) : Int32.ofInt x / Int32.ofInt y = Int32.ofInt (x / y) := by
  have hq : R32 (x / y) := ⟨by have := Int.ediv_nonneg h0 (Int.le_of_lt h1); omega, by have := Int.ediv_le_self y h0; omega⟩
  rw [← Int32.toInt_inj, Int32.toInt_div_of_ne_left, mm_to32 hx, mm_to32 hy, mm_to32 hq, Int.tdiv_eq_ediv_of_nonneg h0]
  intro z
  have := congrArg Int32.toInt z
  rw [mm_to32 hx] at this
  have e : (Int32.minValue).toInt = -2147483648 := by decide
  rw [e] at this
  omega
theorem mm_div64 {x y : Int} (hx : R64 x) (hy : R64 y) (h1 : 0 < y) : Int64.ofInt x / Int64.ofInt y = Int64.ofInt (x.tdiv y) := by
  have hq : R64 (x.tdiv y) := by
    rcases Int.le_total 0 x with h0 | h0
    · rw [Int.tdiv_eq_ediv_of_nonneg h0]
      have a := Int.ediv_nonneg h0 (Int.le_of_lt h1)
      have b := Int.ediv_le_self y h0
      omega
    · have e : x.tdiv y = -((-x) / y) := by rw [← Int.tdiv_eq_ediv_of_nonneg (by omega), Int.neg_tdiv, Int.neg_neg]
      have a := Int.ediv_nonneg (show 0 ≤ -x by omega) (Int.le_of_lt h1)
      have b := Int.ediv_le_self y (show 0 ≤ -x by omega)
      omega
  rw [← Int64.toInt_inj, Int64.toInt_div_of_ne_right, mm_to64 hx, mm_to64 hy, mm_to64 hq]
  intro z
  have := congrArg Int64.toInt z
  rw [mm_to64 hy] at this
  have e : (-1 : Int64).toInt = -1 := by decide
  rw [e] at this
  omega
/-- comparisons -/
def mm_ic (c : ClassFile.Cond) (x y : Int) : Bool := match c with
  | .eq => decide (x = y)
  | .ne => !(decide (x = y))
  | .lt => decide (x < y)
  | .ge => decide (y ≤ x)
  | .gt => decide (y < x)
  | .le => decide (x ≤ y)
theorem mm_if32 (c : ClassFile.Cond) {x y : Int} (hx : R32 x) (hy : R32 y) : mm_if c (Int32.ofInt x) (Int32.ofInt y) = mm_ic c x y := by
  cases c
  · exact decide_eq_decide.mpr (mm_eq32 hx hy)
  · exact congrArg (! ·) (decide_eq_decide.mpr (mm_eq32 hx hy))
  · exact decide_eq_decide.mpr (mm_lt32 hx hy)
  · exact decide_eq_decide.mpr (mm_le32 hy hx)
  · exact decide_eq_decide.mpr (mm_lt32 hy hx)
  · exact decide_eq_decide.mpr (mm_le32 hx hy)
theorem mm_if64 (c : ClassFile.Cond) {x y : Int} (hx : R64 x) (hy : R64 y) : mm_if c (lg_cmp (Int64.ofInt x) (Int64.ofInt y)) 0 = mm_ic c x y := by
  have e : lg_cmp (Int64.ofInt x) (Int64.ofInt y) = if y < x then 1 else if x = y then 0 else -1 := by
    unfold lg_cmp
    simp only [gt_iff_lt, mm_lt64 hy hx, mm_eq64 hx hy]
  rw [e]
  rcases Int.lt_trichotomy x y with h | h | h
  · have h1 : ¬ y < x := by omega
    have h2 : ¬ x = y := by omega
    rw [if_neg h1, if_neg h2]
    have h3 : ¬ y ≤ x := by omega
    have h4 : x ≤ y := by omega
    cases c <;> simp [mm_if, mm_ic, h, h1, h2, h3, h4] <;> decide
  · subst h
    rw [if_neg (by omega), if_pos rfl]
    cases c <;> simp [mm_if, mm_ic]
  · rw [if_pos h]
    have h1 : ¬ x < y := by omega
    have h2 : ¬ x = y := by omega
    have h3 : ¬ x ≤ y := by omega
    have h4 : y ≤ x := by omega
    cases c <;> simp [mm_if, mm_ic, h, h1, h2, h3, h4] <;> decide
theorem ic_eqT {x y : Int} (h : x = y) : mm_ic .eq x y = true := decide_eq_true h
theorem ic_eqF {x y : Int} (h : x ≠ y) : mm_ic .eq x y = false := decide_eq_false h
theorem ic_neT {x y : Int} (h : x ≠ y) : mm_ic .ne x y = true := by show (!(decide (x = y))) = true; rw [decide_eq_false h]; rfl
theorem ic_neF {x y : Int} (h : x = y) : mm_ic .ne x y = false := by show (!(decide (x = y))) = false; rw [decide_eq_true h]; rfl
theorem ic_ltT {x y : Int} (h : x < y) : mm_ic .lt x y = true := decide_eq_true h
theorem ic_ltF {x y : Int} (h : y ≤ x) : mm_ic .lt x y = false := decide_eq_false (by omega)
theorem ic_geT {x y : Int} (h : y ≤ x) : mm_ic .ge x y = true := decide_eq_true h
theorem ic_geF {x y : Int} (h : x < y) : mm_ic .ge x y = false := decide_eq_false (by omega)
theorem ic_gtT {x y : Int} (h : y < x) : mm_ic .gt x y = true := decide_eq_true h
theorem ic_gtF {x y : Int} (h : x ≤ y) : mm_ic .gt x y = false := decide_eq_false (by omega)
theorem ic_leT {x y : Int} (h : x ≤ y) : mm_ic .le x y = true := decide_eq_true h
theorem ic_leF {x y : Int} (h : y < x) : mm_ic .le x y = false := decide_eq_false (by omega)
/-- where a branch goes -/
def mm_brt (b : Bool) (pc : Nat) (off : Int) : Option Nat := match decide ((pc : Int) + off = ((((pc : Int) + off).toNat : Nat) : Int)) with
  | true => match b with
    | true => some ((pc : Int) + off).toNat
    | false => some (pc + 3)
  | false => none
theorem mm_brt_ok {b : Bool} {pc pc' : Nat} {off : Int} {L : ML} {S : List Value} {M : MH} (h : mm_brt b pc off = some pc') : mm_br b pc off L S M = some (pc', L, S, M, 0, 0) := by
  unfold mm_brt at h
  unfold mm_br
  split at h
  · rename_i e
    rw [e]
    cases b
    · cases h; rfl
    · cases h; rfl
  · cases h
/-- the slots: 0 an int, 1 a long, 2 a reference that changes, 3 and on a reference that doesn't -/
def mm_sv (t : Nat) (z : Int) : Value := match t with
  | 0 => mI z
  | 1 => mJ z
  | 2 => if z < 0 then .null else .ref z.toNat
  | t + 3 => .ref t
abbrev MF : Type := Nat → Int → Int
def mm_ss (A : MF) (a : Nat) : Nat → List Nat → List Value
  | _, [] => []
  | i, t :: ts => mm_sv t (A a (i : Int)) :: mm_ss A a (i + 1) ts
def mm_mk (A : MF) : Nat → List (Nat × List Nat) → MH
  | _, [] => []
  | a, q :: r => (q.1, mm_ss A a 0 q.2) :: mm_mk A (a + 1) r
def mm_lays : List (Nat × List Nat) := [(0, [5, 28, 46, 0]), (4, [0, 0, 6, 13, 14, 15, 16, 26]), (54, [7, 8, 9, 10, 11, 12]), (50, List.replicate 12 0), (50, List.replicate 12 0), (50, List.replicate 12 0), (50, List.replicate 12 0), (50, List.replicate 12 0), (50, List.replicate 12 0), (50, List.replicate 12 0), (50, List.replicate 6 0), (50, List.replicate 6 0), (6, [0, 0, 2, 2, 0, 1, 17, 18, 19]), (50, List.replicate 12 0), (50, List.replicate 6 0), (54, [20, 21, 22, 23, 24, 25]), (50, List.replicate 13 0), (50, List.replicate 13 0), (50, List.replicate 13 0), (50, List.replicate 13 0), (50, List.replicate 13 0), (50, List.replicate 13 0), (1, [0, 0, 2, 0, 27]), (50, List.replicate 6 0), (5, [0, 0, 0, 0, 29, 36, 37, 38, 39]), (54, [30, 31, 32, 33, 34, 35]), (50, List.replicate 6 0), (50, List.replicate 6 0), (50, List.replicate 6 0), (50, List.replicate 6 0), (50, List.replicate 6 0), (50, List.replicate 6 0), (50, List.replicate 6 0), (50, List.replicate 6 0), (50, List.replicate 6 0), (53, [40, 41, 42, 43, 44, 45]), (3, [1, 1]), (3, [1, 1]), (3, [1, 1]), (3, [1, 1]), (3, [1, 1]), (3, [1, 1]), (2, [0, 0, 0, 47, 54, 55, 56, 57, 58, 59, 60, 61]), (54, [48, 49, 50, 51, 52, 53]), (50, List.replicate 16 0), (50, List.replicate 16 0), (50, List.replicate 16 0), (50, List.replicate 16 0), (50, List.replicate 16 0), (50, List.replicate 16 0), (53, [62, 65, 68, 71, 74, 77]), (53, [63, 66, 69, 72, 75, 78]), (53, [64, 67, 70, 73, 76, 79]), (52, List.replicate 6 0), (50, List.replicate 6 0), (3, [1, 1]), (3, [1, 1]), (3, [1, 1]), (3, [1, 1]), (3, [1, 1]), (3, [1, 1]), (3, [1, 1]), (3, [1, 1]), (3, [1, 1]), (3, [1, 1]), (3, [1, 1]), (3, [1, 1]), (3, [1, 1]), (3, [1, 1]), (3, [1, 1]), (3, [1, 1]), (3, [1, 1]), (3, [1, 1]), (3, [1, 1]), (3, [1, 1]), (3, [1, 1]), (7, [0, 0, 0, 81, 82, 83, 84, 85, 0, 0, 86, 87, 88, 89, 90, 0, 91, 0, 92, 93, 94, 95, 96, 97, 1, 1, 98]), (50, List.replicate 72 0), (50, List.replicate 12 0), (50, List.replicate 12 0), (50, List.replicate 6 0), (50, List.replicate 36 0), (50, List.replicate 6 0), (50, List.replicate 6 0), (50, List.replicate 6 0), (51, List.replicate 6 1), (51, List.replicate 6 1), (50, List.replicate 96 0), (51, List.replicate 6 1), (51, List.replicate 6 1), (51, List.replicate 6 1), (51, List.replicate 6 1), (51, List.replicate 6 1), (51, List.replicate 6 1), (50, List.replicate 6 0), (51, List.replicate 1 1)]
def mm_w (X : List Value) (A : MF) : MH := (99, X) :: mm_mk A 1 mm_lays
def mm_ly (a : Nat) : Option (Nat × List Nat) := match a with
  | 0 => none
  | a + 1 => mm_lays[a]?
def mm_u (A : MF) (a : Nat) (i z : Int) : MF := fun b k => if b = a ∧ k = i then z else A b k
theorem mm_u_same {A : MF} {a : Nat} {i z : Int} : mm_u A a i z a i = z := if_pos ⟨rfl, rfl⟩
theorem mm_u_ne {A : MF} {a b : Nat} {i k z : Int} (h : b ≠ a ∨ k ≠ i) : mm_u A a i z b k = A b k := if_neg fun q => h.elim (fun h => h q.1) (fun h => h q.2)
theorem mm_ss_get {A : MF} {a : Nat} : ∀ {ts : List Nat} {n i t : Nat}, ts[i]? = some t → (mm_ss A a n ts)[i]? = some (mm_sv t (A a ((n + i : Nat) : Int)))
  | [], _, _, _, h => by simp at h
  | t :: ts, n, 0, _, h => by
    simp at h
    subst h
    rfl
  | t :: ts, n, i + 1, t', h => by
    have h : ts[i]? = some t' := by simpa using h
    have := mm_ss_get (A := A) (a := a) (n := n + 1) h
    rw [show n + 1 + i = n + (i + 1) by omega] at this
    simpa [mm_ss] using this
theorem mm_ss_len {A : MF} {a : Nat} : ∀ {ts : List Nat} {n : Nat}, (mm_ss A a n ts).length = ts.length
  | [], _ => rfl
  | _ :: ts, n => congrArg (· + 1) (mm_ss_len (ts := ts) (n := n + 1))
theorem mm_mk_get {A : MF} : ∀ {ls : List (Nat × List Nat)} {n a : Nat} {q : Nat × List Nat}, ls[a]? = some q → (mm_mk A n ls)[a]? = some (q.1, mm_ss A (n + a) 0 q.2)
  | [], _, _, _, h => by simp at h
  | q :: ls, n, 0, _, h => by
    simp at h
    subst h
    rfl
  | q :: ls, n, a + 1, q', h => by
    have h : ls[a]? = some q' := by simpa using h
    have := mm_mk_get (A := A) (n := n + 1) h
    rw [show n + 1 + a = n + (a + 1) by omega] at this
    simpa [mm_mk] using this
theorem mm_w_get {X : List Value} {A : MF} {a k : Nat} {ts : List Nat} (h : mm_ly a = some (k, ts)) : (mm_w X A)[a]? = some (k, mm_ss A a 0 ts) := by
  cases a with
  | zero => cases h
  | succ a =>
    have := mm_mk_get (A := A) (n := 1) (show mm_lays[a]? = some (k, ts) from h)
    rw [show 1 + a = a + 1 by omega] at this
    simpa [mm_w] using this
theorem mm_ss_other {A : MF} {a b : Nat} {i z : Int} (hb : b ≠ a) : ∀ {ts : List Nat} {n : Nat}, mm_ss (mm_u A a i z) b n ts = mm_ss A b n ts
  | [], _ => rfl
  | t :: ts, n => by
    show mm_sv t (mm_u A a i z b n) :: mm_ss (mm_u A a i z) b (n + 1) ts = _
    rw [mm_u_ne (.inl hb), mm_ss_other hb]
    rfl
theorem mm_ss_low {A : MF} {a i : Nat} {z : Int} : ∀ {ts : List Nat} {n : Nat}, i < n → mm_ss (mm_u A a i z) a n ts = mm_ss A a n ts
  | [], _, _ => rfl
  | t :: ts, n, h => by
    show mm_sv t (mm_u A a i z a n) :: mm_ss (mm_u A a i z) a (n + 1) ts = _
    rw [mm_u_ne (.inr (by omega)), mm_ss_low (by omega)]
    rfl
theorem mm_ss_set {A : MF} {a : Nat} {z : Int} : ∀ {ts : List Nat} {n i t : Nat}, ts[i]? = some t → (mm_ss A a n ts).set i (mm_sv t z) = mm_ss (mm_u A a ((n + i : Nat) : Int) z) a n ts
  | [], _, _, _, h => by simp at h
  | t :: ts, n, 0, _, h => by
    simp at h
    subst h
    show mm_sv t z :: mm_ss A a (n + 1) ts = mm_sv t (mm_u A a ((n + 0 : Nat) : Int) z a n) :: mm_ss (mm_u A a ((n + 0 : Nat) : Int) z) a (n + 1) ts
    rw [mm_ss_low (by omega)]
    simp only [Nat.add_zero, mm_u_same]
  | t :: ts, n, i + 1, t', h => by
    have h : ts[i]? = some t' := by simpa using h
    have := mm_ss_set (A := A) (a := a) (z := z) (n := n + 1) h
    rw [show n + 1 + i = n + (i + 1) by omega] at this
    show mm_sv t (A a n) :: (mm_ss A a (n + 1) ts).set i _ = mm_sv t (mm_u A a ((n + (i + 1) : Nat) : Int) z a n) :: mm_ss (mm_u A a ((n + (i + 1) : Nat) : Int) z) a (n + 1) ts
    rw [this, mm_u_ne (.inr (by omega))]
theorem mm_mk_low {A : MF} {a : Nat} {i z : Int} : ∀ {ls : List (Nat × List Nat)} {n : Nat}, a < n → mm_mk (mm_u A a i z) n ls = mm_mk A n ls
  | [], _, _ => rfl
  | q :: ls, n, h => by
    show (q.1, mm_ss (mm_u A a i z) n 0 q.2) :: mm_mk (mm_u A a i z) (n + 1) ls = _
    rw [mm_ss_other (by omega), mm_mk_low (by omega)]
    rfl
theorem mm_mk_set {A : MF} {i t : Nat} {z : Int} : ∀ {ls : List (Nat × List Nat)} {n a : Nat} {q : Nat × List Nat}, ls[a]? = some q → q.2[i]? = some t → (mm_mk A n ls).set a (q.1, (mm_ss A (n + a) 0 q.2).set i (mm_sv t z)) = mm_mk (mm_u A (n + a) i z) n ls
  | [], _, _, _, h, _ => by simp at h
  | q :: ls, n, 0, _, h, ht => by
    simp at h
    subst h
    have e := mm_ss_set (A := A) (a := n) (z := z) (n := 0) ht
    rw [Nat.zero_add] at e
    show (q.1, (mm_ss A n 0 q.2).set i (mm_sv t z)) :: mm_mk A (n + 1) ls = (q.1, mm_ss (mm_u A n i z) n 0 q.2) :: mm_mk (mm_u A n i z) (n + 1) ls
    rw [e, mm_mk_low (by omega)]
  | q :: ls, n, a + 1, q', h, ht => by
    have h : ls[a]? = some q' := by simpa using h
    have e := mm_mk_set (A := A) (z := z) (n := n + 1) h ht
    rw [show n + 1 + a = n + (a + 1) by omega] at e
    show (q.1, mm_ss A n 0 q.2) :: (mm_mk A (n + 1) ls).set a (q'.1, (mm_ss A (n + (a + 1)) 0 q'.2).set i (mm_sv t z)) = (q.1, mm_ss (mm_u A (n + (a + 1)) i z) n 0 q.2) :: mm_mk (mm_u A (n + (a + 1)) i z) (n + 1) ls
    rw [e, mm_ss_other (by omega)]
theorem mm_w_put {X : List Value} {A : MF} {a k i t : Nat} {ts : List Nat} {z : Int} (h : mm_ly a = some (k, ts)) (ht : ts[i]? = some t) : mm_put (mm_w X A) a i (mm_sv t z) = mm_w X (mm_u A a i z) := by
  unfold mm_put
  rw [mm_w_get h]
  cases a with
  | zero => cases h
  | succ a =>
    have e := mm_mk_set (A := A) (z := z) (n := 1) (show mm_lays[a]? = some (k, ts) from h) ht
    rw [show 1 + a = a + 1 by omega] at e
    show (99, X) :: (mm_mk A 1 mm_lays).set a (k, (mm_ss A (a + 1) 0 ts).set i (mm_sv t z)) = (99, X) :: mm_mk (mm_u A (a + 1) i z) 1 mm_lays
    rw [e]
end
section
/-! A rule for each instruction, over the cells as they are after the constructors. -/
def mm_and (x y : Int) : Int := (Int32.ofInt x &&& Int32.ofInt y).toInt
def mm_or (x y : Int) : Int := (Int32.ofInt x ||| Int32.ofInt y).toInt
def mm_xor (x y : Int) : Int := (Int32.ofInt x ^^^ Int32.ofInt y).toInt
def mm_shl (x y : Int) : Int := (Int32.ofInt x <<< (Int32.ofInt y &&& 31)).toInt
def mm_shr (x y : Int) : Int := (Int32.ofInt x >>> (Int32.ofInt y &&& 31)).toInt
theorem mm_sv2 {b : Nat} {z : Int} (h : z = (b : Int)) : mm_sv 2 z = .ref b := by
  subst h
  show (if (b : Int) < 0 then Value.null else .ref (b : Int).toNat) = _
  rw [if_neg (by omega), Int.toNat_natCast]
theorem mm_fit_i {ci f : Nat} {z : Int} (h : mm_fty ci f = .int) : mm_fitty (mm_fty ci f) (mI z) = true := by rw [h]; simp [mm_fitty, narrow, fits]
theorem mm_fit_l {ci f : Nat} {z : Int} (h : mm_fty ci f = .long) : mm_fitty (mm_fty ci f) (mJ z) = true := by rw [h]; simp [mm_fitty, narrow, fits]
theorem mm_fit_a {ci f b : Nat} {t : FieldType} (h : mm_fty ci f = .array t) : mm_fitty (mm_fty ci f) (.ref b) = true := by rw [h]; simp [mm_fitty, narrow, fits]
theorem mm_nz {x : Int} (h : x = 0 ∨ x = 1) : narrow .boolean (mI x) = mI x := by
  rcases h with rfl | rfl <;> rfl
section RU
variable {w d j pc pc' k : Nat} {V : ML} {S S' : List Value} {X : List Value} {A : MF} {M : MH} {r : MR} {x y z n off fi e : Int} {a f ci tp : Nat} {u : Int} {ts : List Nat}
theorem mm_E.iconst (hat : mm_at j pc = some (.iconst n)) (h : mm_E w d j (pc + 1) V (mI n :: S) M r) : mm_E w d j pc V S M r := .step hat (fun _ => rfl) h
theorem mm_E.bipush (hat : mm_at j pc = some (.bipush n)) (hn : (Int8.ofInt n).toInt32 = Int32.ofInt n) (h : mm_E w d j (pc + 2) V (mI n :: S) M r) : mm_E w d j pc V S M r := .step hat (fun _ => by simp only [mm_act, mm_inl, mm_step, mm_go, hn]) h
theorem mm_E.sipush (hat : mm_at j pc = some (.sipush n)) (hn : (Int16.ofInt n).toInt32 = Int32.ofInt n) (h : mm_E w d j (pc + 3) V (mI n :: S) M r) : mm_E w d j pc V S M r := .step hat (fun _ => by simp only [mm_act, mm_inl, mm_step, mm_go, hn]) h
theorem mm_E.lconst {n : Fin 2} (hat : mm_at j pc = some (.lconst n)) (hn : Int64.ofNat (n : Nat) = Int64.ofInt z) (h : mm_E w d j (pc + 1) V (mJ z :: S) M r) : mm_E w d j pc V S M r := .step hat (fun _ => by simp only [mm_act, mm_inl, mm_step, mm_go, hn]) h
theorem mm_E.ldc {v1 v2 : Nat} (hat : mm_at j pc = some (.ldc k)) (hp : mm_pool j k = some (11, v1, v2, z)) (h : mm_E w d j (pc + 2) V (mI z :: S) M r) : mm_E w d j pc V S M r := .step hat (fun _ => by simp only [mm_act, mm_inl, mm_step, mm_go, hp]) h
theorem mm_E.ldc2 {v1 v2 : Nat} (hat : mm_at j pc = some (.ldc2_w k)) (hp : mm_pool j k = some (12, v1, v2, z)) (h : mm_E w d j (pc + 3) V (mJ z :: S) M r) : mm_E w d j pc V S M r := .step hat (fun _ => by simp only [mm_act, mm_inl, mm_step, mm_go, hp]) h
theorem mm_E.inc {mx : Nat} (hmx : mm_maxL j = mx) (hb : Nat.blt k mx = true) (hat : mm_at j pc = some (.iinc k n)) (hv : mm_look V k = some (mI x)) (h : mm_E w d j (pc + 3) (mm_st1 V k (mI (x + n))) S M r) : mm_E w d j pc V S M r := .iinc hmx hb hat hv (by rw [← Int32.ofInt_add]; exact h)
theorem mm_E.iadd (hat : mm_at j pc = some .iadd) (h : mm_E w d j (pc + 1) V (mI (x + y) :: S) M r) : mm_E w d j pc V (mI y :: mI x :: S) M r := .step hat (fun _ => by simp only [mm_act, mm_inl, mm_step, mm_i2, mm_go, ← Int32.ofInt_add]) h
theorem mm_E.isub (hat : mm_at j pc = some .isub) (h : mm_E w d j (pc + 1) V (mI (x - y) :: S) M r) : mm_E w d j pc V (mI y :: mI x :: S) M r := .step hat (fun _ => by simp only [mm_act, mm_inl, mm_step, mm_i2, mm_go, ← Int32.ofInt_sub]) h
theorem mm_E.imul (hat : mm_at j pc = some .imul) (h : mm_E w d j (pc + 1) V (mI (x * y) :: S) M r) : mm_E w d j pc V (mI y :: mI x :: S) M r := .step hat (fun _ => by simp only [mm_act, mm_inl, mm_step, mm_i2, mm_go, ← Int32.ofInt_mul]) h
theorem mm_E.iand (hat : mm_at j pc = some .iand) (h : mm_E w d j (pc + 1) V (mI (mm_and x y) :: S) M r) : mm_E w d j pc V (mI y :: mI x :: S) M r := .step hat (fun _ => by simp only [mm_act, mm_inl, mm_step, mm_i2, mm_go, mI, mm_and, Int32.ofInt_toInt]) h
theorem mm_E.ior (hat : mm_at j pc = some .ior) (h : mm_E w d j (pc + 1) V (mI (mm_or x y) :: S) M r) : mm_E w d j pc V (mI y :: mI x :: S) M r := .step hat (fun _ => by simp only [mm_act, mm_inl, mm_step, mm_i2, mm_go, mI, mm_or, Int32.ofInt_toInt]) h
theorem mm_E.ixor (hat : mm_at j pc = some .ixor) (h : mm_E w d j (pc + 1) V (mI (mm_xor x y) :: S) M r) : mm_E w d j pc V (mI y :: mI x :: S) M r := .step hat (fun _ => by simp only [mm_act, mm_inl, mm_step, mm_i2, mm_go, mI, mm_xor, Int32.ofInt_toInt]) h
theorem mm_E.ishl (hat : mm_at j pc = some .ishl) (h : mm_E w d j (pc + 1) V (mI (mm_shl x y) :: S) M r) : mm_E w d j pc V (mI y :: mI x :: S) M r := .step hat (fun _ => by simp only [mm_act, mm_inl, mm_step, mm_i2, mm_go, mI, mm_shl, Int32.ofInt_toInt]) h
theorem mm_E.ishr (hat : mm_at j pc = some .ishr) (h : mm_E w d j (pc + 1) V (mI (mm_shr x y) :: S) M r) : mm_E w d j pc V (mI y :: mI x :: S) M r := .step hat (fun _ => by simp only [mm_act, mm_inl, mm_step, mm_i2, mm_go, mI, mm_shr, Int32.ofInt_toInt]) h
theorem mm_ne32 (hy : R32 y) (h1 : 0 < y) : decide (Int32.ofInt y = 0) = false := decide_eq_false fun q => by
  have q : Int32.ofInt y = Int32.ofInt 0 := q
  rw [mm_eq32 hy (by decide)] at q
  omega
theorem mm_ne64 (hy : R64 y) (h1 : 0 < y) : decide (Int64.ofInt y = 0) = false := decide_eq_false fun q => by
  have q : Int64.ofInt y = Int64.ofInt 0 := q
  rw [mm_eq64 hy (by decide)] at q
  omega
theorem mm_E.idiv (hx : R32 x) (hy : R32 y) (h0 : 0 ≤ x) (h1 : 0 < y) (hat : mm_at j pc = some .idiv) (h : mm_E w d j (pc + 1) V (mI (x / y) :: S) M r) : mm_E w d j pc V (mI y :: mI x :: S) M r := .step hat (fun _ => by simp only [mm_act, mm_inl, mm_step, mm_i2z, mm_ne32 hy h1, mm_go, mm_div32 hx hy h0 h1]) h
theorem mm_E.irem (hx : R32 x) (hy : R32 y) (h0 : 0 ≤ x) (h1 : 0 < y) (hat : mm_at j pc = some .irem) (h : mm_E w d j (pc + 1) V (mI (x % y) :: S) M r) : mm_E w d j pc V (mI y :: mI x :: S) M r := .step hat (fun _ => by
  have e : x % y = x - x / y * y := by rw [Int.emod_def, Int.mul_comm]
  simp only [mm_act, mm_inl, mm_step, mm_i2z, mm_ne32 hy h1, mm_go, mm_div32 hx hy h0 h1, mI, e, Int32.ofInt_sub, Int32.ofInt_mul]) h
theorem mm_E.ladd (hat : mm_at j pc = some .ladd) (h : mm_E w d j (pc + 1) V (mJ (x + y) :: S) M r) : mm_E w d j pc V (mJ y :: mJ x :: S) M r := .step hat (fun _ => by simp only [mm_act, mm_inl, mm_step, mm_l2, mm_go, ← Int64.ofInt_add]) h
theorem mm_E.lsub (hat : mm_at j pc = some .lsub) (h : mm_E w d j (pc + 1) V (mJ (x - y) :: S) M r) : mm_E w d j pc V (mJ y :: mJ x :: S) M r := .step hat (fun _ => by simp only [mm_act, mm_inl, mm_step, mm_l2, mm_go, ← Int64.ofInt_sub]) h
theorem mm_E.lmul (hat : mm_at j pc = some .lmul) (h : mm_E w d j (pc + 1) V (mJ (x * y) :: S) M r) : mm_E w d j pc V (mJ y :: mJ x :: S) M r := .step hat (fun _ => by simp only [mm_act, mm_inl, mm_step, mm_l2, mm_go, ← Int64.ofInt_mul]) h
theorem mm_E.lneg (hat : mm_at j pc = some .lneg) (h : mm_E w d j (pc + 1) V (mJ (-x) :: S) M r) : mm_E w d j pc V (mJ x :: S) M r := .step hat (fun _ => by simp only [mm_act, mm_inl, mm_step, mm_go, ← Int64.ofInt_neg]) h
theorem mm_E.ldiv (hx : R64 x) (hy : R64 y) (h1 : 0 < y) (hat : mm_at j pc = some .ldiv) (h : mm_E w d j (pc + 1) V (mJ (x.tdiv y) :: S) M r) : mm_E w d j pc V (mJ y :: mJ x :: S) M r := .step hat (fun _ => by simp only [mm_act, mm_inl, mm_step, mm_l2z, mm_ne64 hy h1, mm_go, mm_div64 hx hy h1]) h
theorem mm_E.lrem (hx : R64 x) (hy : R64 y) (h1 : 0 < y) (hat : mm_at j pc = some .lrem) (h : mm_E w d j (pc + 1) V (mJ (x.tmod y) :: S) M r) : mm_E w d j pc V (mJ y :: mJ x :: S) M r := .step hat (fun _ => by
  have e : x.tmod y = x - x.tdiv y * y := by rw [Int.tmod_def, Int.mul_comm]
  simp only [mm_act, mm_inl, mm_step, mm_l2z, mm_ne64 hy h1, mm_go, mm_div64 hx hy h1, mJ, e, Int64.ofInt_sub, Int64.ofInt_mul]) h
theorem mm_E.i2l (hx : R32 x) (hat : mm_at j pc = some .i2l) (h : mm_E w d j (pc + 1) V (mJ x :: S) M r) : mm_E w d j pc V (mI x :: S) M r := .step hat (fun _ => by simp only [mm_act, mm_inl, mm_step, mm_go, mm_wide hx]) h
theorem mm_E.dupI (hat : mm_at j pc = some .dup) (h : mm_E w d j (pc + 1) V (mI x :: mI x :: S) M r) : mm_E w d j pc V (mI x :: S) M r := .step hat (fun _ => rfl) h
theorem mm_E.dupR (hat : mm_at j pc = some .dup) (h : mm_E w d j (pc + 1) V (.ref a :: .ref a :: S) M r) : mm_E w d j pc V (.ref a :: S) M r := .step hat (fun _ => rfl) h
theorem mm_E.dup2 (hat : mm_at j pc = some .dup2) (h : mm_E w d j (pc + 1) V (mI x :: .ref a :: mI x :: .ref a :: S) M r) : mm_E w d j pc V (mI x :: .ref a :: S) M r := .step hat (fun _ => rfl) h
theorem mm_jmp_ok {L : ML} (h : mm_brt true pc off = some pc') : mm_jmp pc off L S M = some (pc', L, S, M, 0, 0) := by
  unfold mm_brt at h
  unfold mm_jmp
  split at h
  · rename_i e
    rw [e]
    cases h
    rfl
  · cases h
theorem mm_E.goto (hat : mm_at j pc = some (.goto off)) (hpc : mm_brt true pc off = some pc') (h : mm_E w d j pc' V S M r) : mm_E w d j pc V S M r := .step hat (fun L => by
  simp only [mm_act, mm_inl, mm_step, mm_jmp_ok hpc]) h
theorem mm_E.if1 {c : ClassFile.Cond} {b : Bool} (hat : mm_at j pc = some (.ifCond c off)) (rx : R32 x) (hb : mm_ic c x 0 = b) (hpc : mm_brt b pc off = some pc') (h : mm_E w d j pc' V S M r) : mm_E w d j pc V (mI x :: S) M r := .step hat (fun L => by
  have e := mm_if32 c rx (y := 0) (by decide)
  simp only [mm_act, mm_inl, mm_step, mm_if1]
  rw [show mm_if c (Int32.ofInt x) 0 = b from e.trans hb, mm_brt_ok hpc]) h
theorem mm_E.if2 {c : ClassFile.Cond} {b : Bool} (hat : mm_at j pc = some (.if_icmp c off)) (rx : R32 x) (ry : R32 y) (hb : mm_ic c x y = b) (hpc : mm_brt b pc off = some pc') (h : mm_E w d j pc' V S M r) : mm_E w d j pc V (mI y :: mI x :: S) M r := .step hat (fun L => by
  simp only [mm_act, mm_inl, mm_step, mm_if2]
  rw [(mm_if32 c rx ry).trans hb, mm_brt_ok hpc]) h
theorem mm_E.lif {c : ClassFile.Cond} {b : Bool} (hat : mm_at j pc = some .lcmp) (hat2 : mm_at j (pc + 1) = some (.ifCond c off)) (rx : R64 x) (ry : R64 y) (hb : mm_ic c x y = b) (hpc : mm_brt b (pc + 1) off = some pc') (h : mm_E w d j pc' V S M r) : mm_E w d j pc V (mJ y :: mJ x :: S) M r := .step (pc' := pc + 1) (S' := .int (lg_cmp (Int64.ofInt x) (Int64.ofInt y)) :: S) (M' := M) hat (fun L => by simp only [mm_act, mm_inl, mm_step, mm_go]) (.step hat2 (fun L => by
  simp only [mm_act, mm_inl, mm_step, mm_if1]
  rw [(mm_if64 c rx ry).trans hb, mm_brt_ok hpc]) h)
/-! fields -/
theorem mm_getf_ok {t : Nat} {v : Value} {L : ML} (hl : mm_ly a = some (ci, ts)) (hf : ts[f]? = some t) (hv : mm_sv t (A a (f : Int)) = v) : mm_getf pc' ci f L (.ref a :: S) (mm_w X A) = some (pc', L, v :: S, mm_w X A, 0, 0) := by
  unfold mm_getf
  have e := mm_ss_get (A := A) (a := a) (n := 0) hf
  rw [Nat.zero_add] at e
  simp only [mm_w_get hl, Nat.beq_refl, e, hv, mm_go]
theorem mm_get_ok {t : Nat} {v : Value} {L : ML} (hp : mm_pool j k = some (tp, ci, f, u)) (ht : (Nat.beq tp 0 || Nat.beq tp 1) = true) (hl : mm_ly a = some (ci, ts)) (hf : ts[f]? = some t) (hv : mm_sv t (A a (f : Int)) = v) : mm_act w d j (.getfield k) pc L (.ref a :: S) (mm_w X A) = some (.inl (pc + 3, L, v :: S, mm_w X A, 0, 0)) := by
  have q := mm_getf_ok (pc' := pc + 3) (X := X) (S := S) (L := L) hl hf hv
  match tp, ht with
  | 0, _ => simp only [mm_act, mm_inl, mm_step, hp, q]
  | 1, _ => simp only [mm_act, mm_inl, mm_step, hp, q]
  | t + 2, ht => cases ht
theorem mm_E.getI (hat : mm_at j pc = some (.getfield k)) (hp : mm_pool j k = some (tp, ci, f, u)) (ht : (Nat.beq tp 0 || Nat.beq tp 1) = true) (hl : mm_ly a = some (ci, ts)) (hf : ts[f]? = some 0) (hz : A a (f : Int) = z) (h : mm_E w d j (pc + 3) V (mI z :: S) (mm_w X A) r) : mm_E w d j pc V (.ref a :: S) (mm_w X A) r := .step hat (fun _ => mm_get_ok hp ht hl hf (by rw [hz]; rfl)) h
theorem mm_E.getJ (hat : mm_at j pc = some (.getfield k)) (hp : mm_pool j k = some (tp, ci, f, u)) (ht : (Nat.beq tp 0 || Nat.beq tp 1) = true) (hl : mm_ly a = some (ci, ts)) (hf : ts[f]? = some 1) (hz : A a (f : Int) = z) (h : mm_E w d j (pc + 3) V (mJ z :: S) (mm_w X A) r) : mm_E w d j pc V (.ref a :: S) (mm_w X A) r := .step hat (fun _ => mm_get_ok hp ht hl hf (by rw [hz]; rfl)) h
theorem mm_E.getM {b : Nat} (hat : mm_at j pc = some (.getfield k)) (hp : mm_pool j k = some (tp, ci, f, u)) (ht : (Nat.beq tp 0 || Nat.beq tp 1) = true) (hl : mm_ly a = some (ci, ts)) (hf : ts[f]? = some 2) (hb : A a (f : Int) = (b : Int)) (h : mm_E w d j (pc + 3) V (.ref b :: S) (mm_w X A) r) : mm_E w d j pc V (.ref a :: S) (mm_w X A) r := .step hat (fun _ => mm_get_ok hp ht hl hf (mm_sv2 hb)) h
theorem mm_E.getR {b : Nat} (hat : mm_at j pc = some (.getfield k)) (hp : mm_pool j k = some (tp, ci, f, u)) (ht : (Nat.beq tp 0 || Nat.beq tp 1) = true) (hl : mm_ly a = some (ci, ts)) (hf : ts[f]? = some (b + 3)) (h : mm_E w d j (pc + 3) V (.ref b :: S) (mm_w X A) r) : mm_E w d j pc V (.ref a :: S) (mm_w X A) r := .step hat (fun _ => mm_get_ok hp ht hl hf rfl) h
theorem mm_put_ok {t : Nat} {v : Value} {L : ML} (hp : mm_pool j k = some (0, ci, f, u)) (hl : mm_ly a = some (ci, ts)) (hn : Nat.beq ts.length (mm_def ci).length = true) (hf : ts[f]? = some t) (hv : mm_sv t z = v) (hok : mm_fitty (mm_fty ci f) v = true) (hw : Nat.ble w a = true) : mm_act w d j (.putfield k) pc L (v :: .ref a :: S) (mm_w X A) = some (.inl (pc + 3, L, S, mm_w X (mm_u A a (f : Int) z), 0, 0)) := by
  have hlt : Nat.blt f ts.length = true := Nat.ble_eq_true_of_le (List.getElem?_eq_some_iff.mp hf).1
  have e := mm_w_put (X := X) (A := A) (z := z) hl hf
  rw [hv] at e
  simp only [mm_act, mm_inl, mm_step, hp, mm_putf, mm_w_get hl, mm_ss_len, Nat.beq_refl, hlt, hn, hok, hw, Bool.and_self, mm_go, e]
theorem mm_E.putI (hat : mm_at j pc = some (.putfield k)) (hp : mm_pool j k = some (0, ci, f, u)) (hl : mm_ly a = some (ci, ts)) (hn : Nat.beq ts.length (mm_def ci).length = true) (hf : ts[f]? = some 0) (hfi : (f : Int) = fi) (hok : mm_fitty (mm_fty ci f) (mI z) = true) (hw : Nat.ble w a = true) (h : mm_E w d j (pc + 3) V S (mm_w X (mm_u A a fi z)) r) : mm_E w d j pc V (mI z :: .ref a :: S) (mm_w X A) r := .step hat (fun _ => mm_put_ok hp hl hn hf rfl hok hw) (by rw [hfi]; exact h)
theorem mm_E.putJ (hat : mm_at j pc = some (.putfield k)) (hp : mm_pool j k = some (0, ci, f, u)) (hl : mm_ly a = some (ci, ts)) (hn : Nat.beq ts.length (mm_def ci).length = true) (hf : ts[f]? = some 1) (hfi : (f : Int) = fi) (hok : mm_fitty (mm_fty ci f) (mJ z) = true) (hw : Nat.ble w a = true) (h : mm_E w d j (pc + 3) V S (mm_w X (mm_u A a fi z)) r) : mm_E w d j pc V (mJ z :: .ref a :: S) (mm_w X A) r := .step hat (fun _ => mm_put_ok hp hl hn hf rfl hok hw) (by rw [hfi]; exact h)
theorem mm_E.putM {b : Nat} (hat : mm_at j pc = some (.putfield k)) (hp : mm_pool j k = some (0, ci, f, u)) (hl : mm_ly a = some (ci, ts)) (hn : Nat.beq ts.length (mm_def ci).length = true) (hf : ts[f]? = some 2) (hfi : (f : Int) = fi) (hok : mm_fitty (mm_fty ci f) (.ref b) = true) (hw : Nat.ble w a = true) (h : mm_E w d j (pc + 3) V S (mm_w X (mm_u A a fi b)) r) : mm_E w d j pc V (.ref b :: .ref a :: S) (mm_w X A) r := .step hat (fun _ => mm_put_ok hp hl hn hf (mm_sv2 rfl) hok hw) (by rw [hfi]; exact h)
/-! arrays -/
theorem mm_ald_ok {t kd q : Nat} {v : Value} {L : ML} (hl : mm_ly a = some (kd, ts)) (hk : mm_akd kd = q) (h0 : 0 ≤ e) (h9 : e ≤ 2147483647) (hf : ts[e.toNat]? = some t) (hv : mm_sv t (A a e) = v) : mm_ald q pc L (mI e :: .ref a :: S) (mm_w X A) = some (pc + 1, L, v :: S, mm_w X A, 0, 0) := by
  have r1 : R32 e := by omega
  have g := mm_ss_get (A := A) (a := a) (n := 0) hf
  rw [Nat.zero_add, Int.toNat_of_nonneg h0, hv] at g
  unfold mm_ald
  simp only [mm_w_get hl, hk, Nat.beq_refl, mm_neg32 r1 h0, mm_nat32 r1, g, Bool.not_false, Bool.and_self, mm_go]
theorem mm_rep {n t : Nat} (h0 : 0 ≤ e) (h1 : e < n) : (List.replicate n t)[e.toNat]? = some t := by
  rw [List.getElem?_replicate, if_pos (by omega)]
theorem mm_E.iaload {n kd : Nat} (hat : mm_at j pc = some .iaload) (hl : mm_ly a = some (kd, List.replicate n 0)) (hk : mm_akd kd = 1) (h0 : 0 ≤ e) (h1 : e < n) (hn : Nat.ble n 1000 = true) (hz : A a e = z) (h : mm_E w d j (pc + 1) V (mI z :: S) (mm_w X A) r) : mm_E w d j pc V (mI e :: .ref a :: S) (mm_w X A) r := .step hat (fun L => by
  have hn := Nat.le_of_ble_eq_true hn
  simp only [mm_act, mm_inl, mm_step]
  rw [mm_ald_ok hl hk h0 (by omega) (mm_rep h0 h1) (v := mI z) (by rw [hz]; rfl)]) h
theorem mm_E.baload {n kd : Nat} (hat : mm_at j pc = some .baload) (hl : mm_ly a = some (kd, List.replicate n 0)) (hk : mm_akd kd = 3) (h0 : 0 ≤ e) (h1 : e < n) (hn : Nat.ble n 1000 = true) (hz : A a e = z) (h : mm_E w d j (pc + 1) V (mI z :: S) (mm_w X A) r) : mm_E w d j pc V (mI e :: .ref a :: S) (mm_w X A) r := .step hat (fun L => by
  have hn := Nat.le_of_ble_eq_true hn
  simp only [mm_act, mm_inl, mm_step]
  rw [mm_ald_ok hl hk h0 (by omega) (mm_rep h0 h1) (v := mI z) (by rw [hz]; rfl)]) h
theorem mm_E.laload {n kd : Nat} (hat : mm_at j pc = some .laload) (hl : mm_ly a = some (kd, List.replicate n 1)) (hk : mm_akd kd = 2) (h0 : 0 ≤ e) (h1 : e < n) (hn : Nat.ble n 1000 = true) (hz : A a e = z) (h : mm_E w d j (pc + 1) V (mJ z :: S) (mm_w X A) r) : mm_E w d j pc V (mI e :: .ref a :: S) (mm_w X A) r := .step hat (fun L => by
  have hn := Nat.le_of_ble_eq_true hn
  simp only [mm_act, mm_inl, mm_step]
  rw [mm_ald_ok hl hk h0 (by omega) (mm_rep h0 h1) (v := mJ z) (by rw [hz]; rfl)]) h
theorem mm_E.aaload {kd b : Nat} (hat : mm_at j pc = some .aaload) (hl : mm_ly a = some (kd, ts)) (hk : mm_akd kd = 4) (h0 : 0 ≤ e) (h1 : e < 6) (hf : ts[e.toNat]? = some (b + 3)) (h : mm_E w d j (pc + 1) V (.ref b :: S) (mm_w X A) r) : mm_E w d j pc V (mI e :: .ref a :: S) (mm_w X A) r := .step hat (fun L => by
  simp only [mm_act, mm_inl, mm_step]
  rw [mm_ald_ok hl hk h0 (by omega) hf rfl]
  rfl) h
theorem mm_ast_ok {t kd q : Nat} {v : Value} {L : ML} {ok : Value → Bool} (hl : mm_ly a = some (kd, ts)) (hk : mm_akd kd = q) (h0 : 0 ≤ e) (h9 : e ≤ 2147483647) (hf : ts[e.toNat]? = some t) (hv : mm_sv t z = v) (hok : ok v = true) (hw : Nat.ble w a = true) : mm_ast w q ok pc L (v :: mI e :: .ref a :: S) (mm_w X A) = some (pc + 1, L, S, mm_w X (mm_u A a e z), 0, 0) := by
  have r1 : R32 e := by omega
  have hlt : Nat.blt e.toNat ts.length = true := Nat.ble_eq_true_of_le (List.getElem?_eq_some_iff.mp hf).1
  have g := mm_w_put (X := X) (A := A) (z := z) hl hf
  rw [Int.toNat_of_nonneg h0, hv] at g
  unfold mm_ast
  simp only [mm_w_get hl, hk, Nat.beq_refl, mm_neg32 r1 h0, mm_nat32 r1, mm_ss_len, hlt, hok, hw, Bool.not_false, Bool.and_self, mm_go, g]
theorem mm_E.iastore {n kd : Nat} (hat : mm_at j pc = some .iastore) (hl : mm_ly a = some (kd, List.replicate n 0)) (hk : mm_akd kd = 1) (h0 : 0 ≤ e) (h1 : e < n) (hn : Nat.ble n 1000 = true) (hw : Nat.ble w a = true) (h : mm_E w d j (pc + 1) V S (mm_w X (mm_u A a e z)) r) : mm_E w d j pc V (mI z :: mI e :: .ref a :: S) (mm_w X A) r := .step hat (fun L => by
  have hn := Nat.le_of_ble_eq_true hn
  simp only [mm_act, mm_inl, mm_step]
  rw [mm_ast_ok (v := mI z) hl hk h0 (by omega) (mm_rep h0 h1) rfl rfl hw]) h
theorem mm_E.lastore {n kd : Nat} (hat : mm_at j pc = some .lastore) (hl : mm_ly a = some (kd, List.replicate n 1)) (hk : mm_akd kd = 2) (h0 : 0 ≤ e) (h1 : e < n) (hn : Nat.ble n 1000 = true) (hw : Nat.ble w a = true) (h : mm_E w d j (pc + 1) V S (mm_w X (mm_u A a e z)) r) : mm_E w d j pc V (mJ z :: mI e :: .ref a :: S) (mm_w X A) r := .step hat (fun L => by
  have hn := Nat.le_of_ble_eq_true hn
  simp only [mm_act, mm_inl, mm_step]
  rw [mm_ast_ok (v := mJ z) hl hk h0 (by omega) (mm_rep h0 h1) rfl rfl hw]) h
theorem mm_E.bastore {n kd : Nat} (hat : mm_at j pc = some .bastore) (hl : mm_ly a = some (kd, List.replicate n 0)) (hk : mm_akd kd = 3) (h0 : 0 ≤ e) (h1 : e < n) (hn : Nat.ble n 1000 = true) (hz : mm_isZ (mI z) = true) (hw : Nat.ble w a = true) (h : mm_E w d j (pc + 1) V S (mm_w X (mm_u A a e z)) r) : mm_E w d j pc V (mI z :: mI e :: .ref a :: S) (mm_w X A) r := .step hat (fun L => by
  have hn := Nat.le_of_ble_eq_true hn
  simp only [mm_act, mm_inl, mm_step]
  rw [mm_ast_ok (v := mI z) hl hk h0 (by omega) (mm_rep h0 h1) rfl hz hw]) h
/-! the script -/
theorem mm_E.xload (hat : mm_at j pc = some .iaload) (h0 : 0 ≤ e) (h1 : R32 e) (hx : X[e.toNat]? = some (mI z)) (h : mm_E w d j (pc + 1) V (mI z :: S) (mm_w X A) r) : mm_E w d j pc V (mI e :: .ref 0 :: S) (mm_w X A) r := .step hat (fun L => by
  have e0 : (mm_w X A)[0]? = some (99, X) := rfl
  simp only [mm_act, mm_inl, mm_step, mm_ald, e0, show mm_akd 99 = 1 from rfl, Nat.beq_refl, mm_neg32 h1 h0, mm_nat32 h1, hx, Bool.not_false, Bool.and_self, mm_go]) h
theorem mm_E.xlen (hat : mm_at j pc = some .arraylength) (hn : Nat.blt X.length 100000 = true) (h : mm_E w d j (pc + 1) V (mI X.length :: S) (mm_w X A) r) : mm_E w d j pc V (.ref 0 :: S) (mm_w X A) r := .step hat (fun L => by
  have e0 : (mm_w X A)[0]? = some (99, X) := rfl
  have e1 : Int32.ofNat X.length = Int32.ofInt X.length := Int32.ofInt_eq_ofNat.symm
  simp only [mm_act, mm_inl, mm_step, e0, show mm_akd 99 = 1 from rfl, show Nat.blt 0 1 = true from rfl, hn, Bool.and_self, mm_go, e1]) h
/-! returns -/
theorem mm_e.ret {i : Instr} {L : ML} {v : Option Value} (hat : mm_at j pc = some i) (hact : mm_act w d j i pc L S M = some (.inr (.inl v))) : mm_e w d j pc L S M (.inl v, M, 0, 0) := by
  refine ⟨1, fun c n => ?_⟩
  unfold mm_run
  simp only [hat, hact]
  rfl
theorem mm_E.iret {ty : FieldType} (hat : mm_at j pc = some .ireturn) (hr : mm_ret j = some ty) (hn : narrow ty (mI x) = mI x) : mm_E w d j pc V [mI x] M (.inl (some (mI x)), M, 0, 0) := fun L _ => mm_e.ret hat (by simp only [mm_act, mm_ret1, hr, hn, decide_true])
theorem mm_E.lret (hat : mm_at j pc = some .lreturn) (hr : mm_ret j = some .long) : mm_E w d j pc V [mJ x] M (.inl (some (mJ x)), M, 0, 0) := fun L _ => mm_e.ret hat (by simp only [mm_act, mm_retl, hr])
theorem mm_E.aret {C : String} (hat : mm_at j pc = some .areturn) (hr : mm_ret j = some (.object C)) : mm_E w d j pc V [.ref a] M (.inl (some (.ref a)), M, 0, 0) := fun L _ => mm_e.ret hat (by simp only [mm_act, mm_reta, hr])
theorem mm_E.vret (hat : mm_at j pc = some .return_) (hr : mm_ret j = none) : mm_E w d j pc V [] M (.inl none, M, 0, 0) := fun L _ => mm_e.ret hat (by simp only [mm_act, mm_retv, hr])
/-! calls -/
theorem mm_look_args : ∀ (as : List Value) (n : Nat), ∀ q ∈ lv_args n as, n ≤ q.1 ∧ mm_look (lv_args n as) q.1 = some q.2
  | [], _, q, hq => by cases hq
  | v :: as, n, q, hq => by
    rcases List.mem_cons.mp hq with rfl | hq
    · exact ⟨Nat.le_refl _, by show mm_look ((n, v) :: _) n = some v; rw [mm_look_cons, if_pos rfl]⟩
    · obtain ⟨h1, h2⟩ := mm_look_args as _ q hq
      have h3 : n + 1 ≤ q.1 := by split at h1 <;> omega
      refine ⟨by omega, ?_⟩
      show mm_look ((n, v) :: lv_args _ as) q.1 = some q.2
      rw [mm_look_cons, if_neg (by show ¬ n = q.1; omega)]
      exact h2
theorem mm_E.run {V0 : ML} {as : List Value} (h : mm_E w d j pc V0 S M r) (hV : lv_args 0 as = V0) : mm_e w d j pc (lv_args 0 as) S M r := h _ (by rw [← hV]; exact fun q hq => (mm_look_args as 0 q hq).2)
theorem mm_E.call {i : Instr} {j' d0 : Nat} {as : List Value} {V0 : ML} {v : Option Value} {M' : MH} {a1 b1 : Nat} {o : Option Value ⊕ Nat} {M2 : MH} {a2 b2 : Nat} (hat : mm_at j pc = some i) (hact : ∀ L : ML, mm_act w (d + 1) j i pc L S M = some (.inr (.inr (.inl (j', as, S'))))) (hV : lv_args 0 as = V0) (hs : mm_E w d0 j' 0 V0 [] M (.inl v, M', a1, b1)) (hd : d0 ≤ d) (h : mm_E w (d + 1) j (pc + 3) V (v.toList ++ S') M' (o, M2, a2, b2)) : mm_E w (d + 1) j pc V S M (o, M2, a1 + a2, b1 + b2) := fun L hL => by
  obtain ⟨f1, h1⟩ := (hs.mono hd).run hV
  obtain ⟨f2, h2⟩ := h L hL
  refine ⟨f1 + f2 + 1, fun c n => ?_⟩
  have q1 := mm_run_mono f1 (f1 + f2) _ _ _ _ _ _ _ _ _ _ _ (by omega) (Nat.le_refl _) (h1 c n)
  have q2 := mm_run_mono f2 (f1 + f2) _ _ _ _ _ _ _ _ _ _ _ (by omega) (Nat.le_refl _) (h2 (c + a1) (n + b1))
  unfold mm_run
  simp only [hat, hact]
  simp only [q1]
  rw [q2]
  simp only [Nat.add_assoc]
theorem mm_E.callV {j' n d0 mx : Nat} {V0 : ML} {v : Option Value} {M' : MH} {a1 b1 : Nat} {o : Option Value ⊕ Nat} {M2 : MH} {a2 b2 : Nat} (hat : mm_at j pc = some (.invokevirtual k)) (hp : mm_pool j k = some (tp, j', n, u)) (ht : (Nat.beq tp 2 || Nat.beq tp 6) = true) (hc : mm_cls j' = ci) (hl : mm_ly a = some (ci, ts)) (hS : S.drop n = .ref a :: S') (hmx : mm_maxL j' = mx) (hb : (Nat.ble (mm_words S') 8 && Nat.beq (S.take n).length n && Nat.ble (1 + mm_words (S.take n)) mx) = true) (hV : lv_args 0 (.ref a :: (S.take n).reverse) = V0)
    (hs : mm_E w d0 j' 0 V0 [] (mm_w X A) (.inl v, M', a1, b1)) (hd : d0 ≤ d) (h : mm_E w (d + 1) j (pc + 3) V (v.toList ++ S') M' (o, M2, a2, b2)) : mm_E w (d + 1) j pc V S (mm_w X A) (o, M2, a1 + a2, b1 + b2) := .call hat (fun L => by
  have e : mm_callV j' n ci S (mm_w X A) = some (.inr (.inr (.inl (j', .ref a :: (S.take n).reverse, S')))) := by
    unfold mm_callV
    rw [hS]
    simp only [mm_w_get hl, Nat.beq_refl, hmx, Bool.true_and]
    rw [hb]
  match tp, ht with
  | 2, _ => simp only [mm_act, hp, hc, e]
  | 6, _ => simp only [mm_act, hp, hc, e]
  | 0, ht => cases ht
  | 1, ht => cases ht
  | 3, ht => cases ht
  | 4, ht => cases ht
  | 5, ht => cases ht
  | t + 7, ht => cases ht) hV hs hd h
theorem mm_E.callP {j' n d0 mx : Nat} {V0 : ML} {v : Option Value} {M' : MH} {a1 b1 : Nat} {o : Option Value ⊕ Nat} {M2 : MH} {a2 b2 : Nat} (hat : mm_at j pc = some (.invokespecial k)) (hp : mm_pool j k = some (tp, j', n, u)) (ht : (Nat.beq tp 4 || Nat.beq tp 5) = true) (hc : mm_cls j' = ci) (hl : mm_ly a = some (ci, ts)) (hS : S.drop n = .ref a :: S') (hmx : mm_maxL j' = mx) (hb : (Nat.ble (mm_words S') 8 && Nat.beq (S.take n).length n && Nat.ble (1 + mm_words (S.take n)) mx) = true) (hV : lv_args 0 (.ref a :: (S.take n).reverse) = V0)
    (hs : mm_E w d0 j' 0 V0 [] (mm_w X A) (.inl v, M', a1, b1)) (hd : d0 ≤ d) (h : mm_E w (d + 1) j (pc + 3) V (v.toList ++ S') M' (o, M2, a2, b2)) : mm_E w (d + 1) j pc V S (mm_w X A) (o, M2, a1 + a2, b1 + b2) := .call hat (fun L => by
  have e : mm_callV j' n ci S (mm_w X A) = some (.inr (.inr (.inl (j', .ref a :: (S.take n).reverse, S')))) := by
    unfold mm_callV
    rw [hS]
    simp only [mm_w_get hl, Nat.beq_refl, hmx, Bool.true_and]
    rw [hb]
  match tp, ht with
  | 4, _ => simp only [mm_act, hp, hc, e]
  | 5, _ => simp only [mm_act, hp, hc, e]
  | 0, ht => cases ht
  | 1, ht => cases ht
  | 2, ht => cases ht
  | 3, ht => cases ht
  | t + 6, ht => cases ht) hV hs hd h
theorem mm_E.callS {j' n d0 mx : Nat} {V0 : ML} {v : Option Value} {M' : MH} {a1 b1 : Nat} {o : Option Value ⊕ Nat} {M2 : MH} {a2 b2 : Nat} (hat : mm_at j pc = some (.invokestatic k)) (hp : mm_pool j k = some (3, j', n, u)) (hmx : mm_maxL j' = mx) (hb : (Nat.ble (mm_words (S.drop n)) 8 && Nat.beq (S.take n).length n && Nat.ble (mm_words (S.take n)) mx) = true) (hV : lv_args 0 (S.take n).reverse = V0)
    (hs : mm_E w d0 j' 0 V0 [] M (.inl v, M', a1, b1)) (hd : d0 ≤ d) (h : mm_E w (d + 1) j (pc + 3) V (v.toList ++ S.drop n) M' (o, M2, a2, b2)) : mm_E w (d + 1) j pc V S M (o, M2, a1 + a2, b1 + b2) := .call hat (fun L => by simp only [mm_act, hp, mm_callS, hmx, hb]) hV hs hd h
/-! throws and catches -/
theorem mm_E.thr {x v1 : Nat} (hat : mm_at j pc = some (.new k)) (hp : mm_pool j k = some (14, x, v1, u)) (ht : mm_thr 8 j pc x S = some (.inr (.inr (.inr x)))) (hd : 8 ≤ d) : mm_E w d j pc V S M (.inr x, M, 1, 6) := fun L _ => by
  refine ⟨1, fun c n => ?_⟩
  have e : mm_act w 8 j (.new k) pc L S M = some (.inr (.inr (.inr x))) := by
    have hp' : mm_pool j k = some (14, x, v1, u) := hp
    simp only [mm_act, hp', ht]
  have e' := mm_act_d hd e
  unfold mm_run
  simp only [hat, e']
theorem mm_E.catch {i : Instr} {j' d0 x0 x to kx : Nat} {as : List Value} {V0 V1 : ML} {M0 M1 : MH} {a0 b0 a1 b1 : Nat} {o : Option Value ⊕ Nat} {M2 : MH} {a2 b2 : Nat} (hat : mm_at j pc = some i) (hact : ∀ L : ML, mm_act w (d + 1) j i pc L S M = some (.inr (.inr (.inl (j', as, S'))))) (hV : lv_args 0 as = V0) (hs0 : mm_E w d0 j' 0 V0 [] M (.inr x0, M0, a0, b0)) (hs : mm_E M.length d0 j' 0 V0 [] M (.inr x, M1, a1, b1)) (hd : d0 ≤ d) (hh : mm_hand j pc x = some (to, kx)) (hV1 : V1 = V.filter fun q => !(q.1 == kx) && !(q.1 + 1 == kx && q.2.category == 2)) (h : mm_E w (d + 1) j to V1 [] M (o, M2, a2, b2)) : mm_E w (d + 1) j pc V S M (o, M2, a1 + a2, b1 + b2) := fun L hL => by
  obtain ⟨f0, h0⟩ := (hs0.mono hd).run hV
  obtain ⟨f1, h1⟩ := (hs.mono hd).run hV
  obtain ⟨f2, h2⟩ := h (L.filter fun q => !(q.1 == kx) && !(q.1 + 1 == kx && q.2.category == 2)) (fun q hq => by
    rw [hV1] at hq
    obtain ⟨g1, g2⟩ := List.mem_filter.mp hq
    exact mm_look_fil g2 (hL q g1))
  refine ⟨f0 + f1 + f2 + 1, fun c n => ?_⟩
  have q0 := mm_run_mono f0 (f0 + f1 + f2) _ _ _ _ _ _ _ _ _ _ _ (by omega) (Nat.le_refl _) (h0 c n)
  have q1 := mm_run_mono f1 (f0 + f1 + f2) _ _ _ _ _ _ _ _ _ _ _ (by omega) (Nat.le_refl _) (h1 c n)
  have q2 := mm_run_mono f2 (f0 + f1 + f2) _ _ _ _ _ _ _ _ _ _ _ (by omega) (Nat.le_refl _) (h2 (c + a1) (n + b1))
  unfold mm_run
  simp only [hat, hact]
  simp only [q0, q1, hh]
  rw [q2]
  simp only [Nat.add_assoc]
/-! the library's own -/
theorem mm_E.maxI {v1 : Nat} (hx : R32 x) (hy : R32 y) (hat : mm_at j pc = some (.invokestatic k)) (hp : mm_pool j k = some (7, 0, v1, u)) (hb : Nat.ble (mm_words S) 8 = true) (h : mm_E w (d + 1) j (pc + 3) V (mI (max x y) :: S) M r) : mm_E w (d + 1) j pc V (mI y :: mI x :: S) M r := .step hat (fun L => by
  have e : (if Int32.ofInt x < Int32.ofInt y then Int32.ofInt y else Int32.ofInt x) = Int32.ofInt (max x y) := by
    by_cases q : x < y
    · rw [if_pos ((mm_lt32 hx hy).mpr q)]; congr 1; omega
    · rw [if_neg (fun z => q ((mm_lt32 hx hy).mp z))]; congr 1; omega
  simp only [mm_act, hp, mm_inl, mm_nat, hb, mm_go, e, show Nat.blt 0 6 = true from rfl]) h
theorem mm_E.minI {v1 : Nat} (hx : R32 x) (hy : R32 y) (hat : mm_at j pc = some (.invokestatic k)) (hp : mm_pool j k = some (7, 1, v1, u)) (hb : Nat.ble (mm_words S) 8 = true) (h : mm_E w (d + 1) j (pc + 3) V (mI (min x y) :: S) M r) : mm_E w (d + 1) j pc V (mI y :: mI x :: S) M r := .step hat (fun L => by
  have e : (if Int32.ofInt y < Int32.ofInt x then Int32.ofInt y else Int32.ofInt x) = Int32.ofInt (min x y) := by
    by_cases q : y < x
    · rw [if_pos ((mm_lt32 hy hx).mpr q)]; congr 1; omega
    · rw [if_neg (fun z => q ((mm_lt32 hy hx).mp z))]; congr 1; omega
  simp only [mm_act, hp, mm_inl, mm_nat, hb, mm_go, e, show Nat.blt 1 6 = true from rfl]) h
theorem mm_E.maxL {v1 : Nat} (hx : R64 x) (hy : R64 y) (hat : mm_at j pc = some (.invokestatic k)) (hp : mm_pool j k = some (7, 2, v1, u)) (hb : Nat.ble (mm_words S) 8 = true) (h : mm_E w (d + 1) j (pc + 3) V (mJ (max x y) :: S) M r) : mm_E w (d + 1) j pc V (mJ y :: mJ x :: S) M r := .step hat (fun L => by
  have e : (if Int64.ofInt y < Int64.ofInt x then Int64.ofInt x else Int64.ofInt y) = Int64.ofInt (max x y) := by
    by_cases q : y < x
    · rw [if_pos ((mm_lt64 hy hx).mpr q)]; congr 1; omega
    · rw [if_neg (fun z => q ((mm_lt64 hy hx).mp z))]; congr 1; omega
  simp only [mm_act, hp, mm_inl, mm_nat, hb, mm_go, e, show Nat.blt 2 6 = true from rfl]) h
theorem mm_E.minL {v1 : Nat} (hx : R64 x) (hy : R64 y) (hat : mm_at j pc = some (.invokestatic k)) (hp : mm_pool j k = some (7, 3, v1, u)) (hb : Nat.ble (mm_words S) 8 = true) (h : mm_E w (d + 1) j (pc + 3) V (mJ (min x y) :: S) M r) : mm_E w (d + 1) j pc V (mJ y :: mJ x :: S) M r := .step hat (fun L => by
  have e : (if Int64.ofInt y < Int64.ofInt x then Int64.ofInt y else Int64.ofInt x) = Int64.ofInt (min x y) := by
    by_cases q : y < x
    · rw [if_pos ((mm_lt64 hy hx).mpr q)]; congr 1; omega
    · rw [if_neg (fun z => q ((mm_lt64 hy hx).mp z))]; congr 1; omega
  simp only [mm_act, hp, mm_inl, mm_nat, hb, mm_go, e, show Nat.blt 3 6 = true from rfl]) h
theorem mm_E.abs {v1 : Nat} (hx : R64 x) (hat : mm_at j pc = some (.invokestatic k)) (hp : mm_pool j k = some (7, 4, v1, u)) (hb : Nat.ble (mm_words S) 8 = true) (h : mm_E w (d + 1) j (pc + 3) V (mJ x.natAbs :: S) M r) : mm_E w (d + 1) j pc V (mJ x :: S) M r := .step hat (fun L => by
  have e : (if 0 < Int64.ofInt x then Int64.ofInt x else -Int64.ofInt x) = Int64.ofInt x.natAbs := by
    have g : (0 < Int64.ofInt x) ↔ 0 < x := mm_lt64 (x := 0) (by decide) hx
    by_cases q : 0 < x
    · rw [if_pos (g.mpr q)]; congr 1; omega
    · rw [if_neg (fun z => q (g.mp z)), ← Int64.ofInt_neg]; congr 1; omega
  simp only [mm_act, hp, mm_inl, mm_nat, hb, mm_go, e, show Nat.blt 4 6 = true from rfl]) h
theorem mm_E.obj {v1 v2 : Nat} (hat : mm_at j pc = some (.invokespecial k)) (hp : mm_pool j k = some (15, v1, v2, u)) (hb : Nat.ble (mm_words S) 8 = true) (h : mm_E w (d + 1) j (pc + 3) V S M r) : mm_E w (d + 1) j pc V (.ref a :: S) M r := .step hat (fun L => by
  simp only [mm_act, hp, mm_inl, mm_nat, hb, mm_go]) h
end RU
/-- the rows of rows -/
theorem mm_six {P : Int → Prop} {e : Int} (h0 : 0 ≤ e) (h1 : e < 6) (p0 : P 0) (p1 : P 1) (p2 : P 2) (p3 : P 3) (p4 : P 4) (p5 : P 5) : P e := by
  have : e = 0 ∨ e = 1 ∨ e = 2 ∨ e = 3 ∨ e = 4 ∨ e = 5 := by omega
  rcases this with rfl | rfl | rfl | rfl | rfl | rfl <;> assumption
theorem mm_ly_pos {a : Nat} {q : Nat × List Nat} (h : mm_ly a = some q) : Nat.ble 1 a = true := by
  cases a with
  | zero => cases h
  | succ a => exact Nat.ble_eq_true_of_le (by omega)
end
section
/-! Where things lie; what each method is. -/
theorem ly1 : mm_ly 1 = some (0, [5, 28, 46, 0]) := rfl
theorem ly2 : mm_ly 2 = some (4, [0, 0, 6, 13, 14, 15, 16, 26]) := rfl
theorem ly3 : mm_ly 3 = some (54, [7, 8, 9, 10, 11, 12]) := rfl
theorem ly4 : mm_ly 4 = some (50, List.replicate 12 0) := rfl
theorem ly5 : mm_ly 5 = some (50, List.replicate 12 0) := rfl
theorem ly6 : mm_ly 6 = some (50, List.replicate 12 0) := rfl
theorem ly7 : mm_ly 7 = some (50, List.replicate 12 0) := rfl
theorem ly8 : mm_ly 8 = some (50, List.replicate 12 0) := rfl
theorem ly9 : mm_ly 9 = some (50, List.replicate 12 0) := rfl
theorem ly10 : mm_ly 10 = some (50, List.replicate 12 0) := rfl
theorem ly11 : mm_ly 11 = some (50, List.replicate 6 0) := rfl
theorem ly12 : mm_ly 12 = some (50, List.replicate 6 0) := rfl
theorem ly13 : mm_ly 13 = some (6, [0, 0, 2, 2, 0, 1, 17, 18, 19]) := rfl
theorem ly14 : mm_ly 14 = some (50, List.replicate 12 0) := rfl
theorem ly15 : mm_ly 15 = some (50, List.replicate 6 0) := rfl
theorem ly16 : mm_ly 16 = some (54, [20, 21, 22, 23, 24, 25]) := rfl
theorem ly17 : mm_ly 17 = some (50, List.replicate 13 0) := rfl
theorem ly18 : mm_ly 18 = some (50, List.replicate 13 0) := rfl
theorem ly19 : mm_ly 19 = some (50, List.replicate 13 0) := rfl
theorem ly20 : mm_ly 20 = some (50, List.replicate 13 0) := rfl
theorem ly21 : mm_ly 21 = some (50, List.replicate 13 0) := rfl
theorem ly22 : mm_ly 22 = some (50, List.replicate 13 0) := rfl
theorem ly23 : mm_ly 23 = some (1, [0, 0, 2, 0, 27]) := rfl
theorem ly24 : mm_ly 24 = some (50, List.replicate 6 0) := rfl
theorem ly25 : mm_ly 25 = some (5, [0, 0, 0, 0, 29, 36, 37, 38, 39]) := rfl
theorem ly26 : mm_ly 26 = some (54, [30, 31, 32, 33, 34, 35]) := rfl
theorem ly27 : mm_ly 27 = some (50, List.replicate 6 0) := rfl
theorem ly28 : mm_ly 28 = some (50, List.replicate 6 0) := rfl
theorem ly29 : mm_ly 29 = some (50, List.replicate 6 0) := rfl
theorem ly30 : mm_ly 30 = some (50, List.replicate 6 0) := rfl
theorem ly31 : mm_ly 31 = some (50, List.replicate 6 0) := rfl
theorem ly32 : mm_ly 32 = some (50, List.replicate 6 0) := rfl
theorem ly33 : mm_ly 33 = some (50, List.replicate 6 0) := rfl
theorem ly34 : mm_ly 34 = some (50, List.replicate 6 0) := rfl
theorem ly35 : mm_ly 35 = some (50, List.replicate 6 0) := rfl
theorem ly36 : mm_ly 36 = some (53, [40, 41, 42, 43, 44, 45]) := rfl
theorem ly37 : mm_ly 37 = some (3, [1, 1]) := rfl
theorem ly38 : mm_ly 38 = some (3, [1, 1]) := rfl
theorem ly39 : mm_ly 39 = some (3, [1, 1]) := rfl
theorem ly40 : mm_ly 40 = some (3, [1, 1]) := rfl
theorem ly41 : mm_ly 41 = some (3, [1, 1]) := rfl
theorem ly42 : mm_ly 42 = some (3, [1, 1]) := rfl
theorem ly43 : mm_ly 43 = some (2, [0, 0, 0, 47, 54, 55, 56, 57, 58, 59, 60, 61]) := rfl
theorem ly44 : mm_ly 44 = some (54, [48, 49, 50, 51, 52, 53]) := rfl
theorem ly45 : mm_ly 45 = some (50, List.replicate 16 0) := rfl
theorem ly46 : mm_ly 46 = some (50, List.replicate 16 0) := rfl
theorem ly47 : mm_ly 47 = some (50, List.replicate 16 0) := rfl
theorem ly48 : mm_ly 48 = some (50, List.replicate 16 0) := rfl
theorem ly49 : mm_ly 49 = some (50, List.replicate 16 0) := rfl
theorem ly50 : mm_ly 50 = some (50, List.replicate 16 0) := rfl
theorem ly51 : mm_ly 51 = some (53, [62, 65, 68, 71, 74, 77]) := rfl
theorem ly52 : mm_ly 52 = some (53, [63, 66, 69, 72, 75, 78]) := rfl
theorem ly53 : mm_ly 53 = some (53, [64, 67, 70, 73, 76, 79]) := rfl
theorem ly54 : mm_ly 54 = some (52, List.replicate 6 0) := rfl
theorem ly55 : mm_ly 55 = some (50, List.replicate 6 0) := rfl
theorem ly56 : mm_ly 56 = some (3, [1, 1]) := rfl
theorem ly57 : mm_ly 57 = some (3, [1, 1]) := rfl
theorem ly58 : mm_ly 58 = some (3, [1, 1]) := rfl
theorem ly59 : mm_ly 59 = some (3, [1, 1]) := rfl
theorem ly60 : mm_ly 60 = some (3, [1, 1]) := rfl
theorem ly61 : mm_ly 61 = some (3, [1, 1]) := rfl
theorem ly62 : mm_ly 62 = some (3, [1, 1]) := rfl
theorem ly63 : mm_ly 63 = some (3, [1, 1]) := rfl
theorem ly64 : mm_ly 64 = some (3, [1, 1]) := rfl
theorem ly65 : mm_ly 65 = some (3, [1, 1]) := rfl
theorem ly66 : mm_ly 66 = some (3, [1, 1]) := rfl
theorem ly67 : mm_ly 67 = some (3, [1, 1]) := rfl
theorem ly68 : mm_ly 68 = some (3, [1, 1]) := rfl
theorem ly69 : mm_ly 69 = some (3, [1, 1]) := rfl
theorem ly70 : mm_ly 70 = some (3, [1, 1]) := rfl
theorem ly71 : mm_ly 71 = some (3, [1, 1]) := rfl
theorem ly72 : mm_ly 72 = some (3, [1, 1]) := rfl
theorem ly73 : mm_ly 73 = some (3, [1, 1]) := rfl
theorem ly74 : mm_ly 74 = some (3, [1, 1]) := rfl
theorem ly75 : mm_ly 75 = some (3, [1, 1]) := rfl
theorem ly76 : mm_ly 76 = some (3, [1, 1]) := rfl
theorem ly77 : mm_ly 77 = some (7, [0, 0, 0, 81, 82, 83, 84, 85, 0, 0, 86, 87, 88, 89, 90, 0, 91, 0, 92, 93, 94, 95, 96, 97, 1, 1, 98]) := rfl
theorem ly78 : mm_ly 78 = some (50, List.replicate 72 0) := rfl
theorem ly79 : mm_ly 79 = some (50, List.replicate 12 0) := rfl
theorem ly80 : mm_ly 80 = some (50, List.replicate 12 0) := rfl
theorem ly81 : mm_ly 81 = some (50, List.replicate 6 0) := rfl
theorem ly82 : mm_ly 82 = some (50, List.replicate 36 0) := rfl
theorem ly83 : mm_ly 83 = some (50, List.replicate 6 0) := rfl
theorem ly84 : mm_ly 84 = some (50, List.replicate 6 0) := rfl
theorem ly85 : mm_ly 85 = some (50, List.replicate 6 0) := rfl
theorem ly86 : mm_ly 86 = some (51, List.replicate 6 1) := rfl
theorem ly87 : mm_ly 87 = some (51, List.replicate 6 1) := rfl
theorem ly88 : mm_ly 88 = some (50, List.replicate 96 0) := rfl
theorem ly89 : mm_ly 89 = some (51, List.replicate 6 1) := rfl
theorem ly90 : mm_ly 90 = some (51, List.replicate 6 1) := rfl
theorem ly91 : mm_ly 91 = some (51, List.replicate 6 1) := rfl
theorem ly92 : mm_ly 92 = some (51, List.replicate 6 1) := rfl
theorem ly93 : mm_ly 93 = some (51, List.replicate 6 1) := rfl
theorem ly94 : mm_ly 94 = some (51, List.replicate 6 1) := rfl
theorem ly95 : mm_ly 95 = some (50, List.replicate 6 0) := rfl
theorem ly96 : mm_ly 96 = some (51, List.replicate 1 1) := rfl
theorem lr4 {e : Int} (h0 : 0 ≤ e) (h1 : e < 6) : mm_ly (4 + e.toNat) = some (50, List.replicate 12 0) := mm_six (P := fun e => mm_ly (4 + e.toNat) = some (50, List.replicate 12 0)) h0 h1 rfl rfl rfl rfl rfl rfl
theorem la4 {e : Int} (h0 : 0 ≤ e) (h1 : e < 6) : ([7, 8, 9, 10, 11, 12] : List Nat)[e.toNat]? = some (4 + e.toNat + 3) := mm_six (P := fun e => ([7, 8, 9, 10, 11, 12] : List Nat)[e.toNat]? = some (4 + e.toNat + 3)) h0 h1 rfl rfl rfl rfl rfl rfl
theorem lr17 {e : Int} (h0 : 0 ≤ e) (h1 : e < 6) : mm_ly (17 + e.toNat) = some (50, List.replicate 13 0) := mm_six (P := fun e => mm_ly (17 + e.toNat) = some (50, List.replicate 13 0)) h0 h1 rfl rfl rfl rfl rfl rfl
theorem la17 {e : Int} (h0 : 0 ≤ e) (h1 : e < 6) : ([20, 21, 22, 23, 24, 25] : List Nat)[e.toNat]? = some (17 + e.toNat + 3) := mm_six (P := fun e => ([20, 21, 22, 23, 24, 25] : List Nat)[e.toNat]? = some (17 + e.toNat + 3)) h0 h1 rfl rfl rfl rfl rfl rfl
theorem lr27 {e : Int} (h0 : 0 ≤ e) (h1 : e < 6) : mm_ly (27 + e.toNat) = some (50, List.replicate 6 0) := mm_six (P := fun e => mm_ly (27 + e.toNat) = some (50, List.replicate 6 0)) h0 h1 rfl rfl rfl rfl rfl rfl
theorem la27 {e : Int} (h0 : 0 ≤ e) (h1 : e < 6) : ([30, 31, 32, 33, 34, 35] : List Nat)[e.toNat]? = some (27 + e.toNat + 3) := mm_six (P := fun e => ([30, 31, 32, 33, 34, 35] : List Nat)[e.toNat]? = some (27 + e.toNat + 3)) h0 h1 rfl rfl rfl rfl rfl rfl
theorem lr45 {e : Int} (h0 : 0 ≤ e) (h1 : e < 6) : mm_ly (45 + e.toNat) = some (50, List.replicate 16 0) := mm_six (P := fun e => mm_ly (45 + e.toNat) = some (50, List.replicate 16 0)) h0 h1 rfl rfl rfl rfl rfl rfl
theorem la45 {e : Int} (h0 : 0 ≤ e) (h1 : e < 6) : ([48, 49, 50, 51, 52, 53] : List Nat)[e.toNat]? = some (45 + e.toNat + 3) := mm_six (P := fun e => ([48, 49, 50, 51, 52, 53] : List Nat)[e.toNat]? = some (45 + e.toNat + 3)) h0 h1 rfl rfl rfl rfl rfl rfl
theorem lr37 {e : Int} (h0 : 0 ≤ e) (h1 : e < 6) : mm_ly (37 + e.toNat) = some (3, [1, 1]) := mm_six (P := fun e => mm_ly (37 + e.toNat) = some (3, [1, 1])) h0 h1 rfl rfl rfl rfl rfl rfl
theorem la37 {e : Int} (h0 : 0 ≤ e) (h1 : e < 6) : ([40, 41, 42, 43, 44, 45] : List Nat)[e.toNat]? = some (37 + e.toNat + 3) := mm_six (P := fun e => ([40, 41, 42, 43, 44, 45] : List Nat)[e.toNat]? = some (37 + e.toNat + 3)) h0 h1 rfl rfl rfl rfl rfl rfl
theorem lr59 {e : Int} (h0 : 0 ≤ e) (h1 : e < 6) : mm_ly (59 + 3 * e.toNat) = some (3, [1, 1]) := mm_six (P := fun e => mm_ly (59 + 3 * e.toNat) = some (3, [1, 1])) h0 h1 rfl rfl rfl rfl rfl rfl
theorem la59 {e : Int} (h0 : 0 ≤ e) (h1 : e < 6) : ([62, 65, 68, 71, 74, 77] : List Nat)[e.toNat]? = some (59 + 3 * e.toNat + 3) := mm_six (P := fun e => ([62, 65, 68, 71, 74, 77] : List Nat)[e.toNat]? = some (59 + 3 * e.toNat + 3)) h0 h1 rfl rfl rfl rfl rfl rfl
theorem lr60 {e : Int} (h0 : 0 ≤ e) (h1 : e < 6) : mm_ly (60 + 3 * e.toNat) = some (3, [1, 1]) := mm_six (P := fun e => mm_ly (60 + 3 * e.toNat) = some (3, [1, 1])) h0 h1 rfl rfl rfl rfl rfl rfl
theorem la60 {e : Int} (h0 : 0 ≤ e) (h1 : e < 6) : ([63, 66, 69, 72, 75, 78] : List Nat)[e.toNat]? = some (60 + 3 * e.toNat + 3) := mm_six (P := fun e => ([63, 66, 69, 72, 75, 78] : List Nat)[e.toNat]? = some (60 + 3 * e.toNat + 3)) h0 h1 rfl rfl rfl rfl rfl rfl
theorem lr61 {e : Int} (h0 : 0 ≤ e) (h1 : e < 6) : mm_ly (61 + 3 * e.toNat) = some (3, [1, 1]) := mm_six (P := fun e => mm_ly (61 + 3 * e.toNat) = some (3, [1, 1])) h0 h1 rfl rfl rfl rfl rfl rfl
theorem la61 {e : Int} (h0 : 0 ≤ e) (h1 : e < 6) : ([64, 67, 70, 73, 76, 79] : List Nat)[e.toNat]? = some (61 + 3 * e.toNat + 3) := mm_six (P := fun e => ([64, 67, 70, 73, 76, 79] : List Nat)[e.toNat]? = some (61 + 3 * e.toNat + 3)) h0 h1 rfl rfl rfl rfl rfl rfl
theorem mc0 : mm_code 0 = mm_c0 := rfl
theorem mx0 : mm_maxL 0 = 1 := rfl
theorem mp0 : mm_pl (mm_cn 0) = mm_p0 := rfl
theorem mr0 : mm_ret 0 = (Option.none : Option FieldType) := rfl
theorem mk0 : mm_cls 0 = 0 := rfl
theorem mc1 : mm_code 1 = mm_c1 := rfl
theorem mx1 : mm_maxL 1 = 2 := rfl
theorem mp1 : mm_pl (mm_cn 1) = mm_p0 := rfl
theorem mr1 : mm_ret 1 = (Option.none : Option FieldType) := rfl
theorem mk1 : mm_cls 1 = 0 := rfl
theorem mc2 : mm_code 2 = mm_c2 := rfl
theorem mx2 : mm_maxL 2 = 2 := rfl
theorem mp2 : mm_pl (mm_cn 2) = mm_p0 := rfl
theorem mr2 : mm_ret 2 = (Option.none : Option FieldType) := rfl
theorem mk2 : mm_cls 2 = 0 := rfl
theorem mc3 : mm_code 3 = mm_c3 := rfl
theorem mx3 : mm_maxL 3 = 4 := rfl
theorem mp3 : mm_pl (mm_cn 3) = mm_p0 := rfl
theorem mr3 : mm_ret 3 = (Option.some FieldType.int) := rfl
theorem mk3 : mm_cls 3 = 0 := rfl
theorem mc4 : mm_code 4 = mm_c4 := rfl
theorem mx4 : mm_maxL 4 = 2 := rfl
theorem mp4 : mm_pl (mm_cn 4) = mm_p0 := rfl
theorem mr4 : mm_ret 4 = (Option.none : Option FieldType) := rfl
theorem mk4 : mm_cls 4 = 0 := rfl
theorem mc5 : mm_code 5 = mm_c5 := rfl
theorem mx5 : mm_maxL 5 = 1 := rfl
theorem mp5 : mm_pl (mm_cn 5) = mm_p0 := rfl
theorem mr5 : mm_ret 5 = (Option.some FieldType.int) := rfl
theorem mk5 : mm_cls 5 = 0 := rfl
theorem mc6 : mm_code 6 = mm_c6 := rfl
theorem mx6 : mm_maxL 6 = 1 := rfl
theorem mp6 : mm_pl (mm_cn 6) = mm_p0 := rfl
theorem mr6 : mm_ret 6 = (Option.some FieldType.long) := rfl
theorem mk6 : mm_cls 6 = 0 := rfl
theorem mc7 : mm_code 7 = mm_c7 := rfl
theorem mx7 : mm_maxL 7 = 3 := rfl
theorem mp7 : mm_pl (mm_cn 7) = mm_p0 := rfl
theorem mr7 : mm_ret 7 = (Option.some FieldType.int) := rfl
theorem mk7 : mm_cls 7 = 0 := rfl
theorem mc8 : mm_code 8 = mm_c8 := rfl
theorem mx8 : mm_maxL 8 = 2 := rfl
theorem mp8 : mm_pl (mm_cn 8) = mm_p0 := rfl
theorem mr8 : mm_ret 8 = (Option.some FieldType.int) := rfl
theorem mk8 : mm_cls 8 = 0 := rfl
theorem mc9 : mm_code 9 = mm_c9 := rfl
theorem mx9 : mm_maxL 9 = 3 := rfl
theorem mp9 : mm_pl (mm_cn 9) = mm_p0 := rfl
theorem mr9 : mm_ret 9 = (Option.some FieldType.int) := rfl
theorem mk9 : mm_cls 9 = 0 := rfl
theorem mc10 : mm_code 10 = mm_c10 := rfl
theorem mx10 : mm_maxL 10 = 4 := rfl
theorem mp10 : mm_pl (mm_cn 10) = mm_p0 := rfl
theorem mr10 : mm_ret 10 = (Option.some FieldType.int) := rfl
theorem mk10 : mm_cls 10 = 0 := rfl
theorem mc11 : mm_code 11 = mm_c11 := rfl
theorem mx11 : mm_maxL 11 = 2 := rfl
theorem mp11 : mm_pl (mm_cn 11) = mm_p0 := rfl
theorem mr11 : mm_ret 11 = (Option.some FieldType.int) := rfl
theorem mk11 : mm_cls 11 = 0 := rfl
theorem mc12 : mm_code 12 = mm_c12 := rfl
theorem mx12 : mm_maxL 12 = 4 := rfl
theorem mp12 : mm_pl (mm_cn 12) = mm_p0 := rfl
theorem mr12 : mm_ret 12 = (Option.some FieldType.int) := rfl
theorem mk12 : mm_cls 12 = 0 := rfl
theorem mc13 : mm_code 13 = mm_c13 := rfl
theorem mx13 : mm_maxL 13 = 2 := rfl
theorem mp13 : mm_pl (mm_cn 13) = mm_p0 := rfl
theorem mr13 : mm_ret 13 = (Option.some FieldType.int) := rfl
theorem mk13 : mm_cls 13 = 0 := rfl
theorem mc14 : mm_code 14 = mm_c14 := rfl
theorem mx14 : mm_maxL 14 = 1 := rfl
theorem mp14 : mm_pl (mm_cn 14) = mm_p0 := rfl
theorem mr14 : mm_ret 14 = (Option.some FieldType.int) := rfl
theorem mk14 : mm_cls 14 = 0 := rfl
theorem mc15 : mm_code 15 = mm_c15 := rfl
theorem mx15 : mm_maxL 15 = 3 := rfl
theorem mp15 : mm_pl (mm_cn 15) = mm_p0 := rfl
theorem mr15 : mm_ret 15 = (Option.some FieldType.long) := rfl
theorem mk15 : mm_cls 15 = 0 := rfl
theorem mc16 : mm_code 16 = mm_c16 := rfl
theorem mx16 : mm_maxL 16 = 2 := rfl
theorem mp16 : mm_pl (mm_cn 16) = mm_p0 := rfl
theorem mr16 : mm_ret 16 = (Option.none : Option FieldType) := rfl
theorem mk16 : mm_cls 16 = 0 := rfl
theorem mc17 : mm_code 17 = mm_c17 := rfl
theorem mx17 : mm_maxL 17 = 4 := rfl
theorem mp17 : mm_pl (mm_cn 17) = mm_p0 := rfl
theorem mr17 : mm_ret 17 = (Option.some FieldType.int) := rfl
theorem mk17 : mm_cls 17 = 0 := rfl
theorem mc18 : mm_code 18 = mm_c18 := rfl
theorem mx18 : mm_maxL 18 = 2 := rfl
theorem mp18 : mm_pl (mm_cn 18) = mm_p0 := rfl
theorem mr18 : mm_ret 18 = (Option.none : Option FieldType) := rfl
theorem mk18 : mm_cls 18 = 0 := rfl
theorem mc19 : mm_code 19 = mm_c19 := rfl
theorem mx19 : mm_maxL 19 = 3 := rfl
theorem mp19 : mm_pl (mm_cn 19) = mm_p0 := rfl
theorem mr19 : mm_ret 19 = (Option.some FieldType.long) := rfl
theorem mk19 : mm_cls 19 = 0 := rfl
theorem mc20 : mm_code 20 = mm_c20 := rfl
theorem mx20 : mm_maxL 20 = 4 := rfl
theorem mp20 : mm_pl (mm_cn 20) = mm_p0 := rfl
theorem mr20 : mm_ret 20 = (Option.some FieldType.long) := rfl
theorem mk20 : mm_cls 20 = 0 := rfl
theorem mc21 : mm_code 21 = mm_c21 := rfl
theorem mx21 : mm_maxL 21 = 2 := rfl
theorem mp21 : mm_pl (mm_cn 21) = mm_p0 := rfl
theorem mr21 : mm_ret 21 = (Option.some FieldType.boolean) := rfl
theorem mk21 : mm_cls 21 = 0 := rfl
theorem mc22 : mm_code 22 = mm_c22 := rfl
theorem mx22 : mm_maxL 22 = 2 := rfl
theorem mp22 : mm_pl (mm_cn 22) = mm_p0 := rfl
theorem mr22 : mm_ret 22 = (Option.some FieldType.boolean) := rfl
theorem mk22 : mm_cls 22 = 0 := rfl
theorem mc23 : mm_code 23 = mm_c23 := rfl
theorem mx23 : mm_maxL 23 = 3 := rfl
theorem mp23 : mm_pl (mm_cn 23) = mm_p0 := rfl
theorem mr23 : mm_ret 23 = (Option.some FieldType.boolean) := rfl
theorem mk23 : mm_cls 23 = 0 := rfl
theorem mc24 : mm_code 24 = mm_c24 := rfl
theorem mx24 : mm_maxL 24 = 1 := rfl
theorem mp24 : mm_pl (mm_cn 24) = mm_p1 := rfl
theorem mr24 : mm_ret 24 = (Option.none : Option FieldType) := rfl
theorem mk24 : mm_cls 24 = 1 := rfl
theorem mc25 : mm_code 25 = mm_c25 := rfl
theorem mx25 : mm_maxL 25 = 6 := rfl
theorem mp25 : mm_pl (mm_cn 25) = mm_p1 := rfl
theorem mr25 : mm_ret 25 = (Option.some FieldType.int) := rfl
theorem mk25 : mm_cls 25 = 1 := rfl
theorem mc26 : mm_code 26 = mm_c26 := rfl
theorem mx26 : mm_maxL 26 = 7 := rfl
theorem mp26 : mm_pl (mm_cn 26) = mm_p1 := rfl
theorem mr26 : mm_ret 26 = (Option.none : Option FieldType) := rfl
theorem mk26 : mm_cls 26 = 1 := rfl
theorem mc27 : mm_code 27 = mm_c27 := rfl
theorem mx27 : mm_maxL 27 = 2 := rfl
theorem mp27 : mm_pl (mm_cn 27) = mm_p2 := rfl
theorem mr27 : mm_ret 27 = (Option.none : Option FieldType) := rfl
theorem mk27 : mm_cls 27 = 2 := rfl
theorem mc28 : mm_code 28 = mm_c28 := rfl
theorem mx28 : mm_maxL 28 = 4 := rfl
theorem mp28 : mm_pl (mm_cn 28) = mm_p2 := rfl
theorem mr28 : mm_ret 28 = (Option.none : Option FieldType) := rfl
theorem mk28 : mm_cls 28 = 2 := rfl
theorem mc29 : mm_code 29 = mm_c29 := rfl
theorem mx29 : mm_maxL 29 = 2 := rfl
theorem mp29 : mm_pl (mm_cn 29) = mm_p2 := rfl
theorem mr29 : mm_ret 29 = (Option.none : Option FieldType) := rfl
theorem mk29 : mm_cls 29 = 2 := rfl
theorem mc30 : mm_code 30 = mm_c30 := rfl
theorem mx30 : mm_maxL 30 = 5 := rfl
theorem mp30 : mm_pl (mm_cn 30) = mm_p2 := rfl
theorem mr30 : mm_ret 30 = (Option.some FieldType.int) := rfl
theorem mk30 : mm_cls 30 = 2 := rfl
theorem mc31 : mm_code 31 = mm_c31 := rfl
theorem mx31 : mm_maxL 31 = 1 := rfl
theorem mp31 : mm_pl (mm_cn 31) = mm_p2 := rfl
theorem mr31 : mm_ret 31 = (Option.some FieldType.boolean) := rfl
theorem mk31 : mm_cls 31 = 2 := rfl
theorem mc32 : mm_code 32 = mm_c32 := rfl
theorem mx32 : mm_maxL 32 = 2 := rfl
theorem mp32 : mm_pl (mm_cn 32) = mm_p2 := rfl
theorem mr32 : mm_ret 32 = (Option.some (FieldType.object "FairDesk$Fraction")) := rfl
theorem mk32 : mm_cls 32 = 2 := rfl
theorem mc33 : mm_code 33 = mm_c33 := rfl
theorem mx33 : mm_maxL 33 = 2 := rfl
theorem mp33 : mm_pl (mm_cn 33) = mm_p2 := rfl
theorem mr33 : mm_ret 33 = (Option.some (FieldType.object "FairDesk$Fraction")) := rfl
theorem mk33 : mm_cls 33 = 2 := rfl
theorem mc34 : mm_code 34 = mm_c34 := rfl
theorem mx34 : mm_maxL 34 = 3 := rfl
theorem mp34 : mm_pl (mm_cn 34) = mm_p2 := rfl
theorem mr34 : mm_ret 34 = (Option.some (FieldType.object "FairDesk$Fraction")) := rfl
theorem mk34 : mm_cls 34 = 2 := rfl
theorem mc35 : mm_code 35 = mm_c35 := rfl
theorem mx35 : mm_maxL 35 = 2 := rfl
theorem mp35 : mm_pl (mm_cn 35) = mm_p2 := rfl
theorem mr35 : mm_ret 35 = (Option.none : Option FieldType) := rfl
theorem mk35 : mm_cls 35 = 2 := rfl
theorem mc36 : mm_code 36 = mm_c36 := rfl
theorem mx36 : mm_maxL 36 = 4 := rfl
theorem mp36 : mm_pl (mm_cn 36) = mm_p2 := rfl
theorem mr36 : mm_ret 36 = (Option.none : Option FieldType) := rfl
theorem mk36 : mm_cls 36 = 2 := rfl
theorem mc37 : mm_code 37 = mm_c37 := rfl
theorem mx37 : mm_maxL 37 = 3 := rfl
theorem mp37 : mm_pl (mm_cn 37) = mm_p2 := rfl
theorem mr37 : mm_ret 37 = (Option.some FieldType.int) := rfl
theorem mk37 : mm_cls 37 = 2 := rfl
theorem mc38 : mm_code 38 = mm_c38 := rfl
theorem mx38 : mm_maxL 38 = 2 := rfl
theorem mp38 : mm_pl (mm_cn 38) = mm_p2 := rfl
theorem mr38 : mm_ret 38 = (Option.none : Option FieldType) := rfl
theorem mk38 : mm_cls 38 = 2 := rfl
theorem mc39 : mm_code 39 = mm_c39 := rfl
theorem mx39 : mm_maxL 39 = 2 := rfl
theorem mp39 : mm_pl (mm_cn 39) = mm_p2 := rfl
theorem mr39 : mm_ret 39 = (Option.none : Option FieldType) := rfl
theorem mk39 : mm_cls 39 = 2 := rfl
theorem mc40 : mm_code 40 = mm_c40 := rfl
theorem mx40 : mm_maxL 40 = 9 := rfl
theorem mp40 : mm_pl (mm_cn 40) = mm_p2 := rfl
theorem mr40 : mm_ret 40 = (Option.none : Option FieldType) := rfl
theorem mk40 : mm_cls 40 = 2 := rfl
theorem mc41 : mm_code 41 = mm_c41 := rfl
theorem mx41 : mm_maxL 41 = 6 := rfl
theorem mp41 : mm_pl (mm_cn 41) = mm_p2 := rfl
theorem mr41 : mm_ret 41 = (Option.none : Option FieldType) := rfl
theorem mk41 : mm_cls 41 = 2 := rfl
theorem mc42 : mm_code 42 = mm_c42 := rfl
theorem mx42 : mm_maxL 42 = 3 := rfl
theorem mp42 : mm_pl (mm_cn 42) = mm_p2 := rfl
theorem mr42 : mm_ret 42 = (Option.some FieldType.boolean) := rfl
theorem mk42 : mm_cls 42 = 2 := rfl
theorem mc43 : mm_code 43 = mm_c43 := rfl
theorem mx43 : mm_maxL 43 = 16 := rfl
theorem mp43 : mm_pl (mm_cn 43) = mm_p2 := rfl
theorem mr43 : mm_ret 43 = (Option.none : Option FieldType) := rfl
theorem mk43 : mm_cls 43 = 2 := rfl
theorem mc44 : mm_code 44 = mm_c44 := rfl
theorem mx44 : mm_maxL 44 = 15 := rfl
theorem mp44 : mm_pl (mm_cn 44) = mm_p2 := rfl
theorem mr44 : mm_ret 44 = (Option.none : Option FieldType) := rfl
theorem mk44 : mm_cls 44 = 2 := rfl
theorem mc45 : mm_code 45 = mm_c45 := rfl
theorem mx45 : mm_maxL 45 = 1 := rfl
theorem mp45 : mm_pl (mm_cn 45) = mm_p3 := rfl
theorem mr45 : mm_ret 45 = (Option.none : Option FieldType) := rfl
theorem mk45 : mm_cls 45 = 3 := rfl
theorem mc46 : mm_code 46 = mm_c46 := rfl
theorem mx46 : mm_maxL 46 = 7 := rfl
theorem mp46 : mm_pl (mm_cn 46) = mm_p3 := rfl
theorem mr46 : mm_ret 46 = (Option.none : Option FieldType) := rfl
theorem mk46 : mm_cls 46 = 3 := rfl
theorem mc47 : mm_code 47 = mm_c47 := rfl
theorem mx47 : mm_maxL 47 = 5 := rfl
theorem mp47 : mm_pl (mm_cn 47) = mm_p3 := rfl
theorem mr47 : mm_ret 47 = (Option.none : Option FieldType) := rfl
theorem mk47 : mm_cls 47 = 3 := rfl
theorem mc48 : mm_code 48 = mm_c48 := rfl
theorem mx48 : mm_maxL 48 = 2 := rfl
theorem mp48 : mm_pl (mm_cn 48) = mm_p3 := rfl
theorem mr48 : mm_ret 48 = (Option.none : Option FieldType) := rfl
theorem mk48 : mm_cls 48 = 3 := rfl
theorem mc49 : mm_code 49 = mm_c49 := rfl
theorem mx49 : mm_maxL 49 = 2 := rfl
theorem mp49 : mm_pl (mm_cn 49) = mm_p3 := rfl
theorem mr49 : mm_ret 49 = (Option.some FieldType.long) := rfl
theorem mk49 : mm_cls 49 = 3 := rfl
theorem mc50 : mm_code 50 = mm_c50 := rfl
theorem mx50 : mm_maxL 50 = 2 := rfl
theorem mp50 : mm_pl (mm_cn 50) = mm_p3 := rfl
theorem mr50 : mm_ret 50 = (Option.some FieldType.boolean) := rfl
theorem mk50 : mm_cls 50 = 3 := rfl
theorem mc51 : mm_code 51 = mm_c51 := rfl
theorem mx51 : mm_maxL 51 = 2 := rfl
theorem mp51 : mm_pl (mm_cn 51) = mm_p3 := rfl
theorem mr51 : mm_ret 51 = (Option.some FieldType.long) := rfl
theorem mk51 : mm_cls 51 = 3 := rfl
theorem mc52 : mm_code 52 = mm_c52 := rfl
theorem mx52 : mm_maxL 52 = 3 := rfl
theorem mp52 : mm_pl (mm_cn 52) = mm_p3 := rfl
theorem mr52 : mm_ret 52 = (Option.some FieldType.long) := rfl
theorem mk52 : mm_cls 52 = 3 := rfl
theorem mc53 : mm_code 53 = mm_c53 := rfl
theorem mx53 : mm_maxL 53 = 7 := rfl
theorem mp53 : mm_pl (mm_cn 53) = mm_p3 := rfl
theorem mr53 : mm_ret 53 = (Option.some FieldType.long) := rfl
theorem mk53 : mm_cls 53 = 3 := rfl
theorem mc54 : mm_code 54 = mm_c54 := rfl
theorem mx54 : mm_maxL 54 = 1 := rfl
theorem mp54 : mm_pl (mm_cn 54) = mm_p4 := rfl
theorem mr54 : mm_ret 54 = (Option.none : Option FieldType) := rfl
theorem mk54 : mm_cls 54 = 4 := rfl
theorem mc55 : mm_code 55 = mm_c55 := rfl
theorem mx55 : mm_maxL 55 = 2 := rfl
theorem mp55 : mm_pl (mm_cn 55) = mm_p4 := rfl
theorem mr55 : mm_ret 55 = (Option.none : Option FieldType) := rfl
theorem mk55 : mm_cls 55 = 4 := rfl
theorem mc56 : mm_code 56 = mm_c56 := rfl
theorem mx56 : mm_maxL 56 = 4 := rfl
theorem mp56 : mm_pl (mm_cn 56) = mm_p4 := rfl
theorem mr56 : mm_ret 56 = (Option.none : Option FieldType) := rfl
theorem mk56 : mm_cls 56 = 4 := rfl
theorem mc57 : mm_code 57 = mm_c57 := rfl
theorem mx57 : mm_maxL 57 = 1 := rfl
theorem mp57 : mm_pl (mm_cn 57) = mm_p4 := rfl
theorem mr57 : mm_ret 57 = (Option.some FieldType.int) := rfl
theorem mk57 : mm_cls 57 = 4 := rfl
theorem mc58 : mm_code 58 = mm_c58 := rfl
theorem mx58 : mm_maxL 58 = 5 := rfl
theorem mp58 : mm_pl (mm_cn 58) = mm_p4 := rfl
theorem mr58 : mm_ret 58 = (Option.some FieldType.int) := rfl
theorem mk58 : mm_cls 58 = 4 := rfl
theorem mc59 : mm_code 59 = mm_c59 := rfl
theorem mx59 : mm_maxL 59 = 4 := rfl
theorem mp59 : mm_pl (mm_cn 59) = mm_p4 := rfl
theorem mr59 : mm_ret 59 = (Option.some FieldType.int) := rfl
theorem mk59 : mm_cls 59 = 4 := rfl
theorem mc60 : mm_code 60 = mm_c60 := rfl
theorem mx60 : mm_maxL 60 = 2 := rfl
theorem mp60 : mm_pl (mm_cn 60) = mm_p4 := rfl
theorem mr60 : mm_ret 60 = (Option.some FieldType.int) := rfl
theorem mk60 : mm_cls 60 = 4 := rfl
theorem mc61 : mm_code 61 = mm_c61 := rfl
theorem mx61 : mm_maxL 61 = 5 := rfl
theorem mp61 : mm_pl (mm_cn 61) = mm_p4 := rfl
theorem mr61 : mm_ret 61 = (Option.some FieldType.int) := rfl
theorem mk61 : mm_cls 61 = 4 := rfl
theorem mc62 : mm_code 62 = mm_c62 := rfl
theorem mx62 : mm_maxL 62 = 5 := rfl
theorem mp62 : mm_pl (mm_cn 62) = mm_p4 := rfl
theorem mr62 : mm_ret 62 = (Option.some FieldType.int) := rfl
theorem mk62 : mm_cls 62 = 4 := rfl
theorem mc63 : mm_code 63 = mm_c63 := rfl
theorem mx63 : mm_maxL 63 = 5 := rfl
theorem mp63 : mm_pl (mm_cn 63) = mm_p4 := rfl
theorem mr63 : mm_ret 63 = (Option.some FieldType.int) := rfl
theorem mk63 : mm_cls 63 = 4 := rfl
theorem mc64 : mm_code 64 = mm_c64 := rfl
theorem mx64 : mm_maxL 64 = 3 := rfl
theorem mp64 : mm_pl (mm_cn 64) = mm_p4 := rfl
theorem mr64 : mm_ret 64 = (Option.some FieldType.boolean) := rfl
theorem mk64 : mm_cls 64 = 4 := rfl
theorem mc65 : mm_code 65 = mm_c65 := rfl
theorem mx65 : mm_maxL 65 = 5 := rfl
theorem mp65 : mm_pl (mm_cn 65) = mm_p4 := rfl
theorem mr65 : mm_ret 65 = (Option.none : Option FieldType) := rfl
theorem mk65 : mm_cls 65 = 4 := rfl
theorem mc66 : mm_code 66 = mm_c66 := rfl
theorem mx66 : mm_maxL 66 = 4 := rfl
theorem mp66 : mm_pl (mm_cn 66) = mm_p4 := rfl
theorem mr66 : mm_ret 66 = (Option.some FieldType.int) := rfl
theorem mk66 : mm_cls 66 = 4 := rfl
theorem mc67 : mm_code 67 = mm_c67 := rfl
theorem mx67 : mm_maxL 67 = 5 := rfl
theorem mp67 : mm_pl (mm_cn 67) = mm_p4 := rfl
theorem mr67 : mm_ret 67 = (Option.some FieldType.int) := rfl
theorem mk67 : mm_cls 67 = 4 := rfl
theorem mc68 : mm_code 68 = mm_c68 := rfl
theorem mx68 : mm_maxL 68 = 3 := rfl
theorem mp68 : mm_pl (mm_cn 68) = mm_p4 := rfl
theorem mr68 : mm_ret 68 = (Option.some FieldType.int) := rfl
theorem mk68 : mm_cls 68 = 4 := rfl
theorem mc69 : mm_code 69 = mm_c69 := rfl
theorem mx69 : mm_maxL 69 = 3 := rfl
theorem mp69 : mm_pl (mm_cn 69) = mm_p4 := rfl
theorem mr69 : mm_ret 69 = (Option.some FieldType.int) := rfl
theorem mk69 : mm_cls 69 = 4 := rfl
theorem mc70 : mm_code 70 = mm_c70 := rfl
theorem mx70 : mm_maxL 70 = 4 := rfl
theorem mp70 : mm_pl (mm_cn 70) = mm_p4 := rfl
theorem mr70 : mm_ret 70 = (Option.none : Option FieldType) := rfl
theorem mk70 : mm_cls 70 = 4 := rfl
theorem mc71 : mm_code 71 = mm_c71 := rfl
theorem mx71 : mm_maxL 71 = 1 := rfl
theorem mp71 : mm_pl (mm_cn 71) = mm_p4 := rfl
theorem mr71 : mm_ret 71 = (Option.some FieldType.long) := rfl
theorem mk71 : mm_cls 71 = 4 := rfl
theorem mc72 : mm_code 72 = mm_c72 := rfl
theorem mx72 : mm_maxL 72 = 2 := rfl
theorem mp72 : mm_pl (mm_cn 72) = mm_p4 := rfl
theorem mr72 : mm_ret 72 = (Option.some FieldType.int) := rfl
theorem mk72 : mm_cls 72 = 4 := rfl
theorem mc73 : mm_code 73 = mm_c73 := rfl
theorem mx73 : mm_maxL 73 = 2 := rfl
theorem mp73 : mm_pl (mm_cn 73) = mm_p4 := rfl
theorem mr73 : mm_ret 73 = (Option.none : Option FieldType) := rfl
theorem mk73 : mm_cls 73 = 4 := rfl
theorem mc74 : mm_code 74 = mm_c74 := rfl
theorem mx74 : mm_maxL 74 = 2 := rfl
theorem mp74 : mm_pl (mm_cn 74) = mm_p5 := rfl
theorem mr74 : mm_ret 74 = (Option.none : Option FieldType) := rfl
theorem mk74 : mm_cls 74 = 5 := rfl
theorem mc75 : mm_code 75 = mm_c75 := rfl
theorem mx75 : mm_maxL 75 = 4 := rfl
theorem mp75 : mm_pl (mm_cn 75) = mm_p5 := rfl
theorem mr75 : mm_ret 75 = (Option.none : Option FieldType) := rfl
theorem mk75 : mm_cls 75 = 5 := rfl
theorem mc76 : mm_code 76 = mm_c76 := rfl
theorem mx76 : mm_maxL 76 = 5 := rfl
theorem mp76 : mm_pl (mm_cn 76) = mm_p5 := rfl
theorem mr76 : mm_ret 76 = (Option.some FieldType.int) := rfl
theorem mk76 : mm_cls 76 = 5 := rfl
theorem mc77 : mm_code 77 = mm_c77 := rfl
theorem mx77 : mm_maxL 77 = 3 := rfl
theorem mp77 : mm_pl (mm_cn 77) = mm_p5 := rfl
theorem mr77 : mm_ret 77 = (Option.some FieldType.int) := rfl
theorem mk77 : mm_cls 77 = 5 := rfl
theorem mc78 : mm_code 78 = mm_c78 := rfl
theorem mx78 : mm_maxL 78 = 4 := rfl
theorem mp78 : mm_pl (mm_cn 78) = mm_p5 := rfl
theorem mr78 : mm_ret 78 = (Option.some FieldType.boolean) := rfl
theorem mk78 : mm_cls 78 = 5 := rfl
theorem mc79 : mm_code 79 = mm_c79 := rfl
theorem mx79 : mm_maxL 79 = 1 := rfl
theorem mp79 : mm_pl (mm_cn 79) = mm_p5 := rfl
theorem mr79 : mm_ret 79 = (Option.some FieldType.boolean) := rfl
theorem mk79 : mm_cls 79 = 5 := rfl
theorem mc80 : mm_code 80 = mm_c80 := rfl
theorem mx80 : mm_maxL 80 = 2 := rfl
theorem mp80 : mm_pl (mm_cn 80) = mm_p5 := rfl
theorem mr80 : mm_ret 80 = (Option.some FieldType.int) := rfl
theorem mk80 : mm_cls 80 = 5 := rfl
theorem mc81 : mm_code 81 = mm_c81 := rfl
theorem mx81 : mm_maxL 81 = 2 := rfl
theorem mp81 : mm_pl (mm_cn 81) = mm_p5 := rfl
theorem mr81 : mm_ret 81 = (Option.some (FieldType.object "FairDesk$Fraction")) := rfl
theorem mk81 : mm_cls 81 = 5 := rfl
theorem mc82 : mm_code 82 = mm_c82 := rfl
theorem mx82 : mm_maxL 82 = 1 := rfl
theorem mp82 : mm_pl (mm_cn 82) = mm_p5 := rfl
theorem mr82 : mm_ret 82 = (Option.some FieldType.int) := rfl
theorem mk82 : mm_cls 82 = 5 := rfl
theorem mc83 : mm_code 83 = mm_c83 := rfl
theorem mx83 : mm_maxL 83 = 5 := rfl
theorem mp83 : mm_pl (mm_cn 83) = mm_p5 := rfl
theorem mr83 : mm_ret 83 = (Option.none : Option FieldType) := rfl
theorem mk83 : mm_cls 83 = 5 := rfl
theorem mc84 : mm_code 84 = mm_c84 := rfl
theorem mx84 : mm_maxL 84 = 5 := rfl
theorem mp84 : mm_pl (mm_cn 84) = mm_p5 := rfl
theorem mr84 : mm_ret 84 = (Option.none : Option FieldType) := rfl
theorem mk84 : mm_cls 84 = 5 := rfl
theorem mc85 : mm_code 85 = mm_c85 := rfl
theorem mx85 : mm_maxL 85 = 6 := rfl
theorem mp85 : mm_pl (mm_cn 85) = mm_p5 := rfl
theorem mr85 : mm_ret 85 = (Option.none : Option FieldType) := rfl
theorem mk85 : mm_cls 85 = 5 := rfl
theorem mc86 : mm_code 86 = mm_c86 := rfl
theorem mx86 : mm_maxL 86 = 1 := rfl
theorem mp86 : mm_pl (mm_cn 86) = mm_p6 := rfl
theorem mr86 : mm_ret 86 = (Option.none : Option FieldType) := rfl
theorem mk86 : mm_cls 86 = 6 := rfl
theorem mc87 : mm_code 87 = mm_c87 := rfl
theorem mx87 : mm_maxL 87 = 7 := rfl
theorem mp87 : mm_pl (mm_cn 87) = mm_p6 := rfl
theorem mr87 : mm_ret 87 = (Option.some FieldType.long) := rfl
theorem mk87 : mm_cls 87 = 6 := rfl
theorem mc88 : mm_code 88 = mm_c88 := rfl
theorem mx88 : mm_maxL 88 = 7 := rfl
theorem mp88 : mm_pl (mm_cn 88) = mm_p6 := rfl
theorem mr88 : mm_ret 88 = (Option.none : Option FieldType) := rfl
theorem mk88 : mm_cls 88 = 6 := rfl
theorem mc89 : mm_code 89 = mm_c89 := rfl
theorem mx89 : mm_maxL 89 = 3 := rfl
theorem mp89 : mm_pl (mm_cn 89) = mm_p6 := rfl
theorem mr89 : mm_ret 89 = (Option.some FieldType.long) := rfl
theorem mk89 : mm_cls 89 = 6 := rfl
theorem mc90 : mm_code 90 = mm_c90 := rfl
theorem mx90 : mm_maxL 90 = 1 := rfl
theorem mp90 : mm_pl (mm_cn 90) = mm_p7 := rfl
theorem mr90 : mm_ret 90 = (Option.none : Option FieldType) := rfl
theorem mk90 : mm_cls 90 = 7 := rfl
theorem mc91 : mm_code 91 = mm_c91 := rfl
theorem mx91 : mm_maxL 91 = 3 := rfl
theorem mp91 : mm_pl (mm_cn 91) = mm_p7 := rfl
theorem mr91 : mm_ret 91 = (Option.none : Option FieldType) := rfl
theorem mk91 : mm_cls 91 = 7 := rfl
theorem mc92 : mm_code 92 = mm_c92 := rfl
theorem mx92 : mm_maxL 92 = 5 := rfl
theorem mp92 : mm_pl (mm_cn 92) = mm_p7 := rfl
theorem mr92 : mm_ret 92 = (Option.some FieldType.int) := rfl
theorem mk92 : mm_cls 92 = 7 := rfl
theorem mc93 : mm_code 93 = mm_c93 := rfl
theorem mx93 : mm_maxL 93 = 3 := rfl
theorem mp93 : mm_pl (mm_cn 93) = mm_p7 := rfl
theorem mr93 : mm_ret 93 = (Option.some FieldType.boolean) := rfl
theorem mk93 : mm_cls 93 = 7 := rfl
theorem mc94 : mm_code 94 = mm_c94 := rfl
theorem mx94 : mm_maxL 94 = 2 := rfl
theorem mp94 : mm_pl (mm_cn 94) = mm_p7 := rfl
theorem mr94 : mm_ret 94 = (Option.none : Option FieldType) := rfl
theorem mk94 : mm_cls 94 = 7 := rfl
theorem mc95 : mm_code 95 = mm_c95 := rfl
theorem mx95 : mm_maxL 95 = 4 := rfl
theorem mp95 : mm_pl (mm_cn 95) = mm_p7 := rfl
theorem mr95 : mm_ret 95 = (Option.some FieldType.int) := rfl
theorem mk95 : mm_cls 95 = 7 := rfl
theorem mc96 : mm_code 96 = mm_c96 := rfl
theorem mx96 : mm_maxL 96 = 8 := rfl
theorem mp96 : mm_pl (mm_cn 96) = mm_p7 := rfl
theorem mr96 : mm_ret 96 = (Option.none : Option FieldType) := rfl
theorem mk96 : mm_cls 96 = 7 := rfl
theorem mc97 : mm_code 97 = mm_c97 := rfl
theorem mx97 : mm_maxL 97 = 3 := rfl
theorem mp97 : mm_pl (mm_cn 97) = mm_p7 := rfl
theorem mr97 : mm_ret 97 = (Option.some FieldType.int) := rfl
theorem mk97 : mm_cls 97 = 7 := rfl
theorem mc98 : mm_code 98 = mm_c98 := rfl
theorem mx98 : mm_maxL 98 = 4 := rfl
theorem mp98 : mm_pl (mm_cn 98) = mm_p7 := rfl
theorem mr98 : mm_ret 98 = (Option.none : Option FieldType) := rfl
theorem mk98 : mm_cls 98 = 7 := rfl
theorem mc99 : mm_code 99 = mm_c99 := rfl
theorem mx99 : mm_maxL 99 = 8 := rfl
theorem mp99 : mm_pl (mm_cn 99) = mm_p7 := rfl
theorem mr99 : mm_ret 99 = (Option.none : Option FieldType) := rfl
theorem mk99 : mm_cls 99 = 7 := rfl
theorem mc100 : mm_code 100 = mm_c100 := rfl
theorem mx100 : mm_maxL 100 = 10 := rfl
theorem mp100 : mm_pl (mm_cn 100) = mm_p7 := rfl
theorem mr100 : mm_ret 100 = (Option.some FieldType.long) := rfl
theorem mk100 : mm_cls 100 = 7 := rfl
theorem mc101 : mm_code 101 = mm_c101 := rfl
theorem mx101 : mm_maxL 101 = 5 := rfl
theorem mp101 : mm_pl (mm_cn 101) = mm_p7 := rfl
theorem mr101 : mm_ret 101 = (Option.none : Option FieldType) := rfl
theorem mk101 : mm_cls 101 = 7 := rfl
theorem mc102 : mm_code 102 = mm_c102 := rfl
theorem mx102 : mm_maxL 102 = 7 := rfl
theorem mp102 : mm_pl (mm_cn 102) = mm_p7 := rfl
theorem mr102 : mm_ret 102 = (Option.none : Option FieldType) := rfl
theorem mk102 : mm_cls 102 = 7 := rfl
theorem mc103 : mm_code 103 = mm_c103 := rfl
theorem mx103 : mm_maxL 103 = 7 := rfl
theorem mp103 : mm_pl (mm_cn 103) = mm_p7 := rfl
theorem mr103 : mm_ret 103 = (Option.none : Option FieldType) := rfl
theorem mk103 : mm_cls 103 = 7 := rfl
theorem mc104 : mm_code 104 = mm_c104 := rfl
theorem mx104 : mm_maxL 104 = 14 := rfl
theorem mp104 : mm_pl (mm_cn 104) = mm_p7 := rfl
theorem mr104 : mm_ret 104 = (Option.none : Option FieldType) := rfl
theorem mk104 : mm_cls 104 = 7 := rfl
theorem mc105 : mm_code 105 = mm_c105 := rfl
theorem mx105 : mm_maxL 105 = 16 := rfl
theorem mp105 : mm_pl (mm_cn 105) = mm_p7 := rfl
theorem mr105 : mm_ret 105 = (Option.none : Option FieldType) := rfl
theorem mk105 : mm_cls 105 = 7 := rfl
theorem mc106 : mm_code 106 = mm_c106 := rfl
theorem mx106 : mm_maxL 106 = 9 := rfl
theorem mp106 : mm_pl (mm_cn 106) = mm_p7 := rfl
theorem mr106 : mm_ret 106 = (Option.none : Option FieldType) := rfl
theorem mk106 : mm_cls 106 = 7 := rfl
theorem mc107 : mm_code 107 = mm_c107 := rfl
theorem mx107 : mm_maxL 107 = 10 := rfl
theorem mp107 : mm_pl (mm_cn 107) = mm_p7 := rfl
theorem mr107 : mm_ret 107 = (Option.none : Option FieldType) := rfl
theorem mk107 : mm_cls 107 = 7 := rfl
theorem mc108 : mm_code 108 = mm_c108 := rfl
theorem mx108 : mm_maxL 108 = 3 := rfl
theorem mp108 : mm_pl (mm_cn 108) = mm_p7 := rfl
theorem mr108 : mm_ret 108 = (Option.some FieldType.int) := rfl
theorem mk108 : mm_cls 108 = 7 := rfl
theorem mc109 : mm_code 109 = mm_c109 := rfl
theorem mx109 : mm_maxL 109 = 5 := rfl
theorem mp109 : mm_pl (mm_cn 109) = mm_p7 := rfl
theorem mr109 : mm_ret 109 = (Option.none : Option FieldType) := rfl
theorem mk109 : mm_cls 109 = 7 := rfl
theorem mc110 : mm_code 110 = mm_c110 := rfl
theorem mx110 : mm_maxL 110 = 10 := rfl
theorem mp110 : mm_pl (mm_cn 110) = mm_p7 := rfl
theorem mr110 : mm_ret 110 = (Option.some FieldType.int) := rfl
theorem mk110 : mm_cls 110 = 7 := rfl
theorem mc111 : mm_code 111 = mm_c111 := rfl
theorem mx111 : mm_maxL 111 = 1 := rfl
theorem mp111 : mm_pl (mm_cn 111) = mm_p7 := rfl
theorem mr111 : mm_ret 111 = (Option.some FieldType.int) := rfl
theorem mk111 : mm_cls 111 = 7 := rfl
theorem mc112 : mm_code 112 = mm_c112 := rfl
theorem mx112 : mm_maxL 112 = 2 := rfl
theorem mp112 : mm_pl (mm_cn 112) = mm_p7 := rfl
theorem mr112 : mm_ret 112 = (Option.some FieldType.boolean) := rfl
theorem mk112 : mm_cls 112 = 7 := rfl
theorem mc113 : mm_code 113 = mm_c113 := rfl
theorem mx113 : mm_maxL 113 = 2 := rfl
theorem mp113 : mm_pl (mm_cn 113) = mm_p7 := rfl
theorem mr113 : mm_ret 113 = (Option.some FieldType.boolean) := rfl
theorem mk113 : mm_cls 113 = 7 := rfl
theorem mc114 : mm_code 114 = mm_c114 := rfl
theorem mx114 : mm_maxL 114 = 2 := rfl
theorem mp114 : mm_pl (mm_cn 114) = mm_p7 := rfl
theorem mr114 : mm_ret 114 = (Option.none : Option FieldType) := rfl
theorem mk114 : mm_cls 114 = 7 := rfl
theorem mc115 : mm_code 115 = mm_c115 := rfl
theorem mx115 : mm_maxL 115 = 4 := rfl
theorem mp115 : mm_pl (mm_cn 115) = mm_p7 := rfl
theorem mr115 : mm_ret 115 = (Option.none : Option FieldType) := rfl
theorem mk115 : mm_cls 115 = 7 := rfl
theorem mc116 : mm_code 116 = mm_c116 := rfl
theorem mx116 : mm_maxL 116 = 5 := rfl
theorem mp116 : mm_pl (mm_cn 116) = mm_p7 := rfl
theorem mr116 : mm_ret 116 = (Option.some FieldType.int) := rfl
theorem mk116 : mm_cls 116 = 7 := rfl
theorem mc117 : mm_code 117 = mm_c117 := rfl
theorem mx117 : mm_maxL 117 = 6 := rfl
theorem mp117 : mm_pl (mm_cn 117) = mm_p7 := rfl
theorem mr117 : mm_ret 117 = (Option.none : Option FieldType) := rfl
theorem mk117 : mm_cls 117 = 7 := rfl
theorem mc118 : mm_code 118 = mm_c118 := rfl
theorem mx118 : mm_maxL 118 = 4 := rfl
theorem mp118 : mm_pl (mm_cn 118) = mm_p7 := rfl
theorem mr118 : mm_ret 118 = (Option.some FieldType.int) := rfl
theorem mk118 : mm_cls 118 = 7 := rfl
theorem mc119 : mm_code 119 = mm_c119 := rfl
theorem mx119 : mm_maxL 119 = 11 := rfl
theorem mp119 : mm_pl (mm_cn 119) = mm_p7 := rfl
theorem mr119 : mm_ret 119 = (Option.some FieldType.long) := rfl
theorem mk119 : mm_cls 119 = 7 := rfl
theorem mc120 : mm_code 120 = mm_c120 := rfl
theorem mx120 : mm_maxL 120 = 4 := rfl
theorem mp120 : mm_pl (mm_cn 120) = mm_p7 := rfl
theorem mr120 : mm_ret 120 = (Option.some FieldType.int) := rfl
theorem mk120 : mm_cls 120 = 7 := rfl
theorem mc121 : mm_code 121 = mm_c121 := rfl
theorem mx121 : mm_maxL 121 = 2 := rfl
theorem mp121 : mm_pl (mm_cn 121) = mm_p7 := rfl
theorem mr121 : mm_ret 121 = (Option.some FieldType.int) := rfl
theorem mk121 : mm_cls 121 = 7 := rfl
theorem mc122 : mm_code 122 = mm_c122 := rfl
theorem mx122 : mm_maxL 122 = 3 := rfl
theorem mp122 : mm_pl (mm_cn 122) = mm_p7 := rfl
theorem mr122 : mm_ret 122 = (Option.some FieldType.int) := rfl
theorem mk122 : mm_cls 122 = 7 := rfl
theorem mc123 : mm_code 123 = mm_c123 := rfl
theorem mx123 : mm_maxL 123 = 6 := rfl
theorem mp123 : mm_pl (mm_cn 123) = mm_p7 := rfl
theorem mr123 : mm_ret 123 = (Option.some FieldType.int) := rfl
theorem mk123 : mm_cls 123 = 7 := rfl
theorem mc124 : mm_code 124 = mm_c124 := rfl
theorem mx124 : mm_maxL 124 = 7 := rfl
theorem mp124 : mm_pl (mm_cn 124) = mm_p7 := rfl
theorem mr124 : mm_ret 124 = (Option.some FieldType.int) := rfl
theorem mk124 : mm_cls 124 = 7 := rfl
theorem mc125 : mm_code 125 = mm_c125 := rfl
theorem mx125 : mm_maxL 125 = 5 := rfl
theorem mp125 : mm_pl (mm_cn 125) = mm_p7 := rfl
theorem mr125 : mm_ret 125 = (Option.some FieldType.int) := rfl
theorem mk125 : mm_cls 125 = 7 := rfl
theorem mc126 : mm_code 126 = mm_c126 := rfl
theorem mx126 : mm_maxL 126 = 3 := rfl
theorem mp126 : mm_pl (mm_cn 126) = mm_p7 := rfl
theorem mr126 : mm_ret 126 = (Option.some FieldType.int) := rfl
theorem mk126 : mm_cls 126 = 7 := rfl
theorem mc127 : mm_code 127 = mm_c127 := rfl
theorem mx127 : mm_maxL 127 = 6 := rfl
theorem mp127 : mm_pl (mm_cn 127) = mm_p7 := rfl
theorem mr127 : mm_ret 127 = (Option.some FieldType.int) := rfl
theorem mk127 : mm_cls 127 = 7 := rfl
theorem mc128 : mm_code 128 = mm_c128 := rfl
theorem mx128 : mm_maxL 128 = 3 := rfl
theorem mp128 : mm_pl (mm_cn 128) = mm_p7 := rfl
theorem mr128 : mm_ret 128 = (Option.some FieldType.long) := rfl
theorem mk128 : mm_cls 128 = 7 := rfl
theorem mc129 : mm_code 129 = mm_c129 := rfl
theorem mx129 : mm_maxL 129 = 2 := rfl
theorem mp129 : mm_pl (mm_cn 129) = mm_p7 := rfl
theorem mr129 : mm_ret 129 = (Option.none : Option FieldType) := rfl
theorem mk129 : mm_cls 129 = 7 := rfl
theorem mc130 : mm_code 130 = mm_c130 := rfl
theorem mx130 : mm_maxL 130 = 5 := rfl
theorem mp130 : mm_pl (mm_cn 130) = mm_p7 := rfl
theorem mr130 : mm_ret 130 = (Option.some FieldType.int) := rfl
theorem mk130 : mm_cls 130 = 7 := rfl
theorem mc131 : mm_code 131 = mm_c131 := rfl
theorem mx131 : mm_maxL 131 = 2 := rfl
theorem mp131 : mm_pl (mm_cn 131) = mm_p7 := rfl
theorem mr131 : mm_ret 131 = (Option.none : Option FieldType) := rfl
theorem mk131 : mm_cls 131 = 7 := rfl
theorem mc132 : mm_code 132 = mm_c132 := rfl
theorem mx132 : mm_maxL 132 = 3 := rfl
theorem mp132 : mm_pl (mm_cn 132) = mm_p7 := rfl
theorem mr132 : mm_ret 132 = (Option.some FieldType.long) := rfl
theorem mk132 : mm_cls 132 = 7 := rfl
theorem mc133 : mm_code 133 = mm_c133 := rfl
theorem mx133 : mm_maxL 133 = 4 := rfl
theorem mp133 : mm_pl (mm_cn 133) = mm_p7 := rfl
theorem mr133 : mm_ret 133 = (Option.some FieldType.long) := rfl
theorem mk133 : mm_cls 133 = 7 := rfl
theorem mc134 : mm_code 134 = mm_c134 := rfl
theorem mx134 : mm_maxL 134 = 3 := rfl
theorem mp134 : mm_pl (mm_cn 134) = mm_p8 := rfl
theorem mr134 : mm_ret 134 = (Option.some FieldType.int) := rfl
theorem mc135 : mm_code 135 = mm_c135 := rfl
theorem mx135 : mm_maxL 135 = 3 := rfl
theorem mp135 : mm_pl (mm_cn 135) = mm_p8 := rfl
theorem mr135 : mm_ret 135 = (Option.some FieldType.int) := rfl
theorem mc136 : mm_code 136 = mm_c136 := rfl
theorem mx136 : mm_maxL 136 = 6 := rfl
theorem mp136 : mm_pl (mm_cn 136) = mm_p8 := rfl
theorem mr136 : mm_ret 136 = (Option.some FieldType.int) := rfl
theorem mc137 : mm_code 137 = mm_c137 := rfl
theorem mx137 : mm_maxL 137 = 3 := rfl
theorem mp137 : mm_pl (mm_cn 137) = mm_p8 := rfl
theorem mr137 : mm_ret 137 = (Option.some FieldType.int) := rfl
theorem mc138 : mm_code 138 = mm_c138 := rfl
theorem mx138 : mm_maxL 138 = 3 := rfl
theorem mp138 : mm_pl (mm_cn 138) = mm_p8 := rfl
theorem mr138 : mm_ret 138 = (Option.some FieldType.int) := rfl
theorem mc139 : mm_code 139 = mm_c139 := rfl
theorem mx139 : mm_maxL 139 = 5 := rfl
theorem mp139 : mm_pl (mm_cn 139) = mm_p8 := rfl
theorem mr139 : mm_ret 139 = (Option.some FieldType.int) := rfl
theorem mc140 : mm_code 140 = mm_c140 := rfl
theorem mx140 : mm_maxL 140 = 4 := rfl
theorem mp140 : mm_pl (mm_cn 140) = mm_p8 := rfl
theorem mr140 : mm_ret 140 = (Option.some FieldType.int) := rfl
theorem mc141 : mm_code 141 = mm_c141 := rfl
theorem mx141 : mm_maxL 141 = 5 := rfl
theorem mp141 : mm_pl (mm_cn 141) = mm_p8 := rfl
theorem mr141 : mm_ret 141 = (Option.some FieldType.int) := rfl
theorem mc142 : mm_code 142 = mm_c142 := rfl
theorem mx142 : mm_maxL 142 = 6 := rfl
theorem mp142 : mm_pl (mm_cn 142) = mm_p8 := rfl
theorem mr142 : mm_ret 142 = (Option.some FieldType.int) := rfl
theorem mc143 : mm_code 143 = mm_c143 := rfl
theorem mx143 : mm_maxL 143 = 4 := rfl
theorem mp143 : mm_pl (mm_cn 143) = mm_p8 := rfl
theorem mr143 : mm_ret 143 = (Option.some FieldType.int) := rfl
theorem mc144 : mm_code 144 = mm_c144 := rfl
theorem mx144 : mm_maxL 144 = 6 := rfl
theorem mp144 : mm_pl (mm_cn 144) = mm_p8 := rfl
theorem mr144 : mm_ret 144 = (Option.some FieldType.int) := rfl
theorem mc145 : mm_code 145 = mm_c145 := rfl
theorem mx145 : mm_maxL 145 = 4 := rfl
theorem mp145 : mm_pl (mm_cn 145) = mm_p8 := rfl
theorem mr145 : mm_ret 145 = (Option.some FieldType.int) := rfl
theorem mc146 : mm_code 146 = mm_c146 := rfl
theorem mx146 : mm_maxL 146 = 3 := rfl
theorem mp146 : mm_pl (mm_cn 146) = mm_p8 := rfl
theorem mr146 : mm_ret 146 = (Option.some FieldType.int) := rfl
theorem mc147 : mm_code 147 = mm_c147 := rfl
theorem mx147 : mm_maxL 147 = 5 := rfl
theorem mp147 : mm_pl (mm_cn 147) = mm_p8 := rfl
theorem mr147 : mm_ret 147 = (Option.some FieldType.int) := rfl
theorem mc148 : mm_code 148 = mm_c148 := rfl
theorem mx148 : mm_maxL 148 = 3 := rfl
theorem mp148 : mm_pl (mm_cn 148) = mm_p8 := rfl
theorem mr148 : mm_ret 148 = (Option.some FieldType.int) := rfl
theorem mc149 : mm_code 149 = mm_c149 := rfl
theorem mx149 : mm_maxL 149 = 6 := rfl
theorem mp149 : mm_pl (mm_cn 149) = mm_p8 := rfl
theorem mr149 : mm_ret 149 = (Option.some FieldType.int) := rfl
theorem mc150 : mm_code 150 = mm_c150 := rfl
theorem mx150 : mm_maxL 150 = 5 := rfl
theorem mp150 : mm_pl (mm_cn 150) = mm_p8 := rfl
theorem mr150 : mm_ret 150 = (Option.some FieldType.int) := rfl
theorem mc151 : mm_code 151 = mm_c151 := rfl
theorem mx151 : mm_maxL 151 = 6 := rfl
theorem mp151 : mm_pl (mm_cn 151) = mm_p8 := rfl
theorem mr151 : mm_ret 151 = (Option.some FieldType.int) := rfl
theorem mc152 : mm_code 152 = mm_c152 := rfl
theorem mx152 : mm_maxL 152 = 8 := rfl
theorem mp152 : mm_pl (mm_cn 152) = mm_p8 := rfl
theorem mr152 : mm_ret 152 = (Option.some FieldType.boolean) := rfl
end
section
/-! Calls that make nothing. -/
theorem mm_E.to {w d j pc : Nat} {V V' : ML} {S : List Value} {M : MH} {r : MR} (h : mm_E w d j pc V' S M r) (hs : mm_sub V' V) : mm_E w d j pc V S M r := h.sub hs
section RV
variable {w d j pc k : Nat} {V : ML} {S S' : List Value} {X : List Value} {A : MF} {M : MH} {r : MR} {a ci tp : Nat} {u : Int} {ts : List Nat}
theorem mm_E.callV0 {j' n d0 mx : Nat} {V0 : ML} {v : Option Value} {M' : MH} (hat : mm_at j pc = some (.invokevirtual k)) (hp : mm_pool j k = some (tp, j', n, u)) (ht : (Nat.beq tp 2 || Nat.beq tp 6) = true) (hc : mm_cls j' = ci) (hl : mm_ly a = some (ci, ts)) (hS : S.drop n = .ref a :: S') (hmx : mm_maxL j' = mx) (hb : (Nat.ble (mm_words S') 8 && Nat.beq (S.take n).length n && Nat.ble (1 + mm_words (S.take n)) mx) = true) (hV : lv_args 0 (.ref a :: (S.take n).reverse) = V0)
    (hs : mm_E w d0 j' 0 V0 [] (mm_w X A) (.inl v, M', 0, 0)) (hd : d0 ≤ d) (h : mm_E w (d + 1) j (pc + 3) V (v.toList ++ S') M' r) : mm_E w (d + 1) j pc V S (mm_w X A) r := by
  obtain ⟨o, M2, a2, b2⟩ := r
  have q := mm_E.callV hat hp ht hc hl hS hmx hb hV hs hd h
  rw [Nat.zero_add, Nat.zero_add] at q
  exact q
theorem mm_E.callP0 {j' n d0 mx : Nat} {V0 : ML} {v : Option Value} {M' : MH} (hat : mm_at j pc = some (.invokespecial k)) (hp : mm_pool j k = some (tp, j', n, u)) (ht : (Nat.beq tp 4 || Nat.beq tp 5) = true) (hc : mm_cls j' = ci) (hl : mm_ly a = some (ci, ts)) (hS : S.drop n = .ref a :: S') (hmx : mm_maxL j' = mx) (hb : (Nat.ble (mm_words S') 8 && Nat.beq (S.take n).length n && Nat.ble (1 + mm_words (S.take n)) mx) = true) (hV : lv_args 0 (.ref a :: (S.take n).reverse) = V0)
    (hs : mm_E w d0 j' 0 V0 [] (mm_w X A) (.inl v, M', 0, 0)) (hd : d0 ≤ d) (h : mm_E w (d + 1) j (pc + 3) V (v.toList ++ S') M' r) : mm_E w (d + 1) j pc V S (mm_w X A) r := by
  obtain ⟨o, M2, a2, b2⟩ := r
  have q := mm_E.callP hat hp ht hc hl hS hmx hb hV hs hd h
  rw [Nat.zero_add, Nat.zero_add] at q
  exact q
theorem mm_E.callS0 {j' n d0 mx : Nat} {V0 : ML} {v : Option Value} {M' : MH} (hat : mm_at j pc = some (.invokestatic k)) (hp : mm_pool j k = some (3, j', n, u)) (hmx : mm_maxL j' = mx) (hb : (Nat.ble (mm_words (S.drop n)) 8 && Nat.beq (S.take n).length n && Nat.ble (mm_words (S.take n)) mx) = true) (hV : lv_args 0 (S.take n).reverse = V0)
    (hs : mm_E w d0 j' 0 V0 [] M (.inl v, M', 0, 0)) (hd : d0 ≤ d) (h : mm_E w (d + 1) j (pc + 3) V (v.toList ++ S.drop n) M' r) : mm_E w (d + 1) j pc V S M r := by
  obtain ⟨o, M2, a2, b2⟩ := r
  have q := mm_E.callS hat hp hmx hb hV hs hd h
  rw [Nat.zero_add, Nat.zero_add] at q
  exact q
end RV
/-! A copy of ints from one array into another, both from 0 on. -/
def mm_cp (A : MF) (a b : Nat) (n : Int) : MF := fun c k => if c = b ∧ 0 ≤ k ∧ k < n then A a k else A c k
def mm_cpu (A : MF) (b : Nat) : Nat → List Int → MF
  | _, [] => A
  | k, z :: zs => mm_cpu (mm_u A b k z) b (k + 1) zs
theorem mm_cpu_at (b : Nat) : ∀ (zs : List Int) (A : MF) (k c : Nat) (i : Int), mm_cpu A b k zs c i = if c = b ∧ (k : Int) ≤ i ∧ i < k + zs.length then zs[(i - k).toNat]?.getD 0 else A c i
  | [], A, k, c, i => by
    rw [if_neg (by simp only [List.length_nil]; omega)]
    rfl
  | z :: zs, A, k, c, i => by
    show mm_cpu (mm_u A b k z) b (k + 1) zs c i = _
    rw [mm_cpu_at b zs]
    by_cases h : c = b ∧ (((k + 1 : Nat) : Int) ≤ i ∧ i < ((k + 1 : Nat) : Int) + zs.length)
    · rw [if_pos h, if_pos (by simp only [List.length_cons]; omega)]
      have e : (i - k).toNat = (i - ((k + 1 : Nat) : Int)).toNat + 1 := by omega
      rw [e, List.getElem?_cons_succ]
    · rw [if_neg h]
      by_cases g : c = b ∧ i = k
      · obtain ⟨rfl, rfl⟩ := g
        rw [mm_u_same, if_pos ⟨rfl, Int.le_refl _, by simp only [List.length_cons]; omega⟩]
        simp
      · rw [mm_u_ne (by omega), if_neg (by simp only [List.length_cons]; omega)]
theorem mm_w_same {X : List Value} {A : MF} {b kb : Nat} {ts : List Nat} (h : mm_ly b = some (kb, ts)) : (mm_w X A).set b (kb, mm_ss A b 0 ts) = mm_w X A := by
  have e := mm_w_get (X := X) (A := A) h
  obtain ⟨h1, h2⟩ := List.getElem?_eq_some_iff.mp e
  rw [← h2, List.set_getElem_self]
theorem mm_cpu_w {X : List Value} {b kb N : Nat} (h : mm_ly b = some (kb, List.replicate N 0)) : ∀ (zs : List Int) (A : MF) (k : Nat), k + zs.length ≤ N → (mm_w X A).set b (kb, mm_cpys (mm_ss A b 0 (List.replicate N 0)) k (zs.map mI)) = mm_w X (mm_cpu A b k zs)
  | [], A, k, _ => mm_w_same h
  | z :: zs, A, k, hk => by
    simp only [List.length_cons] at hk
    have ht : (List.replicate N 0)[k]? = some 0 := by rw [List.getElem?_replicate, if_pos (by omega)]
    have e := mm_ss_set (A := A) (a := b) (z := z) (n := 0) ht
    rw [Nat.zero_add] at e
    have e2 := mm_w_put (X := X) (A := A) (z := z) h ht
    have e3 : (mm_w X A).set b (kb, mm_ss (mm_u A b k z) b 0 (List.replicate N 0)) = mm_w X (mm_u A b k z) := by
      rw [← e2, ← e]
      unfold mm_put
      rw [mm_w_get h]
    have q := mm_cpu_w (X := X) h zs (mm_u A b k z) (k + 1) (by omega)
    rw [← e3, List.set_set] at q
    show (mm_w X A).set b (kb, mm_cpys ((mm_ss A b 0 (List.replicate N 0)).set k (mI z)) (k + 1) (zs.map mI)) = _
    rw [show (mI z) = mm_sv 0 z from rfl, e]
    exact q
theorem mm_ss_ints {A : MF} {a : Nat} : ∀ (N n : Nat), mm_ss A a n (List.replicate N 0) = ((List.range N).map fun i => A a ((n + i : Nat) : Int)).map mI
  | 0, _ => rfl
  | N + 1, n => by
    rw [List.replicate_succ, List.range_succ_eq_map]
    show mI (A a n) :: mm_ss A a (n + 1) (List.replicate N 0) = _
    rw [mm_ss_ints N (n + 1)]
    simp [Function.comp_def, Nat.add_assoc, Nat.add_comm 1]
theorem mm_E.copy {w d j pc k : Nat} {V : ML} {S X : List Value} {A : MF} {r : MR} {n u : Int} {a b ka kb N v1 : Nat} (hat : mm_at j pc = some (.invokestatic k)) (hp : mm_pool j k = some (7, 5, v1, u)) (hla : mm_ly a = some (ka, List.replicate N 0)) (hlb : mm_ly b = some (kb, List.replicate N 0)) (hka : mm_akd ka = 1) (hkb : mm_akd kb = 1) (h0 : 0 ≤ n) (h1 : n ≤ N) (hN : Nat.ble N 1000 = true) (hb : Nat.ble (mm_words S) 8 = true) (hw : Nat.ble w b = true) (h : mm_E w (d + 1) j (pc + 3) V S (mm_w X (mm_cp A a b n)) r) : mm_E w (d + 1) j pc V (mI n :: mI 0 :: .ref b :: mI 0 :: .ref a :: S) (mm_w X A) r := .step hat (fun L => by
  have hN := Nat.le_of_ble_eq_true hN
  have rn : R32 n := by omega
  have r0 : R32 0 := by decide
  have e1 : ((mm_ss A a 0 (List.replicate N 0)).all mm_isI) = true := by
    rw [mm_ss_ints]
    simp [mm_isI]
  have l1 : Nat.ble (Int.toNat 0 + n.toNat) N = true := Nat.ble_eq_true_of_le (by omega)
  have e2 : mm_cpy (mm_ss A a 0 (List.replicate N 0)) (mm_ss A b 0 (List.replicate N 0)) (Int.toNat 0) (Int.toNat 0) n.toNat = mm_cpys (mm_ss A b 0 (List.replicate N 0)) 0 (((List.range n.toNat).map fun i : Nat => A a (i : Int)).map mI) := by
    unfold mm_cpy
    congr 1
    rw [mm_ss_ints N 0, Int.toNat_zero, List.drop_zero, ← List.map_take, ← List.map_take, List.take_range, show min n.toNat N = n.toNat by omega]
    simp
  have e3 : mm_cpu A b 0 ((List.range n.toNat).map fun i : Nat => A a (i : Int)) = mm_cp A a b n := by
    funext c i
    rw [mm_cpu_at]
    unfold mm_cp
    simp only [List.length_map, List.length_range]
    by_cases g : c = b ∧ 0 ≤ i ∧ i < n
    · rw [if_pos g, if_pos (by omega), show ((i : Int) - ((0 : Nat) : Int)).toNat = i.toNat by omega]
      have hi : i.toNat < n.toNat := by omega
      simp [hi, Int.toNat_of_nonneg g.2.1]
    · rw [if_neg g, if_neg (by omega)]
  have e4 := mm_cpu_w (X := X) hlb ((List.range n.toNat).map fun i : Nat => A a (i : Int)) A 0 (by simp only [List.length_map, List.length_range]; omega)
  rw [e3, ← e2] at e4
  simp only [mm_act, hp, mm_inl, mm_nat, show Nat.blt 5 6 = true from rfl, mm_w_get hla, mm_w_get hlb, hb, hka, hkb, Nat.beq_refl, mm_neg32 rn h0, mm_neg32 r0 (Int.le_refl 0), mm_nat32 rn, mm_nat32 r0, mm_ss_len, List.length_replicate, l1, hw, e1, Bool.not_false, Bool.and_self, mm_go, e4]) h
end
section
theorem p61_0_0 {w d : Nat} {X : List Value} {A : MF} {r : MR} {x1 x2 : Int} (h : mm_E w d 61 5 [(0, .ref 2), (1, mI x1), (2, mI x2), (3, mI 0), (4, mI 0)] [] (mm_w X A) r) : mm_E w d 61 0 [(0, .ref 2), (1, mI x1), (2, mI x2)] [] (mm_w X A) r := by
  exact mm_E.iconst (mm_atc mc61 rfl) <|
  mm_E.istore_n mx61 rfl (mm_atc mc61 rfl) <|
  show mm_E _ _ 61 2 [(3, mI 0), (0, .ref 2), (1, mI x1), (2, mI x2)] _ _ _ from
  mm_E.iconst (mm_atc mc61 rfl) <|
  mm_E.istore mx61 rfl (mm_atc mc61 rfl) <|
  show mm_E _ _ 61 5 [(4, mI 0), (3, mI 0), (0, .ref 2), (1, mI x1), (2, mI x2)] _ _ _ from
  mm_E.to h ⟨rfl, rfl, rfl, rfl, rfl, trivial⟩
theorem p61_5_0 {w d : Nat} {X : List Value} {A : MF} {x1 x2 x3 x4 : Int} (H : R32 x4 ∧ R32 (A 2 1) ∧ A 2 1 ≤ x4) : mm_E w d 61 5 [(0, .ref 2), (1, mI x1), (2, mI x2), (3, mI x3), (4, mI x4)] [] (mm_w X A) (.inl (some (mI x3)), mm_w X A, 0, 0) := by
  obtain ⟨h0, h1, h2⟩ := H
  exact mm_E.iload (mm_atc mc61 rfl) rfl <|
  mm_E.aload_n (mm_atc mc61 rfl) rfl <|
  mm_E.getI (z := A 2 1) (mm_atc mc61 rfl) (mm_plc mp61 rfl) rfl ly2 rfl (rfl) <|
  mm_E.if2 (mm_atc mc61 rfl) h0 h1 (ic_geT h2) rfl <|
  mm_E.iload_n (mm_atc mc61 rfl) rfl <|
  mm_E.iret (mm_atc mc61 rfl) mr61 rfl
theorem p61_5_1 {w d : Nat} {X : List Value} {A : MF} {r : MR} {x1 x2 x3 x4 : Int} (H : R32 x4 ∧ R32 (A 2 1) ∧ x4 < A 2 1 ∧ 0 ≤ x4 ∧ x4 < 12 ∧ R32 (A 10 x4) ∧ R32 x2 ∧ A 10 x4 ≠ x2) (h : mm_E w d 61 5 [(0, .ref 2), (1, mI x1), (2, mI x2), (3, mI x3), (4, mI (x4 + 1))] [] (mm_w X A) r) : mm_E w d 61 5 [(0, .ref 2), (1, mI x1), (2, mI x2), (3, mI x3), (4, mI x4)] [] (mm_w X A) r := by
  obtain ⟨h0, h1, h2, h3, h4, h5, h6, h7⟩ := H
  exact mm_E.iload (mm_atc mc61 rfl) rfl <|
  mm_E.aload_n (mm_atc mc61 rfl) rfl <|
  mm_E.getI (z := A 2 1) (mm_atc mc61 rfl) (mm_plc mp61 rfl) rfl ly2 rfl (rfl) <|
  mm_E.if2 (mm_atc mc61 rfl) h0 h1 (ic_geF h2) rfl <|
  mm_E.aload_n (mm_atc mc61 rfl) rfl <|
  mm_E.getR (b := 10) (mm_atc mc61 rfl) (mm_plc mp61 rfl) rfl ly2 rfl <|
  mm_E.iload (mm_atc mc61 rfl) rfl <|
  mm_E.iaload (e := x4) (mm_atc mc61 rfl) ly10 rfl h3 h4 rfl (rfl) <|
  mm_E.iload_n (mm_atc mc61 rfl) rfl <|
  mm_E.if2 (mm_atc mc61 rfl) h5 h6 (ic_neT h7) rfl <|
  mm_E.inc mx61 rfl (mm_atc mc61 rfl) rfl <|
  show mm_E _ _ 61 40 [(4, mI (x4 + 1)), (0, .ref 2), (1, mI x1), (2, mI x2), (3, mI x3)] _ _ _ from
  mm_E.goto (mm_atc mc61 rfl) rfl <|
  mm_E.to h ⟨rfl, rfl, rfl, rfl, rfl, trivial⟩
theorem p61_5_2 {w d : Nat} {X : List Value} {A : MF} {r : MR} {x1 x2 x3 x4 : Int} (H : R32 x4 ∧ R32 (A 2 1) ∧ x4 < A 2 1 ∧ 0 ≤ x4 ∧ x4 < 12 ∧ R32 (A 10 x4) ∧ R32 x2 ∧ A 10 x4 = x2 ∧ 0 ≤ x1 ∧ x1 < 6) (h : mm_E w d 61 5 [(0, .ref 2), (1, mI x1), (2, mI x2), (3, mI (x3 + (A (4 + x1.toNat) x4))), (4, mI (x4 + 1))] [] (mm_w X A) r) : mm_E w d 61 5 [(0, .ref 2), (1, mI x1), (2, mI x2), (3, mI x3), (4, mI x4)] [] (mm_w X A) r := by
  obtain ⟨h0, h1, h2, h3, h4, h5, h6, h7, h8, h9⟩ := H
  exact mm_E.iload (mm_atc mc61 rfl) rfl <|
  mm_E.aload_n (mm_atc mc61 rfl) rfl <|
  mm_E.getI (z := A 2 1) (mm_atc mc61 rfl) (mm_plc mp61 rfl) rfl ly2 rfl (rfl) <|
  mm_E.if2 (mm_atc mc61 rfl) h0 h1 (ic_geF h2) rfl <|
  mm_E.aload_n (mm_atc mc61 rfl) rfl <|
  mm_E.getR (b := 10) (mm_atc mc61 rfl) (mm_plc mp61 rfl) rfl ly2 rfl <|
  mm_E.iload (mm_atc mc61 rfl) rfl <|
  mm_E.iaload (e := x4) (mm_atc mc61 rfl) ly10 rfl h3 h4 rfl (rfl) <|
  mm_E.iload_n (mm_atc mc61 rfl) rfl <|
  mm_E.if2 (mm_atc mc61 rfl) h5 h6 (ic_neF h7) rfl <|
  mm_E.iload_n (mm_atc mc61 rfl) rfl <|
  mm_E.aload_n (mm_atc mc61 rfl) rfl <|
  mm_E.getR (b := 3) (mm_atc mc61 rfl) (mm_plc mp61 rfl) rfl ly2 rfl <|
  mm_E.iload_n (mm_atc mc61 rfl) rfl <|
  mm_E.aaload (mm_atc mc61 rfl) ly3 rfl h8 h9 (la4 h8 h9) <|
  mm_E.iload (mm_atc mc61 rfl) rfl <|
  mm_E.iaload (e := x4) (mm_atc mc61 rfl) (lr4 h8 h9) rfl h3 h4 rfl (rfl) <|
  mm_E.iadd (mm_atc mc61 rfl) <|
  mm_E.istore_n mx61 rfl (mm_atc mc61 rfl) <|
  show mm_E _ _ 61 37 [(3, mI (x3 + (A (4 + x1.toNat) x4))), (0, .ref 2), (1, mI x1), (2, mI x2), (4, mI x4)] _ _ _ from
  mm_E.inc mx61 rfl (mm_atc mc61 rfl) rfl <|
  show mm_E _ _ 61 40 [(4, mI (x4 + 1)), (3, mI (x3 + (A (4 + x1.toNat) x4))), (0, .ref 2), (1, mI x1), (2, mI x2)] _ _ _ from
  mm_E.goto (mm_atc mc61 rfl) rfl <|
  mm_E.to h ⟨rfl, rfl, rfl, rfl, rfl, trivial⟩
theorem p62_0_0 {w d : Nat} {X : List Value} {A : MF} {x1 x2 x3 z0 z1 : Int} (s0 : mm_E w d 61 0 [(0, .ref 2), (1, mI x1), (2, mI x2)] [] (mm_w X A) (.inl (some (mI z0)), mm_w X A, 0, 0)) (s1 : mm_E w d 61 0 [(0, .ref 2), (1, mI x1), (2, mI x1)] [] (mm_w X A) (.inl (some (mI z1)), mm_w X A, 0, 0)) (H : R32 x3 ∧ x3 = 0 ∧ R32 (z0 - z1)) : mm_E w (d + 1) 62 0 [(0, .ref 2), (1, mI x1), (2, mI x2), (3, mI x3)] [] (mm_w X A) (.inl (some (mI (max 0 (z0 - z1)))), mm_w X A, 0, 0) := by
  obtain ⟨h0, h1, h2⟩ := H
  exact mm_E.aload_n (mm_atc mc62 rfl) rfl <|
  mm_E.iload_n (mm_atc mc62 rfl) rfl <|
  mm_E.iload_n (mm_atc mc62 rfl) rfl <|
  mm_E.callV0 (mm_atc mc62 rfl) (mm_plc mp62 rfl) rfl mk61 ly2 rfl mx61 rfl rfl s0 (by omega) <|
  show mm_E _ _ 62 6 _ _ _ _ from
  mm_E.istore mx62 rfl (mm_atc mc62 rfl) <|
  show mm_E _ _ 62 8 [(4, mI z0), (0, .ref 2), (1, mI x1), (2, mI x2), (3, mI x3)] _ _ _ from
  mm_E.iload_n (mm_atc mc62 rfl) rfl <|
  mm_E.if1 (mm_atc mc62 rfl) h0 (ic_eqT h1) rfl <|
  mm_E.iconst (mm_atc mc62 rfl) <|
  mm_E.iload (mm_atc mc62 rfl) rfl <|
  mm_E.aload_n (mm_atc mc62 rfl) rfl <|
  mm_E.iload_n (mm_atc mc62 rfl) rfl <|
  mm_E.iload_n (mm_atc mc62 rfl) rfl <|
  mm_E.callV0 (mm_atc mc62 rfl) (mm_plc mp62 rfl) rfl mk61 ly2 rfl mx61 rfl rfl s1 (by omega) <|
  show mm_E _ _ 62 32 _ _ _ _ from
  mm_E.isub (mm_atc mc62 rfl) <|
  mm_E.maxI (by decide) h2 (mm_atc mc62 rfl) (mm_plc mp62 rfl) rfl <|
  mm_E.iret (mm_atc mc62 rfl) mr62 rfl
theorem p62_0_1 {w d : Nat} {X : List Value} {A : MF} {x1 x2 x3 z0 z1 z2 : Int} (s0 : mm_E w d 61 0 [(0, .ref 2), (1, mI x1), (2, mI x2)] [] (mm_w X A) (.inl (some (mI z0)), mm_w X A, 0, 0)) (s1 : mm_E w d 63 0 [(0, .ref 2), (1, mI x1), (2, mI x2)] [] (mm_w X A) (.inl (some (mI z1)), mm_w X A, 0, 0)) (s2 : mm_E w d 61 0 [(0, .ref 2), (1, mI x1), (2, mI x1)] [] (mm_w X A) (.inl (some (mI z2)), mm_w X A, 0, 0)) (H : R32 x3 ∧ x3 ≠ 0 ∧ R32 ((z0 - z1) - z2)) : mm_E w (d + 1) 62 0 [(0, .ref 2), (1, mI x1), (2, mI x2), (3, mI x3)] [] (mm_w X A) (.inl (some (mI (max 0 ((z0 - z1) - z2)))), mm_w X A, 0, 0) := by
  obtain ⟨h0, h1, h2⟩ := H
  exact mm_E.aload_n (mm_atc mc62 rfl) rfl <|
  mm_E.iload_n (mm_atc mc62 rfl) rfl <|
  mm_E.iload_n (mm_atc mc62 rfl) rfl <|
  mm_E.callV0 (mm_atc mc62 rfl) (mm_plc mp62 rfl) rfl mk61 ly2 rfl mx61 rfl rfl s0 (by omega) <|
  show mm_E _ _ 62 6 _ _ _ _ from
  mm_E.istore mx62 rfl (mm_atc mc62 rfl) <|
  show mm_E _ _ 62 8 [(4, mI z0), (0, .ref 2), (1, mI x1), (2, mI x2), (3, mI x3)] _ _ _ from
  mm_E.iload_n (mm_atc mc62 rfl) rfl <|
  mm_E.if1 (mm_atc mc62 rfl) h0 (ic_eqF h1) rfl <|
  mm_E.iload (mm_atc mc62 rfl) rfl <|
  mm_E.aload_n (mm_atc mc62 rfl) rfl <|
  mm_E.iload_n (mm_atc mc62 rfl) rfl <|
  mm_E.iload_n (mm_atc mc62 rfl) rfl <|
  mm_E.callV0 (mm_atc mc62 rfl) (mm_plc mp62 rfl) rfl mk63 ly2 rfl mx63 rfl rfl s1 (by omega) <|
  show mm_E _ _ 62 20 _ _ _ _ from
  mm_E.isub (mm_atc mc62 rfl) <|
  mm_E.istore mx62 rfl (mm_atc mc62 rfl) <|
  show mm_E _ _ 62 23 [(4, mI (z0 - z1)), (0, .ref 2), (1, mI x1), (2, mI x2), (3, mI x3)] _ _ _ from
  mm_E.iconst (mm_atc mc62 rfl) <|
  mm_E.iload (mm_atc mc62 rfl) rfl <|
  mm_E.aload_n (mm_atc mc62 rfl) rfl <|
  mm_E.iload_n (mm_atc mc62 rfl) rfl <|
  mm_E.iload_n (mm_atc mc62 rfl) rfl <|
  mm_E.callV0 (mm_atc mc62 rfl) (mm_plc mp62 rfl) rfl mk61 ly2 rfl mx61 rfl rfl s2 (by omega) <|
  show mm_E _ _ 62 32 _ _ _ _ from
  mm_E.isub (mm_atc mc62 rfl) <|
  mm_E.maxI (by decide) h2 (mm_atc mc62 rfl) (mm_plc mp62 rfl) rfl <|
  mm_E.iret (mm_atc mc62 rfl) mr62 rfl
theorem p63_0_0 {w d : Nat} {X : List Value} {A : MF} {r : MR} {x1 x2 : Int} (h : mm_E w d 63 5 [(0, .ref 2), (1, mI x1), (2, mI x2), (3, mI 0), (4, mI 0)] [] (mm_w X A) r) : mm_E w d 63 0 [(0, .ref 2), (1, mI x1), (2, mI x2)] [] (mm_w X A) r := by
  exact mm_E.iconst (mm_atc mc63 rfl) <|
  mm_E.istore_n mx63 rfl (mm_atc mc63 rfl) <|
  show mm_E _ _ 63 2 [(3, mI 0), (0, .ref 2), (1, mI x1), (2, mI x2)] _ _ _ from
  mm_E.iconst (mm_atc mc63 rfl) <|
  mm_E.istore mx63 rfl (mm_atc mc63 rfl) <|
  show mm_E _ _ 63 5 [(4, mI 0), (3, mI 0), (0, .ref 2), (1, mI x1), (2, mI x2)] _ _ _ from
  mm_E.to h ⟨rfl, rfl, rfl, rfl, rfl, trivial⟩
theorem p63_5_0 {w d : Nat} {X : List Value} {A : MF} {x1 x2 x3 x4 : Int} (H : R32 x4 ∧ R32 (A 2 1) ∧ A 2 1 ≤ x4) : mm_E w d 63 5 [(0, .ref 2), (1, mI x1), (2, mI x2), (3, mI x3), (4, mI x4)] [] (mm_w X A) (.inl (some (mI x3)), mm_w X A, 0, 0) := by
  obtain ⟨h0, h1, h2⟩ := H
  exact mm_E.iload (mm_atc mc63 rfl) rfl <|
  mm_E.aload_n (mm_atc mc63 rfl) rfl <|
  mm_E.getI (z := A 2 1) (mm_atc mc63 rfl) (mm_plc mp63 rfl) rfl ly2 rfl (rfl) <|
  mm_E.if2 (mm_atc mc63 rfl) h0 h1 (ic_geT h2) rfl <|
  mm_E.iload_n (mm_atc mc63 rfl) rfl <|
  mm_E.iret (mm_atc mc63 rfl) mr63 rfl
theorem p63_5_1 {w d : Nat} {X : List Value} {A : MF} {r : MR} {x1 x2 x3 x4 : Int} (H : R32 x4 ∧ R32 (A 2 1) ∧ x4 < A 2 1 ∧ 0 ≤ x4 ∧ x4 < 12 ∧ R32 (A 10 x4) ∧ R32 x2 ∧ A 10 x4 ≠ x2) (h : mm_E w d 63 5 [(0, .ref 2), (1, mI x1), (2, mI x2), (3, mI x3), (4, mI (x4 + 1))] [] (mm_w X A) r) : mm_E w d 63 5 [(0, .ref 2), (1, mI x1), (2, mI x2), (3, mI x3), (4, mI x4)] [] (mm_w X A) r := by
  obtain ⟨h0, h1, h2, h3, h4, h5, h6, h7⟩ := H
  exact mm_E.iload (mm_atc mc63 rfl) rfl <|
  mm_E.aload_n (mm_atc mc63 rfl) rfl <|
  mm_E.getI (z := A 2 1) (mm_atc mc63 rfl) (mm_plc mp63 rfl) rfl ly2 rfl (rfl) <|
  mm_E.if2 (mm_atc mc63 rfl) h0 h1 (ic_geF h2) rfl <|
  mm_E.aload_n (mm_atc mc63 rfl) rfl <|
  mm_E.getR (b := 10) (mm_atc mc63 rfl) (mm_plc mp63 rfl) rfl ly2 rfl <|
  mm_E.iload (mm_atc mc63 rfl) rfl <|
  mm_E.iaload (e := x4) (mm_atc mc63 rfl) ly10 rfl h3 h4 rfl (rfl) <|
  mm_E.iload_n (mm_atc mc63 rfl) rfl <|
  mm_E.if2 (mm_atc mc63 rfl) h5 h6 (ic_neT h7) rfl <|
  mm_E.inc mx63 rfl (mm_atc mc63 rfl) rfl <|
  show mm_E _ _ 63 42 [(4, mI (x4 + 1)), (0, .ref 2), (1, mI x1), (2, mI x2), (3, mI x3)] _ _ _ from
  mm_E.goto (mm_atc mc63 rfl) rfl <|
  mm_E.to h ⟨rfl, rfl, rfl, rfl, rfl, trivial⟩
theorem p63_5_2 {w d : Nat} {X : List Value} {A : MF} {r : MR} {x1 x2 x3 x4 : Int} (H : R32 x4 ∧ R32 (A 2 1) ∧ x4 < A 2 1 ∧ 0 ≤ x4 ∧ x4 < 12 ∧ R32 (A 10 x4) ∧ R32 x2 ∧ A 10 x4 = x2 ∧ 0 ≤ x1 ∧ x1 < 6 ∧ R32 x3 ∧ R32 (A (4 + x1.toNat) x4)) (h : mm_E w (d + 1) 63 5 [(0, .ref 2), (1, mI x1), (2, mI x2), (3, mI (max x3 (A (4 + x1.toNat) x4))), (4, mI (x4 + 1))] [] (mm_w X A) r) : mm_E w (d + 1) 63 5 [(0, .ref 2), (1, mI x1), (2, mI x2), (3, mI x3), (4, mI x4)] [] (mm_w X A) r := by
  obtain ⟨h0, h1, h2, h3, h4, h5, h6, h7, h8, h9, h10, h11⟩ := H
  exact mm_E.iload (mm_atc mc63 rfl) rfl <|
  mm_E.aload_n (mm_atc mc63 rfl) rfl <|
  mm_E.getI (z := A 2 1) (mm_atc mc63 rfl) (mm_plc mp63 rfl) rfl ly2 rfl (rfl) <|
  mm_E.if2 (mm_atc mc63 rfl) h0 h1 (ic_geF h2) rfl <|
  mm_E.aload_n (mm_atc mc63 rfl) rfl <|
  mm_E.getR (b := 10) (mm_atc mc63 rfl) (mm_plc mp63 rfl) rfl ly2 rfl <|
  mm_E.iload (mm_atc mc63 rfl) rfl <|
  mm_E.iaload (e := x4) (mm_atc mc63 rfl) ly10 rfl h3 h4 rfl (rfl) <|
  mm_E.iload_n (mm_atc mc63 rfl) rfl <|
  mm_E.if2 (mm_atc mc63 rfl) h5 h6 (ic_neF h7) rfl <|
  mm_E.iload_n (mm_atc mc63 rfl) rfl <|
  mm_E.aload_n (mm_atc mc63 rfl) rfl <|
  mm_E.getR (b := 3) (mm_atc mc63 rfl) (mm_plc mp63 rfl) rfl ly2 rfl <|
  mm_E.iload_n (mm_atc mc63 rfl) rfl <|
  mm_E.aaload (mm_atc mc63 rfl) ly3 rfl h8 h9 (la4 h8 h9) <|
  mm_E.iload (mm_atc mc63 rfl) rfl <|
  mm_E.iaload (e := x4) (mm_atc mc63 rfl) (lr4 h8 h9) rfl h3 h4 rfl (rfl) <|
  mm_E.maxI h10 h11 (mm_atc mc63 rfl) (mm_plc mp63 rfl) rfl <|
  mm_E.istore_n mx63 rfl (mm_atc mc63 rfl) <|
  show mm_E _ _ 63 39 [(3, mI (max x3 (A (4 + x1.toNat) x4))), (0, .ref 2), (1, mI x1), (2, mI x2), (4, mI x4)] _ _ _ from
  mm_E.inc mx63 rfl (mm_atc mc63 rfl) rfl <|
  show mm_E _ _ 63 42 [(4, mI (x4 + 1)), (3, mI (max x3 (A (4 + x1.toNat) x4))), (0, .ref 2), (1, mI x1), (2, mI x2)] _ _ _ from
  mm_E.goto (mm_atc mc63 rfl) rfl <|
  mm_E.to h ⟨rfl, rfl, rfl, rfl, rfl, trivial⟩
theorem p23_0_0 {w d : Nat} {X : List Value} {A : MF} {x0 x1 x2 : Int} (H : R32 x1 ∧ R32 x0 ∧ x0 < x1) : mm_E w d 23 0 [(0, mI x0), (1, mI x1), (2, mI x2)] [] (mm_w X A) (.inl (some (mI 0)), mm_w X A, 0, 0) := by
  obtain ⟨h0, h1, h2⟩ := H
  exact mm_E.iload_n (mm_atc mc23 rfl) rfl <|
  mm_E.iload_n (mm_atc mc23 rfl) rfl <|
  mm_E.if2 (mm_atc mc23 rfl) h0 h1 (ic_gtT h2) rfl <|
  mm_E.iconst (mm_atc mc23 rfl) <|
  mm_E.iret (mm_atc mc23 rfl) mr23 rfl
theorem p23_0_1 {w d : Nat} {X : List Value} {A : MF} {x0 x1 x2 : Int} (H : R32 x1 ∧ R32 x0 ∧ x1 ≤ x0 ∧ R32 x2 ∧ x2 < x0) : mm_E w d 23 0 [(0, mI x0), (1, mI x1), (2, mI x2)] [] (mm_w X A) (.inl (some (mI 0)), mm_w X A, 0, 0) := by
  obtain ⟨h0, h1, h2, h3, h4⟩ := H
  exact mm_E.iload_n (mm_atc mc23 rfl) rfl <|
  mm_E.iload_n (mm_atc mc23 rfl) rfl <|
  mm_E.if2 (mm_atc mc23 rfl) h0 h1 (ic_gtF h2) rfl <|
  mm_E.iload_n (mm_atc mc23 rfl) rfl <|
  mm_E.iload_n (mm_atc mc23 rfl) rfl <|
  mm_E.if2 (mm_atc mc23 rfl) h1 h3 (ic_gtT h4) rfl <|
  mm_E.iconst (mm_atc mc23 rfl) <|
  mm_E.iret (mm_atc mc23 rfl) mr23 rfl
theorem p23_0_2 {w d : Nat} {X : List Value} {A : MF} {x0 x1 x2 : Int} (H : R32 x1 ∧ R32 x0 ∧ x1 ≤ x0 ∧ R32 x2 ∧ x0 ≤ x2) : mm_E w d 23 0 [(0, mI x0), (1, mI x1), (2, mI x2)] [] (mm_w X A) (.inl (some (mI 1)), mm_w X A, 0, 0) := by
  obtain ⟨h0, h1, h2, h3, h4⟩ := H
  exact mm_E.iload_n (mm_atc mc23 rfl) rfl <|
  mm_E.iload_n (mm_atc mc23 rfl) rfl <|
  mm_E.if2 (mm_atc mc23 rfl) h0 h1 (ic_gtF h2) rfl <|
  mm_E.iload_n (mm_atc mc23 rfl) rfl <|
  mm_E.iload_n (mm_atc mc23 rfl) rfl <|
  mm_E.if2 (mm_atc mc23 rfl) h1 h3 (ic_gtF h4) rfl <|
  mm_E.iconst (mm_atc mc23 rfl) <|
  mm_E.goto (mm_atc mc23 rfl) rfl <|
  mm_E.iret (mm_atc mc23 rfl) mr23 rfl
theorem p66_0_0 {w d : Nat} {X : List Value} {A : MF} {r : MR} {x1 : Int} (h : mm_E w d 66 4 [(0, .ref 2), (1, mI x1), (2, mI (-1)), (3, mI 0)] [] (mm_w X A) r) : mm_E w d 66 0 [(0, .ref 2), (1, mI x1)] [] (mm_w X A) r := by
  exact mm_E.iconst (mm_atc mc66 rfl) <|
  mm_E.istore_n mx66 rfl (mm_atc mc66 rfl) <|
  show mm_E _ _ 66 2 [(2, mI (-1)), (0, .ref 2), (1, mI x1)] _ _ _ from
  mm_E.iconst (mm_atc mc66 rfl) <|
  mm_E.istore_n mx66 rfl (mm_atc mc66 rfl) <|
  show mm_E _ _ 66 4 [(3, mI 0), (2, mI (-1)), (0, .ref 2), (1, mI x1)] _ _ _ from
  mm_E.to h ⟨rfl, rfl, rfl, rfl, trivial⟩
theorem p66_4_0 {w d : Nat} {X : List Value} {A : MF} {x1 x2 x3 : Int} (H : R32 x3 ∧ R32 (A 2 1) ∧ A 2 1 ≤ x3) : mm_E w d 66 4 [(0, .ref 2), (1, mI x1), (2, mI x2), (3, mI x3)] [] (mm_w X A) (.inl (some (mI x2)), mm_w X A, 0, 0) := by
  obtain ⟨h0, h1, h2⟩ := H
  exact mm_E.iload_n (mm_atc mc66 rfl) rfl <|
  mm_E.aload_n (mm_atc mc66 rfl) rfl <|
  mm_E.getI (z := A 2 1) (mm_atc mc66 rfl) (mm_plc mp66 rfl) rfl ly2 rfl (rfl) <|
  mm_E.if2 (mm_atc mc66 rfl) h0 h1 (ic_geT h2) rfl <|
  mm_E.iload_n (mm_atc mc66 rfl) rfl <|
  mm_E.iret (mm_atc mc66 rfl) mr66 rfl
theorem p66_4_1 {w d : Nat} {X : List Value} {A : MF} {r : MR} {x1 x2 x3 : Int} (H : R32 x3 ∧ R32 (A 2 1) ∧ x3 < A 2 1 ∧ 0 ≤ x3 ∧ x3 < 12 ∧ R32 (A 10 x3) ∧ A 10 x3 ≠ (-1)) (h : mm_E w d 66 4 [(0, .ref 2), (1, mI x1), (2, mI x2), (3, mI (x3 + 1))] [] (mm_w X A) r) : mm_E w d 66 4 [(0, .ref 2), (1, mI x1), (2, mI x2), (3, mI x3)] [] (mm_w X A) r := by
  obtain ⟨h0, h1, h2, h3, h4, h5, h6⟩ := H
  exact mm_E.iload_n (mm_atc mc66 rfl) rfl <|
  mm_E.aload_n (mm_atc mc66 rfl) rfl <|
  mm_E.getI (z := A 2 1) (mm_atc mc66 rfl) (mm_plc mp66 rfl) rfl ly2 rfl (rfl) <|
  mm_E.if2 (mm_atc mc66 rfl) h0 h1 (ic_geF h2) rfl <|
  mm_E.aload_n (mm_atc mc66 rfl) rfl <|
  mm_E.getR (b := 10) (mm_atc mc66 rfl) (mm_plc mp66 rfl) rfl ly2 rfl <|
  mm_E.iload_n (mm_atc mc66 rfl) rfl <|
  mm_E.iaload (e := x3) (mm_atc mc66 rfl) ly10 rfl h3 h4 rfl (rfl) <|
  mm_E.iconst (mm_atc mc66 rfl) <|
  mm_E.if2 (mm_atc mc66 rfl) h5 (by decide) (ic_neT h6) rfl <|
  mm_E.inc mx66 rfl (mm_atc mc66 rfl) rfl <|
  show mm_E _ _ 66 51 [(3, mI (x3 + 1)), (0, .ref 2), (1, mI x1), (2, mI x2)] _ _ _ from
  mm_E.goto (mm_atc mc66 rfl) rfl <|
  mm_E.to h ⟨rfl, rfl, rfl, rfl, trivial⟩
theorem p66_4_2 {w d : Nat} {X : List Value} {A : MF} {r : MR} {x1 x2 x3 : Int} (H : R32 x3 ∧ R32 (A 2 1) ∧ x3 < A 2 1 ∧ 0 ≤ x3 ∧ x3 < 12 ∧ R32 (A 10 x3) ∧ A 10 x3 = (-1) ∧ R32 x2 ∧ x2 = (-1)) (h : mm_E w d 66 4 [(0, .ref 2), (1, mI x1), (2, mI x3), (3, mI (x3 + 1))] [] (mm_w X A) r) : mm_E w d 66 4 [(0, .ref 2), (1, mI x1), (2, mI x2), (3, mI x3)] [] (mm_w X A) r := by
  obtain ⟨h0, h1, h2, h3, h4, h5, h6, h7, h8⟩ := H
  exact mm_E.iload_n (mm_atc mc66 rfl) rfl <|
  mm_E.aload_n (mm_atc mc66 rfl) rfl <|
  mm_E.getI (z := A 2 1) (mm_atc mc66 rfl) (mm_plc mp66 rfl) rfl ly2 rfl (rfl) <|
  mm_E.if2 (mm_atc mc66 rfl) h0 h1 (ic_geF h2) rfl <|
  mm_E.aload_n (mm_atc mc66 rfl) rfl <|
  mm_E.getR (b := 10) (mm_atc mc66 rfl) (mm_plc mp66 rfl) rfl ly2 rfl <|
  mm_E.iload_n (mm_atc mc66 rfl) rfl <|
  mm_E.iaload (e := x3) (mm_atc mc66 rfl) ly10 rfl h3 h4 rfl (rfl) <|
  mm_E.iconst (mm_atc mc66 rfl) <|
  mm_E.if2 (mm_atc mc66 rfl) h5 (by decide) (ic_neF h6) rfl <|
  mm_E.iload_n (mm_atc mc66 rfl) rfl <|
  mm_E.iconst (mm_atc mc66 rfl) <|
  mm_E.if2 (mm_atc mc66 rfl) h7 (by decide) (ic_eqT h8) rfl <|
  mm_E.iload_n (mm_atc mc66 rfl) rfl <|
  mm_E.istore_n mx66 rfl (mm_atc mc66 rfl) <|
  show mm_E _ _ 66 48 [(2, mI x3), (0, .ref 2), (1, mI x1), (3, mI x3)] _ _ _ from
  mm_E.inc mx66 rfl (mm_atc mc66 rfl) rfl <|
  show mm_E _ _ 66 51 [(3, mI (x3 + 1)), (2, mI x3), (0, .ref 2), (1, mI x1)] _ _ _ from
  mm_E.goto (mm_atc mc66 rfl) rfl <|
  mm_E.to h ⟨rfl, rfl, rfl, rfl, trivial⟩
theorem p66_4_3 {w d : Nat} {X : List Value} {A : MF} {r : MR} {x1 x2 x3 : Int} (H : R32 x3 ∧ R32 (A 2 1) ∧ x3 < A 2 1 ∧ 0 ≤ x3 ∧ x3 < 12 ∧ R32 (A 10 x3) ∧ A 10 x3 = (-1) ∧ R32 x2 ∧ x2 ≠ (-1) ∧ 0 ≤ x1 ∧ x1 < 6 ∧ 0 ≤ x2 ∧ x2 < 12 ∧ R32 (A (4 + x1.toNat) x3) ∧ R32 (A (4 + x1.toNat) x2) ∧ A (4 + x1.toNat) x3 ≤ A (4 + x1.toNat) x2) (h : mm_E w d 66 4 [(0, .ref 2), (1, mI x1), (2, mI x2), (3, mI (x3 + 1))] [] (mm_w X A) r) : mm_E w d 66 4 [(0, .ref 2), (1, mI x1), (2, mI x2), (3, mI x3)] [] (mm_w X A) r := by
  obtain ⟨h0, h1, h2, h3, h4, h5, h6, h7, h8, h9, h10, h11, h12, h13, h14, h15⟩ := H
  exact mm_E.iload_n (mm_atc mc66 rfl) rfl <|
  mm_E.aload_n (mm_atc mc66 rfl) rfl <|
  mm_E.getI (z := A 2 1) (mm_atc mc66 rfl) (mm_plc mp66 rfl) rfl ly2 rfl (rfl) <|
  mm_E.if2 (mm_atc mc66 rfl) h0 h1 (ic_geF h2) rfl <|
  mm_E.aload_n (mm_atc mc66 rfl) rfl <|
  mm_E.getR (b := 10) (mm_atc mc66 rfl) (mm_plc mp66 rfl) rfl ly2 rfl <|
  mm_E.iload_n (mm_atc mc66 rfl) rfl <|
  mm_E.iaload (e := x3) (mm_atc mc66 rfl) ly10 rfl h3 h4 rfl (rfl) <|
  mm_E.iconst (mm_atc mc66 rfl) <|
  mm_E.if2 (mm_atc mc66 rfl) h5 (by decide) (ic_neF h6) rfl <|
  mm_E.iload_n (mm_atc mc66 rfl) rfl <|
  mm_E.iconst (mm_atc mc66 rfl) <|
  mm_E.if2 (mm_atc mc66 rfl) h7 (by decide) (ic_eqF h8) rfl <|
  mm_E.aload_n (mm_atc mc66 rfl) rfl <|
  mm_E.getR (b := 3) (mm_atc mc66 rfl) (mm_plc mp66 rfl) rfl ly2 rfl <|
  mm_E.iload_n (mm_atc mc66 rfl) rfl <|
  mm_E.aaload (mm_atc mc66 rfl) ly3 rfl h9 h10 (la4 h9 h10) <|
  mm_E.iload_n (mm_atc mc66 rfl) rfl <|
  mm_E.iaload (e := x3) (mm_atc mc66 rfl) (lr4 h9 h10) rfl h3 h4 rfl (rfl) <|
  mm_E.aload_n (mm_atc mc66 rfl) rfl <|
  mm_E.getR (b := 3) (mm_atc mc66 rfl) (mm_plc mp66 rfl) rfl ly2 rfl <|
  mm_E.iload_n (mm_atc mc66 rfl) rfl <|
  mm_E.aaload (mm_atc mc66 rfl) ly3 rfl h9 h10 (la4 h9 h10) <|
  mm_E.iload_n (mm_atc mc66 rfl) rfl <|
  mm_E.iaload (e := x2) (mm_atc mc66 rfl) (lr4 h9 h10) rfl h11 h12 rfl (rfl) <|
  mm_E.if2 (mm_atc mc66 rfl) h13 h14 (ic_leT h15) rfl <|
  mm_E.inc mx66 rfl (mm_atc mc66 rfl) rfl <|
  show mm_E _ _ 66 51 [(3, mI (x3 + 1)), (0, .ref 2), (1, mI x1), (2, mI x2)] _ _ _ from
  mm_E.goto (mm_atc mc66 rfl) rfl <|
  mm_E.to h ⟨rfl, rfl, rfl, rfl, trivial⟩
theorem p66_4_4 {w d : Nat} {X : List Value} {A : MF} {r : MR} {x1 x2 x3 : Int} (H : R32 x3 ∧ R32 (A 2 1) ∧ x3 < A 2 1 ∧ 0 ≤ x3 ∧ x3 < 12 ∧ R32 (A 10 x3) ∧ A 10 x3 = (-1) ∧ R32 x2 ∧ x2 ≠ (-1) ∧ 0 ≤ x1 ∧ x1 < 6 ∧ 0 ≤ x2 ∧ x2 < 12 ∧ R32 (A (4 + x1.toNat) x3) ∧ R32 (A (4 + x1.toNat) x2) ∧ A (4 + x1.toNat) x2 < A (4 + x1.toNat) x3) (h : mm_E w d 66 4 [(0, .ref 2), (1, mI x1), (2, mI x3), (3, mI (x3 + 1))] [] (mm_w X A) r) : mm_E w d 66 4 [(0, .ref 2), (1, mI x1), (2, mI x2), (3, mI x3)] [] (mm_w X A) r := by
  obtain ⟨h0, h1, h2, h3, h4, h5, h6, h7, h8, h9, h10, h11, h12, h13, h14, h15⟩ := H
  exact mm_E.iload_n (mm_atc mc66 rfl) rfl <|
  mm_E.aload_n (mm_atc mc66 rfl) rfl <|
  mm_E.getI (z := A 2 1) (mm_atc mc66 rfl) (mm_plc mp66 rfl) rfl ly2 rfl (rfl) <|
  mm_E.if2 (mm_atc mc66 rfl) h0 h1 (ic_geF h2) rfl <|
  mm_E.aload_n (mm_atc mc66 rfl) rfl <|
  mm_E.getR (b := 10) (mm_atc mc66 rfl) (mm_plc mp66 rfl) rfl ly2 rfl <|
  mm_E.iload_n (mm_atc mc66 rfl) rfl <|
  mm_E.iaload (e := x3) (mm_atc mc66 rfl) ly10 rfl h3 h4 rfl (rfl) <|
  mm_E.iconst (mm_atc mc66 rfl) <|
  mm_E.if2 (mm_atc mc66 rfl) h5 (by decide) (ic_neF h6) rfl <|
  mm_E.iload_n (mm_atc mc66 rfl) rfl <|
  mm_E.iconst (mm_atc mc66 rfl) <|
  mm_E.if2 (mm_atc mc66 rfl) h7 (by decide) (ic_eqF h8) rfl <|
  mm_E.aload_n (mm_atc mc66 rfl) rfl <|
  mm_E.getR (b := 3) (mm_atc mc66 rfl) (mm_plc mp66 rfl) rfl ly2 rfl <|
  mm_E.iload_n (mm_atc mc66 rfl) rfl <|
  mm_E.aaload (mm_atc mc66 rfl) ly3 rfl h9 h10 (la4 h9 h10) <|
  mm_E.iload_n (mm_atc mc66 rfl) rfl <|
  mm_E.iaload (e := x3) (mm_atc mc66 rfl) (lr4 h9 h10) rfl h3 h4 rfl (rfl) <|
  mm_E.aload_n (mm_atc mc66 rfl) rfl <|
  mm_E.getR (b := 3) (mm_atc mc66 rfl) (mm_plc mp66 rfl) rfl ly2 rfl <|
  mm_E.iload_n (mm_atc mc66 rfl) rfl <|
  mm_E.aaload (mm_atc mc66 rfl) ly3 rfl h9 h10 (la4 h9 h10) <|
  mm_E.iload_n (mm_atc mc66 rfl) rfl <|
  mm_E.iaload (e := x2) (mm_atc mc66 rfl) (lr4 h9 h10) rfl h11 h12 rfl (rfl) <|
  mm_E.if2 (mm_atc mc66 rfl) h13 h14 (ic_leF h15) rfl <|
  mm_E.iload_n (mm_atc mc66 rfl) rfl <|
  mm_E.istore_n mx66 rfl (mm_atc mc66 rfl) <|
  show mm_E _ _ 66 48 [(2, mI x3), (0, .ref 2), (1, mI x1), (3, mI x3)] _ _ _ from
  mm_E.inc mx66 rfl (mm_atc mc66 rfl) rfl <|
  show mm_E _ _ 66 51 [(3, mI (x3 + 1)), (2, mI x3), (0, .ref 2), (1, mI x1)] _ _ _ from
  mm_E.goto (mm_atc mc66 rfl) rfl <|
  mm_E.to h ⟨rfl, rfl, rfl, rfl, trivial⟩
end
