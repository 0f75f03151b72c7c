section
-- ===== PART A: goes FIRST, ahead of the names: the tables' words, and 'selects' of the private methods out of them =====
/-- a private method of a class that the tables say can be made, by its rows of tables_1 -/
def lw_okq (q : MethodName × Nat) : Prop := (q.1.cls ≠ "java/lang/invoke/MethodHandle" ∧ q.1.cls ≠ "java/lang/invoke/VarHandle") ∧ Cond.instantiable q.1.cls q.2 ∈ tables_1 ∧ Cond.privateMethod q.1 ∈ tables_1 ∧ Cond.instanceMethod q.1 ∈ tables_1
theorem lw_p0 : lw_okq (⟨"HungMobile$Reader", "begin", "()V"⟩, 10) := ⟨⟨by decide +kernel, by decide +kernel⟩, List.mem_of_getElem? (i := 44) (by decide +kernel), List.mem_of_getElem? (i := 327) (by decide +kernel), List.mem_of_getElem? (i := 328) (by decide +kernel)⟩
theorem lw_p1 : lw_okq (⟨"HungMobile$Reader", "takes", "(I)Z"⟩, 10) := ⟨⟨by decide +kernel, by decide +kernel⟩, List.mem_of_getElem? (i := 44) (by decide +kernel), List.mem_of_getElem? (i := 331) (by decide +kernel), List.mem_of_getElem? (i := 332) (by decide +kernel)⟩
theorem lw_p2 : lw_okq (⟨"HungMobile$Reader", "takesLength", "(I)Z"⟩, 10) := ⟨⟨by decide +kernel, by decide +kernel⟩, List.mem_of_getElem? (i := 44) (by decide +kernel), List.mem_of_getElem? (i := 335) (by decide +kernel), List.mem_of_getElem? (i := 336) (by decide +kernel)⟩
theorem lw_p3 : lw_okq (⟨"HungMobile$Reader", "takesEnd", "(I)Z"⟩, 10) := ⟨⟨by decide +kernel, by decide +kernel⟩, List.mem_of_getElem? (i := 44) (by decide +kernel), List.mem_of_getElem? (i := 339) (by decide +kernel), List.mem_of_getElem? (i := 340) (by decide +kernel)⟩
theorem lw_p4 : lw_okq (⟨"HungMobile$Reader", "canTell", "(II)Z"⟩, 10) := ⟨⟨by decide +kernel, by decide +kernel⟩, List.mem_of_getElem? (i := 44) (by decide +kernel), List.mem_of_getElem? (i := 343) (by decide +kernel), List.mem_of_getElem? (i := 344) (by decide +kernel)⟩
theorem lw_p5 : lw_okq (⟨"HungMobile$Reader", "canFollow", "(I)Z"⟩, 10) := ⟨⟨by decide +kernel, by decide +kernel⟩, List.mem_of_getElem? (i := 44) (by decide +kernel), List.mem_of_getElem? (i := 350) (by decide +kernel), List.mem_of_getElem? (i := 351) (by decide +kernel)⟩
theorem lw_p6 : lw_okq (⟨"HungMobile$Reader", "takesBehindRod", "(I)Z"⟩, 10) := ⟨⟨by decide +kernel, by decide +kernel⟩, List.mem_of_getElem? (i := 44) (by decide +kernel), List.mem_of_getElem? (i := 354) (by decide +kernel), List.mem_of_getElem? (i := 355) (by decide +kernel)⟩
theorem lw_p7 : lw_okq (⟨"HungMobile$Reader", "takesKind", "(I)Z"⟩, 10) := ⟨⟨by decide +kernel, by decide +kernel⟩, List.mem_of_getElem? (i := 44) (by decide +kernel), List.mem_of_getElem? (i := 358) (by decide +kernel), List.mem_of_getElem? (i := 359) (by decide +kernel)⟩
theorem lw_p8 : lw_okq (⟨"HungMobile$Reader", "takesSize", "(I)Z"⟩, 10) := ⟨⟨by decide +kernel, by decide +kernel⟩, List.mem_of_getElem? (i := 44) (by decide +kernel), List.mem_of_getElem? (i := 447) (by decide +kernel), List.mem_of_getElem? (i := 448) (by decide +kernel)⟩
theorem lw_p9 : lw_okq (⟨"HungMobile$Reader", "takesBehindThing", "(I)Z"⟩, 10) := ⟨⟨by decide +kernel, by decide +kernel⟩, List.mem_of_getElem? (i := 44) (by decide +kernel), List.mem_of_getElem? (i := 451) (by decide +kernel), List.mem_of_getElem? (i := 452) (by decide +kernel)⟩
theorem lw_p10 : lw_okq (⟨"HungMobile", "isRod", "(I)Z"⟩, 10) := ⟨⟨by decide +kernel, by decide +kernel⟩, List.mem_of_getElem? (i := 19) (by decide +kernel), List.mem_of_getElem? (i := 476) (by decide +kernel), List.mem_of_getElem? (i := 477) (by decide +kernel)⟩
theorem lw_p11 : lw_okq (⟨"HungMobile$Scale", "hangRod", "(LHungMobile$Mobile;[II)V"⟩, 4) := ⟨⟨by decide +kernel, by decide +kernel⟩, List.mem_of_getElem? (i := 183) (by decide +kernel), List.mem_of_getElem? (i := 496) (by decide +kernel), List.mem_of_getElem? (i := 497) (by decide +kernel)⟩
theorem lw_p12 : lw_okq (⟨"HungMobile$Scale", "loadOf", "(LHungMobile$Mobile;[II)I"⟩, 4) := ⟨⟨by decide +kernel, by decide +kernel⟩, List.mem_of_getElem? (i := 183) (by decide +kernel), List.mem_of_getElem? (i := 500) (by decide +kernel), List.mem_of_getElem? (i := 501) (by decide +kernel)⟩
theorem lw_p13 : lw_okq (⟨"HungMobile", "aboutRod", "(II)I"⟩, 10) := ⟨⟨by decide +kernel, by decide +kernel⟩, List.mem_of_getElem? (i := 19) (by decide +kernel), List.mem_of_getElem? (i := 504) (by decide +kernel), List.mem_of_getElem? (i := 505) (by decide +kernel)⟩
theorem lw_p14 : lw_okq (⟨"HungMobile", "isThing", "(I)Z"⟩, 10) := ⟨⟨by decide +kernel, by decide +kernel⟩, List.mem_of_getElem? (i := 19) (by decide +kernel), List.mem_of_getElem? (i := 524) (by decide +kernel), List.mem_of_getElem? (i := 525) (by decide +kernel)⟩
theorem lw_p15 : lw_okq (⟨"HungMobile", "aboutThing", "(II)I"⟩, 10) := ⟨⟨by decide +kernel, by decide +kernel⟩, List.mem_of_getElem? (i := 19) (by decide +kernel), List.mem_of_getElem? (i := 528) (by decide +kernel), List.mem_of_getElem? (i := 529) (by decide +kernel)⟩
def lw_privs_1 : List (MethodName × Nat) := [(⟨"HungMobile$Reader", "begin", "()V"⟩, 10), (⟨"HungMobile$Reader", "takes", "(I)Z"⟩, 10), (⟨"HungMobile$Reader", "takesLength", "(I)Z"⟩, 10), (⟨"HungMobile$Reader", "takesEnd", "(I)Z"⟩, 10), (⟨"HungMobile$Reader", "canTell", "(II)Z"⟩, 10), (⟨"HungMobile$Reader", "canFollow", "(I)Z"⟩, 10), (⟨"HungMobile$Reader", "takesBehindRod", "(I)Z"⟩, 10), (⟨"HungMobile$Reader", "takesKind", "(I)Z"⟩, 10), (⟨"HungMobile$Reader", "takesSize", "(I)Z"⟩, 10), (⟨"HungMobile$Reader", "takesBehindThing", "(I)Z"⟩, 10), (⟨"HungMobile", "isRod", "(I)Z"⟩, 10), (⟨"HungMobile$Scale", "hangRod", "(LHungMobile$Mobile;[II)V"⟩, 4), (⟨"HungMobile$Scale", "loadOf", "(LHungMobile$Mobile;[II)I"⟩, 4), (⟨"HungMobile", "aboutRod", "(II)I"⟩, 10), (⟨"HungMobile", "isThing", "(I)Z"⟩, 10), (⟨"HungMobile", "aboutThing", "(II)I"⟩, 10)]
theorem lw_r1 : ∀ q ∈ lw_privs_1, lw_okq q := List.forall_mem_cons.mpr ⟨lw_p0, List.forall_mem_cons.mpr ⟨lw_p1, List.forall_mem_cons.mpr ⟨lw_p2, List.forall_mem_cons.mpr ⟨lw_p3, List.forall_mem_cons.mpr ⟨lw_p4, List.forall_mem_cons.mpr ⟨lw_p5, List.forall_mem_cons.mpr ⟨lw_p6, List.forall_mem_cons.mpr ⟨lw_p7, List.forall_mem_cons.mpr ⟨lw_p8, List.forall_mem_cons.mpr ⟨lw_p9, List.forall_mem_cons.mpr ⟨lw_p10, List.forall_mem_cons.mpr ⟨lw_p11, List.forall_mem_cons.mpr ⟨lw_p12, List.forall_mem_cons.mpr ⟨lw_p13, List.forall_mem_cons.mpr ⟨lw_p14, List.forall_mem_cons.mpr ⟨lw_p15, fun _ h => absurd h List.not_mem_nil⟩⟩⟩⟩⟩⟩⟩⟩⟩⟩⟩⟩⟩⟩⟩⟩
theorem lw_p16 : lw_okq (⟨"HungMobile", "hasMobile", "()Z"⟩, 10) := ⟨⟨by decide +kernel, by decide +kernel⟩, List.mem_of_getElem? (i := 19) (by decide +kernel), List.mem_of_getElem? (i := 563) (by decide +kernel), List.mem_of_getElem? (i := 564) (by decide +kernel)⟩
theorem lw_p17 : lw_okq (⟨"HungMobile", "levelNow", "()I"⟩, 10) := ⟨⟨by decide +kernel, by decide +kernel⟩, List.mem_of_getElem? (i := 19) (by decide +kernel), List.mem_of_getElem? (i := 574) (by decide +kernel), List.mem_of_getElem? (i := 575) (by decide +kernel)⟩
theorem lw_p18 : lw_okq (⟨"HungMobile$Layings", "copyLaid", "(LHungMobile$Mobile;)V"⟩, 11) := ⟨⟨by decide +kernel, by decide +kernel⟩, List.mem_of_getElem? (i := 206) (by decide +kernel), List.mem_of_getElem? (i := 620) (by decide +kernel), List.mem_of_getElem? (i := 621) (by decide +kernel)⟩
theorem lw_p19 : lw_okq (⟨"HungMobile$Layings", "levelIfSwapped", "(LHungMobile$Mobile;II)I"⟩, 11) := ⟨⟨by decide +kernel, by decide +kernel⟩, List.mem_of_getElem? (i := 206) (by decide +kernel), List.mem_of_getElem? (i := 624) (by decide +kernel), List.mem_of_getElem? (i := 625) (by decide +kernel)⟩
theorem lw_p20 : lw_okq (⟨"HungMobile$Layings", "beginOrders", "(LHungMobile$Mobile;)V"⟩, 11) := ⟨⟨by decide +kernel, by decide +kernel⟩, List.mem_of_getElem? (i := 206) (by decide +kernel), List.mem_of_getElem? (i := 638) (by decide +kernel), List.mem_of_getElem? (i := 639) (by decide +kernel)⟩
theorem lw_p21 : lw_okq (⟨"HungMobile$Layings", "layInOrder", "()V"⟩, 11) := ⟨⟨by decide +kernel, by decide +kernel⟩, List.mem_of_getElem? (i := 206) (by decide +kernel), List.mem_of_getElem? (i := 643) (by decide +kernel), List.mem_of_getElem? (i := 644) (by decide +kernel)⟩
theorem lw_p22 : lw_okq (⟨"HungMobile$Layings", "keepIfBetter", "(II)V"⟩, 11) := ⟨⟨by decide +kernel, by decide +kernel⟩, List.mem_of_getElem? (i := 206) (by decide +kernel), List.mem_of_getElem? (i := 654) (by decide +kernel), List.mem_of_getElem? (i := 655) (by decide +kernel)⟩
theorem lw_p23 : lw_okq (⟨"HungMobile$Layings", "nextOrder", "()V"⟩, 11) := ⟨⟨by decide +kernel, by decide +kernel⟩, List.mem_of_getElem? (i := 206) (by decide +kernel), List.mem_of_getElem? (i := 658) (by decide +kernel), List.mem_of_getElem? (i := 659) (by decide +kernel)⟩
theorem lw_p24 : lw_okq (⟨"HungMobile$Layings", "swapAt", "(II)V"⟩, 11) := ⟨⟨by decide +kernel, by decide +kernel⟩, List.mem_of_getElem? (i := 206) (by decide +kernel), List.mem_of_getElem? (i := 662) (by decide +kernel), List.mem_of_getElem? (i := 663) (by decide +kernel)⟩
theorem lw_p25 : lw_okq (⟨"HungMobile$Evenings", "draw", "(I)I"⟩, 5) := ⟨⟨by decide +kernel, by decide +kernel⟩, List.mem_of_getElem? (i := 253) (by decide +kernel), List.mem_of_getElem? (i := 727) (by decide +kernel), List.mem_of_getElem? (i := 728) (by decide +kernel)⟩
theorem lw_p26 : lw_okq (⟨"HungMobile", "countOf", "(I)I"⟩, 10) := ⟨⟨by decide +kernel, by decide +kernel⟩, List.mem_of_getElem? (i := 19) (by decide +kernel), List.mem_of_getElem? (i := 758) (by decide +kernel), List.mem_of_getElem? (i := 759) (by decide +kernel)⟩
theorem lw_p27 : lw_okq (⟨"HungMobileModel", "faultOf", "()I"⟩, 35) := ⟨⟨by decide +kernel, by decide +kernel⟩, List.mem_of_getElem? (i := 775) (by decide +kernel), List.mem_of_getElem? (i := 903) (by decide +kernel), List.mem_of_getElem? (i := 904) (by decide +kernel)⟩
theorem lw_p28 : lw_okq (⟨"HungMobileModel", "isRodLetter", "(I)Z"⟩, 35) := ⟨⟨by decide +kernel, by decide +kernel⟩, List.mem_of_getElem? (i := 775) (by decide +kernel), List.mem_of_getElem? (i := 907) (by decide +kernel), List.mem_of_getElem? (i := 908) (by decide +kernel)⟩
theorem lw_p29 : lw_okq (⟨"HungMobileModel", "isHanging", "(IIZ)Z"⟩, 35) := ⟨⟨by decide +kernel, by decide +kernel⟩, List.mem_of_getElem? (i := 775) (by decide +kernel), List.mem_of_getElem? (i := 913) (by decide +kernel), List.mem_of_getElem? (i := 914) (by decide +kernel)⟩
theorem lw_p30 : lw_okq (⟨"HungMobileModel", "isThingLetter", "(I)Z"⟩, 35) := ⟨⟨by decide +kernel, by decide +kernel⟩, List.mem_of_getElem? (i := 775) (by decide +kernel), List.mem_of_getElem? (i := 918) (by decide +kernel), List.mem_of_getElem? (i := 919) (by decide +kernel)⟩
theorem lw_p31 : lw_okq (⟨"HungMobileModel", "isRod", "(I)Z"⟩, 35) := ⟨⟨by decide +kernel, by decide +kernel⟩, List.mem_of_getElem? (i := 775) (by decide +kernel), List.mem_of_getElem? (i := 934) (by decide +kernel), List.mem_of_getElem? (i := 935) (by decide +kernel)⟩
def lw_privs_2 : List (MethodName × Nat) := [(⟨"HungMobile", "hasMobile", "()Z"⟩, 10), (⟨"HungMobile", "levelNow", "()I"⟩, 10), (⟨"HungMobile$Layings", "copyLaid", "(LHungMobile$Mobile;)V"⟩, 11), (⟨"HungMobile$Layings", "levelIfSwapped", "(LHungMobile$Mobile;II)I"⟩, 11), (⟨"HungMobile$Layings", "beginOrders", "(LHungMobile$Mobile;)V"⟩, 11), (⟨"HungMobile$Layings", "layInOrder", "()V"⟩, 11), (⟨"HungMobile$Layings", "keepIfBetter", "(II)V"⟩, 11), (⟨"HungMobile$Layings", "nextOrder", "()V"⟩, 11), (⟨"HungMobile$Layings", "swapAt", "(II)V"⟩, 11), (⟨"HungMobile$Evenings", "draw", "(I)I"⟩, 5), (⟨"HungMobile", "countOf", "(I)I"⟩, 10), (⟨"HungMobileModel", "faultOf", "()I"⟩, 35), (⟨"HungMobileModel", "isRodLetter", "(I)Z"⟩, 35), (⟨"HungMobileModel", "isHanging", "(IIZ)Z"⟩, 35), (⟨"HungMobileModel", "isThingLetter", "(I)Z"⟩, 35), (⟨"HungMobileModel", "isRod", "(I)Z"⟩, 35)]
theorem lw_r2 : ∀ q ∈ lw_privs_2, lw_okq q := List.forall_mem_cons.mpr ⟨lw_p16, List.forall_mem_cons.mpr ⟨lw_p17, List.forall_mem_cons.mpr ⟨lw_p18, List.forall_mem_cons.mpr ⟨lw_p19, List.forall_mem_cons.mpr ⟨lw_p20, List.forall_mem_cons.mpr ⟨lw_p21, List.forall_mem_cons.mpr ⟨lw_p22, List.forall_mem_cons.mpr ⟨lw_p23, List.forall_mem_cons.mpr ⟨lw_p24, List.forall_mem_cons.mpr ⟨lw_p25, List.forall_mem_cons.mpr ⟨lw_p26, List.forall_mem_cons.mpr ⟨lw_p27, List.forall_mem_cons.mpr ⟨lw_p28, List.forall_mem_cons.mpr ⟨lw_p29, List.forall_mem_cons.mpr ⟨lw_p30, List.forall_mem_cons.mpr ⟨lw_p31, fun _ h => absurd h List.not_mem_nil⟩⟩⟩⟩⟩⟩⟩⟩⟩⟩⟩⟩⟩⟩⟩⟩
theorem lw_p32 : lw_okq (⟨"HungMobileModel", "tellRod", "(II)I"⟩, 35) := ⟨⟨by decide +kernel, by decide +kernel⟩, List.mem_of_getElem? (i := 775) (by decide +kernel), List.mem_of_getElem? (i := 938) (by decide +kernel), List.mem_of_getElem? (i := 939) (by decide +kernel)⟩
theorem lw_p33 : lw_okq (⟨"HungMobileModel", "begin", "()V"⟩, 35) := ⟨⟨by decide +kernel, by decide +kernel⟩, List.mem_of_getElem? (i := 775) (by decide +kernel), List.mem_of_getElem? (i := 942) (by decide +kernel), List.mem_of_getElem? (i := 943) (by decide +kernel)⟩
theorem lw_p34 : lw_okq (⟨"HungMobileModel", "layTilts", "()V"⟩, 35) := ⟨⟨by decide +kernel, by decide +kernel⟩, List.mem_of_getElem? (i := 775) (by decide +kernel), List.mem_of_getElem? (i := 949) (by decide +kernel), List.mem_of_getElem? (i := 950) (by decide +kernel)⟩
theorem lw_p35 : lw_okq (⟨"HungMobileModel", "hungThen", "(I)I"⟩, 35) := ⟨⟨by decide +kernel, by decide +kernel⟩, List.mem_of_getElem? (i := 775) (by decide +kernel), List.mem_of_getElem? (i := 953) (by decide +kernel), List.mem_of_getElem? (i := 954) (by decide +kernel)⟩
theorem lw_p36 : lw_okq (⟨"HungMobileModel", "thingThen", "(I)I"⟩, 35) := ⟨⟨by decide +kernel, by decide +kernel⟩, List.mem_of_getElem? (i := 775) (by decide +kernel), List.mem_of_getElem? (i := 957) (by decide +kernel), List.mem_of_getElem? (i := 958) (by decide +kernel)⟩
theorem lw_p37 : lw_okq (⟨"HungMobileModel", "hangsOf", "(I)I"⟩, 35) := ⟨⟨by decide +kernel, by decide +kernel⟩, List.mem_of_getElem? (i := 775) (by decide +kernel), List.mem_of_getElem? (i := 964) (by decide +kernel), List.mem_of_getElem? (i := 965) (by decide +kernel)⟩
theorem lw_p38 : lw_okq (⟨"HungMobileModel", "there", "()I"⟩, 35) := ⟨⟨by decide +kernel, by decide +kernel⟩, List.mem_of_getElem? (i := 775) (by decide +kernel), List.mem_of_getElem? (i := 968) (by decide +kernel), List.mem_of_getElem? (i := 969) (by decide +kernel)⟩
theorem lw_p39 : lw_okq (⟨"HungMobileModel", "hookOf", "(I)I"⟩, 35) := ⟨⟨by decide +kernel, by decide +kernel⟩, List.mem_of_getElem? (i := 775) (by decide +kernel), List.mem_of_getElem? (i := 972) (by decide +kernel), List.mem_of_getElem? (i := 973) (by decide +kernel)⟩
theorem lw_p40 : lw_okq (⟨"HungMobileModel", "addOf", "(I)I"⟩, 35) := ⟨⟨by decide +kernel, by decide +kernel⟩, List.mem_of_getElem? (i := 775) (by decide +kernel), List.mem_of_getElem? (i := 976) (by decide +kernel), List.mem_of_getElem? (i := 977) (by decide +kernel)⟩
theorem lw_p41 : lw_okq (⟨"HungMobileModel", "isThing", "(I)Z"⟩, 35) := ⟨⟨by decide +kernel, by decide +kernel⟩, List.mem_of_getElem? (i := 775) (by decide +kernel), List.mem_of_getElem? (i := 984) (by decide +kernel), List.mem_of_getElem? (i := 985) (by decide +kernel)⟩
theorem lw_p42 : lw_okq (⟨"HungMobileModel", "tellThing", "(II)I"⟩, 35) := ⟨⟨by decide +kernel, by decide +kernel⟩, List.mem_of_getElem? (i := 775) (by decide +kernel), List.mem_of_getElem? (i := 988) (by decide +kernel), List.mem_of_getElem? (i := 989) (by decide +kernel)⟩
theorem lw_p43 : lw_okq (⟨"HungMobileModel", "armOf", "(I)I"⟩, 35) := ⟨⟨by decide +kernel, by decide +kernel⟩, List.mem_of_getElem? (i := 775) (by decide +kernel), List.mem_of_getElem? (i := 992) (by decide +kernel), List.mem_of_getElem? (i := 993) (by decide +kernel)⟩
theorem lw_p44 : lw_okq (⟨"HungMobileModel", "sizesOf", "(I)I"⟩, 35) := ⟨⟨by decide +kernel, by decide +kernel⟩, List.mem_of_getElem? (i := 775) (by decide +kernel), List.mem_of_getElem? (i := 996) (by decide +kernel), List.mem_of_getElem? (i := 997) (by decide +kernel)⟩
theorem lw_p45 : lw_okq (⟨"HungMobileModel", "howIf", "(IIII)I"⟩, 35) := ⟨⟨by decide +kernel, by decide +kernel⟩, List.mem_of_getElem? (i := 775) (by decide +kernel), List.mem_of_getElem? (i := 1000) (by decide +kernel), List.mem_of_getElem? (i := 1001) (by decide +kernel)⟩
theorem lw_p46 : lw_okq (⟨"HungMobileModel", "lacks", "()Z"⟩, 35) := ⟨⟨by decide +kernel, by decide +kernel⟩, List.mem_of_getElem? (i := 775) (by decide +kernel), List.mem_of_getElem? (i := 1012) (by decide +kernel), List.mem_of_getElem? (i := 1013) (by decide +kernel)⟩
theorem lw_p47 : lw_okq (⟨"HungMobileModel", "isCut", "(I)Z"⟩, 35) := ⟨⟨by decide +kernel, by decide +kernel⟩, List.mem_of_getElem? (i := 775) (by decide +kernel), List.mem_of_getElem? (i := 1020) (by decide +kernel), List.mem_of_getElem? (i := 1021) (by decide +kernel)⟩
def lw_privs_3 : List (MethodName × Nat) := [(⟨"HungMobileModel", "tellRod", "(II)I"⟩, 35), (⟨"HungMobileModel", "begin", "()V"⟩, 35), (⟨"HungMobileModel", "layTilts", "()V"⟩, 35), (⟨"HungMobileModel", "hungThen", "(I)I"⟩, 35), (⟨"HungMobileModel", "thingThen", "(I)I"⟩, 35), (⟨"HungMobileModel", "hangsOf", "(I)I"⟩, 35), (⟨"HungMobileModel", "there", "()I"⟩, 35), (⟨"HungMobileModel", "hookOf", "(I)I"⟩, 35), (⟨"HungMobileModel", "addOf", "(I)I"⟩, 35), (⟨"HungMobileModel", "isThing", "(I)Z"⟩, 35), (⟨"HungMobileModel", "tellThing", "(II)I"⟩, 35), (⟨"HungMobileModel", "armOf", "(I)I"⟩, 35), (⟨"HungMobileModel", "sizesOf", "(I)I"⟩, 35), (⟨"HungMobileModel", "howIf", "(IIII)I"⟩, 35), (⟨"HungMobileModel", "lacks", "()Z"⟩, 35), (⟨"HungMobileModel", "isCut", "(I)Z"⟩, 35)]
theorem lw_r3 : ∀ q ∈ lw_privs_3, lw_okq q := List.forall_mem_cons.mpr ⟨lw_p32, List.forall_mem_cons.mpr ⟨lw_p33, List.forall_mem_cons.mpr ⟨lw_p34, List.forall_mem_cons.mpr ⟨lw_p35, List.forall_mem_cons.mpr ⟨lw_p36, List.forall_mem_cons.mpr ⟨lw_p37, List.forall_mem_cons.mpr ⟨lw_p38, List.forall_mem_cons.mpr ⟨lw_p39, List.forall_mem_cons.mpr ⟨lw_p40, List.forall_mem_cons.mpr ⟨lw_p41, List.forall_mem_cons.mpr ⟨lw_p42, List.forall_mem_cons.mpr ⟨lw_p43, List.forall_mem_cons.mpr ⟨lw_p44, List.forall_mem_cons.mpr ⟨lw_p45, List.forall_mem_cons.mpr ⟨lw_p46, List.forall_mem_cons.mpr ⟨lw_p47, fun _ h => absurd h List.not_mem_nil⟩⟩⟩⟩⟩⟩⟩⟩⟩⟩⟩⟩⟩⟩⟩⟩
theorem lw_p48 : lw_okq (⟨"HungMobileModel", "levelNow", "()I"⟩, 35) := ⟨⟨by decide +kernel, by decide +kernel⟩, List.mem_of_getElem? (i := 775) (by decide +kernel), List.mem_of_getElem? (i := 1027) (by decide +kernel), List.mem_of_getElem? (i := 1028) (by decide +kernel)⟩
theorem lw_p49 : lw_okq (⟨"HungMobileModel", "levelThen", "()I"⟩, 35) := ⟨⟨by decide +kernel, by decide +kernel⟩, List.mem_of_getElem? (i := 775) (by decide +kernel), List.mem_of_getElem? (i := 1031) (by decide +kernel), List.mem_of_getElem? (i := 1032) (by decide +kernel)⟩
theorem lw_p50 : lw_okq (⟨"HungMobileModel", "bestOf", "()I"⟩, 35) := ⟨⟨by decide +kernel, by decide +kernel⟩, List.mem_of_getElem? (i := 775) (by decide +kernel), List.mem_of_getElem? (i := 1063) (by decide +kernel), List.mem_of_getElem? (i := 1064) (by decide +kernel)⟩
theorem lw_p51 : lw_okq (⟨"HungMobileModel", "layOf", "(I)I"⟩, 35) := ⟨⟨by decide +kernel, by decide +kernel⟩, List.mem_of_getElem? (i := 775) (by decide +kernel), List.mem_of_getElem? (i := 1073) (by decide +kernel), List.mem_of_getElem? (i := 1074) (by decide +kernel)⟩
theorem lw_p52 : lw_okq (⟨"HungMobileModel", "looseMany", "()I"⟩, 35) := ⟨⟨by decide +kernel, by decide +kernel⟩, List.mem_of_getElem? (i := 775) (by decide +kernel), List.mem_of_getElem? (i := 1077) (by decide +kernel), List.mem_of_getElem? (i := 1078) (by decide +kernel)⟩
theorem lw_p53 : lw_okq (⟨"HungMobileModel", "layOrder", "(I)V"⟩, 35) := ⟨⟨by decide +kernel, by decide +kernel⟩, List.mem_of_getElem? (i := 775) (by decide +kernel), List.mem_of_getElem? (i := 1084) (by decide +kernel), List.mem_of_getElem? (i := 1085) (by decide +kernel)⟩
theorem lw_p54 : lw_okq (⟨"HungMobileModel", "tiltsAll", "()I"⟩, 35) := ⟨⟨by decide +kernel, by decide +kernel⟩, List.mem_of_getElem? (i := 775) (by decide +kernel), List.mem_of_getElem? (i := 1088) (by decide +kernel), List.mem_of_getElem? (i := 1089) (by decide +kernel)⟩
theorem lw_p55 : lw_okq (⟨"HungMobileModel", "evenOf", "()I"⟩, 35) := ⟨⟨by decide +kernel, by decide +kernel⟩, List.mem_of_getElem? (i := 775) (by decide +kernel), List.mem_of_getElem? (i := 1096) (by decide +kernel), List.mem_of_getElem? (i := 1097) (by decide +kernel)⟩
theorem lw_p56 : lw_okq (⟨"HungMobileModel", "oddsOf", "(I)I"⟩, 35) := ⟨⟨by decide +kernel, by decide +kernel⟩, List.mem_of_getElem? (i := 775) (by decide +kernel), List.mem_of_getElem? (i := 1104) (by decide +kernel), List.mem_of_getElem? (i := 1105) (by decide +kernel)⟩
theorem lw_p57 : lw_okq (⟨"HungMobileModel", "trialOf", "(II)I"⟩, 35) := ⟨⟨by decide +kernel, by decide +kernel⟩, List.mem_of_getElem? (i := 775) (by decide +kernel), List.mem_of_getElem? (i := 1121) (by decide +kernel), List.mem_of_getElem? (i := 1122) (by decide +kernel)⟩
theorem lw_p58 : lw_okq (⟨"HungMobileModel", "draw", "(I)I"⟩, 35) := ⟨⟨by decide +kernel, by decide +kernel⟩, List.mem_of_getElem? (i := 775) (by decide +kernel), List.mem_of_getElem? (i := 1130) (by decide +kernel), List.mem_of_getElem? (i := 1131) (by decide +kernel)⟩
theorem lw_p59 : lw_okq (⟨"HungMobileModel", "countOf", "(I)I"⟩, 35) := ⟨⟨by decide +kernel, by decide +kernel⟩, List.mem_of_getElem? (i := 775) (by decide +kernel), List.mem_of_getElem? (i := 1150) (by decide +kernel), List.mem_of_getElem? (i := 1151) (by decide +kernel)⟩
theorem lw_p60 : lw_okq (⟨"HungMobileModel", "thingsThere", "()I"⟩, 35) := ⟨⟨by decide +kernel, by decide +kernel⟩, List.mem_of_getElem? (i := 775) (by decide +kernel), List.mem_of_getElem? (i := 1154) (by decide +kernel), List.mem_of_getElem? (i := 1155) (by decide +kernel)⟩
theorem lw_p61 : lw_okq (⟨"HungMobileModel", "weighsAll", "()I"⟩, 35) := ⟨⟨by decide +kernel, by decide +kernel⟩, List.mem_of_getElem? (i := 775) (by decide +kernel), List.mem_of_getElem? (i := 1158) (by decide +kernel), List.mem_of_getElem? (i := 1159) (by decide +kernel)⟩
theorem lw_p62 : lw_okq (⟨"HungMobileModel", "say", "(J)V"⟩, 35) := ⟨⟨by decide +kernel, by decide +kernel⟩, List.mem_of_getElem? (i := 775) (by decide +kernel), List.mem_of_getElem? (i := 1167) (by decide +kernel), List.mem_of_getElem? (i := 1168) (by decide +kernel)⟩
def lw_privs_4 : List (MethodName × Nat) := [(⟨"HungMobileModel", "levelNow", "()I"⟩, 35), (⟨"HungMobileModel", "levelThen", "()I"⟩, 35), (⟨"HungMobileModel", "bestOf", "()I"⟩, 35), (⟨"HungMobileModel", "layOf", "(I)I"⟩, 35), (⟨"HungMobileModel", "looseMany", "()I"⟩, 35), (⟨"HungMobileModel", "layOrder", "(I)V"⟩, 35), (⟨"HungMobileModel", "tiltsAll", "()I"⟩, 35), (⟨"HungMobileModel", "evenOf", "()I"⟩, 35), (⟨"HungMobileModel", "oddsOf", "(I)I"⟩, 35), (⟨"HungMobileModel", "trialOf", "(II)I"⟩, 35), (⟨"HungMobileModel", "draw", "(I)I"⟩, 35), (⟨"HungMobileModel", "countOf", "(I)I"⟩, 35), (⟨"HungMobileModel", "thingsThere", "()I"⟩, 35), (⟨"HungMobileModel", "weighsAll", "()I"⟩, 35), (⟨"HungMobileModel", "say", "(J)V"⟩, 35)]
theorem lw_r4 : ∀ q ∈ lw_privs_4, lw_okq q := List.forall_mem_cons.mpr ⟨lw_p48, List.forall_mem_cons.mpr ⟨lw_p49, List.forall_mem_cons.mpr ⟨lw_p50, List.forall_mem_cons.mpr ⟨lw_p51, List.forall_mem_cons.mpr ⟨lw_p52, List.forall_mem_cons.mpr ⟨lw_p53, List.forall_mem_cons.mpr ⟨lw_p54, List.forall_mem_cons.mpr ⟨lw_p55, List.forall_mem_cons.mpr ⟨lw_p56, List.forall_mem_cons.mpr ⟨lw_p57, List.forall_mem_cons.mpr ⟨lw_p58, List.forall_mem_cons.mpr ⟨lw_p59, List.forall_mem_cons.mpr ⟨lw_p60, List.forall_mem_cons.mpr ⟨lw_p61, List.forall_mem_cons.mpr ⟨lw_p62, fun _ h => absurd h List.not_mem_nil⟩⟩⟩⟩⟩⟩⟩⟩⟩⟩⟩⟩⟩⟩⟩
def lw_privs : List (MethodName × Nat) := lw_privs_1 ++ (lw_privs_2 ++ (lw_privs_3 ++ (lw_privs_4)))
def lw_tbl : List Cond := k2_sels lw_privs ++ tables_1
theorem lw_privs_ok : ∀ q ∈ lw_privs, lw_okq q := by
  show ∀ q ∈ lw_privs_1 ++ (lw_privs_2 ++ (lw_privs_3 ++ (lw_privs_4))), lw_okq q
  exact List.forall_mem_append.mpr ⟨lw_r1, List.forall_mem_append.mpr ⟨lw_r2, List.forall_mem_append.mpr ⟨lw_r3, lw_r4⟩⟩⟩
end
section
theorem goodIn_r {big : List Cond} (ws : List Cond) (ps : List Nat) (hp : ws = ps.filterMap (fun i => big[i]?)) (h : ws.all goodWord = true) : GoodIn big ws := by
  intro w hw
  have h1 := List.all_eq_true.mp h w hw
  rw [hp] at hw
  obtain ⟨i, -, hi⟩ := List.mem_filterMap.mp hw
  have hm : w ∈ big := by first | exact List.mem_of_getElem? hi | exact List.getElem?_mem hi
  exact ⟨hm, good_of_word h1⟩
def RX0 : String := "HungMobile$Evenings"
def TX0 : u_T := fun k => match k with
  | 0 => ("HungMobile$Evenings", "level", "I", false)
  | 1 => ("HungMobile$Evenings", "tilt", "I", false)
  | 2 => ("HungMobile$Evenings", "seed", "I", false)
  | 3 => ("HungMobile$Evenings", "scale", "LHungMobile$Scale;", true)
  | _ => ("HungMobile$Evenings", "laid", "[I", true)
def tyX0 : Nat → FieldType := fun k => match k with
  | 0 => .int
  | 1 => .int
  | 2 => .int
  | 3 => .object "HungMobile$Scale"
  | _ => .array .int
abbrev wsX00 : List Cond := u_ws RX0 TX0 5
theorem nmX0 : ∀ a, a < 5 → ∀ b, b < 5 → a ≠ b → (TX0 a).2.1 ≠ (TX0 b).2.1 := by decide +kernel
theorem tyX0_ok : ∀ k, k < 5 → parseFieldDescriptor (TX0 k).2.2.1 = some (tyX0 k) := by decide +kernel
abbrev cX0_init : ByteArray := prog_2_method_1_code
def yX0_init : MethodName := ⟨RX0, "<init>", "()V"⟩
abbrev cX0_hoursUntilLevel : ByteArray := prog_2_method_2_code
def yX0_hoursUntilLevel : MethodName := ⟨RX0, "hoursUntilLevel", "(LHungMobile$Mobile;)I"⟩
abbrev cX0_pass : ByteArray := prog_2_method_3_code
def yX0_pass : MethodName := ⟨RX0, "pass", "(LHungMobile$Mobile;II)V"⟩
abbrev cX0_draw : ByteArray := prog_2_method_4_code
def yX0_draw : MethodName := ⟨RX0, "draw", "(I)I"⟩
def RX1 : String := "HungMobile$Kinds"
def TX1 : u_T := fun k => match k with
  | _ => ("", "", "", false)
def tyX1 : Nat → FieldType := fun k => match k with
  | _ => .int
abbrev wsX10 : List Cond := u_ws RX1 TX1 0
theorem nmX1 : ∀ a, a < 0 → ∀ b, b < 0 → a ≠ b → (TX1 a).2.1 ≠ (TX1 b).2.1 := by decide +kernel
theorem tyX1_ok : ∀ k, k < 0 → parseFieldDescriptor (TX1 k).2.2.1 = some (tyX1 k) := by decide +kernel
abbrev cX1_isKind : ByteArray := prog_3_method_2_code
def yX1_isKind : MethodName := ⟨RX1, "isKind", "(I)Z"⟩
abbrev cX1_isA : ByteArray := prog_3_method_3_code
def yX1_isA : MethodName := ⟨RX1, "isA", "(II)Z"⟩
abbrev cX1_weight : ByteArray := prog_3_method_4_code
def yX1_weight : MethodName := ⟨RX1, "weight", "(III)I"⟩
def RX2 : String := "HungMobile$Layings"
def TX2 : u_T := fun k => match k with
  | 0 => ("HungMobile$Layings", "mostLevel", "I", false)
  | 1 => ("HungMobile$Layings", "leastTilt", "I", false)
  | 2 => ("HungMobile$Layings", "bestLaid", "[I", true)
  | 3 => ("HungMobile$Layings", "oddsAbove", "I", false)
  | 4 => ("HungMobile$Layings", "oddsBelow", "I", false)
  | 5 => ("HungMobile$Layings", "scale", "LHungMobile$Scale;", true)
  | 6 => ("HungMobile$Layings", "laid", "[I", true)
  | 7 => ("HungMobile$Layings", "places", "[I", true)
  | 8 => ("HungMobile$Layings", "order", "[I", true)
  | 9 => ("HungMobile$Layings", "uncut", "I", false)
  | _ => ("HungMobile$Layings", "orders", "I", false)
def tyX2 : Nat → FieldType := fun k => match k with
  | 0 => .int
  | 1 => .int
  | 2 => .array .int
  | 3 => .int
  | 4 => .int
  | 5 => .object "HungMobile$Scale"
  | 6 => .array .int
  | 7 => .array .int
  | 8 => .array .int
  | 9 => .int
  | _ => .int
abbrev wsX20 : List Cond := u_ws RX2 TX2 11
theorem nmX2 : ∀ a, a < 11 → ∀ b, b < 11 → a ≠ b → (TX2 a).2.1 ≠ (TX2 b).2.1 := by decide +kernel
theorem tyX2_ok : ∀ k, k < 11 → parseFieldDescriptor (TX2 k).2.2.1 = some (tyX2 k) := by decide +kernel
abbrev cX2_init : ByteArray := prog_4_method_1_code
def yX2_init : MethodName := ⟨RX2, "<init>", "()V"⟩
abbrev cX2_bestExchange : ByteArray := prog_4_method_2_code
def yX2_bestExchange : MethodName := ⟨RX2, "bestExchange", "(LHungMobile$Mobile;)I"⟩
abbrev cX2_levelIfSwapped : ByteArray := prog_4_method_3_code
def yX2_levelIfSwapped : MethodName := ⟨RX2, "levelIfSwapped", "(LHungMobile$Mobile;II)I"⟩
abbrev cX2_findBestLaying : ByteArray := prog_4_method_4_code
def yX2_findBestLaying : MethodName := ⟨RX2, "findBestLaying", "(LHungMobile$Mobile;)V"⟩
abbrev cX2_keepIfBetter : ByteArray := prog_4_method_5_code
def yX2_keepIfBetter : MethodName := ⟨RX2, "keepIfBetter", "(II)V"⟩
abbrev cX2_findOdds : ByteArray := prog_4_method_6_code
def yX2_findOdds : MethodName := ⟨RX2, "findOdds", "(LHungMobile$Mobile;)V"⟩
abbrev cX2_beginOrders : ByteArray := prog_4_method_7_code
def yX2_beginOrders : MethodName := ⟨RX2, "beginOrders", "(LHungMobile$Mobile;)V"⟩
abbrev cX2_copyLaid : ByteArray := prog_4_method_8_code
def yX2_copyLaid : MethodName := ⟨RX2, "copyLaid", "(LHungMobile$Mobile;)V"⟩
abbrev cX2_layInOrder : ByteArray := prog_4_method_9_code
def yX2_layInOrder : MethodName := ⟨RX2, "layInOrder", "()V"⟩
abbrev cX2_nextOrder : ByteArray := prog_4_method_10_code
def yX2_nextOrder : MethodName := ⟨RX2, "nextOrder", "()V"⟩
abbrev cX2_swapAt : ByteArray := prog_4_method_11_code
def yX2_swapAt : MethodName := ⟨RX2, "swapAt", "(II)V"⟩
abbrev cX2_greatestDivisor : ByteArray := prog_4_method_12_code
def yX2_greatestDivisor : MethodName := ⟨RX2, "greatestDivisor", "(II)I"⟩
def RX3 : String := "HungMobile$Mobile"
def TX3 : u_T := fun k => match k with
  | 0 => ("HungMobile$Mobile", "rods", "I", false)
  | 1 => ("HungMobile$Mobile", "things", "I", false)
  | 2 => ("HungMobile$Mobile", "hours", "I", false)
  | 3 => ("HungMobile$Mobile", "lengths", "[I", true)
  | 4 => ("HungMobile$Mobile", "ends", "[I", true)
  | 5 => ("HungMobile$Mobile", "laid", "[I", true)
  | 6 => ("HungMobile$Mobile", "kinds", "[I", true)
  | 7 => ("HungMobile$Mobile", "sizes", "[I", true)
  | 8 => ("HungMobile$Mobile", "thingCut", "[Z", true)
  | 9 => ("HungMobile$Mobile", "rodCut", "[Z", true)
  | _ => ("HungMobile$Mobile", "seen", "LHungMobile$Seen;", true)
def tyX3 : Nat → FieldType := fun k => match k with
  | 0 => .int
  | 1 => .int
  | 2 => .int
  | 3 => .array .int
  | 4 => .array .int
  | 5 => .array .int
  | 6 => .array .int
  | 7 => .array .int
  | 8 => .array .boolean
  | 9 => .array .boolean
  | _ => .object "HungMobile$Seen"
abbrev wsX30 : List Cond := u_ws RX3 TX3 11
theorem nmX3 : ∀ a, a < 11 → ∀ b, b < 11 → a ≠ b → (TX3 a).2.1 ≠ (TX3 b).2.1 := by decide +kernel
theorem tyX3_ok : ∀ k, k < 11 → parseFieldDescriptor (TX3 k).2.2.1 = some (tyX3 k) := by decide +kernel
abbrev cX3_init : ByteArray := prog_5_method_1_code
def yX3_init : MethodName := ⟨RX3, "<init>", "()V"⟩
abbrev cX3_hangAsRead : ByteArray := prog_5_method_2_code
def yX3_hangAsRead : MethodName := ⟨RX3, "hangAsRead", "(LHungMobile$Reader;)V"⟩
abbrev cX3_copyFrom : ByteArray := prog_5_method_3_code
def yX3_copyFrom : MethodName := ⟨RX3, "copyFrom", "(LHungMobile$Mobile;)V"⟩
abbrev cX3_hangAllAgain : ByteArray := prog_5_method_4_code
def yX3_hangAllAgain : MethodName := ⟨RX3, "hangAllAgain", "()I"⟩
abbrev cX3_hangingFrom : ByteArray := prog_5_method_5_code
def yX3_hangingFrom : MethodName := ⟨RX3, "hangingFrom", "(I)I"⟩
abbrev cX3_armOf : ByteArray := prog_5_method_6_code
def yX3_armOf : MethodName := ⟨RX3, "armOf", "(I)I"⟩
def RX4 : String := "HungMobile$Page"
def TX4 : u_T := fun k => match k with
  | 0 => ("HungMobile$Page", "codes", "[I", true)
  | _ => ("HungMobile$Page", "length", "I", false)
def tyX4 : Nat → FieldType := fun k => match k with
  | 0 => .array .int
  | _ => .int
abbrev wsX40 : List Cond := u_ws RX4 TX4 2
theorem nmX4 : ∀ a, a < 2 → ∀ b, b < 2 → a ≠ b → (TX4 a).2.1 ≠ (TX4 b).2.1 := by decide +kernel
theorem tyX4_ok : ∀ k, k < 2 → parseFieldDescriptor (TX4 k).2.2.1 = some (tyX4 k) := by decide +kernel
abbrev cX4_init : ByteArray := prog_6_method_1_code
def yX4_init : MethodName := ⟨RX4, "<init>", "()V"⟩
def RX5 : String := "HungMobile$Reader"
def TX5 : u_T := fun k => match k with
  | 0 => ("HungMobile$Reader", "lengths", "[I", true)
  | 1 => ("HungMobile$Reader", "ends", "[I", true)
  | 2 => ("HungMobile$Reader", "kinds", "[I", true)
  | 3 => ("HungMobile$Reader", "sizes", "[I", true)
  | 4 => ("HungMobile$Reader", "lastTold", "I", false)
  | 5 => ("HungMobile$Reader", "places", "I", false)
  | 6 => ("HungMobile$Reader", "told", "[Z", true)
  | 7 => ("HungMobile$Reader", "next", "I", false)
  | 8 => ("HungMobile$Reader", "arm", "I", false)
  | _ => ("HungMobile$Reader", "thing", "I", false)
def tyX5 : Nat → FieldType := fun k => match k with
  | 0 => .array .int
  | 1 => .array .int
  | 2 => .array .int
  | 3 => .array .int
  | 4 => .int
  | 5 => .int
  | 6 => .array .boolean
  | 7 => .int
  | 8 => .int
  | _ => .int
abbrev wsX50 : List Cond := u_ws RX5 TX5 10
theorem nmX5 : ∀ a, a < 10 → ∀ b, b < 10 → a ≠ b → (TX5 a).2.1 ≠ (TX5 b).2.1 := by decide +kernel
theorem tyX5_ok : ∀ k, k < 10 → parseFieldDescriptor (TX5 k).2.2.1 = some (tyX5 k) := by decide +kernel
abbrev cX5_init : ByteArray := prog_7_method_1_code
def yX5_init : MethodName := ⟨RX5, "<init>", "()V"⟩
abbrev cX5_readLetters : ByteArray := prog_7_method_2_code
def yX5_readLetters : MethodName := ⟨RX5, "readLetters", "(LHungMobile$Page;)I"⟩
abbrev cX5_isWhole : ByteArray := prog_7_method_3_code
def yX5_isWhole : MethodName := ⟨RX5, "isWhole", "()Z"⟩
abbrev cX5_begin : ByteArray := prog_7_method_4_code
def yX5_begin : MethodName := ⟨RX5, "begin", "()V"⟩
abbrev cX5_takes : ByteArray := prog_7_method_5_code
def yX5_takes : MethodName := ⟨RX5, "takes", "(I)Z"⟩
abbrev cX5_takesLength : ByteArray := prog_7_method_6_code
def yX5_takesLength : MethodName := ⟨RX5, "takesLength", "(I)Z"⟩
abbrev cX5_takesEnd : ByteArray := prog_7_method_7_code
def yX5_takesEnd : MethodName := ⟨RX5, "takesEnd", "(I)Z"⟩
abbrev cX5_canTell : ByteArray := prog_7_method_8_code
def yX5_canTell : MethodName := ⟨RX5, "canTell", "(II)Z"⟩
abbrev cX5_canFollow : ByteArray := prog_7_method_9_code
def yX5_canFollow : MethodName := ⟨RX5, "canFollow", "(I)Z"⟩
abbrev cX5_takesBehindRod : ByteArray := prog_7_method_10_code
def yX5_takesBehindRod : MethodName := ⟨RX5, "takesBehindRod", "(I)Z"⟩
abbrev cX5_takesKind : ByteArray := prog_7_method_11_code
def yX5_takesKind : MethodName := ⟨RX5, "takesKind", "(I)Z"⟩
abbrev cX5_takesSize : ByteArray := prog_7_method_12_code
def yX5_takesSize : MethodName := ⟨RX5, "takesSize", "(I)Z"⟩
abbrev cX5_takesBehindThing : ByteArray := prog_7_method_13_code
def yX5_takesBehindThing : MethodName := ⟨RX5, "takesBehindThing", "(I)Z"⟩
def RX6 : String := "HungMobile$Scale"
def TX6 : u_T := fun k => match k with
  | 0 => ("HungMobile$Scale", "loads", "[I", true)
  | 1 => ("HungMobile$Scale", "tilts", "[I", true)
  | 2 => ("HungMobile$Scale", "there", "[Z", true)
  | _ => ("HungMobile$Scale", "weights", "[I", true)
def tyX6 : Nat → FieldType := fun k => match k with
  | 0 => .array .int
  | 1 => .array .int
  | 2 => .array .boolean
  | _ => .array .int
abbrev wsX60 : List Cond := u_ws RX6 TX6 4
theorem nmX6 : ∀ a, a < 4 → ∀ b, b < 4 → a ≠ b → (TX6 a).2.1 ≠ (TX6 b).2.1 := by decide +kernel
theorem tyX6_ok : ∀ k, k < 4 → parseFieldDescriptor (TX6 k).2.2.1 = some (tyX6 k) := by decide +kernel
abbrev cX6_init : ByteArray := prog_8_method_1_code
def yX6_init : MethodName := ⟨RX6, "<init>", "()V"⟩
abbrev cX6_weigh : ByteArray := prog_8_method_2_code
def yX6_weigh : MethodName := ⟨RX6, "weigh", "(LHungMobile$Mobile;)V"⟩
abbrev cX6_prepare : ByteArray := prog_8_method_3_code
def yX6_prepare : MethodName := ⟨RX6, "prepare", "(LHungMobile$Mobile;I)V"⟩
abbrev cX6_hang : ByteArray := prog_8_method_4_code
def yX6_hang : MethodName := ⟨RX6, "hang", "(LHungMobile$Mobile;[I)V"⟩
abbrev cX6_hangsLevel : ByteArray := prog_8_method_5_code
def yX6_hangsLevel : MethodName := ⟨RX6, "hangsLevel", "(LHungMobile$Mobile;[I)Z"⟩
abbrev cX6_hangRod : ByteArray := prog_8_method_6_code
def yX6_hangRod : MethodName := ⟨RX6, "hangRod", "(LHungMobile$Mobile;[II)V"⟩
abbrev cX6_loadOf : ByteArray := prog_8_method_7_code
def yX6_loadOf : MethodName := ⟨RX6, "loadOf", "(LHungMobile$Mobile;[II)I"⟩
abbrev cX6_rodsThere : ByteArray := prog_8_method_8_code
def yX6_rodsThere : MethodName := ⟨RX6, "rodsThere", "(LHungMobile$Mobile;)I"⟩
abbrev cX6_rodsLevel : ByteArray := prog_8_method_9_code
def yX6_rodsLevel : MethodName := ⟨RX6, "rodsLevel", "(LHungMobile$Mobile;)I"⟩
abbrev cX6_thingsThere : ByteArray := prog_8_method_10_code
def yX6_thingsThere : MethodName := ⟨RX6, "thingsThere", "(LHungMobile$Mobile;)I"⟩
abbrev cX6_tiltTogether : ByteArray := prog_8_method_11_code
def yX6_tiltTogether : MethodName := ⟨RX6, "tiltTogether", "(LHungMobile$Mobile;)I"⟩
abbrev cX6_hookFor : ByteArray := prog_8_method_12_code
def yX6_hookFor : MethodName := ⟨RX6, "hookFor", "(LHungMobile$Mobile;I)I"⟩
abbrev cX6_beadToAdd : ByteArray := prog_8_method_13_code
def yX6_beadToAdd : MethodName := ⟨RX6, "beadToAdd", "(LHungMobile$Mobile;I)I"⟩
def RX7 : String := "HungMobile$Seen"
def TX7 : u_T := fun k => match k with
  | 0 => ("HungMobile$Seen", "entries", "I", false)
  | 1 => ("HungMobile$Seen", "things", "[I", true)
  | 2 => ("HungMobile$Seen", "rods", "[I", true)
  | 3 => ("HungMobile$Seen", "beads", "[I", true)
  | _ => ("HungMobile$Seen", "hows", "[I", true)
def tyX7 : Nat → FieldType := fun k => match k with
  | 0 => .int
  | 1 => .array .int
  | 2 => .array .int
  | 3 => .array .int
  | _ => .array .int
abbrev wsX70 : List Cond := u_ws RX7 TX7 5
theorem nmX7 : ∀ a, a < 5 → ∀ b, b < 5 → a ≠ b → (TX7 a).2.1 ≠ (TX7 b).2.1 := by decide +kernel
theorem tyX7_ok : ∀ k, k < 5 → parseFieldDescriptor (TX7 k).2.2.1 = some (tyX7 k) := by decide +kernel
abbrev cX7_init : ByteArray := prog_9_method_1_code
def yX7_init : MethodName := ⟨RX7, "<init>", "()V"⟩
abbrev cX7_add : ByteArray := prog_9_method_2_code
def yX7_add : MethodName := ⟨RX7, "add", "(IIII)V"⟩
abbrev cX7_copyFrom : ByteArray := prog_9_method_3_code
def yX7_copyFrom : MethodName := ⟨RX7, "copyFrom", "(LHungMobile$Seen;)V"⟩
abbrev cX7_sizesOf : ByteArray := prog_9_method_4_code
def yX7_sizesOf : MethodName := ⟨RX7, "sizesOf", "(LHungMobile$Mobile;I)I"⟩
abbrev cX7_beadToTry : ByteArray := prog_9_method_5_code
def yX7_beadToTry : MethodName := ⟨RX7, "beadToTry", "(LHungMobile$Mobile;II)I"⟩
abbrev cX7_sizesTilting : ByteArray := prog_9_method_6_code
def yX7_sizesTilting : MethodName := ⟨RX7, "sizesTilting", "(LHungMobile$Mobile;IIII)I"⟩
abbrev cX7_wayOf : ByteArray := prog_9_method_7_code
def yX7_wayOf : MethodName := ⟨RX7, "wayOf", "(I)I"⟩
def RX8 : String := "HungMobile"
def TX8 : u_T := fun k => match k with
  | 0 => ("HungMobile", "page", "LHungMobile$Page;", true)
  | 1 => ("HungMobile", "reader", "LHungMobile$Reader;", true)
  | 2 => ("HungMobile", "now", "LHungMobile$Mobile;", true)
  | 3 => ("HungMobile", "kept", "LHungMobile$Mobile;", true)
  | 4 => ("HungMobile", "scale", "LHungMobile$Scale;", true)
  | 5 => ("HungMobile", "layings", "LHungMobile$Layings;", true)
  | 6 => ("HungMobile", "nights", "LHungMobile$Evenings;", true)
  | 7 => ("HungMobile", "isKept", "Z", false)
  | 8 => ("HungMobile", "reads", "I", false)
  | _ => ("HungMobile", "lays", "I", false)
def tyX8 : Nat → FieldType := fun k => match k with
  | 0 => .object "HungMobile$Page"
  | 1 => .object "HungMobile$Reader"
  | 2 => .object "HungMobile$Mobile"
  | 3 => .object "HungMobile$Mobile"
  | 4 => .object "HungMobile$Scale"
  | 5 => .object "HungMobile$Layings"
  | 6 => .object "HungMobile$Evenings"
  | 7 => .boolean
  | 8 => .int
  | _ => .int
abbrev wsX80 : List Cond := u_ws RX8 TX8 10
theorem nmX8 : ∀ a, a < 10 → ∀ b, b < 10 → a ≠ b → (TX8 a).2.1 ≠ (TX8 b).2.1 := by decide +kernel
theorem tyX8_ok : ∀ k, k < 10 → parseFieldDescriptor (TX8 k).2.2.1 = some (tyX8 k) := by decide +kernel
abbrev cX8_init : ByteArray := prog_1_method_1_code
def yX8_init : MethodName := ⟨RX8, "<init>", "()V"⟩
abbrev cX8_letter : ByteArray := prog_1_method_2_code
def yX8_letter : MethodName := ⟨RX8, "letter", "(I)I"⟩
abbrev cX8_blank : ByteArray := prog_1_method_3_code
def yX8_blank : MethodName := ⟨RX8, "blank", "()I"⟩
abbrev cX8_fault : ByteArray := prog_1_method_4_code
def yX8_fault : MethodName := ⟨RX8, "fault", "()I"⟩
abbrev cX8_mobile : ByteArray := prog_1_method_5_code
def yX8_mobile : MethodName := ⟨RX8, "mobile", "()I"⟩
abbrev cX8_rod : ByteArray := prog_1_method_6_code
def yX8_rod : MethodName := ⟨RX8, "rod", "(II)I"⟩
abbrev cX8_thing : ByteArray := prog_1_method_7_code
def yX8_thing : MethodName := ⟨RX8, "thing", "(II)I"⟩
abbrev cX8_as : ByteArray := prog_1_method_8_code
def yX8_as : MethodName := ⟨RX8, "as", "(II)I"⟩
abbrev cX8_hour : ByteArray := prog_1_method_9_code
def yX8_hour : MethodName := ⟨RX8, "hour", "()I"⟩
abbrev cX8_exchange : ByteArray := prog_1_method_10_code
def yX8_exchange : MethodName := ⟨RX8, "exchange", "(II)I"⟩
abbrev cX8_move : ByteArray := prog_1_method_11_code
def yX8_move : MethodName := ⟨RX8, "move", "(II)I"⟩
abbrev cX8_cut : ByteArray := prog_1_method_12_code
def yX8_cut : MethodName := ⟨RX8, "cut", "(I)I"⟩
abbrev cX8_drop : ByteArray := prog_1_method_13_code
def yX8_drop : MethodName := ⟨RX8, "drop", "(I)I"⟩
abbrev cX8_mend : ByteArray := prog_1_method_14_code
def yX8_mend : MethodName := ⟨RX8, "mend", "()I"⟩
abbrev cX8_change : ByteArray := prog_1_method_15_code
def yX8_change : MethodName := ⟨RX8, "change", "(III)I"⟩
abbrev cX8_best : ByteArray := prog_1_method_16_code
def yX8_best : MethodName := ⟨RX8, "best", "()I"⟩
abbrev cX8_lay : ByteArray := prog_1_method_17_code
def yX8_lay : MethodName := ⟨RX8, "lay", "(I)I"⟩
abbrev cX8_even : ByteArray := prog_1_method_18_code
def yX8_even : MethodName := ⟨RX8, "even", "()I"⟩
abbrev cX8_odds : ByteArray := prog_1_method_19_code
def yX8_odds : MethodName := ⟨RX8, "odds", "(I)I"⟩
abbrev cX8_see : ByteArray := prog_1_method_20_code
def yX8_see : MethodName := ⟨RX8, "see", "(IIII)I"⟩
abbrev cX8_forget : ByteArray := prog_1_method_21_code
def yX8_forget : MethodName := ⟨RX8, "forget", "()I"⟩
abbrev cX8_trial : ByteArray := prog_1_method_22_code
def yX8_trial : MethodName := ⟨RX8, "trial", "(II)I"⟩
abbrev cX8_evenings : ByteArray := prog_1_method_23_code
def yX8_evenings : MethodName := ⟨RX8, "evenings", "(III)I"⟩
abbrev cX8_image : ByteArray := prog_1_method_24_code
def yX8_image : MethodName := ⟨RX8, "image", "()I"⟩
abbrev cX8_restore : ByteArray := prog_1_method_25_code
def yX8_restore : MethodName := ⟨RX8, "restore", "()I"⟩
abbrev cX8_count : ByteArray := prog_1_method_26_code
def yX8_count : MethodName := ⟨RX8, "count", "(I)I"⟩
abbrev cX8_digest : ByteArray := prog_1_method_27_code
def yX8_digest : MethodName := ⟨RX8, "digest", "()J"⟩
abbrev cX8_hasMobile : ByteArray := prog_1_method_28_code
def yX8_hasMobile : MethodName := ⟨RX8, "hasMobile", "()Z"⟩
abbrev cX8_isRod : ByteArray := prog_1_method_29_code
def yX8_isRod : MethodName := ⟨RX8, "isRod", "(I)Z"⟩
abbrev cX8_isThing : ByteArray := prog_1_method_30_code
def yX8_isThing : MethodName := ⟨RX8, "isThing", "(I)Z"⟩
abbrev cX8_isSize : ByteArray := prog_1_method_31_code
def yX8_isSize : MethodName := ⟨RX8, "isSize", "(I)Z"⟩
abbrev cX8_levelNow : ByteArray := prog_1_method_32_code
def yX8_levelNow : MethodName := ⟨RX8, "levelNow", "()I"⟩
abbrev cX8_aboutRod : ByteArray := prog_1_method_33_code
def yX8_aboutRod : MethodName := ⟨RX8, "aboutRod", "(II)I"⟩
abbrev cX8_aboutThing : ByteArray := prog_1_method_34_code
def yX8_aboutThing : MethodName := ⟨RX8, "aboutThing", "(II)I"⟩
abbrev cX8_countOf : ByteArray := prog_1_method_35_code
def yX8_countOf : MethodName := ⟨RX8, "countOf", "(I)I"⟩
abbrev cX8_swapThings : ByteArray := prog_1_method_36_code
def yX8_swapThings : MethodName := ⟨RX8, "swapThings", "([III)V"⟩
def RX9 : String := "HungMobileModel"
def TX9 : u_T := fun k => match k with
  | 0 => ("HungMobileModel", "page", "[I", true)
  | 1 => ("HungMobileModel", "pageMany", "I", false)
  | 2 => ("HungMobileModel", "end", "I", false)
  | 3 => ("HungMobileModel", "toldRods", "I", false)
  | 4 => ("HungMobileModel", "rods", "I", false)
  | 5 => ("HungMobileModel", "things", "I", false)
  | 6 => ("HungMobileModel", "hours", "I", false)
  | 7 => ("HungMobileModel", "mobilesRead", "I", false)
  | 8 => ("HungMobileModel", "cutRods", "I", false)
  | 9 => ("HungMobileModel", "cutThings", "I", false)
  | 10 => ("HungMobileModel", "arms", "[I", true)
  | 11 => ("HungMobileModel", "hangs", "[I", true)
  | 12 => ("HungMobileModel", "placeArm", "[I", true)
  | 13 => ("HungMobileModel", "kinds", "[I", true)
  | 14 => ("HungMobileModel", "sizes", "[I", true)
  | 15 => ("HungMobileModel", "laid", "[I", true)
  | 16 => ("HungMobileModel", "laidThen", "[I", true)
  | 17 => ("HungMobileModel", "hourThen", "I", false)
  | 18 => ("HungMobileModel", "weights", "[I", true)
  | 19 => ("HungMobileModel", "tilts", "[I", true)
  | 20 => ("HungMobileModel", "laysDone", "I", false)
  | 21 => ("HungMobileModel", "seenMany", "I", false)
  | 22 => ("HungMobileModel", "sights", "[I", true)
  | 23 => ("HungMobileModel", "seedNow", "I", false)
  | 24 => ("HungMobileModel", "keptMobile", "I", false)
  | 25 => ("HungMobileModel", "keptHours", "I", false)
  | 26 => ("HungMobileModel", "keptCutRods", "I", false)
  | 27 => ("HungMobileModel", "keptCutThings", "I", false)
  | 28 => ("HungMobileModel", "keptSeen", "I", false)
  | 29 => ("HungMobileModel", "keptArms", "[I", true)
  | 30 => ("HungMobileModel", "keptKinds", "[I", true)
  | 31 => ("HungMobileModel", "keptSizes", "[I", true)
  | 32 => ("HungMobileModel", "keptLaid", "[I", true)
  | 33 => ("HungMobileModel", "keptSights", "[I", true)
  | _ => ("HungMobileModel", "hash", "J", false)
def tyX9 : Nat → FieldType := fun k => match k with
  | 0 => .array .int
  | 1 => .int
  | 2 => .int
  | 3 => .int
  | 4 => .int
  | 5 => .int
  | 6 => .int
  | 7 => .int
  | 8 => .int
  | 9 => .int
  | 10 => .array .int
  | 11 => .array .int
  | 12 => .array .int
  | 13 => .array .int
  | 14 => .array .int
  | 15 => .array .int
  | 16 => .array .int
  | 17 => .int
  | 18 => .array .int
  | 19 => .array .int
  | 20 => .int
  | 21 => .int
  | 22 => .array .int
  | 23 => .int
  | 24 => .int
  | 25 => .int
  | 26 => .int
  | 27 => .int
  | 28 => .int
  | 29 => .array .int
  | 30 => .array .int
  | 31 => .array .int
  | 32 => .array .int
  | 33 => .array .int
  | _ => .long
abbrev wsX90 : List Cond := u_ws RX9 TX9 35
theorem nmX9 : ∀ a, a < 35 → ∀ b, b < 35 → a ≠ b → (TX9 a).2.1 ≠ (TX9 b).2.1 := by decide +kernel
theorem tyX9_ok : ∀ k, k < 35 → parseFieldDescriptor (TX9 k).2.2.1 = some (tyX9 k) := by decide +kernel
abbrev cX9_init : ByteArray := prog_11_method_1_code
def yX9_init : MethodName := ⟨RX9, "<init>", "()V"⟩
abbrev cX9_in : ByteArray := prog_11_method_2_code
def yX9_in : MethodName := ⟨RX9, "in", "(JJJ)Z"⟩
abbrev cX9_copy : ByteArray := prog_11_method_3_code
def yX9_copy : MethodName := ⟨RX9, "copy", "([I[I)V"⟩
abbrev cX9_letter : ByteArray := prog_11_method_4_code
def yX9_letter : MethodName := ⟨RX9, "letter", "(I)I"⟩
abbrev cX9_blank : ByteArray := prog_11_method_5_code
def yX9_blank : MethodName := ⟨RX9, "blank", "()I"⟩
abbrev cX9_kindBy : ByteArray := prog_11_method_6_code
def yX9_kindBy : MethodName := ⟨RX9, "kindBy", "(I)I"⟩
abbrev cX9_isHanging : ByteArray := prog_11_method_7_code
def yX9_isHanging : MethodName := ⟨RX9, "isHanging", "(IIZ)Z"⟩
abbrev cX9_isRodLetter : ByteArray := prog_11_method_8_code
def yX9_isRodLetter : MethodName := ⟨RX9, "isRodLetter", "(I)Z"⟩
abbrev cX9_isThingLetter : ByteArray := prog_11_method_9_code
def yX9_isThingLetter : MethodName := ⟨RX9, "isThingLetter", "(I)Z"⟩
abbrev cX9_faultOf : ByteArray := prog_11_method_10_code
def yX9_faultOf : MethodName := ⟨RX9, "faultOf", "()I"⟩
abbrev cX9_fault : ByteArray := prog_11_method_11_code
def yX9_fault : MethodName := ⟨RX9, "fault", "()I"⟩
abbrev cX9_mobile : ByteArray := prog_11_method_12_code
def yX9_mobile : MethodName := ⟨RX9, "mobile", "()I"⟩
abbrev cX9_lacks : ByteArray := prog_11_method_13_code
def yX9_lacks : MethodName := ⟨RX9, "lacks", "()Z"⟩
abbrev cX9_isRod : ByteArray := prog_11_method_14_code
def yX9_isRod : MethodName := ⟨RX9, "isRod", "(I)Z"⟩
abbrev cX9_isThing : ByteArray := prog_11_method_15_code
def yX9_isThing : MethodName := ⟨RX9, "isThing", "(I)Z"⟩
abbrev cX9_weighsBy : ByteArray := prog_11_method_16_code
def yX9_weighsBy : MethodName := ⟨RX9, "weighsBy", "(III)I"⟩
abbrev cX9_begin : ByteArray := prog_11_method_17_code
def yX9_begin : MethodName := ⟨RX9, "begin", "()V"⟩
abbrev cX9_thingThen : ByteArray := prog_11_method_18_code
def yX9_thingThen : MethodName := ⟨RX9, "thingThen", "(I)I"⟩
abbrev cX9_hungThen : ByteArray := prog_11_method_19_code
def yX9_hungThen : MethodName := ⟨RX9, "hungThen", "(I)I"⟩
abbrev cX9_layTilts : ByteArray := prog_11_method_20_code
def yX9_layTilts : MethodName := ⟨RX9, "layTilts", "()V"⟩
abbrev cX9_there : ByteArray := prog_11_method_21_code
def yX9_there : MethodName := ⟨RX9, "there", "()I"⟩
abbrev cX9_levelThen : ByteArray := prog_11_method_22_code
def yX9_levelThen : MethodName := ⟨RX9, "levelThen", "()I"⟩
abbrev cX9_levelNow : ByteArray := prog_11_method_23_code
def yX9_levelNow : MethodName := ⟨RX9, "levelNow", "()I"⟩
abbrev cX9_ones : ByteArray := prog_11_method_24_code
def yX9_ones : MethodName := ⟨RX9, "ones", "(I)I"⟩
abbrev cX9_hookOf : ByteArray := prog_11_method_25_code
def yX9_hookOf : MethodName := ⟨RX9, "hookOf", "(I)I"⟩
abbrev cX9_addOf : ByteArray := prog_11_method_26_code
def yX9_addOf : MethodName := ⟨RX9, "addOf", "(I)I"⟩
abbrev cX9_hangsOf : ByteArray := prog_11_method_27_code
def yX9_hangsOf : MethodName := ⟨RX9, "hangsOf", "(I)I"⟩
abbrev cX9_tellRod : ByteArray := prog_11_method_28_code
def yX9_tellRod : MethodName := ⟨RX9, "tellRod", "(II)I"⟩
abbrev cX9_rod : ByteArray := prog_11_method_29_code
def yX9_rod : MethodName := ⟨RX9, "rod", "(II)I"⟩
abbrev cX9_armOf : ByteArray := prog_11_method_30_code
def yX9_armOf : MethodName := ⟨RX9, "armOf", "(I)I"⟩
abbrev cX9_tellThing : ByteArray := prog_11_method_31_code
def yX9_tellThing : MethodName := ⟨RX9, "tellThing", "(II)I"⟩
abbrev cX9_thing : ByteArray := prog_11_method_32_code
def yX9_thing : MethodName := ⟨RX9, "thing", "(II)I"⟩
abbrev cX9_as : ByteArray := prog_11_method_33_code
def yX9_as : MethodName := ⟨RX9, "as", "(II)I"⟩
abbrev cX9_hour : ByteArray := prog_11_method_34_code
def yX9_hour : MethodName := ⟨RX9, "hour", "()I"⟩
abbrev cX9_trade : ByteArray := prog_11_method_35_code
def yX9_trade : MethodName := ⟨RX9, "trade", "([III)V"⟩
abbrev cX9_isCut : ByteArray := prog_11_method_36_code
def yX9_isCut : MethodName := ⟨RX9, "isCut", "(I)Z"⟩
abbrev cX9_exchange : ByteArray := prog_11_method_37_code
def yX9_exchange : MethodName := ⟨RX9, "exchange", "(II)I"⟩
abbrev cX9_move : ByteArray := prog_11_method_38_code
def yX9_move : MethodName := ⟨RX9, "move", "(II)I"⟩
abbrev cX9_cut : ByteArray := prog_11_method_39_code
def yX9_cut : MethodName := ⟨RX9, "cut", "(I)I"⟩
abbrev cX9_drop : ByteArray := prog_11_method_40_code
def yX9_drop : MethodName := ⟨RX9, "drop", "(I)I"⟩
abbrev cX9_mend : ByteArray := prog_11_method_41_code
def yX9_mend : MethodName := ⟨RX9, "mend", "()I"⟩
abbrev cX9_change : ByteArray := prog_11_method_42_code
def yX9_change : MethodName := ⟨RX9, "change", "(III)I"⟩
abbrev cX9_bestOf : ByteArray := prog_11_method_43_code
def yX9_bestOf : MethodName := ⟨RX9, "bestOf", "()I"⟩
abbrev cX9_best : ByteArray := prog_11_method_44_code
def yX9_best : MethodName := ⟨RX9, "best", "()I"⟩
abbrev cX9_looseMany : ByteArray := prog_11_method_45_code
def yX9_looseMany : MethodName := ⟨RX9, "looseMany", "()I"⟩
abbrev cX9_factorial : ByteArray := prog_11_method_46_code
def yX9_factorial : MethodName := ⟨RX9, "factorial", "(I)I"⟩
abbrev cX9_layOrder : ByteArray := prog_11_method_47_code
def yX9_layOrder : MethodName := ⟨RX9, "layOrder", "(I)V"⟩
abbrev cX9_tiltsAll : ByteArray := prog_11_method_48_code
def yX9_tiltsAll : MethodName := ⟨RX9, "tiltsAll", "()I"⟩
abbrev cX9_layOf : ByteArray := prog_11_method_49_code
def yX9_layOf : MethodName := ⟨RX9, "layOf", "(I)I"⟩
abbrev cX9_lay : ByteArray := prog_11_method_50_code
def yX9_lay : MethodName := ⟨RX9, "lay", "(I)I"⟩
abbrev cX9_evenOf : ByteArray := prog_11_method_51_code
def yX9_evenOf : MethodName := ⟨RX9, "evenOf", "()I"⟩
abbrev cX9_even : ByteArray := prog_11_method_52_code
def yX9_even : MethodName := ⟨RX9, "even", "()I"⟩
abbrev cX9_oddsOf : ByteArray := prog_11_method_53_code
def yX9_oddsOf : MethodName := ⟨RX9, "oddsOf", "(I)I"⟩
abbrev cX9_odds : ByteArray := prog_11_method_54_code
def yX9_odds : MethodName := ⟨RX9, "odds", "(I)I"⟩
abbrev cX9_see : ByteArray := prog_11_method_55_code
def yX9_see : MethodName := ⟨RX9, "see", "(IIII)I"⟩
abbrev cX9_forget : ByteArray := prog_11_method_56_code
def yX9_forget : MethodName := ⟨RX9, "forget", "()I"⟩
abbrev cX9_howIf : ByteArray := prog_11_method_57_code
def yX9_howIf : MethodName := ⟨RX9, "howIf", "(IIII)I"⟩
abbrev cX9_sizesOf : ByteArray := prog_11_method_58_code
def yX9_sizesOf : MethodName := ⟨RX9, "sizesOf", "(I)I"⟩
abbrev cX9_trialOf : ByteArray := prog_11_method_59_code
def yX9_trialOf : MethodName := ⟨RX9, "trialOf", "(II)I"⟩
abbrev cX9_trial : ByteArray := prog_11_method_60_code
def yX9_trial : MethodName := ⟨RX9, "trial", "(II)I"⟩
abbrev cX9_draw : ByteArray := prog_11_method_61_code
def yX9_draw : MethodName := ⟨RX9, "draw", "(I)I"⟩
abbrev cX9_evenings : ByteArray := prog_11_method_62_code
def yX9_evenings : MethodName := ⟨RX9, "evenings", "(III)I"⟩
abbrev cX9_image : ByteArray := prog_11_method_63_code
def yX9_image : MethodName := ⟨RX9, "image", "()I"⟩
abbrev cX9_restore : ByteArray := prog_11_method_64_code
def yX9_restore : MethodName := ⟨RX9, "restore", "()I"⟩
abbrev cX9_thingsThere : ByteArray := prog_11_method_65_code
def yX9_thingsThere : MethodName := ⟨RX9, "thingsThere", "()I"⟩
abbrev cX9_weighsAll : ByteArray := prog_11_method_66_code
def yX9_weighsAll : MethodName := ⟨RX9, "weighsAll", "()I"⟩
abbrev cX9_countOf : ByteArray := prog_11_method_67_code
def yX9_countOf : MethodName := ⟨RX9, "countOf", "(I)I"⟩
abbrev cX9_count : ByteArray := prog_11_method_68_code
def yX9_count : MethodName := ⟨RX9, "count", "(I)I"⟩
abbrev cX9_say : ByteArray := prog_11_method_69_code
def yX9_say : MethodName := ⟨RX9, "say", "(J)V"⟩
abbrev cX9_digest : ByteArray := prog_11_method_70_code
def yX9_digest : MethodName := ⟨RX9, "digest", "()J"⟩
def RJ11 : String := "java/lang/Character"
def TJ11 : u_T := fun k => match k with
  | _ => ("", "", "", false)
def tyJ11 : Nat → FieldType := fun k => match k with
  | _ => .int
abbrev wsJ110 : List Cond := u_ws RJ11 TJ11 0
theorem nmJ11 : ∀ a, a < 0 → ∀ b, b < 0 → a ≠ b → (TJ11 a).2.1 ≠ (TJ11 b).2.1 := by decide +kernel
theorem tyJ11_ok : ∀ k, k < 0 → parseFieldDescriptor (TJ11 k).2.2.1 = some (tyJ11 k) := by decide +kernel
abbrev cJ11_isValidCodePoint_9a6ad : ByteArray := prog_12_method_11_code
def yJ11_isValidCodePoint_9a6ad : MethodName := ⟨RJ11, "isValidCodePoint", "(I)Z"⟩
abbrev cJ11_highSurrogate_5068e : ByteArray := prog_12_method_28_code
def yJ11_highSurrogate_5068e : MethodName := ⟨RJ11, "highSurrogate", "(I)C"⟩
abbrev cJ11_lowSurrogate_5068e : ByteArray := prog_12_method_29_code
def yJ11_lowSurrogate_5068e : MethodName := ⟨RJ11, "lowSurrogate", "(I)C"⟩
def RJ6 : String := "java/lang/Integer"
def TJ6 : u_T := fun k => match k with
  | _ => ("", "", "", false)
def tyJ6 : Nat → FieldType := fun k => match k with
  | _ => .int
abbrev wsJ60 : List Cond := u_ws RJ6 TJ6 0
theorem nmJ6 : ∀ a, a < 0 → ∀ b, b < 0 → a ≠ b → (TJ6 a).2.1 ≠ (TJ6 b).2.1 := by decide +kernel
theorem tyJ6_ok : ∀ k, k < 0 → parseFieldDescriptor (TJ6 k).2.2.1 = some (tyJ6 k) := by decide +kernel
abbrev cJ6_bitCount_0f7a4 : ByteArray := prog_13_method_49_code
def yJ6_bitCount_0f7a4 : MethodName := ⟨RJ6, "bitCount", "(I)I"⟩
def RJ9 : String := "java/lang/Math"
def TJ9 : u_T := fun k => match k with
  | _ => ("", "", "", false)
def tyJ9 : Nat → FieldType := fun k => match k with
  | _ => .int
abbrev wsJ90 : List Cond := u_ws RJ9 TJ9 0
theorem nmJ9 : ∀ a, a < 0 → ∀ b, b < 0 → a ≠ b → (TJ9 a).2.1 ≠ (TJ9 b).2.1 := by decide +kernel
theorem tyJ9_ok : ∀ k, k < 0 → parseFieldDescriptor (TJ9 k).2.2.1 = some (tyJ9 k) := by decide +kernel
abbrev cJ9_abs_0f7a4 : ByteArray := prog_14_method_59_code
def yJ9_abs_0f7a4 : MethodName := ⟨RJ9, "abs", "(I)I"⟩
abbrev cJ9_max_7cf53 : ByteArray := prog_14_method_65_code
def yJ9_max_7cf53 : MethodName := ⟨RJ9, "max", "(II)I"⟩
abbrev cJ9_min_7cf53 : ByteArray := prog_14_method_69_code
def yJ9_min_7cf53 : MethodName := ⟨RJ9, "min", "(II)I"⟩
def RJ0 : String := "java/lang/String"
def TJ0 : u_T := fun k => match k with
  | _ => ("", "", "", false)
def tyJ0 : Nat → FieldType := fun k => match k with
  | _ => .int
abbrev wsJ00 : List Cond := u_ws RJ0 TJ0 0
theorem nmJ0 : ∀ a, a < 0 → ∀ b, b < 0 → a ≠ b → (TJ0 a).2.1 ≠ (TJ0 b).2.1 := by decide +kernel
theorem tyJ0_ok : ∀ k, k < 0 → parseFieldDescriptor (TJ0 k).2.2.1 = some (tyJ0 k) := by decide +kernel
abbrev cJ0_length_8abf5 : ByteArray := prog_15_method_54_code
def yJ0_length_8abf5 : MethodName := ⟨RJ0, "length", "()I"⟩
abbrev cJ0_indexOf_0f7a4 : ByteArray := prog_15_method_79_code
def yJ0_indexOf_0f7a4 : MethodName := ⟨RJ0, "indexOf", "(I)I"⟩
abbrev cJ0_indexOf_7cf53 : ByteArray := prog_15_method_80_code
def yJ0_indexOf_7cf53 : MethodName := ⟨RJ0, "indexOf", "(II)I"⟩
abbrev cJ0_coder_7d493 : ByteArray := prog_15_method_152_code
def yJ0_coder_7d493 : MethodName := ⟨RJ0, "coder", "()B"⟩
abbrev cJ0_isLatin1_aae02 : ByteArray := prog_15_method_154_code
def yJ0_isLatin1_aae02 : MethodName := ⟨RJ0, "isLatin1", "()Z"⟩
abbrev cJ0_checkBoundsBeginEnd_23922 : ByteArray := prog_15_method_158_code
def yJ0_checkBoundsBeginEnd_23922 : MethodName := ⟨RJ0, "checkBoundsBeginEnd", "(III)V"⟩
def RJ1 : String := "java/lang/StringLatin1"
def TJ1 : u_T := fun k => match k with
  | _ => ("", "", "", false)
def tyJ1 : Nat → FieldType := fun k => match k with
  | _ => .int
abbrev wsJ10 : List Cond := u_ws RJ1 TJ1 0
theorem nmJ1 : ∀ a, a < 0 → ∀ b, b < 0 → a ≠ b → (TJ1 a).2.1 ≠ (TJ1 b).2.1 := by decide +kernel
theorem tyJ1_ok : ∀ k, k < 0 → parseFieldDescriptor (TJ1 k).2.2.1 = some (tyJ1 k) := by decide +kernel
abbrev cJ1_canEncode_9a6ad : ByteArray := prog_16_method_4_code
def yJ1_canEncode_9a6ad : MethodName := ⟨RJ1, "canEncode", "(I)Z"⟩
abbrev cJ1_indexOf_4cfef : ByteArray := prog_16_method_22_code
def yJ1_indexOf_4cfef : MethodName := ⟨RJ1, "indexOf", "([BIII)I"⟩
abbrev cJ1_indexOfChar_4cfef : ByteArray := prog_16_method_23_code
def yJ1_indexOfChar_4cfef : MethodName := ⟨RJ1, "indexOfChar", "([BIII)I"⟩
def RJ2 : String := "java/lang/StringUTF16"
def TJ2 : u_T := fun k => match k with
  | _ => ("", "", "", false)
def tyJ2 : Nat → FieldType := fun k => match k with
  | _ => .int
abbrev wsJ20 : List Cond := u_ws RJ2 TJ2 0
theorem nmJ2 : ∀ a, a < 0 → ∀ b, b < 0 → a ≠ b → (TJ2 a).2.1 ≠ (TJ2 b).2.1 := by decide +kernel
theorem tyJ2_ok : ∀ k, k < 0 → parseFieldDescriptor (TJ2 k).2.2.1 = some (tyJ2 k) := by decide +kernel
abbrev cJ2_getChar_3b067 : ByteArray := prog_17_method_5_code
def yJ2_getChar_3b067 : MethodName := ⟨RJ2, "getChar", "([BI)C"⟩
abbrev cJ2_length_9d52b : ByteArray := prog_17_method_6_code
def yJ2_length_9d52b : MethodName := ⟨RJ2, "length", "([B)I"⟩
abbrev cJ2_indexOf_4cfef : ByteArray := prog_17_method_40_code
def yJ2_indexOf_4cfef : MethodName := ⟨RJ2, "indexOf", "([BIII)I"⟩
abbrev cJ2_indexOfChar_4cfef : ByteArray := prog_17_method_47_code
def yJ2_indexOfChar_4cfef : MethodName := ⟨RJ2, "indexOfChar", "([BIII)I"⟩
abbrev cJ2_indexOfCharUnsafe_4cfef : ByteArray := prog_17_method_48_code
def yJ2_indexOfCharUnsafe_4cfef : MethodName := ⟨RJ2, "indexOfCharUnsafe", "([BIII)I"⟩
abbrev cJ2_indexOfSupplementary_4cfef : ByteArray := prog_17_method_49_code
def yJ2_indexOfSupplementary_4cfef : MethodName := ⟨RJ2, "indexOfSupplementary", "([BIII)I"⟩
abbrev cJ2_checkBoundsBeginEnd_d044e : ByteArray := prog_17_method_93_code
def yJ2_checkBoundsBeginEnd_d044e : MethodName := ⟨RJ2, "checkBoundsBeginEnd", "(II[B)V"⟩
def RJ3 : String := "jdk/internal/util/Preconditions"
def TJ3 : u_T := fun k => match k with
  | _ => ("", "", "", false)
def tyJ3 : Nat → FieldType := fun k => match k with
  | _ => .int
abbrev wsJ30 : List Cond := u_ws RJ3 TJ3 0
theorem nmJ3 : ∀ a, a < 0 → ∀ b, b < 0 → a ≠ b → (TJ3 a).2.1 ≠ (TJ3 b).2.1 := by decide +kernel
theorem tyJ3_ok : ∀ k, k < 0 → parseFieldDescriptor (TJ3 k).2.2.1 = some (tyJ3 k) := by decide +kernel
abbrev cJ3_checkFromToIndex_8c36e : ByteArray := prog_18_method_12_code
def yJ3_checkFromToIndex_8c36e : MethodName := ⟨RJ3, "checkFromToIndex", "(IIILjava/util/function/BiFunction;)I"⟩
def RL : String := "HungMobileLaw"
abbrev cL_law : ByteArray := code
def yL_law : MethodName := ⟨RL, "law", "([I)Z"⟩
abbrev vwCl : List vw_C := [(RX0, TX0, 5), (RX2, TX2, 11), (RX3, TX3, 11), (RX4, TX4, 2), (RX5, TX5, 10), (RX6, TX6, 4), (RX7, TX7, 5), (RX8, TX8, 10), (RX9, TX9, 35)]
/-- the words that stay while the machine warms up -/
def gs_B : List Cond := lw_tbl.filter goodWord
theorem gs_in {w : Cond} {i : Nat} (h : lw_tbl[i]? = some w) (hg : goodWord w = true) : w ∈ gs_B := List.mem_filter.mpr ⟨List.mem_of_getElem? h, hg⟩
theorem gs_good : GoodIn gs_B gs_B := fun w h => ⟨h, good_of_word (List.mem_filter.mp h).2⟩
theorem gs_Bin : ∀ w ∈ gs_B, w ∈ lw_tbl := fun _ h => (List.mem_filter.mp h).1
theorem gs_ins {ws : List Cond} (ps : List Nat) (h : ws = ps.filterMap (fun i => lw_tbl[i]?)) (hg : ws.all goodWord = true) : ∀ w ∈ ws, w ∈ gs_B := by
  intro w hw
  have h1 := List.all_eq_true.mp hg w hw
  rw [h] at hw
  obtain ⟨i, -, hi⟩ := List.mem_filterMap.mp hw
  exact gs_in hi h1
end
section
theorem kS_X5_begin : Cond.selects RX5 yX5_begin yX5_begin ∈ gs_B := gs_in (i := 0) (by decide +kernel) (by decide +kernel)
theorem kS_X5_takes : Cond.selects RX5 yX5_takes yX5_takes ∈ gs_B := gs_in (i := 1) (by decide +kernel) (by decide +kernel)
theorem kS_X5_takesLength : Cond.selects RX5 yX5_takesLength yX5_takesLength ∈ gs_B := gs_in (i := 2) (by decide +kernel) (by decide +kernel)
theorem kS_X5_takesEnd : Cond.selects RX5 yX5_takesEnd yX5_takesEnd ∈ gs_B := gs_in (i := 3) (by decide +kernel) (by decide +kernel)
theorem kS_X5_canTell : Cond.selects RX5 yX5_canTell yX5_canTell ∈ gs_B := gs_in (i := 4) (by decide +kernel) (by decide +kernel)
theorem kS_X5_canFollow : Cond.selects RX5 yX5_canFollow yX5_canFollow ∈ gs_B := gs_in (i := 5) (by decide +kernel) (by decide +kernel)
theorem kS_X5_takesBehindRod : Cond.selects RX5 yX5_takesBehindRod yX5_takesBehindRod ∈ gs_B := gs_in (i := 6) (by decide +kernel) (by decide +kernel)
theorem kS_X5_takesKind : Cond.selects RX5 yX5_takesKind yX5_takesKind ∈ gs_B := gs_in (i := 7) (by decide +kernel) (by decide +kernel)
theorem kS_X5_takesSize : Cond.selects RX5 yX5_takesSize yX5_takesSize ∈ gs_B := gs_in (i := 8) (by decide +kernel) (by decide +kernel)
theorem kS_X5_takesBehindThing : Cond.selects RX5 yX5_takesBehindThing yX5_takesBehindThing ∈ gs_B := gs_in (i := 9) (by decide +kernel) (by decide +kernel)
theorem kS_X8_isRod : Cond.selects RX8 yX8_isRod yX8_isRod ∈ gs_B := gs_in (i := 10) (by decide +kernel) (by decide +kernel)
theorem kS_X6_hangRod : Cond.selects RX6 yX6_hangRod yX6_hangRod ∈ gs_B := gs_in (i := 11) (by decide +kernel) (by decide +kernel)
theorem kS_X6_loadOf : Cond.selects RX6 yX6_loadOf yX6_loadOf ∈ gs_B := gs_in (i := 12) (by decide +kernel) (by decide +kernel)
theorem kS_X8_aboutRod : Cond.selects RX8 yX8_aboutRod yX8_aboutRod ∈ gs_B := gs_in (i := 13) (by decide +kernel) (by decide +kernel)
theorem kS_X8_isThing : Cond.selects RX8 yX8_isThing yX8_isThing ∈ gs_B := gs_in (i := 14) (by decide +kernel) (by decide +kernel)
theorem kS_X8_aboutThing : Cond.selects RX8 yX8_aboutThing yX8_aboutThing ∈ gs_B := gs_in (i := 15) (by decide +kernel) (by decide +kernel)
theorem kS_X8_hasMobile : Cond.selects RX8 yX8_hasMobile yX8_hasMobile ∈ gs_B := gs_in (i := 16) (by decide +kernel) (by decide +kernel)
theorem kS_X8_levelNow : Cond.selects RX8 yX8_levelNow yX8_levelNow ∈ gs_B := gs_in (i := 17) (by decide +kernel) (by decide +kernel)
theorem kS_X2_copyLaid : Cond.selects RX2 yX2_copyLaid yX2_copyLaid ∈ gs_B := gs_in (i := 18) (by decide +kernel) (by decide +kernel)
theorem kS_X2_levelIfSwapped : Cond.selects RX2 yX2_levelIfSwapped yX2_levelIfSwapped ∈ gs_B := gs_in (i := 19) (by decide +kernel) (by decide +kernel)
theorem kS_X2_beginOrders : Cond.selects RX2 yX2_beginOrders yX2_beginOrders ∈ gs_B := gs_in (i := 20) (by decide +kernel) (by decide +kernel)
theorem kS_X2_layInOrder : Cond.selects RX2 yX2_layInOrder yX2_layInOrder ∈ gs_B := gs_in (i := 21) (by decide +kernel) (by decide +kernel)
theorem kS_X2_keepIfBetter : Cond.selects RX2 yX2_keepIfBetter yX2_keepIfBetter ∈ gs_B := gs_in (i := 22) (by decide +kernel) (by decide +kernel)
theorem kS_X2_nextOrder : Cond.selects RX2 yX2_nextOrder yX2_nextOrder ∈ gs_B := gs_in (i := 23) (by decide +kernel) (by decide +kernel)
theorem kS_X2_swapAt : Cond.selects RX2 yX2_swapAt yX2_swapAt ∈ gs_B := gs_in (i := 24) (by decide +kernel) (by decide +kernel)
theorem kS_X0_draw : Cond.selects RX0 yX0_draw yX0_draw ∈ gs_B := gs_in (i := 25) (by decide +kernel) (by decide +kernel)
theorem kS_X8_countOf : Cond.selects RX8 yX8_countOf yX8_countOf ∈ gs_B := gs_in (i := 26) (by decide +kernel) (by decide +kernel)
theorem kS_X9_faultOf : Cond.selects RX9 yX9_faultOf yX9_faultOf ∈ gs_B := gs_in (i := 27) (by decide +kernel) (by decide +kernel)
theorem kS_X9_isRodLetter : Cond.selects RX9 yX9_isRodLetter yX9_isRodLetter ∈ gs_B := gs_in (i := 28) (by decide +kernel) (by decide +kernel)
theorem kS_X9_isHanging : Cond.selects RX9 yX9_isHanging yX9_isHanging ∈ gs_B := gs_in (i := 29) (by decide +kernel) (by decide +kernel)
theorem kS_X9_isThingLetter : Cond.selects RX9 yX9_isThingLetter yX9_isThingLetter ∈ gs_B := gs_in (i := 30) (by decide +kernel) (by decide +kernel)
theorem kS_X9_isRod : Cond.selects RX9 yX9_isRod yX9_isRod ∈ gs_B := gs_in (i := 31) (by decide +kernel) (by decide +kernel)
theorem kS_X9_tellRod : Cond.selects RX9 yX9_tellRod yX9_tellRod ∈ gs_B := gs_in (i := 32) (by decide +kernel) (by decide +kernel)
theorem kS_X9_begin : Cond.selects RX9 yX9_begin yX9_begin ∈ gs_B := gs_in (i := 33) (by decide +kernel) (by decide +kernel)
theorem kS_X9_layTilts : Cond.selects RX9 yX9_layTilts yX9_layTilts ∈ gs_B := gs_in (i := 34) (by decide +kernel) (by decide +kernel)
theorem kS_X9_hungThen : Cond.selects RX9 yX9_hungThen yX9_hungThen ∈ gs_B := gs_in (i := 35) (by decide +kernel) (by decide +kernel)
theorem kS_X9_thingThen : Cond.selects RX9 yX9_thingThen yX9_thingThen ∈ gs_B := gs_in (i := 36) (by decide +kernel) (by decide +kernel)
theorem kS_X9_hangsOf : Cond.selects RX9 yX9_hangsOf yX9_hangsOf ∈ gs_B := gs_in (i := 37) (by decide +kernel) (by decide +kernel)
theorem kS_X9_there : Cond.selects RX9 yX9_there yX9_there ∈ gs_B := gs_in (i := 38) (by decide +kernel) (by decide +kernel)
theorem kS_X9_hookOf : Cond.selects RX9 yX9_hookOf yX9_hookOf ∈ gs_B := gs_in (i := 39) (by decide +kernel) (by decide +kernel)
theorem kS_X9_addOf : Cond.selects RX9 yX9_addOf yX9_addOf ∈ gs_B := gs_in (i := 40) (by decide +kernel) (by decide +kernel)
theorem kS_X9_isThing : Cond.selects RX9 yX9_isThing yX9_isThing ∈ gs_B := gs_in (i := 41) (by decide +kernel) (by decide +kernel)
theorem kS_X9_tellThing : Cond.selects RX9 yX9_tellThing yX9_tellThing ∈ gs_B := gs_in (i := 42) (by decide +kernel) (by decide +kernel)
theorem kS_X9_armOf : Cond.selects RX9 yX9_armOf yX9_armOf ∈ gs_B := gs_in (i := 43) (by decide +kernel) (by decide +kernel)
theorem kS_X9_sizesOf : Cond.selects RX9 yX9_sizesOf yX9_sizesOf ∈ gs_B := gs_in (i := 44) (by decide +kernel) (by decide +kernel)
theorem kS_X9_howIf : Cond.selects RX9 yX9_howIf yX9_howIf ∈ gs_B := gs_in (i := 45) (by decide +kernel) (by decide +kernel)
theorem kS_X9_lacks : Cond.selects RX9 yX9_lacks yX9_lacks ∈ gs_B := gs_in (i := 46) (by decide +kernel) (by decide +kernel)
theorem kS_X9_isCut : Cond.selects RX9 yX9_isCut yX9_isCut ∈ gs_B := gs_in (i := 47) (by decide +kernel) (by decide +kernel)
theorem kS_X9_levelNow : Cond.selects RX9 yX9_levelNow yX9_levelNow ∈ gs_B := gs_in (i := 48) (by decide +kernel) (by decide +kernel)
theorem kS_X9_levelThen : Cond.selects RX9 yX9_levelThen yX9_levelThen ∈ gs_B := gs_in (i := 49) (by decide +kernel) (by decide +kernel)
theorem kS_X9_bestOf : Cond.selects RX9 yX9_bestOf yX9_bestOf ∈ gs_B := gs_in (i := 50) (by decide +kernel) (by decide +kernel)
theorem kS_X9_layOf : Cond.selects RX9 yX9_layOf yX9_layOf ∈ gs_B := gs_in (i := 51) (by decide +kernel) (by decide +kernel)
theorem kS_X9_looseMany : Cond.selects RX9 yX9_looseMany yX9_looseMany ∈ gs_B := gs_in (i := 52) (by decide +kernel) (by decide +kernel)
theorem kS_X9_layOrder : Cond.selects RX9 yX9_layOrder yX9_layOrder ∈ gs_B := gs_in (i := 53) (by decide +kernel) (by decide +kernel)
theorem kS_X9_tiltsAll : Cond.selects RX9 yX9_tiltsAll yX9_tiltsAll ∈ gs_B := gs_in (i := 54) (by decide +kernel) (by decide +kernel)
theorem kS_X9_evenOf : Cond.selects RX9 yX9_evenOf yX9_evenOf ∈ gs_B := gs_in (i := 55) (by decide +kernel) (by decide +kernel)
theorem kS_X9_oddsOf : Cond.selects RX9 yX9_oddsOf yX9_oddsOf ∈ gs_B := gs_in (i := 56) (by decide +kernel) (by decide +kernel)
theorem kS_X9_trialOf : Cond.selects RX9 yX9_trialOf yX9_trialOf ∈ gs_B := gs_in (i := 57) (by decide +kernel) (by decide +kernel)
theorem kS_X9_draw : Cond.selects RX9 yX9_draw yX9_draw ∈ gs_B := gs_in (i := 58) (by decide +kernel) (by decide +kernel)
theorem kS_X9_countOf : Cond.selects RX9 yX9_countOf yX9_countOf ∈ gs_B := gs_in (i := 59) (by decide +kernel) (by decide +kernel)
theorem kS_X9_thingsThere : Cond.selects RX9 yX9_thingsThere yX9_thingsThere ∈ gs_B := gs_in (i := 60) (by decide +kernel) (by decide +kernel)
theorem kS_X9_weighsAll : Cond.selects RX9 yX9_weighsAll yX9_weighsAll ∈ gs_B := gs_in (i := 61) (by decide +kernel) (by decide +kernel)
theorem kS_X9_say : Cond.selects RX9 yX9_say yX9_say ∈ gs_B := gs_in (i := 62) (by decide +kernel) (by decide +kernel)
theorem kN_L : Cond.initialized RL ∈ gs_B := gs_in (i := 63) (by decide +kernel) (by decide +kernel)
theorem kN_X8 : Cond.initialized RX8 ∈ gs_B := gs_in (i := 64) (by decide +kernel) (by decide +kernel)
theorem kN_X4 : Cond.initialized RX4 ∈ gs_B := gs_in (i := 65) (by decide +kernel) (by decide +kernel)
theorem kN_X5 : Cond.initialized RX5 ∈ gs_B := gs_in (i := 66) (by decide +kernel) (by decide +kernel)
theorem kN_X3 : Cond.initialized RX3 ∈ gs_B := gs_in (i := 67) (by decide +kernel) (by decide +kernel)
theorem kN_X7 : Cond.initialized RX7 ∈ gs_B := gs_in (i := 68) (by decide +kernel) (by decide +kernel)
theorem kN_X6 : Cond.initialized RX6 ∈ gs_B := gs_in (i := 69) (by decide +kernel) (by decide +kernel)
theorem kN_X2 : Cond.initialized RX2 ∈ gs_B := gs_in (i := 70) (by decide +kernel) (by decide +kernel)
theorem kN_X0 : Cond.initialized RX0 ∈ gs_B := gs_in (i := 71) (by decide +kernel) (by decide +kernel)
theorem kN_X9 : Cond.initialized RX9 ∈ gs_B := gs_in (i := 72) (by decide +kernel) (by decide +kernel)
theorem kN_J9 : Cond.initialized RJ9 ∈ gs_B := gs_in (i := 73) (by decide +kernel) (by decide +kernel)
theorem kN_J0 : Cond.initialized RJ0 ∈ gs_B := gs_in (i := 74) (by decide +kernel) (by decide +kernel)
theorem kN_J1 : Cond.initialized RJ1 ∈ gs_B := gs_in (i := 75) (by decide +kernel) (by decide +kernel)
theorem kN_J2 : Cond.initialized RJ2 ∈ gs_B := gs_in (i := 76) (by decide +kernel) (by decide +kernel)
theorem kN_J3 : Cond.initialized RJ3 ∈ gs_B := gs_in (i := 77) (by decide +kernel) (by decide +kernel)
theorem kN_J11 : Cond.initialized RJ11 ∈ gs_B := gs_in (i := 78) (by decide +kernel) (by decide +kernel)
theorem kN_X1 : Cond.initialized RX1 ∈ gs_B := gs_in (i := 79) (by decide +kernel) (by decide +kernel)
theorem kN_J6 : Cond.initialized RJ6 ∈ gs_B := gs_in (i := 80) (by decide +kernel) (by decide +kernel)
theorem kM_L_9 : Cond.methodLink RL 9 yX8_init ∈ gs_B := gs_in (i := 83) (by decide +kernel) (by decide +kernel)
theorem kI_X8_init : Cond.instanceMethod yX8_init ∈ gs_B := gs_in (i := 84) (by decide +kernel) (by decide +kernel)
set_option maxRecDepth 40000 in
theorem kC_X8_init : Cond.code yX8_init cX8_init 1 none ∈ gs_B := gs_in (i := 85) (rfl) (rfl)
theorem kI_X4_init : Cond.instanceMethod yX4_init ∈ gs_B := gs_in (i := 92) (by decide +kernel) (by decide +kernel)
set_option maxRecDepth 40000 in
theorem kC_X4_init : Cond.code yX4_init cX4_init 1 none ∈ gs_B := gs_in (i := 93) (rfl) (rfl)
theorem kF_X4_9 : Cond.fieldLink RX4 9 RX4 "codes" "[I" ∈ gs_B := gs_in (i := 95) (by decide +kernel) (by decide +kernel)
theorem kF_X5_37 : Cond.fieldLink RX5 37 RX4 "codes" "[I" ∈ gs_B := gs_in (i := 96) (by decide +kernel) (by decide +kernel)
theorem kF_X8_58 : Cond.fieldLink RX8 58 RX4 "codes" "[I" ∈ gs_B := gs_in (i := 97) (by decide +kernel) (by decide +kernel)
theorem kF_X5_31 : Cond.fieldLink RX5 31 RX4 "length" "I" ∈ gs_B := gs_in (i := 98) (by decide +kernel) (by decide +kernel)
theorem kF_X8_54 : Cond.fieldLink RX8 54 RX4 "length" "I" ∈ gs_B := gs_in (i := 99) (by decide +kernel) (by decide +kernel)
theorem kI_X5_init : Cond.instanceMethod yX5_init ∈ gs_B := gs_in (i := 109) (by decide +kernel) (by decide +kernel)
set_option maxRecDepth 40000 in
theorem kC_X5_init : Cond.code yX5_init cX5_init 1 none ∈ gs_B := gs_in (i := 110) (rfl) (rfl)
theorem kF_X5_9 : Cond.fieldLink RX5 9 RX5 "lengths" "[I" ∈ gs_B := gs_in (i := 112) (by decide +kernel) (by decide +kernel)
theorem kF_X3_59 : Cond.fieldLink RX3 59 RX5 "lengths" "[I" ∈ gs_B := gs_in (i := 113) (by decide +kernel) (by decide +kernel)
theorem kF_X5_15 : Cond.fieldLink RX5 15 RX5 "ends" "[I" ∈ gs_B := gs_in (i := 114) (by decide +kernel) (by decide +kernel)
theorem kF_X3_60 : Cond.fieldLink RX3 60 RX5 "ends" "[I" ∈ gs_B := gs_in (i := 115) (by decide +kernel) (by decide +kernel)
theorem kF_X5_18 : Cond.fieldLink RX5 18 RX5 "kinds" "[I" ∈ gs_B := gs_in (i := 116) (by decide +kernel) (by decide +kernel)
theorem kF_X3_61 : Cond.fieldLink RX3 61 RX5 "kinds" "[I" ∈ gs_B := gs_in (i := 117) (by decide +kernel) (by decide +kernel)
theorem kF_X5_21 : Cond.fieldLink RX5 21 RX5 "sizes" "[I" ∈ gs_B := gs_in (i := 118) (by decide +kernel) (by decide +kernel)
theorem kF_X3_62 : Cond.fieldLink RX3 62 RX5 "sizes" "[I" ∈ gs_B := gs_in (i := 119) (by decide +kernel) (by decide +kernel)
theorem kF_X3_41 : Cond.fieldLink RX3 41 RX5 "lastTold" "I" ∈ gs_B := gs_in (i := 120) (by decide +kernel) (by decide +kernel)
theorem kF_X5_56 : Cond.fieldLink RX5 56 RX5 "lastTold" "I" ∈ gs_B := gs_in (i := 121) (by decide +kernel) (by decide +kernel)
theorem kF_X3_50 : Cond.fieldLink RX3 50 RX5 "places" "I" ∈ gs_B := gs_in (i := 122) (by decide +kernel) (by decide +kernel)
theorem kF_X5_50 : Cond.fieldLink RX5 50 RX5 "places" "I" ∈ gs_B := gs_in (i := 123) (by decide +kernel) (by decide +kernel)
theorem kF_X5_24 : Cond.fieldLink RX5 24 RX5 "told" "[Z" ∈ gs_B := gs_in (i := 124) (by decide +kernel) (by decide +kernel)
theorem kF_X5_44 : Cond.fieldLink RX5 44 RX5 "next" "I" ∈ gs_B := gs_in (i := 125) (by decide +kernel) (by decide +kernel)
theorem kF_X5_53 : Cond.fieldLink RX5 53 RX5 "arm" "I" ∈ gs_B := gs_in (i := 126) (by decide +kernel) (by decide +kernel)
theorem kF_X5_47 : Cond.fieldLink RX5 47 RX5 "thing" "I" ∈ gs_B := gs_in (i := 127) (by decide +kernel) (by decide +kernel)
theorem kI_X3_init : Cond.instanceMethod yX3_init ∈ gs_B := gs_in (i := 153) (by decide +kernel) (by decide +kernel)
set_option maxRecDepth 40000 in
theorem kC_X3_init : Cond.code yX3_init cX3_init 1 none ∈ gs_B := gs_in (i := 154) (rfl) (rfl)
theorem kI_X7_init : Cond.instanceMethod yX7_init ∈ gs_B := gs_in (i := 159) (by decide +kernel) (by decide +kernel)
set_option maxRecDepth 40000 in
theorem kC_X7_init : Cond.code yX7_init cX7_init 1 none ∈ gs_B := gs_in (i := 160) (rfl) (rfl)
theorem kF_X7_24 : Cond.fieldLink RX7 24 RX7 "entries" "I" ∈ gs_B := gs_in (i := 162) (by decide +kernel) (by decide +kernel)
theorem kF_X3_67 : Cond.fieldLink RX3 67 RX7 "entries" "I" ∈ gs_B := gs_in (i := 163) (by decide +kernel) (by decide +kernel)
theorem kF_X8_190 : Cond.fieldLink RX8 190 RX7 "entries" "I" ∈ gs_B := gs_in (i := 164) (by decide +kernel) (by decide +kernel)
theorem kF_X7_9 : Cond.fieldLink RX7 9 RX7 "things" "[I" ∈ gs_B := gs_in (i := 165) (by decide +kernel) (by decide +kernel)
theorem kF_X7_15 : Cond.fieldLink RX7 15 RX7 "rods" "[I" ∈ gs_B := gs_in (i := 166) (by decide +kernel) (by decide +kernel)
theorem kF_X7_18 : Cond.fieldLink RX7 18 RX7 "beads" "[I" ∈ gs_B := gs_in (i := 167) (by decide +kernel) (by decide +kernel)
theorem kF_X7_21 : Cond.fieldLink RX7 21 RX7 "hows" "[I" ∈ gs_B := gs_in (i := 168) (by decide +kernel) (by decide +kernel)
theorem kF_X3_47 : Cond.fieldLink RX3 47 RX3 "rods" "I" ∈ gs_B := gs_in (i := 180) (by decide +kernel) (by decide +kernel)
theorem kF_X6_60 : Cond.fieldLink RX6 60 RX3 "rods" "I" ∈ gs_B := gs_in (i := 181) (by decide +kernel) (by decide +kernel)
theorem kF_X8_223 : Cond.fieldLink RX8 223 RX3 "rods" "I" ∈ gs_B := gs_in (i := 182) (by decide +kernel) (by decide +kernel)
theorem kF_X3_53 : Cond.fieldLink RX3 53 RX3 "things" "I" ∈ gs_B := gs_in (i := 183) (by decide +kernel) (by decide +kernel)
theorem kF_X2_42 : Cond.fieldLink RX2 42 RX3 "things" "I" ∈ gs_B := gs_in (i := 184) (by decide +kernel) (by decide +kernel)
theorem kF_X6_42 : Cond.fieldLink RX6 42 RX3 "things" "I" ∈ gs_B := gs_in (i := 185) (by decide +kernel) (by decide +kernel)
theorem kF_X0_43 : Cond.fieldLink RX0 43 RX3 "things" "I" ∈ gs_B := gs_in (i := 186) (by decide +kernel) (by decide +kernel)
theorem kF_X8_81 : Cond.fieldLink RX8 81 RX3 "things" "I" ∈ gs_B := gs_in (i := 187) (by decide +kernel) (by decide +kernel)
theorem kF_X6_25 : Cond.fieldLink RX6 25 RX3 "hours" "I" ∈ gs_B := gs_in (i := 188) (by decide +kernel) (by decide +kernel)
theorem kF_X0_22 : Cond.fieldLink RX0 22 RX3 "hours" "I" ∈ gs_B := gs_in (i := 189) (by decide +kernel) (by decide +kernel)
theorem kF_X3_56 : Cond.fieldLink RX3 56 RX3 "hours" "I" ∈ gs_B := gs_in (i := 190) (by decide +kernel) (by decide +kernel)
theorem kF_X7_56 : Cond.fieldLink RX7 56 RX3 "hours" "I" ∈ gs_B := gs_in (i := 191) (by decide +kernel) (by decide +kernel)
theorem kF_X2_106 : Cond.fieldLink RX2 106 RX3 "hours" "I" ∈ gs_B := gs_in (i := 192) (by decide +kernel) (by decide +kernel)
theorem kF_X8_117 : Cond.fieldLink RX8 117 RX3 "hours" "I" ∈ gs_B := gs_in (i := 193) (by decide +kernel) (by decide +kernel)
theorem kF_X3_9 : Cond.fieldLink RX3 9 RX3 "lengths" "[I" ∈ gs_B := gs_in (i := 194) (by decide +kernel) (by decide +kernel)
theorem kF_X7_48 : Cond.fieldLink RX7 48 RX3 "lengths" "[I" ∈ gs_B := gs_in (i := 195) (by decide +kernel) (by decide +kernel)
theorem kF_X6_77 : Cond.fieldLink RX6 77 RX3 "lengths" "[I" ∈ gs_B := gs_in (i := 196) (by decide +kernel) (by decide +kernel)
theorem kF_X8_135 : Cond.fieldLink RX8 135 RX3 "lengths" "[I" ∈ gs_B := gs_in (i := 197) (by decide +kernel) (by decide +kernel)
theorem kF_X3_15 : Cond.fieldLink RX3 15 RX3 "ends" "[I" ∈ gs_B := gs_in (i := 198) (by decide +kernel) (by decide +kernel)
theorem kF_X6_63 : Cond.fieldLink RX6 63 RX3 "ends" "[I" ∈ gs_B := gs_in (i := 199) (by decide +kernel) (by decide +kernel)
theorem kF_X3_18 : Cond.fieldLink RX3 18 RX3 "laid" "[I" ∈ gs_B := gs_in (i := 200) (by decide +kernel) (by decide +kernel)
theorem kF_X6_35 : Cond.fieldLink RX6 35 RX3 "laid" "[I" ∈ gs_B := gs_in (i := 201) (by decide +kernel) (by decide +kernel)
theorem kF_X0_32 : Cond.fieldLink RX0 32 RX3 "laid" "[I" ∈ gs_B := gs_in (i := 202) (by decide +kernel) (by decide +kernel)
theorem kF_X2_113 : Cond.fieldLink RX2 113 RX3 "laid" "[I" ∈ gs_B := gs_in (i := 203) (by decide +kernel) (by decide +kernel)
theorem kF_X8_124 : Cond.fieldLink RX8 124 RX3 "laid" "[I" ∈ gs_B := gs_in (i := 204) (by decide +kernel) (by decide +kernel)
theorem kF_X3_21 : Cond.fieldLink RX3 21 RX3 "kinds" "[I" ∈ gs_B := gs_in (i := 205) (by decide +kernel) (by decide +kernel)
theorem kF_X6_45 : Cond.fieldLink RX6 45 RX3 "kinds" "[I" ∈ gs_B := gs_in (i := 206) (by decide +kernel) (by decide +kernel)
theorem kF_X7_53 : Cond.fieldLink RX7 53 RX3 "kinds" "[I" ∈ gs_B := gs_in (i := 207) (by decide +kernel) (by decide +kernel)
theorem kF_X8_107 : Cond.fieldLink RX8 107 RX3 "kinds" "[I" ∈ gs_B := gs_in (i := 208) (by decide +kernel) (by decide +kernel)
theorem kF_X3_24 : Cond.fieldLink RX3 24 RX3 "sizes" "[I" ∈ gs_B := gs_in (i := 209) (by decide +kernel) (by decide +kernel)
theorem kF_X6_48 : Cond.fieldLink RX6 48 RX3 "sizes" "[I" ∈ gs_B := gs_in (i := 210) (by decide +kernel) (by decide +kernel)
theorem kF_X8_151 : Cond.fieldLink RX8 151 RX3 "sizes" "[I" ∈ gs_B := gs_in (i := 211) (by decide +kernel) (by decide +kernel)
theorem kF_X3_27 : Cond.fieldLink RX3 27 RX3 "thingCut" "[Z" ∈ gs_B := gs_in (i := 212) (by decide +kernel) (by decide +kernel)
theorem kF_X2_52 : Cond.fieldLink RX2 52 RX3 "thingCut" "[Z" ∈ gs_B := gs_in (i := 213) (by decide +kernel) (by decide +kernel)
theorem kF_X6_57 : Cond.fieldLink RX6 57 RX3 "thingCut" "[Z" ∈ gs_B := gs_in (i := 214) (by decide +kernel) (by decide +kernel)
theorem kF_X0_50 : Cond.fieldLink RX0 50 RX3 "thingCut" "[Z" ∈ gs_B := gs_in (i := 215) (by decide +kernel) (by decide +kernel)
theorem kF_X8_120 : Cond.fieldLink RX8 120 RX3 "thingCut" "[Z" ∈ gs_B := gs_in (i := 216) (by decide +kernel) (by decide +kernel)
theorem kF_X3_31 : Cond.fieldLink RX3 31 RX3 "rodCut" "[Z" ∈ gs_B := gs_in (i := 217) (by decide +kernel) (by decide +kernel)
theorem kF_X6_66 : Cond.fieldLink RX6 66 RX3 "rodCut" "[Z" ∈ gs_B := gs_in (i := 218) (by decide +kernel) (by decide +kernel)
theorem kF_X8_138 : Cond.fieldLink RX8 138 RX3 "rodCut" "[Z" ∈ gs_B := gs_in (i := 219) (by decide +kernel) (by decide +kernel)
theorem kF_X3_37 : Cond.fieldLink RX3 37 RX3 "seen" "LHungMobile$Seen;" ∈ gs_B := gs_in (i := 220) (by decide +kernel) (by decide +kernel)
theorem kF_X8_186 : Cond.fieldLink RX8 186 RX3 "seen" "LHungMobile$Seen;" ∈ gs_B := gs_in (i := 221) (by decide +kernel) (by decide +kernel)
theorem kI_X6_init : Cond.instanceMethod yX6_init ∈ gs_B := gs_in (i := 248) (by decide +kernel) (by decide +kernel)
set_option maxRecDepth 40000 in
theorem kC_X6_init : Cond.code yX6_init cX6_init 1 none ∈ gs_B := gs_in (i := 249) (rfl) (rfl)
theorem kF_X6_9 : Cond.fieldLink RX6 9 RX6 "loads" "[I" ∈ gs_B := gs_in (i := 251) (by decide +kernel) (by decide +kernel)
theorem kF_X8_240 : Cond.fieldLink RX8 240 RX6 "loads" "[I" ∈ gs_B := gs_in (i := 252) (by decide +kernel) (by decide +kernel)
theorem kF_X6_15 : Cond.fieldLink RX6 15 RX6 "tilts" "[I" ∈ gs_B := gs_in (i := 253) (by decide +kernel) (by decide +kernel)
theorem kF_X0_66 : Cond.fieldLink RX0 66 RX6 "tilts" "[I" ∈ gs_B := gs_in (i := 254) (by decide +kernel) (by decide +kernel)
theorem kF_X8_243 : Cond.fieldLink RX8 243 RX6 "tilts" "[I" ∈ gs_B := gs_in (i := 255) (by decide +kernel) (by decide +kernel)
theorem kF_X6_18 : Cond.fieldLink RX6 18 RX6 "there" "[Z" ∈ gs_B := gs_in (i := 256) (by decide +kernel) (by decide +kernel)
theorem kF_X8_246 : Cond.fieldLink RX8 246 RX6 "there" "[Z" ∈ gs_B := gs_in (i := 257) (by decide +kernel) (by decide +kernel)
theorem kF_X6_22 : Cond.fieldLink RX6 22 RX6 "weights" "[I" ∈ gs_B := gs_in (i := 258) (by decide +kernel) (by decide +kernel)
theorem kI_X2_init : Cond.instanceMethod yX2_init ∈ gs_B := gs_in (i := 271) (by decide +kernel) (by decide +kernel)
set_option maxRecDepth 40000 in
theorem kC_X2_init : Cond.code yX2_init cX2_init 1 none ∈ gs_B := gs_in (i := 272) (rfl) (rfl)
theorem kF_X2_67 : Cond.fieldLink RX2 67 RX2 "mostLevel" "I" ∈ gs_B := gs_in (i := 276) (by decide +kernel) (by decide +kernel)
theorem kF_X8_166 : Cond.fieldLink RX8 166 RX2 "mostLevel" "I" ∈ gs_B := gs_in (i := 277) (by decide +kernel) (by decide +kernel)
theorem kF_X2_86 : Cond.fieldLink RX2 86 RX2 "leastTilt" "I" ∈ gs_B := gs_in (i := 278) (by decide +kernel) (by decide +kernel)
theorem kF_X8_169 : Cond.fieldLink RX8 169 RX2 "leastTilt" "I" ∈ gs_B := gs_in (i := 279) (by decide +kernel) (by decide +kernel)
theorem kF_X2_9 : Cond.fieldLink RX2 9 RX2 "bestLaid" "[I" ∈ gs_B := gs_in (i := 280) (by decide +kernel) (by decide +kernel)
theorem kF_X8_163 : Cond.fieldLink RX8 163 RX2 "bestLaid" "[I" ∈ gs_B := gs_in (i := 281) (by decide +kernel) (by decide +kernel)
theorem kF_X2_100 : Cond.fieldLink RX2 100 RX2 "oddsAbove" "I" ∈ gs_B := gs_in (i := 282) (by decide +kernel) (by decide +kernel)
theorem kF_X8_178 : Cond.fieldLink RX8 178 RX2 "oddsAbove" "I" ∈ gs_B := gs_in (i := 283) (by decide +kernel) (by decide +kernel)
theorem kF_X2_103 : Cond.fieldLink RX2 103 RX2 "oddsBelow" "I" ∈ gs_B := gs_in (i := 284) (by decide +kernel) (by decide +kernel)
theorem kF_X8_181 : Cond.fieldLink RX8 181 RX2 "oddsBelow" "I" ∈ gs_B := gs_in (i := 285) (by decide +kernel) (by decide +kernel)
theorem kF_X2_18 : Cond.fieldLink RX2 18 RX2 "scale" "LHungMobile$Scale;" ∈ gs_B := gs_in (i := 286) (by decide +kernel) (by decide +kernel)
theorem kF_X2_22 : Cond.fieldLink RX2 22 RX2 "laid" "[I" ∈ gs_B := gs_in (i := 287) (by decide +kernel) (by decide +kernel)
theorem kF_X2_25 : Cond.fieldLink RX2 25 RX2 "places" "[I" ∈ gs_B := gs_in (i := 288) (by decide +kernel) (by decide +kernel)
theorem kF_X2_28 : Cond.fieldLink RX2 28 RX2 "order" "[I" ∈ gs_B := gs_in (i := 289) (by decide +kernel) (by decide +kernel)
theorem kF_X2_89 : Cond.fieldLink RX2 89 RX2 "uncut" "I" ∈ gs_B := gs_in (i := 290) (by decide +kernel) (by decide +kernel)
theorem kF_X2_70 : Cond.fieldLink RX2 70 RX2 "orders" "I" ∈ gs_B := gs_in (i := 291) (by decide +kernel) (by decide +kernel)
theorem kI_X0_init : Cond.instanceMethod yX0_init ∈ gs_B := gs_in (i := 318) (by decide +kernel) (by decide +kernel)
set_option maxRecDepth 40000 in
theorem kC_X0_init : Cond.code yX0_init cX0_init 1 none ∈ gs_B := gs_in (i := 319) (rfl) (rfl)
theorem kF_X0_40 : Cond.fieldLink RX0 40 RX0 "level" "I" ∈ gs_B := gs_in (i := 323) (by decide +kernel) (by decide +kernel)
theorem kF_X8_205 : Cond.fieldLink RX8 205 RX0 "level" "I" ∈ gs_B := gs_in (i := 324) (by decide +kernel) (by decide +kernel)
theorem kF_X0_69 : Cond.fieldLink RX0 69 RX0 "tilt" "I" ∈ gs_B := gs_in (i := 325) (by decide +kernel) (by decide +kernel)
theorem kF_X8_208 : Cond.fieldLink RX8 208 RX0 "tilt" "I" ∈ gs_B := gs_in (i := 326) (by decide +kernel) (by decide +kernel)
theorem kF_X0_37 : Cond.fieldLink RX0 37 RX0 "seed" "I" ∈ gs_B := gs_in (i := 327) (by decide +kernel) (by decide +kernel)
theorem kF_X8_211 : Cond.fieldLink RX8 211 RX0 "seed" "I" ∈ gs_B := gs_in (i := 328) (by decide +kernel) (by decide +kernel)
theorem kF_X0_12 : Cond.fieldLink RX0 12 RX0 "scale" "LHungMobile$Scale;" ∈ gs_B := gs_in (i := 329) (by decide +kernel) (by decide +kernel)
theorem kF_X0_18 : Cond.fieldLink RX0 18 RX0 "laid" "[I" ∈ gs_B := gs_in (i := 330) (by decide +kernel) (by decide +kernel)
theorem kF_X8_12 : Cond.fieldLink RX8 12 RX8 "page" "LHungMobile$Page;" ∈ gs_B := gs_in (i := 342) (by decide +kernel) (by decide +kernel)
theorem kF_X8_19 : Cond.fieldLink RX8 19 RX8 "reader" "LHungMobile$Reader;" ∈ gs_B := gs_in (i := 343) (by decide +kernel) (by decide +kernel)
theorem kF_X8_26 : Cond.fieldLink RX8 26 RX8 "now" "LHungMobile$Mobile;" ∈ gs_B := gs_in (i := 344) (by decide +kernel) (by decide +kernel)
theorem kF_X8_30 : Cond.fieldLink RX8 30 RX8 "kept" "LHungMobile$Mobile;" ∈ gs_B := gs_in (i := 345) (by decide +kernel) (by decide +kernel)
theorem kF_X8_36 : Cond.fieldLink RX8 36 RX8 "scale" "LHungMobile$Scale;" ∈ gs_B := gs_in (i := 346) (by decide +kernel) (by decide +kernel)
theorem kF_X8_43 : Cond.fieldLink RX8 43 RX8 "layings" "LHungMobile$Layings;" ∈ gs_B := gs_in (i := 347) (by decide +kernel) (by decide +kernel)
theorem kF_X8_50 : Cond.fieldLink RX8 50 RX8 "nights" "LHungMobile$Evenings;" ∈ gs_B := gs_in (i := 348) (by decide +kernel) (by decide +kernel)
theorem kF_X8_74 : Cond.fieldLink RX8 74 RX8 "isKept" "Z" ∈ gs_B := gs_in (i := 349) (by decide +kernel) (by decide +kernel)
theorem kF_X8_78 : Cond.fieldLink RX8 78 RX8 "reads" "I" ∈ gs_B := gs_in (i := 350) (by decide +kernel) (by decide +kernel)
theorem kF_X8_157 : Cond.fieldLink RX8 157 RX8 "lays" "I" ∈ gs_B := gs_in (i := 351) (by decide +kernel) (by decide +kernel)
theorem kM_L_13 : Cond.methodLink RL 13 yX8_letter ∈ gs_B := gs_in (i := 373) (by decide +kernel) (by decide +kernel)
theorem kI_X8_letter : Cond.instanceMethod yX8_letter ∈ gs_B := gs_in (i := 374) (by decide +kernel) (by decide +kernel)
theorem kS_X8_letter : Cond.selects RX8 yX8_letter yX8_letter ∈ gs_B := gs_in (i := 375) (by decide +kernel) (by decide +kernel)
set_option maxRecDepth 40000 in
theorem kC_X8_letter : Cond.code yX8_letter cX8_letter 2 (some .int) ∈ gs_B := gs_in (i := 376) (rfl) (rfl)
theorem kM_L_18 : Cond.methodLink RL 18 yX8_blank ∈ gs_B := gs_in (i := 377) (by decide +kernel) (by decide +kernel)
theorem kI_X8_blank : Cond.instanceMethod yX8_blank ∈ gs_B := gs_in (i := 378) (by decide +kernel) (by decide +kernel)
theorem kS_X8_blank : Cond.selects RX8 yX8_blank yX8_blank ∈ gs_B := gs_in (i := 379) (by decide +kernel) (by decide +kernel)
set_option maxRecDepth 40000 in
theorem kC_X8_blank : Cond.code yX8_blank cX8_blank 2 (some .int) ∈ gs_B := gs_in (i := 380) (rfl) (rfl)
theorem kM_L_23 : Cond.methodLink RL 23 yX8_fault ∈ gs_B := gs_in (i := 381) (by decide +kernel) (by decide +kernel)
theorem kI_X8_fault : Cond.instanceMethod yX8_fault ∈ gs_B := gs_in (i := 382) (by decide +kernel) (by decide +kernel)
theorem kS_X8_fault : Cond.selects RX8 yX8_fault yX8_fault ∈ gs_B := gs_in (i := 383) (by decide +kernel) (by decide +kernel)
set_option maxRecDepth 40000 in
theorem kC_X8_fault : Cond.code yX8_fault cX8_fault 1 (some .int) ∈ gs_B := gs_in (i := 384) (rfl) (rfl)
theorem kM_X8_62 : Cond.methodLink RX8 62 yX5_readLetters ∈ gs_B := gs_in (i := 385) (by decide +kernel) (by decide +kernel)
theorem kI_X5_readLetters : Cond.instanceMethod yX5_readLetters ∈ gs_B := gs_in (i := 386) (by decide +kernel) (by decide +kernel)
theorem kS_X5_readLetters : Cond.selects RX5 yX5_readLetters yX5_readLetters ∈ gs_B := gs_in (i := 387) (by decide +kernel) (by decide +kernel)
set_option maxRecDepth 40000 in
theorem kC_X5_readLetters : Cond.code yX5_readLetters cX5_readLetters 3 (some .int) ∈ gs_B := gs_in (i := 388) (rfl) (rfl)
theorem kM_X5_28 : Cond.methodLink RX5 28 yX5_begin ∈ gs_B := gs_in (i := 389) (by decide +kernel) (by decide +kernel)
theorem kI_X5_begin : Cond.instanceMethod yX5_begin ∈ gs_B := gs_in (i := 391) (by decide +kernel) (by decide +kernel)
set_option maxRecDepth 40000 in
theorem kC_X5_begin : Cond.code yX5_begin cX5_begin 2 none ∈ gs_B := gs_in (i := 392) (rfl) (rfl)
theorem kM_X5_40 : Cond.methodLink RX5 40 yX5_takes ∈ gs_B := gs_in (i := 393) (by decide +kernel) (by decide +kernel)
theorem kI_X5_takes : Cond.instanceMethod yX5_takes ∈ gs_B := gs_in (i := 395) (by decide +kernel) (by decide +kernel)
set_option maxRecDepth 40000 in
theorem kC_X5_takes : Cond.code yX5_takes cX5_takes 2 (some .boolean) ∈ gs_B := gs_in (i := 396) (rfl) (rfl)
theorem kM_X5_59 : Cond.methodLink RX5 59 yX5_takesLength ∈ gs_B := gs_in (i := 397) (by decide +kernel) (by decide +kernel)
theorem kI_X5_takesLength : Cond.instanceMethod yX5_takesLength ∈ gs_B := gs_in (i := 399) (by decide +kernel) (by decide +kernel)
set_option maxRecDepth 40000 in
theorem kC_X5_takesLength : Cond.code yX5_takesLength cX5_takesLength 2 (some .boolean) ∈ gs_B := gs_in (i := 400) (rfl) (rfl)
theorem kM_X5_62 : Cond.methodLink RX5 62 yX5_takesEnd ∈ gs_B := gs_in (i := 401) (by decide +kernel) (by decide +kernel)
theorem kI_X5_takesEnd : Cond.instanceMethod yX5_takesEnd ∈ gs_B := gs_in (i := 403) (by decide +kernel) (by decide +kernel)
set_option maxRecDepth 40000 in
theorem kC_X5_takesEnd : Cond.code yX5_takesEnd cX5_takesEnd 4 (some .boolean) ∈ gs_B := gs_in (i := 404) (rfl) (rfl)
theorem kM_X5_77 : Cond.methodLink RX5 77 yX5_canTell ∈ gs_B := gs_in (i := 405) (by decide +kernel) (by decide +kernel)
theorem kI_X5_canTell : Cond.instanceMethod yX5_canTell ∈ gs_B := gs_in (i := 407) (by decide +kernel) (by decide +kernel)
set_option maxRecDepth 40000 in
theorem kC_X5_canTell : Cond.code yX5_canTell cX5_canTell 3 (some .boolean) ∈ gs_B := gs_in (i := 408) (rfl) (rfl)
theorem kM_X5_81 : Cond.methodLink RX5 81 Lib.Math.max.name ∈ gs_B := gs_in (i := 409) (by decide +kernel) (by decide +kernel)
theorem kT_Math_max : Cond.static Lib.Math.max.name ∈ gs_B := gs_in (i := 410) (by decide +kernel) (by decide +kernel)
theorem kC_Math_max : Cond.code Lib.Math.max.name Lib.Math.max.code 2 (some .int) ∈ gs_B := gs_in (i := 411) (by decide +kernel) (by decide +kernel)
theorem kM_X5_87 : Cond.methodLink RX5 87 yX5_canFollow ∈ gs_B := gs_in (i := 412) (by decide +kernel) (by decide +kernel)
theorem kI_X5_canFollow : Cond.instanceMethod yX5_canFollow ∈ gs_B := gs_in (i := 414) (by decide +kernel) (by decide +kernel)
set_option maxRecDepth 40000 in
theorem kC_X5_canFollow : Cond.code yX5_canFollow cX5_canFollow 2 (some .boolean) ∈ gs_B := gs_in (i := 415) (rfl) (rfl)
theorem kM_X5_65 : Cond.methodLink RX5 65 yX5_takesBehindRod ∈ gs_B := gs_in (i := 416) (by decide +kernel) (by decide +kernel)
theorem kI_X5_takesBehindRod : Cond.instanceMethod yX5_takesBehindRod ∈ gs_B := gs_in (i := 418) (by decide +kernel) (by decide +kernel)
set_option maxRecDepth 40000 in
theorem kC_X5_takesBehindRod : Cond.code yX5_takesBehindRod cX5_takesBehindRod 3 (some .boolean) ∈ gs_B := gs_in (i := 419) (rfl) (rfl)
theorem kM_X5_68 : Cond.methodLink RX5 68 yX5_takesKind ∈ gs_B := gs_in (i := 420) (by decide +kernel) (by decide +kernel)
theorem kI_X5_takesKind : Cond.instanceMethod yX5_takesKind ∈ gs_B := gs_in (i := 422) (by decide +kernel) (by decide +kernel)
set_option maxRecDepth 40000 in
theorem kC_X5_takesKind : Cond.code yX5_takesKind cX5_takesKind 3 (some .boolean) ∈ gs_B := gs_in (i := 423) (rfl) (rfl)
theorem kM_X5_94 : Cond.methodLink RX5 94 yJ0_indexOf_0f7a4 ∈ gs_B := gs_in (i := 425) (by decide +kernel) (by decide +kernel)
theorem kI_J0_indexOf_0f7a4 : Cond.instanceMethod yJ0_indexOf_0f7a4 ∈ gs_B := gs_in (i := 426) (by decide +kernel) (by decide +kernel)
theorem kS_J0_indexOf_0f7a4 : Cond.selects RJ0 yJ0_indexOf_0f7a4 yJ0_indexOf_0f7a4 ∈ gs_B := gs_in (i := 427) (by decide +kernel) (by decide +kernel)
set_option maxRecDepth 40000 in
theorem kC_J0_indexOf_0f7a4 : Cond.code yJ0_indexOf_0f7a4 cJ0_indexOf_0f7a4 2 (some .int) ∈ gs_B := gs_in (i := 428) (rfl) (rfl)
theorem kM_J0_633 : Cond.methodLink RJ0 633 yJ0_indexOf_7cf53 ∈ gs_B := gs_in (i := 429) (by decide +kernel) (by decide +kernel)
theorem kI_J0_indexOf_7cf53 : Cond.instanceMethod yJ0_indexOf_7cf53 ∈ gs_B := gs_in (i := 430) (by decide +kernel) (by decide +kernel)
theorem kS_J0_indexOf_7cf53 : Cond.selects RJ0 yJ0_indexOf_7cf53 yJ0_indexOf_7cf53 ∈ gs_B := gs_in (i := 431) (by decide +kernel) (by decide +kernel)
set_option maxRecDepth 40000 in
theorem kC_J0_indexOf_7cf53 : Cond.code yJ0_indexOf_7cf53 cJ0_indexOf_7cf53 3 (some .int) ∈ gs_B := gs_in (i := 432) (rfl) (rfl)
theorem kM_J0_492 : Cond.methodLink RJ0 492 yJ0_isLatin1_aae02 ∈ gs_B := gs_in (i := 433) (by decide +kernel) (by decide +kernel)
theorem kI_J0_isLatin1_aae02 : Cond.instanceMethod yJ0_isLatin1_aae02 ∈ gs_B := gs_in (i := 434) (by decide +kernel) (by decide +kernel)
theorem kS_J0_isLatin1_aae02 : Cond.selects RJ0 yJ0_isLatin1_aae02 yJ0_isLatin1_aae02 ∈ gs_B := gs_in (i := 435) (by decide +kernel) (by decide +kernel)
set_option maxRecDepth 40000 in
theorem kC_J0_isLatin1_aae02 : Cond.code yJ0_isLatin1_aae02 cJ0_isLatin1_aae02 1 (some .boolean) ∈ gs_B := gs_in (i := 436) (rfl) (rfl)
theorem kM_J0_505 : Cond.methodLink RJ0 505 yJ0_length_8abf5 ∈ gs_B := gs_in (i := 439) (by decide +kernel) (by decide +kernel)
theorem kI_J0_length_8abf5 : Cond.instanceMethod yJ0_length_8abf5 ∈ gs_B := gs_in (i := 440) (by decide +kernel) (by decide +kernel)
theorem kS_J0_length_8abf5 : Cond.selects RJ0 yJ0_length_8abf5 yJ0_length_8abf5 ∈ gs_B := gs_in (i := 441) (by decide +kernel) (by decide +kernel)
set_option maxRecDepth 40000 in
theorem kC_J0_length_8abf5 : Cond.code yJ0_length_8abf5 cJ0_length_8abf5 1 (some .int) ∈ gs_B := gs_in (i := 442) (rfl) (rfl)
theorem kM_J0_335 : Cond.methodLink RJ0 335 yJ0_coder_7d493 ∈ gs_B := gs_in (i := 443) (by decide +kernel) (by decide +kernel)
theorem kI_J0_coder_7d493 : Cond.instanceMethod yJ0_coder_7d493 ∈ gs_B := gs_in (i := 444) (by decide +kernel) (by decide +kernel)
theorem kS_J0_coder_7d493 : Cond.selects RJ0 yJ0_coder_7d493 yJ0_coder_7d493 ∈ gs_B := gs_in (i := 445) (by decide +kernel) (by decide +kernel)
set_option maxRecDepth 40000 in
theorem kC_J0_coder_7d493 : Cond.code yJ0_coder_7d493 cJ0_coder_7d493 1 (some .byte) ∈ gs_B := gs_in (i := 446) (rfl) (rfl)
theorem kM_J0_637 : Cond.methodLink RJ0 637 yJ1_indexOf_4cfef ∈ gs_B := gs_in (i := 447) (by decide +kernel) (by decide +kernel)
theorem kT_J1_indexOf_4cfef : Cond.static yJ1_indexOf_4cfef ∈ gs_B := gs_in (i := 448) (by decide +kernel) (by decide +kernel)
set_option maxRecDepth 40000 in
theorem kC_J1_indexOf_4cfef : Cond.code yJ1_indexOf_4cfef cJ1_indexOf_4cfef 4 (some .int) ∈ gs_B := gs_in (i := 449) (rfl) (rfl)
theorem kM_J1_88 : Cond.methodLink RJ1 88 yJ1_canEncode_9a6ad ∈ gs_B := gs_in (i := 450) (by decide +kernel) (by decide +kernel)
theorem kT_J1_canEncode_9a6ad : Cond.static yJ1_canEncode_9a6ad ∈ gs_B := gs_in (i := 451) (by decide +kernel) (by decide +kernel)
set_option maxRecDepth 40000 in
theorem kC_J1_canEncode_9a6ad : Cond.code yJ1_canEncode_9a6ad cJ1_canEncode_9a6ad 1 (some .boolean) ∈ gs_B := gs_in (i := 452) (rfl) (rfl)
theorem kM_J1_92 : Cond.methodLink RJ1 92 Lib.Math.max.name ∈ gs_B := gs_in (i := 453) (by decide +kernel) (by decide +kernel)
theorem kM_J1_38 : Cond.methodLink RJ1 38 yJ9_min_7cf53 ∈ gs_B := gs_in (i := 454) (by decide +kernel) (by decide +kernel)
theorem kT_J9_min_7cf53 : Cond.static yJ9_min_7cf53 ∈ gs_B := gs_in (i := 455) (by decide +kernel) (by decide +kernel)
set_option maxRecDepth 40000 in
theorem kC_J9_min_7cf53 : Cond.code yJ9_min_7cf53 cJ9_min_7cf53 2 (some .int) ∈ gs_B := gs_in (i := 456) (rfl) (rfl)
theorem kM_J1_95 : Cond.methodLink RJ1 95 yJ1_indexOfChar_4cfef ∈ gs_B := gs_in (i := 457) (by decide +kernel) (by decide +kernel)
theorem kT_J1_indexOfChar_4cfef : Cond.static yJ1_indexOfChar_4cfef ∈ gs_B := gs_in (i := 458) (by decide +kernel) (by decide +kernel)
set_option maxRecDepth 40000 in
theorem kC_J1_indexOfChar_4cfef : Cond.code yJ1_indexOfChar_4cfef cJ1_indexOfChar_4cfef 6 (some .int) ∈ gs_B := gs_in (i := 459) (rfl) (rfl)
theorem kM_J0_640 : Cond.methodLink RJ0 640 yJ2_indexOf_4cfef ∈ gs_B := gs_in (i := 460) (by decide +kernel) (by decide +kernel)
theorem kT_J2_indexOf_4cfef : Cond.static yJ2_indexOf_4cfef ∈ gs_B := gs_in (i := 461) (by decide +kernel) (by decide +kernel)
set_option maxRecDepth 40000 in
theorem kC_J2_indexOf_4cfef : Cond.code yJ2_indexOf_4cfef cJ2_indexOf_4cfef 4 (some .int) ∈ gs_B := gs_in (i := 462) (rfl) (rfl)
theorem kM_J2_224 : Cond.methodLink RJ2 224 Lib.Math.max.name ∈ gs_B := gs_in (i := 463) (by decide +kernel) (by decide +kernel)
theorem kM_J2_183 : Cond.methodLink RJ2 183 yJ9_min_7cf53 ∈ gs_B := gs_in (i := 464) (by decide +kernel) (by decide +kernel)
theorem kK_J2_227 : Cond.constant RJ2 227 (65536) ∈ gs_B := gs_in (i := 465) (by decide +kernel) (by decide +kernel)
theorem kM_J2_228 : Cond.methodLink RJ2 228 yJ2_indexOfChar_4cfef ∈ gs_B := gs_in (i := 466) (by decide +kernel) (by decide +kernel)
theorem kT_J2_indexOfChar_4cfef : Cond.static yJ2_indexOfChar_4cfef ∈ gs_B := gs_in (i := 467) (by decide +kernel) (by decide +kernel)
set_option maxRecDepth 40000 in
theorem kC_J2_indexOfChar_4cfef : Cond.code yJ2_indexOfChar_4cfef cJ2_indexOfChar_4cfef 4 (some .int) ∈ gs_B := gs_in (i := 468) (rfl) (rfl)
theorem kM_J2_96 : Cond.methodLink RJ2 96 yJ2_checkBoundsBeginEnd_d044e ∈ gs_B := gs_in (i := 469) (by decide +kernel) (by decide +kernel)
theorem kT_J2_checkBoundsBeginEnd_d044e : Cond.static yJ2_checkBoundsBeginEnd_d044e ∈ gs_B := gs_in (i := 470) (by decide +kernel) (by decide +kernel)
set_option maxRecDepth 40000 in
theorem kC_J2_checkBoundsBeginEnd_d044e : Cond.code yJ2_checkBoundsBeginEnd_d044e cJ2_checkBoundsBeginEnd_d044e 3 none ∈ gs_B := gs_in (i := 471) (rfl) (rfl)
theorem kM_J2_48 : Cond.methodLink RJ2 48 yJ2_length_9d52b ∈ gs_B := gs_in (i := 472) (by decide +kernel) (by decide +kernel)
theorem kT_J2_length_9d52b : Cond.static yJ2_length_9d52b ∈ gs_B := gs_in (i := 473) (by decide +kernel) (by decide +kernel)
set_option maxRecDepth 40000 in
theorem kC_J2_length_9d52b : Cond.code yJ2_length_9d52b cJ2_length_9d52b 1 (some .int) ∈ gs_B := gs_in (i := 474) (rfl) (rfl)
theorem kM_J2_241 : Cond.methodLink RJ2 241 yJ0_checkBoundsBeginEnd_23922 ∈ gs_B := gs_in (i := 475) (by decide +kernel) (by decide +kernel)
theorem kT_J0_checkBoundsBeginEnd_23922 : Cond.static yJ0_checkBoundsBeginEnd_23922 ∈ gs_B := gs_in (i := 476) (by decide +kernel) (by decide +kernel)
set_option maxRecDepth 40000 in
theorem kC_J0_checkBoundsBeginEnd_23922 : Cond.code yJ0_checkBoundsBeginEnd_23922 cJ0_checkBoundsBeginEnd_23922 3 none ∈ gs_B := gs_in (i := 477) (rfl) (rfl)
theorem kM_J0_1062 : Cond.methodLink RJ0 1062 yJ3_checkFromToIndex_8c36e ∈ gs_B := gs_in (i := 480) (by decide +kernel) (by decide +kernel)
theorem kT_J3_checkFromToIndex_8c36e : Cond.static yJ3_checkFromToIndex_8c36e ∈ gs_B := gs_in (i := 481) (by decide +kernel) (by decide +kernel)
set_option maxRecDepth 40000 in
theorem kC_J3_checkFromToIndex_8c36e : Cond.code yJ3_checkFromToIndex_8c36e cJ3_checkFromToIndex_8c36e 4 (some .int) ∈ gs_B := gs_in (i := 482) (rfl) (rfl)
theorem kM_J2_244 : Cond.methodLink RJ2 244 yJ2_indexOfCharUnsafe_4cfef ∈ gs_B := gs_in (i := 483) (by decide +kernel) (by decide +kernel)
theorem kT_J2_indexOfCharUnsafe_4cfef : Cond.static yJ2_indexOfCharUnsafe_4cfef ∈ gs_B := gs_in (i := 484) (by decide +kernel) (by decide +kernel)
set_option maxRecDepth 40000 in
theorem kC_J2_indexOfCharUnsafe_4cfef : Cond.code yJ2_indexOfCharUnsafe_4cfef cJ2_indexOfCharUnsafe_4cfef 5 (some .int) ∈ gs_B := gs_in (i := 485) (rfl) (rfl)
theorem kM_J2_71 : Cond.methodLink RJ2 71 yJ2_getChar_3b067 ∈ gs_B := gs_in (i := 486) (by decide +kernel) (by decide +kernel)
theorem kT_J2_getChar_3b067 : Cond.static yJ2_getChar_3b067 ∈ gs_B := gs_in (i := 487) (by decide +kernel) (by decide +kernel)
set_option maxRecDepth 40000 in
theorem kC_J2_getChar_3b067 : Cond.code yJ2_getChar_3b067 cJ2_getChar_3b067 2 (some .char) ∈ gs_B := gs_in (i := 488) (rfl) (rfl)
theorem kM_J2_232 : Cond.methodLink RJ2 232 yJ2_indexOfSupplementary_4cfef ∈ gs_B := gs_in (i := 495) (by decide +kernel) (by decide +kernel)
theorem kT_J2_indexOfSupplementary_4cfef : Cond.static yJ2_indexOfSupplementary_4cfef ∈ gs_B := gs_in (i := 496) (by decide +kernel) (by decide +kernel)
set_option maxRecDepth 40000 in
theorem kC_J2_indexOfSupplementary_4cfef : Cond.code yJ2_indexOfSupplementary_4cfef cJ2_indexOfSupplementary_4cfef 7 (some .int) ∈ gs_B := gs_in (i := 497) (rfl) (rfl)
theorem kM_J2_164 : Cond.methodLink RJ2 164 yJ11_isValidCodePoint_9a6ad ∈ gs_B := gs_in (i := 498) (by decide +kernel) (by decide +kernel)
theorem kT_J11_isValidCodePoint_9a6ad : Cond.static yJ11_isValidCodePoint_9a6ad ∈ gs_B := gs_in (i := 499) (by decide +kernel) (by decide +kernel)
set_option maxRecDepth 40000 in
theorem kC_J11_isValidCodePoint_9a6ad : Cond.code yJ11_isValidCodePoint_9a6ad cJ11_isValidCodePoint_9a6ad 2 (some .boolean) ∈ gs_B := gs_in (i := 500) (rfl) (rfl)
theorem kM_J2_157 : Cond.methodLink RJ2 157 yJ11_highSurrogate_5068e ∈ gs_B := gs_in (i := 501) (by decide +kernel) (by decide +kernel)
theorem kT_J11_highSurrogate_5068e : Cond.static yJ11_highSurrogate_5068e ∈ gs_B := gs_in (i := 502) (by decide +kernel) (by decide +kernel)
set_option maxRecDepth 40000 in
theorem kC_J11_highSurrogate_5068e : Cond.code yJ11_highSurrogate_5068e cJ11_highSurrogate_5068e 1 (some .char) ∈ gs_B := gs_in (i := 503) (rfl) (rfl)
theorem kK_J11_110 : Cond.constant RJ11 110 (55232) ∈ gs_B := gs_in (i := 504) (by decide +kernel) (by decide +kernel)
theorem kM_J2_161 : Cond.methodLink RJ2 161 yJ11_lowSurrogate_5068e ∈ gs_B := gs_in (i := 505) (by decide +kernel) (by decide +kernel)
theorem kT_J11_lowSurrogate_5068e : Cond.static yJ11_lowSurrogate_5068e ∈ gs_B := gs_in (i := 506) (by decide +kernel) (by decide +kernel)
set_option maxRecDepth 40000 in
theorem kC_J11_lowSurrogate_5068e : Cond.code yJ11_lowSurrogate_5068e cJ11_lowSurrogate_5068e 1 (some .char) ∈ gs_B := gs_in (i := 507) (rfl) (rfl)
theorem kK_J11_76 : Cond.constant RJ11 76 (56320) ∈ gs_B := gs_in (i := 508) (by decide +kernel) (by decide +kernel)
theorem kM_X5_71 : Cond.methodLink RX5 71 yX5_takesSize ∈ gs_B := gs_in (i := 509) (by decide +kernel) (by decide +kernel)
theorem kI_X5_takesSize : Cond.instanceMethod yX5_takesSize ∈ gs_B := gs_in (i := 511) (by decide +kernel) (by decide +kernel)
set_option maxRecDepth 40000 in
theorem kC_X5_takesSize : Cond.code yX5_takesSize cX5_takesSize 2 (some .boolean) ∈ gs_B := gs_in (i := 512) (rfl) (rfl)
theorem kM_X5_74 : Cond.methodLink RX5 74 yX5_takesBehindThing ∈ gs_B := gs_in (i := 513) (by decide +kernel) (by decide +kernel)
theorem kI_X5_takesBehindThing : Cond.instanceMethod yX5_takesBehindThing ∈ gs_B := gs_in (i := 515) (by decide +kernel) (by decide +kernel)
set_option maxRecDepth 40000 in
theorem kC_X5_takesBehindThing : Cond.code yX5_takesBehindThing cX5_takesBehindThing 2 (some .boolean) ∈ gs_B := gs_in (i := 516) (rfl) (rfl)
theorem kM_L_27 : Cond.methodLink RL 27 yX8_mobile ∈ gs_B := gs_in (i := 518) (by decide +kernel) (by decide +kernel)
theorem kI_X8_mobile : Cond.instanceMethod yX8_mobile ∈ gs_B := gs_in (i := 519) (by decide +kernel) (by decide +kernel)
theorem kS_X8_mobile : Cond.selects RX8 yX8_mobile yX8_mobile ∈ gs_B := gs_in (i := 520) (by decide +kernel) (by decide +kernel)
set_option maxRecDepth 40000 in
theorem kC_X8_mobile : Cond.code yX8_mobile cX8_mobile 1 (some .int) ∈ gs_B := gs_in (i := 521) (rfl) (rfl)
theorem kM_X8_66 : Cond.methodLink RX8 66 yX5_isWhole ∈ gs_B := gs_in (i := 522) (by decide +kernel) (by decide +kernel)
theorem kI_X5_isWhole : Cond.instanceMethod yX5_isWhole ∈ gs_B := gs_in (i := 523) (by decide +kernel) (by decide +kernel)
theorem kS_X5_isWhole : Cond.selects RX5 yX5_isWhole yX5_isWhole ∈ gs_B := gs_in (i := 524) (by decide +kernel) (by decide +kernel)
set_option maxRecDepth 40000 in
theorem kC_X5_isWhole : Cond.code yX5_isWhole cX5_isWhole 1 (some .boolean) ∈ gs_B := gs_in (i := 525) (rfl) (rfl)
theorem kM_X8_70 : Cond.methodLink RX8 70 yX3_hangAsRead ∈ gs_B := gs_in (i := 526) (by decide +kernel) (by decide +kernel)
theorem kI_X3_hangAsRead : Cond.instanceMethod yX3_hangAsRead ∈ gs_B := gs_in (i := 527) (by decide +kernel) (by decide +kernel)
theorem kS_X3_hangAsRead : Cond.selects RX3 yX3_hangAsRead yX3_hangAsRead ∈ gs_B := gs_in (i := 528) (by decide +kernel) (by decide +kernel)
set_option maxRecDepth 40000 in
theorem kC_X3_hangAsRead : Cond.code yX3_hangAsRead cX3_hangAsRead 3 none ∈ gs_B := gs_in (i := 529) (rfl) (rfl)
theorem kM_X3_63 : Cond.methodLink RX3 63 yX3_hangAllAgain ∈ gs_B := gs_in (i := 530) (by decide +kernel) (by decide +kernel)
theorem kI_X3_hangAllAgain : Cond.instanceMethod yX3_hangAllAgain ∈ gs_B := gs_in (i := 531) (by decide +kernel) (by decide +kernel)
theorem kS_X3_hangAllAgain : Cond.selects RX3 yX3_hangAllAgain yX3_hangAllAgain ∈ gs_B := gs_in (i := 532) (by decide +kernel) (by decide +kernel)
set_option maxRecDepth 40000 in
theorem kC_X3_hangAllAgain : Cond.code yX3_hangAllAgain cX3_hangAllAgain 3 (some .int) ∈ gs_B := gs_in (i := 533) (rfl) (rfl)
theorem kM_L_31 : Cond.methodLink RL 31 yX8_rod ∈ gs_B := gs_in (i := 534) (by decide +kernel) (by decide +kernel)
theorem kI_X8_rod : Cond.instanceMethod yX8_rod ∈ gs_B := gs_in (i := 535) (by decide +kernel) (by decide +kernel)
theorem kS_X8_rod : Cond.selects RX8 yX8_rod yX8_rod ∈ gs_B := gs_in (i := 536) (by decide +kernel) (by decide +kernel)
set_option maxRecDepth 40000 in
theorem kC_X8_rod : Cond.code yX8_rod cX8_rod 3 (some .int) ∈ gs_B := gs_in (i := 537) (rfl) (rfl)
theorem kM_X8_84 : Cond.methodLink RX8 84 yX8_isRod ∈ gs_B := gs_in (i := 538) (by decide +kernel) (by decide +kernel)
theorem kI_X8_isRod : Cond.instanceMethod yX8_isRod ∈ gs_B := gs_in (i := 540) (by decide +kernel) (by decide +kernel)
set_option maxRecDepth 40000 in
theorem kC_X8_isRod : Cond.code yX8_isRod cX8_isRod 2 (some .boolean) ∈ gs_B := gs_in (i := 541) (rfl) (rfl)
theorem kM_X8_88 : Cond.methodLink RX8 88 yX6_weigh ∈ gs_B := gs_in (i := 542) (by decide +kernel) (by decide +kernel)
theorem kI_X6_weigh : Cond.instanceMethod yX6_weigh ∈ gs_B := gs_in (i := 543) (by decide +kernel) (by decide +kernel)
theorem kS_X6_weigh : Cond.selects RX6 yX6_weigh yX6_weigh ∈ gs_B := gs_in (i := 544) (by decide +kernel) (by decide +kernel)
set_option maxRecDepth 40000 in
theorem kC_X6_weigh : Cond.code yX6_weigh cX6_weigh 2 none ∈ gs_B := gs_in (i := 545) (rfl) (rfl)
theorem kM_X6_31 : Cond.methodLink RX6 31 yX6_prepare ∈ gs_B := gs_in (i := 546) (by decide +kernel) (by decide +kernel)
theorem kI_X6_prepare : Cond.instanceMethod yX6_prepare ∈ gs_B := gs_in (i := 547) (by decide +kernel) (by decide +kernel)
theorem kS_X6_prepare : Cond.selects RX6 yX6_prepare yX6_prepare ∈ gs_B := gs_in (i := 548) (by decide +kernel) (by decide +kernel)
set_option maxRecDepth 40000 in
theorem kC_X6_prepare : Cond.code yX6_prepare cX6_prepare 5 none ∈ gs_B := gs_in (i := 549) (rfl) (rfl)
theorem kM_X6_51 : Cond.methodLink RX6 51 yX1_weight ∈ gs_B := gs_in (i := 550) (by decide +kernel) (by decide +kernel)
theorem kT_X1_weight : Cond.static yX1_weight ∈ gs_B := gs_in (i := 551) (by decide +kernel) (by decide +kernel)
set_option maxRecDepth 40000 in
theorem kC_X1_weight : Cond.code yX1_weight cX1_weight 3 (some .int) ∈ gs_B := gs_in (i := 552) (rfl) (rfl)
theorem kM_X1_9 : Cond.methodLink RX1 9 Lib.Math.max.name ∈ gs_B := gs_in (i := 553) (by decide +kernel) (by decide +kernel)
theorem kM_X6_38 : Cond.methodLink RX6 38 yX6_hang ∈ gs_B := gs_in (i := 554) (by decide +kernel) (by decide +kernel)
theorem kI_X6_hang : Cond.instanceMethod yX6_hang ∈ gs_B := gs_in (i := 555) (by decide +kernel) (by decide +kernel)
theorem kS_X6_hang : Cond.selects RX6 yX6_hang yX6_hang ∈ gs_B := gs_in (i := 556) (by decide +kernel) (by decide +kernel)
set_option maxRecDepth 40000 in
theorem kC_X6_hang : Cond.code yX6_hang cX6_hang 4 none ∈ gs_B := gs_in (i := 557) (rfl) (rfl)
theorem kM_X6_69 : Cond.methodLink RX6 69 yX6_hangRod ∈ gs_B := gs_in (i := 558) (by decide +kernel) (by decide +kernel)
theorem kI_X6_hangRod : Cond.instanceMethod yX6_hangRod ∈ gs_B := gs_in (i := 560) (by decide +kernel) (by decide +kernel)
set_option maxRecDepth 40000 in
theorem kC_X6_hangRod : Cond.code yX6_hangRod cX6_hangRod 6 none ∈ gs_B := gs_in (i := 561) (rfl) (rfl)
theorem kM_X6_73 : Cond.methodLink RX6 73 yX6_loadOf ∈ gs_B := gs_in (i := 562) (by decide +kernel) (by decide +kernel)
theorem kI_X6_loadOf : Cond.instanceMethod yX6_loadOf ∈ gs_B := gs_in (i := 564) (by decide +kernel) (by decide +kernel)
set_option maxRecDepth 40000 in
theorem kC_X6_loadOf : Cond.code yX6_loadOf cX6_loadOf 5 (some .int) ∈ gs_B := gs_in (i := 565) (rfl) (rfl)
theorem kM_X8_92 : Cond.methodLink RX8 92 yX8_aboutRod ∈ gs_B := gs_in (i := 566) (by decide +kernel) (by decide +kernel)
theorem kI_X8_aboutRod : Cond.instanceMethod yX8_aboutRod ∈ gs_B := gs_in (i := 568) (by decide +kernel) (by decide +kernel)
set_option maxRecDepth 40000 in
theorem kC_X8_aboutRod : Cond.code yX8_aboutRod cX8_aboutRod 3 (some .int) ∈ gs_B := gs_in (i := 569) (rfl) (rfl)
theorem kM_X8_237 : Cond.methodLink RX8 237 yX3_hangingFrom ∈ gs_B := gs_in (i := 570) (by decide +kernel) (by decide +kernel)
theorem kI_X3_hangingFrom : Cond.instanceMethod yX3_hangingFrom ∈ gs_B := gs_in (i := 571) (by decide +kernel) (by decide +kernel)
theorem kS_X3_hangingFrom : Cond.selects RX3 yX3_hangingFrom yX3_hangingFrom ∈ gs_B := gs_in (i := 572) (by decide +kernel) (by decide +kernel)
set_option maxRecDepth 40000 in
theorem kC_X3_hangingFrom : Cond.code yX3_hangingFrom cX3_hangingFrom 3 (some .int) ∈ gs_B := gs_in (i := 573) (rfl) (rfl)
theorem kM_X8_249 : Cond.methodLink RX8 249 yX6_hookFor ∈ gs_B := gs_in (i := 574) (by decide +kernel) (by decide +kernel)
theorem kI_X6_hookFor : Cond.instanceMethod yX6_hookFor ∈ gs_B := gs_in (i := 575) (by decide +kernel) (by decide +kernel)
theorem kS_X6_hookFor : Cond.selects RX6 yX6_hookFor yX6_hookFor ∈ gs_B := gs_in (i := 576) (by decide +kernel) (by decide +kernel)
set_option maxRecDepth 40000 in
theorem kC_X6_hookFor : Cond.code yX6_hookFor cX6_hookFor 5 (some .int) ∈ gs_B := gs_in (i := 577) (rfl) (rfl)
theorem kM_X8_253 : Cond.methodLink RX8 253 yX6_beadToAdd ∈ gs_B := gs_in (i := 578) (by decide +kernel) (by decide +kernel)
theorem kI_X6_beadToAdd : Cond.instanceMethod yX6_beadToAdd ∈ gs_B := gs_in (i := 579) (by decide +kernel) (by decide +kernel)
theorem kS_X6_beadToAdd : Cond.selects RX6 yX6_beadToAdd yX6_beadToAdd ∈ gs_B := gs_in (i := 580) (by decide +kernel) (by decide +kernel)
set_option maxRecDepth 40000 in
theorem kC_X6_beadToAdd : Cond.code yX6_beadToAdd cX6_beadToAdd 4 (some .int) ∈ gs_B := gs_in (i := 581) (rfl) (rfl)
theorem kM_L_36 : Cond.methodLink RL 36 yX8_thing ∈ gs_B := gs_in (i := 582) (by decide +kernel) (by decide +kernel)
theorem kI_X8_thing : Cond.instanceMethod yX8_thing ∈ gs_B := gs_in (i := 583) (by decide +kernel) (by decide +kernel)
theorem kS_X8_thing : Cond.selects RX8 yX8_thing yX8_thing ∈ gs_B := gs_in (i := 584) (by decide +kernel) (by decide +kernel)
set_option maxRecDepth 40000 in
theorem kC_X8_thing : Cond.code yX8_thing cX8_thing 3 (some .int) ∈ gs_B := gs_in (i := 585) (rfl) (rfl)
theorem kM_X8_96 : Cond.methodLink RX8 96 yX8_isThing ∈ gs_B := gs_in (i := 586) (by decide +kernel) (by decide +kernel)
theorem kI_X8_isThing : Cond.instanceMethod yX8_isThing ∈ gs_B := gs_in (i := 588) (by decide +kernel) (by decide +kernel)
set_option maxRecDepth 40000 in
theorem kC_X8_isThing : Cond.code yX8_isThing cX8_isThing 2 (some .boolean) ∈ gs_B := gs_in (i := 589) (rfl) (rfl)
theorem kM_X8_99 : Cond.methodLink RX8 99 yX8_aboutThing ∈ gs_B := gs_in (i := 590) (by decide +kernel) (by decide +kernel)
theorem kI_X8_aboutThing : Cond.instanceMethod yX8_aboutThing ∈ gs_B := gs_in (i := 592) (by decide +kernel) (by decide +kernel)
set_option maxRecDepth 40000 in
theorem kC_X8_aboutThing : Cond.code yX8_aboutThing cX8_aboutThing 3 (some .int) ∈ gs_B := gs_in (i := 593) (rfl) (rfl)
theorem kM_X8_256 : Cond.methodLink RX8 256 yX1_weight ∈ gs_B := gs_in (i := 594) (by decide +kernel) (by decide +kernel)
theorem kM_X8_260 : Cond.methodLink RX8 260 yX3_armOf ∈ gs_B := gs_in (i := 595) (by decide +kernel) (by decide +kernel)
theorem kI_X3_armOf : Cond.instanceMethod yX3_armOf ∈ gs_B := gs_in (i := 596) (by decide +kernel) (by decide +kernel)
theorem kS_X3_armOf : Cond.selects RX3 yX3_armOf yX3_armOf ∈ gs_B := gs_in (i := 597) (by decide +kernel) (by decide +kernel)
set_option maxRecDepth 40000 in
theorem kC_X3_armOf : Cond.code yX3_armOf cX3_armOf 3 (some .int) ∈ gs_B := gs_in (i := 598) (rfl) (rfl)
theorem kM_X3_74 : Cond.methodLink RX3 74 yX3_hangingFrom ∈ gs_B := gs_in (i := 599) (by decide +kernel) (by decide +kernel)
theorem kM_X8_263 : Cond.methodLink RX8 263 yX7_sizesOf ∈ gs_B := gs_in (i := 600) (by decide +kernel) (by decide +kernel)
theorem kI_X7_sizesOf : Cond.instanceMethod yX7_sizesOf ∈ gs_B := gs_in (i := 601) (by decide +kernel) (by decide +kernel)
theorem kS_X7_sizesOf : Cond.selects RX7 yX7_sizesOf yX7_sizesOf ∈ gs_B := gs_in (i := 602) (by decide +kernel) (by decide +kernel)
set_option maxRecDepth 40000 in
theorem kC_X7_sizesOf : Cond.code yX7_sizesOf cX7_sizesOf 5 (some .int) ∈ gs_B := gs_in (i := 603) (rfl) (rfl)
theorem kM_X7_28 : Cond.methodLink RX7 28 yX7_sizesTilting ∈ gs_B := gs_in (i := 604) (by decide +kernel) (by decide +kernel)
theorem kT_X7_sizesTilting : Cond.static yX7_sizesTilting ∈ gs_B := gs_in (i := 605) (by decide +kernel) (by decide +kernel)
set_option maxRecDepth 40000 in
theorem kC_X7_sizesTilting : Cond.code yX7_sizesTilting cX7_sizesTilting 10 (some .int) ∈ gs_B := gs_in (i := 606) (rfl) (rfl)
theorem kM_X7_59 : Cond.methodLink RX7 59 yX1_weight ∈ gs_B := gs_in (i := 607) (by decide +kernel) (by decide +kernel)
theorem kM_X7_65 : Cond.methodLink RX7 65 yX7_wayOf ∈ gs_B := gs_in (i := 608) (by decide +kernel) (by decide +kernel)
theorem kT_X7_wayOf : Cond.static yX7_wayOf ∈ gs_B := gs_in (i := 609) (by decide +kernel) (by decide +kernel)
set_option maxRecDepth 40000 in
theorem kC_X7_wayOf : Cond.code yX7_wayOf cX7_wayOf 1 (some .int) ∈ gs_B := gs_in (i := 610) (rfl) (rfl)
theorem kM_L_40 : Cond.methodLink RL 40 yX8_as ∈ gs_B := gs_in (i := 611) (by decide +kernel) (by decide +kernel)
theorem kI_X8_as : Cond.instanceMethod yX8_as ∈ gs_B := gs_in (i := 612) (by decide +kernel) (by decide +kernel)
theorem kS_X8_as : Cond.selects RX8 yX8_as yX8_as ∈ gs_B := gs_in (i := 613) (by decide +kernel) (by decide +kernel)
set_option maxRecDepth 40000 in
theorem kC_X8_as : Cond.code yX8_as cX8_as 3 (some .int) ∈ gs_B := gs_in (i := 614) (rfl) (rfl)
theorem kM_X8_102 : Cond.methodLink RX8 102 yX1_isKind ∈ gs_B := gs_in (i := 615) (by decide +kernel) (by decide +kernel)
theorem kT_X1_isKind : Cond.static yX1_isKind ∈ gs_B := gs_in (i := 616) (by decide +kernel) (by decide +kernel)
set_option maxRecDepth 40000 in
theorem kC_X1_isKind : Cond.code yX1_isKind cX1_isKind 1 (some .boolean) ∈ gs_B := gs_in (i := 617) (rfl) (rfl)
theorem kM_X8_110 : Cond.methodLink RX8 110 yX1_isA ∈ gs_B := gs_in (i := 618) (by decide +kernel) (by decide +kernel)
theorem kT_X1_isA : Cond.static yX1_isA ∈ gs_B := gs_in (i := 619) (by decide +kernel) (by decide +kernel)
set_option maxRecDepth 40000 in
theorem kC_X1_isA : Cond.code yX1_isA cX1_isA 2 (some .boolean) ∈ gs_B := gs_in (i := 620) (rfl) (rfl)
theorem kM_L_44 : Cond.methodLink RL 44 yX8_hour ∈ gs_B := gs_in (i := 621) (by decide +kernel) (by decide +kernel)
theorem kI_X8_hour : Cond.instanceMethod yX8_hour ∈ gs_B := gs_in (i := 622) (by decide +kernel) (by decide +kernel)
theorem kS_X8_hour : Cond.selects RX8 yX8_hour yX8_hour ∈ gs_B := gs_in (i := 623) (by decide +kernel) (by decide +kernel)
set_option maxRecDepth 40000 in
theorem kC_X8_hour : Cond.code yX8_hour cX8_hour 1 (some .int) ∈ gs_B := gs_in (i := 624) (rfl) (rfl)
theorem kM_X8_114 : Cond.methodLink RX8 114 yX8_hasMobile ∈ gs_B := gs_in (i := 625) (by decide +kernel) (by decide +kernel)
theorem kI_X8_hasMobile : Cond.instanceMethod yX8_hasMobile ∈ gs_B := gs_in (i := 627) (by decide +kernel) (by decide +kernel)
set_option maxRecDepth 40000 in
theorem kC_X8_hasMobile : Cond.code yX8_hasMobile cX8_hasMobile 1 (some .boolean) ∈ gs_B := gs_in (i := 628) (rfl) (rfl)
theorem kM_L_48 : Cond.methodLink RL 48 yX8_exchange ∈ gs_B := gs_in (i := 629) (by decide +kernel) (by decide +kernel)
theorem kI_X8_exchange : Cond.instanceMethod yX8_exchange ∈ gs_B := gs_in (i := 630) (by decide +kernel) (by decide +kernel)
theorem kS_X8_exchange : Cond.selects RX8 yX8_exchange yX8_exchange ∈ gs_B := gs_in (i := 631) (by decide +kernel) (by decide +kernel)
set_option maxRecDepth 40000 in
theorem kC_X8_exchange : Cond.code yX8_exchange cX8_exchange 3 (some .int) ∈ gs_B := gs_in (i := 632) (rfl) (rfl)
theorem kM_X8_127 : Cond.methodLink RX8 127 yX8_swapThings ∈ gs_B := gs_in (i := 633) (by decide +kernel) (by decide +kernel)
theorem kT_X8_swapThings : Cond.static yX8_swapThings ∈ gs_B := gs_in (i := 634) (by decide +kernel) (by decide +kernel)
set_option maxRecDepth 40000 in
theorem kC_X8_swapThings : Cond.code yX8_swapThings cX8_swapThings 4 none ∈ gs_B := gs_in (i := 635) (rfl) (rfl)
theorem kM_X8_131 : Cond.methodLink RX8 131 yX8_levelNow ∈ gs_B := gs_in (i := 636) (by decide +kernel) (by decide +kernel)
theorem kI_X8_levelNow : Cond.instanceMethod yX8_levelNow ∈ gs_B := gs_in (i := 638) (by decide +kernel) (by decide +kernel)
set_option maxRecDepth 40000 in
theorem kC_X8_levelNow : Cond.code yX8_levelNow cX8_levelNow 1 (some .int) ∈ gs_B := gs_in (i := 639) (rfl) (rfl)
theorem kM_X8_234 : Cond.methodLink RX8 234 yX6_rodsLevel ∈ gs_B := gs_in (i := 640) (by decide +kernel) (by decide +kernel)
theorem kI_X6_rodsLevel : Cond.instanceMethod yX6_rodsLevel ∈ gs_B := gs_in (i := 641) (by decide +kernel) (by decide +kernel)
theorem kS_X6_rodsLevel : Cond.selects RX6 yX6_rodsLevel yX6_rodsLevel ∈ gs_B := gs_in (i := 642) (by decide +kernel) (by decide +kernel)
set_option maxRecDepth 40000 in
theorem kC_X6_rodsLevel : Cond.code yX6_rodsLevel cX6_rodsLevel 4 (some .int) ∈ gs_B := gs_in (i := 643) (rfl) (rfl)
theorem kM_L_52 : Cond.methodLink RL 52 yX8_move ∈ gs_B := gs_in (i := 644) (by decide +kernel) (by decide +kernel)
theorem kI_X8_move : Cond.instanceMethod yX8_move ∈ gs_B := gs_in (i := 645) (by decide +kernel) (by decide +kernel)
theorem kS_X8_move : Cond.selects RX8 yX8_move yX8_move ∈ gs_B := gs_in (i := 646) (by decide +kernel) (by decide +kernel)
set_option maxRecDepth 40000 in
theorem kC_X8_move : Cond.code yX8_move cX8_move 5 (some .int) ∈ gs_B := gs_in (i := 647) (rfl) (rfl)
theorem kM_L_56 : Cond.methodLink RL 56 yX8_cut ∈ gs_B := gs_in (i := 648) (by decide +kernel) (by decide +kernel)
theorem kI_X8_cut : Cond.instanceMethod yX8_cut ∈ gs_B := gs_in (i := 649) (by decide +kernel) (by decide +kernel)
theorem kS_X8_cut : Cond.selects RX8 yX8_cut yX8_cut ∈ gs_B := gs_in (i := 650) (by decide +kernel) (by decide +kernel)
set_option maxRecDepth 40000 in
theorem kC_X8_cut : Cond.code yX8_cut cX8_cut 2 (some .int) ∈ gs_B := gs_in (i := 651) (rfl) (rfl)
theorem kM_L_60 : Cond.methodLink RL 60 yX8_drop ∈ gs_B := gs_in (i := 652) (by decide +kernel) (by decide +kernel)
theorem kI_X8_drop : Cond.instanceMethod yX8_drop ∈ gs_B := gs_in (i := 653) (by decide +kernel) (by decide +kernel)
theorem kS_X8_drop : Cond.selects RX8 yX8_drop yX8_drop ∈ gs_B := gs_in (i := 654) (by decide +kernel) (by decide +kernel)
set_option maxRecDepth 40000 in
theorem kC_X8_drop : Cond.code yX8_drop cX8_drop 2 (some .int) ∈ gs_B := gs_in (i := 655) (rfl) (rfl)
theorem kM_X8_141 : Cond.methodLink RX8 141 yX6_rodsThere ∈ gs_B := gs_in (i := 656) (by decide +kernel) (by decide +kernel)
theorem kI_X6_rodsThere : Cond.instanceMethod yX6_rodsThere ∈ gs_B := gs_in (i := 657) (by decide +kernel) (by decide +kernel)
theorem kS_X6_rodsThere : Cond.selects RX6 yX6_rodsThere yX6_rodsThere ∈ gs_B := gs_in (i := 658) (by decide +kernel) (by decide +kernel)
set_option maxRecDepth 40000 in
theorem kC_X6_rodsThere : Cond.code yX6_rodsThere cX6_rodsThere 4 (some .int) ∈ gs_B := gs_in (i := 659) (rfl) (rfl)
theorem kM_L_64 : Cond.methodLink RL 64 yX8_mend ∈ gs_B := gs_in (i := 660) (by decide +kernel) (by decide +kernel)
theorem kI_X8_mend : Cond.instanceMethod yX8_mend ∈ gs_B := gs_in (i := 661) (by decide +kernel) (by decide +kernel)
theorem kS_X8_mend : Cond.selects RX8 yX8_mend yX8_mend ∈ gs_B := gs_in (i := 662) (by decide +kernel) (by decide +kernel)
set_option maxRecDepth 40000 in
theorem kC_X8_mend : Cond.code yX8_mend cX8_mend 1 (some .int) ∈ gs_B := gs_in (i := 663) (rfl) (rfl)
theorem kM_X8_145 : Cond.methodLink RX8 145 yX3_hangAllAgain ∈ gs_B := gs_in (i := 664) (by decide +kernel) (by decide +kernel)
theorem kM_L_68 : Cond.methodLink RL 68 yX8_change ∈ gs_B := gs_in (i := 665) (by decide +kernel) (by decide +kernel)
theorem kI_X8_change : Cond.instanceMethod yX8_change ∈ gs_B := gs_in (i := 666) (by decide +kernel) (by decide +kernel)
theorem kS_X8_change : Cond.selects RX8 yX8_change yX8_change ∈ gs_B := gs_in (i := 667) (by decide +kernel) (by decide +kernel)
set_option maxRecDepth 40000 in
theorem kC_X8_change : Cond.code yX8_change cX8_change 5 (some .int) ∈ gs_B := gs_in (i := 668) (rfl) (rfl)
theorem kM_X8_148 : Cond.methodLink RX8 148 yX8_isSize ∈ gs_B := gs_in (i := 669) (by decide +kernel) (by decide +kernel)
theorem kT_X8_isSize : Cond.static yX8_isSize ∈ gs_B := gs_in (i := 670) (by decide +kernel) (by decide +kernel)
set_option maxRecDepth 40000 in
theorem kC_X8_isSize : Cond.code yX8_isSize cX8_isSize 1 (some .boolean) ∈ gs_B := gs_in (i := 671) (rfl) (rfl)
theorem kM_L_73 : Cond.methodLink RL 73 yX8_best ∈ gs_B := gs_in (i := 672) (by decide +kernel) (by decide +kernel)
theorem kI_X8_best : Cond.instanceMethod yX8_best ∈ gs_B := gs_in (i := 673) (by decide +kernel) (by decide +kernel)
theorem kS_X8_best : Cond.selects RX8 yX8_best yX8_best ∈ gs_B := gs_in (i := 674) (by decide +kernel) (by decide +kernel)
set_option maxRecDepth 40000 in
theorem kC_X8_best : Cond.code yX8_best cX8_best 1 (some .int) ∈ gs_B := gs_in (i := 675) (rfl) (rfl)
theorem kM_X8_154 : Cond.methodLink RX8 154 yX2_bestExchange ∈ gs_B := gs_in (i := 676) (by decide +kernel) (by decide +kernel)
theorem kI_X2_bestExchange : Cond.instanceMethod yX2_bestExchange ∈ gs_B := gs_in (i := 677) (by decide +kernel) (by decide +kernel)
theorem kS_X2_bestExchange : Cond.selects RX2 yX2_bestExchange yX2_bestExchange ∈ gs_B := gs_in (i := 678) (by decide +kernel) (by decide +kernel)
set_option maxRecDepth 40000 in
theorem kC_X2_bestExchange : Cond.code yX2_bestExchange cX2_bestExchange 7 (some .int) ∈ gs_B := gs_in (i := 679) (rfl) (rfl)
theorem kM_X2_31 : Cond.methodLink RX2 31 yX6_weigh ∈ gs_B := gs_in (i := 680) (by decide +kernel) (by decide +kernel)
theorem kM_X2_35 : Cond.methodLink RX2 35 yX6_rodsLevel ∈ gs_B := gs_in (i := 681) (by decide +kernel) (by decide +kernel)
theorem kM_X2_39 : Cond.methodLink RX2 39 yX2_copyLaid ∈ gs_B := gs_in (i := 682) (by decide +kernel) (by decide +kernel)
theorem kI_X2_copyLaid : Cond.instanceMethod yX2_copyLaid ∈ gs_B := gs_in (i := 684) (by decide +kernel) (by decide +kernel)
set_option maxRecDepth 40000 in
theorem kC_X2_copyLaid : Cond.code yX2_copyLaid cX2_copyLaid 3 none ∈ gs_B := gs_in (i := 685) (rfl) (rfl)
theorem kM_X2_48 : Cond.methodLink RX2 48 yX2_levelIfSwapped ∈ gs_B := gs_in (i := 686) (by decide +kernel) (by decide +kernel)
theorem kI_X2_levelIfSwapped : Cond.instanceMethod yX2_levelIfSwapped ∈ gs_B := gs_in (i := 688) (by decide +kernel) (by decide +kernel)
set_option maxRecDepth 40000 in
theorem kC_X2_levelIfSwapped : Cond.code yX2_levelIfSwapped cX2_levelIfSwapped 4 (some .int) ∈ gs_B := gs_in (i := 689) (rfl) (rfl)
theorem kM_X2_60 : Cond.methodLink RX2 60 yX6_hang ∈ gs_B := gs_in (i := 691) (by decide +kernel) (by decide +kernel)
theorem kM_L_77 : Cond.methodLink RL 77 yX8_lay ∈ gs_B := gs_in (i := 692) (by decide +kernel) (by decide +kernel)
theorem kI_X8_lay : Cond.instanceMethod yX8_lay ∈ gs_B := gs_in (i := 693) (by decide +kernel) (by decide +kernel)
theorem kS_X8_lay : Cond.selects RX8 yX8_lay yX8_lay ∈ gs_B := gs_in (i := 694) (by decide +kernel) (by decide +kernel)
set_option maxRecDepth 40000 in
theorem kC_X8_lay : Cond.code yX8_lay cX8_lay 3 (some .int) ∈ gs_B := gs_in (i := 695) (rfl) (rfl)
theorem kM_X8_160 : Cond.methodLink RX8 160 yX2_findBestLaying ∈ gs_B := gs_in (i := 696) (by decide +kernel) (by decide +kernel)
theorem kI_X2_findBestLaying : Cond.instanceMethod yX2_findBestLaying ∈ gs_B := gs_in (i := 697) (by decide +kernel) (by decide +kernel)
theorem kS_X2_findBestLaying : Cond.selects RX2 yX2_findBestLaying yX2_findBestLaying ∈ gs_B := gs_in (i := 698) (by decide +kernel) (by decide +kernel)
set_option maxRecDepth 40000 in
theorem kC_X2_findBestLaying : Cond.code yX2_findBestLaying cX2_findBestLaying 3 none ∈ gs_B := gs_in (i := 699) (rfl) (rfl)
theorem kM_X2_64 : Cond.methodLink RX2 64 yX2_beginOrders ∈ gs_B := gs_in (i := 700) (by decide +kernel) (by decide +kernel)
theorem kI_X2_beginOrders : Cond.instanceMethod yX2_beginOrders ∈ gs_B := gs_in (i := 702) (by decide +kernel) (by decide +kernel)
set_option maxRecDepth 40000 in
theorem kC_X2_beginOrders : Cond.code yX2_beginOrders cX2_beginOrders 4 none ∈ gs_B := gs_in (i := 703) (rfl) (rfl)
theorem kM_X2_109 : Cond.methodLink RX2 109 yX6_prepare ∈ gs_B := gs_in (i := 704) (by decide +kernel) (by decide +kernel)
theorem kM_X2_73 : Cond.methodLink RX2 73 yX2_layInOrder ∈ gs_B := gs_in (i := 705) (by decide +kernel) (by decide +kernel)
theorem kI_X2_layInOrder : Cond.instanceMethod yX2_layInOrder ∈ gs_B := gs_in (i := 707) (by decide +kernel) (by decide +kernel)
set_option maxRecDepth 40000 in
theorem kC_X2_layInOrder : Cond.code yX2_layInOrder cX2_layInOrder 2 none ∈ gs_B := gs_in (i := 708) (rfl) (rfl)
theorem kM_X2_76 : Cond.methodLink RX2 76 yX6_tiltTogether ∈ gs_B := gs_in (i := 709) (by decide +kernel) (by decide +kernel)
theorem kI_X6_tiltTogether : Cond.instanceMethod yX6_tiltTogether ∈ gs_B := gs_in (i := 710) (by decide +kernel) (by decide +kernel)
theorem kS_X6_tiltTogether : Cond.selects RX6 yX6_tiltTogether yX6_tiltTogether ∈ gs_B := gs_in (i := 711) (by decide +kernel) (by decide +kernel)
set_option maxRecDepth 40000 in
theorem kC_X6_tiltTogether : Cond.code yX6_tiltTogether cX6_tiltTogether 4 (some .int) ∈ gs_B := gs_in (i := 712) (rfl) (rfl)
theorem kM_X6_84 : Cond.methodLink RX6 84 Lib.Math.abs.name ∈ gs_B := gs_in (i := 713) (by decide +kernel) (by decide +kernel)
theorem kT_Math_abs : Cond.static Lib.Math.abs.name ∈ gs_B := gs_in (i := 714) (by decide +kernel) (by decide +kernel)
theorem kC_Math_abs : Cond.code Lib.Math.abs.name Lib.Math.abs.code 1 (some .int) ∈ gs_B := gs_in (i := 715) (by decide +kernel) (by decide +kernel)
theorem kM_X2_79 : Cond.methodLink RX2 79 yX2_keepIfBetter ∈ gs_B := gs_in (i := 716) (by decide +kernel) (by decide +kernel)
theorem kI_X2_keepIfBetter : Cond.instanceMethod yX2_keepIfBetter ∈ gs_B := gs_in (i := 718) (by decide +kernel) (by decide +kernel)
set_option maxRecDepth 40000 in
theorem kC_X2_keepIfBetter : Cond.code yX2_keepIfBetter cX2_keepIfBetter 4 none ∈ gs_B := gs_in (i := 719) (rfl) (rfl)
theorem kM_X2_83 : Cond.methodLink RX2 83 yX2_nextOrder ∈ gs_B := gs_in (i := 720) (by decide +kernel) (by decide +kernel)
theorem kI_X2_nextOrder : Cond.instanceMethod yX2_nextOrder ∈ gs_B := gs_in (i := 722) (by decide +kernel) (by decide +kernel)
set_option maxRecDepth 40000 in
theorem kC_X2_nextOrder : Cond.code yX2_nextOrder cX2_nextOrder 5 none ∈ gs_B := gs_in (i := 723) (rfl) (rfl)
theorem kM_X2_114 : Cond.methodLink RX2 114 yX2_swapAt ∈ gs_B := gs_in (i := 724) (by decide +kernel) (by decide +kernel)
theorem kI_X2_swapAt : Cond.instanceMethod yX2_swapAt ∈ gs_B := gs_in (i := 726) (by decide +kernel) (by decide +kernel)
set_option maxRecDepth 40000 in
theorem kC_X2_swapAt : Cond.code yX2_swapAt cX2_swapAt 4 none ∈ gs_B := gs_in (i := 727) (rfl) (rfl)
theorem kM_L_81 : Cond.methodLink RL 81 yX8_even ∈ gs_B := gs_in (i := 728) (by decide +kernel) (by decide +kernel)
theorem kI_X8_even : Cond.instanceMethod yX8_even ∈ gs_B := gs_in (i := 729) (by decide +kernel) (by decide +kernel)
theorem kS_X8_even : Cond.selects RX8 yX8_even yX8_even ∈ gs_B := gs_in (i := 730) (by decide +kernel) (by decide +kernel)
set_option maxRecDepth 40000 in
theorem kC_X8_even : Cond.code yX8_even cX8_even 1 (some .int) ∈ gs_B := gs_in (i := 731) (rfl) (rfl)
theorem kM_X8_172 : Cond.methodLink RX8 172 yX0_hoursUntilLevel ∈ gs_B := gs_in (i := 732) (by decide +kernel) (by decide +kernel)
theorem kI_X0_hoursUntilLevel : Cond.instanceMethod yX0_hoursUntilLevel ∈ gs_B := gs_in (i := 733) (by decide +kernel) (by decide +kernel)
theorem kS_X0_hoursUntilLevel : Cond.selects RX0 yX0_hoursUntilLevel yX0_hoursUntilLevel ∈ gs_B := gs_in (i := 734) (by decide +kernel) (by decide +kernel)
set_option maxRecDepth 40000 in
theorem kC_X0_hoursUntilLevel : Cond.code yX0_hoursUntilLevel cX0_hoursUntilLevel 3 (some .int) ∈ gs_B := gs_in (i := 735) (rfl) (rfl)
theorem kM_X0_28 : Cond.methodLink RX0 28 yX6_prepare ∈ gs_B := gs_in (i := 736) (by decide +kernel) (by decide +kernel)
theorem kM_X0_33 : Cond.methodLink RX0 33 yX6_hangsLevel ∈ gs_B := gs_in (i := 737) (by decide +kernel) (by decide +kernel)
theorem kI_X6_hangsLevel : Cond.instanceMethod yX6_hangsLevel ∈ gs_B := gs_in (i := 738) (by decide +kernel) (by decide +kernel)
theorem kS_X6_hangsLevel : Cond.selects RX6 yX6_hangsLevel yX6_hangsLevel ∈ gs_B := gs_in (i := 739) (by decide +kernel) (by decide +kernel)
set_option maxRecDepth 40000 in
theorem kC_X6_hangsLevel : Cond.code yX6_hangsLevel cX6_hangsLevel 4 (some .boolean) ∈ gs_B := gs_in (i := 740) (rfl) (rfl)
theorem kM_L_85 : Cond.methodLink RL 85 yX8_odds ∈ gs_B := gs_in (i := 741) (by decide +kernel) (by decide +kernel)
theorem kI_X8_odds : Cond.instanceMethod yX8_odds ∈ gs_B := gs_in (i := 742) (by decide +kernel) (by decide +kernel)
theorem kS_X8_odds : Cond.selects RX8 yX8_odds yX8_odds ∈ gs_B := gs_in (i := 743) (by decide +kernel) (by decide +kernel)
set_option maxRecDepth 40000 in
theorem kC_X8_odds : Cond.code yX8_odds cX8_odds 2 (some .int) ∈ gs_B := gs_in (i := 744) (rfl) (rfl)
theorem kM_X8_175 : Cond.methodLink RX8 175 yX2_findOdds ∈ gs_B := gs_in (i := 745) (by decide +kernel) (by decide +kernel)
theorem kI_X2_findOdds : Cond.instanceMethod yX2_findOdds ∈ gs_B := gs_in (i := 746) (by decide +kernel) (by decide +kernel)
theorem kS_X2_findOdds : Cond.selects RX2 yX2_findOdds yX2_findOdds ∈ gs_B := gs_in (i := 747) (by decide +kernel) (by decide +kernel)
set_option maxRecDepth 40000 in
theorem kC_X2_findOdds : Cond.code yX2_findOdds cX2_findOdds 4 none ∈ gs_B := gs_in (i := 748) (rfl) (rfl)
theorem kM_X2_92 : Cond.methodLink RX2 92 yX6_hangsLevel ∈ gs_B := gs_in (i := 749) (by decide +kernel) (by decide +kernel)
theorem kM_X2_96 : Cond.methodLink RX2 96 yX2_greatestDivisor ∈ gs_B := gs_in (i := 750) (by decide +kernel) (by decide +kernel)
theorem kT_X2_greatestDivisor : Cond.static yX2_greatestDivisor ∈ gs_B := gs_in (i := 751) (by decide +kernel) (by decide +kernel)
set_option maxRecDepth 40000 in
theorem kC_X2_greatestDivisor : Cond.code yX2_greatestDivisor cX2_greatestDivisor 3 (some .int) ∈ gs_B := gs_in (i := 752) (rfl) (rfl)
theorem kM_L_89 : Cond.methodLink RL 89 yX8_see ∈ gs_B := gs_in (i := 753) (by decide +kernel) (by decide +kernel)
theorem kI_X8_see : Cond.instanceMethod yX8_see ∈ gs_B := gs_in (i := 754) (by decide +kernel) (by decide +kernel)
theorem kS_X8_see : Cond.selects RX8 yX8_see yX8_see ∈ gs_B := gs_in (i := 755) (by decide +kernel) (by decide +kernel)
set_option maxRecDepth 40000 in
theorem kC_X8_see : Cond.code yX8_see cX8_see 5 (some .int) ∈ gs_B := gs_in (i := 756) (rfl) (rfl)
theorem kM_X8_193 : Cond.methodLink RX8 193 yX7_add ∈ gs_B := gs_in (i := 757) (by decide +kernel) (by decide +kernel)
theorem kI_X7_add : Cond.instanceMethod yX7_add ∈ gs_B := gs_in (i := 758) (by decide +kernel) (by decide +kernel)
theorem kS_X7_add : Cond.selects RX7 yX7_add yX7_add ∈ gs_B := gs_in (i := 759) (by decide +kernel) (by decide +kernel)
set_option maxRecDepth 40000 in
theorem kC_X7_add : Cond.code yX7_add cX7_add 5 none ∈ gs_B := gs_in (i := 760) (rfl) (rfl)
theorem kM_L_94 : Cond.methodLink RL 94 yX8_forget ∈ gs_B := gs_in (i := 761) (by decide +kernel) (by decide +kernel)
theorem kI_X8_forget : Cond.instanceMethod yX8_forget ∈ gs_B := gs_in (i := 762) (by decide +kernel) (by decide +kernel)
theorem kS_X8_forget : Cond.selects RX8 yX8_forget yX8_forget ∈ gs_B := gs_in (i := 763) (by decide +kernel) (by decide +kernel)
set_option maxRecDepth 40000 in
theorem kC_X8_forget : Cond.code yX8_forget cX8_forget 2 (some .int) ∈ gs_B := gs_in (i := 764) (rfl) (rfl)
theorem kM_L_98 : Cond.methodLink RL 98 yX8_trial ∈ gs_B := gs_in (i := 765) (by decide +kernel) (by decide +kernel)
theorem kI_X8_trial : Cond.instanceMethod yX8_trial ∈ gs_B := gs_in (i := 766) (by decide +kernel) (by decide +kernel)
theorem kS_X8_trial : Cond.selects RX8 yX8_trial yX8_trial ∈ gs_B := gs_in (i := 767) (by decide +kernel) (by decide +kernel)
set_option maxRecDepth 40000 in
theorem kC_X8_trial : Cond.code yX8_trial cX8_trial 3 (some .int) ∈ gs_B := gs_in (i := 768) (rfl) (rfl)
theorem kM_X8_197 : Cond.methodLink RX8 197 yX7_beadToTry ∈ gs_B := gs_in (i := 769) (by decide +kernel) (by decide +kernel)
theorem kI_X7_beadToTry : Cond.instanceMethod yX7_beadToTry ∈ gs_B := gs_in (i := 770) (by decide +kernel) (by decide +kernel)
theorem kS_X7_beadToTry : Cond.selects RX7 yX7_beadToTry yX7_beadToTry ∈ gs_B := gs_in (i := 771) (by decide +kernel) (by decide +kernel)
set_option maxRecDepth 40000 in
theorem kC_X7_beadToTry : Cond.code yX7_beadToTry cX7_beadToTry 11 (some .int) ∈ gs_B := gs_in (i := 772) (rfl) (rfl)
theorem kM_X7_32 : Cond.methodLink RX7 32 yX7_sizesOf ∈ gs_B := gs_in (i := 773) (by decide +kernel) (by decide +kernel)
theorem kM_X7_36 : Cond.methodLink RX7 36 yJ6_bitCount_0f7a4 ∈ gs_B := gs_in (i := 774) (by decide +kernel) (by decide +kernel)
theorem kT_J6_bitCount_0f7a4 : Cond.static yJ6_bitCount_0f7a4 ∈ gs_B := gs_in (i := 775) (by decide +kernel) (by decide +kernel)
set_option maxRecDepth 40000 in
theorem kC_J6_bitCount_0f7a4 : Cond.code yJ6_bitCount_0f7a4 cJ6_bitCount_0f7a4 1 (some .int) ∈ gs_B := gs_in (i := 776) (rfl) (rfl)
theorem kK_J6_265 : Cond.constant RJ6 265 (1431655765) ∈ gs_B := gs_in (i := 777) (by decide +kernel) (by decide +kernel)
theorem kK_J6_266 : Cond.constant RJ6 266 (858993459) ∈ gs_B := gs_in (i := 778) (by decide +kernel) (by decide +kernel)
theorem kK_J6_267 : Cond.constant RJ6 267 (252645135) ∈ gs_B := gs_in (i := 779) (by decide +kernel) (by decide +kernel)
theorem kM_X7_42 : Cond.methodLink RX7 42 Lib.Math.max.name ∈ gs_B := gs_in (i := 780) (by decide +kernel) (by decide +kernel)
theorem kM_L_102 : Cond.methodLink RL 102 yX8_evenings ∈ gs_B := gs_in (i := 781) (by decide +kernel) (by decide +kernel)
theorem kI_X8_evenings : Cond.instanceMethod yX8_evenings ∈ gs_B := gs_in (i := 782) (by decide +kernel) (by decide +kernel)
theorem kS_X8_evenings : Cond.selects RX8 yX8_evenings yX8_evenings ∈ gs_B := gs_in (i := 783) (by decide +kernel) (by decide +kernel)
set_option maxRecDepth 40000 in
theorem kC_X8_evenings : Cond.code yX8_evenings cX8_evenings 4 (some .int) ∈ gs_B := gs_in (i := 784) (rfl) (rfl)
theorem kM_X8_201 : Cond.methodLink RX8 201 yX0_pass ∈ gs_B := gs_in (i := 785) (by decide +kernel) (by decide +kernel)
theorem kI_X0_pass : Cond.instanceMethod yX0_pass ∈ gs_B := gs_in (i := 786) (by decide +kernel) (by decide +kernel)
theorem kS_X0_pass : Cond.selects RX0 yX0_pass yX0_pass ∈ gs_B := gs_in (i := 787) (by decide +kernel) (by decide +kernel)
set_option maxRecDepth 40000 in
theorem kC_X0_pass : Cond.code yX0_pass cX0_pass 7 none ∈ gs_B := gs_in (i := 788) (rfl) (rfl)
theorem kM_X0_46 : Cond.methodLink RX0 46 yX0_draw ∈ gs_B := gs_in (i := 789) (by decide +kernel) (by decide +kernel)
theorem kI_X0_draw : Cond.instanceMethod yX0_draw ∈ gs_B := gs_in (i := 791) (by decide +kernel) (by decide +kernel)
set_option maxRecDepth 40000 in
theorem kC_X0_draw : Cond.code yX0_draw cX0_draw 2 (some .int) ∈ gs_B := gs_in (i := 792) (rfl) (rfl)
theorem kK_X0_72 : Cond.constantLong RX0 72 (1103515245) ∈ gs_B := gs_in (i := 793) (by decide +kernel) (by decide +kernel)
theorem kK_X0_74 : Cond.constantLong RX0 74 (12345) ∈ gs_B := gs_in (i := 794) (by decide +kernel) (by decide +kernel)
theorem kK_X0_76 : Cond.constantLong RX0 76 (2147483647) ∈ gs_B := gs_in (i := 795) (by decide +kernel) (by decide +kernel)
theorem kK_X0_78 : Cond.constant RX0 78 (65536) ∈ gs_B := gs_in (i := 796) (by decide +kernel) (by decide +kernel)
theorem kM_X0_58 : Cond.methodLink RX0 58 yX6_hang ∈ gs_B := gs_in (i := 798) (by decide +kernel) (by decide +kernel)
theorem kM_X0_62 : Cond.methodLink RX0 62 yX6_rodsLevel ∈ gs_B := gs_in (i := 799) (by decide +kernel) (by decide +kernel)
theorem kM_L_106 : Cond.methodLink RL 106 yX8_image ∈ gs_B := gs_in (i := 800) (by decide +kernel) (by decide +kernel)
theorem kI_X8_image : Cond.instanceMethod yX8_image ∈ gs_B := gs_in (i := 801) (by decide +kernel) (by decide +kernel)
theorem kS_X8_image : Cond.selects RX8 yX8_image yX8_image ∈ gs_B := gs_in (i := 802) (by decide +kernel) (by decide +kernel)
set_option maxRecDepth 40000 in
theorem kC_X8_image : Cond.code yX8_image cX8_image 1 (some .int) ∈ gs_B := gs_in (i := 803) (rfl) (rfl)
theorem kM_X8_214 : Cond.methodLink RX8 214 yX3_copyFrom ∈ gs_B := gs_in (i := 804) (by decide +kernel) (by decide +kernel)
theorem kI_X3_copyFrom : Cond.instanceMethod yX3_copyFrom ∈ gs_B := gs_in (i := 805) (by decide +kernel) (by decide +kernel)
theorem kS_X3_copyFrom : Cond.selects RX3 yX3_copyFrom yX3_copyFrom ∈ gs_B := gs_in (i := 806) (by decide +kernel) (by decide +kernel)
set_option maxRecDepth 40000 in
theorem kC_X3_copyFrom : Cond.code yX3_copyFrom cX3_copyFrom 3 none ∈ gs_B := gs_in (i := 807) (rfl) (rfl)
theorem kM_X3_70 : Cond.methodLink RX3 70 yX7_copyFrom ∈ gs_B := gs_in (i := 808) (by decide +kernel) (by decide +kernel)
theorem kI_X7_copyFrom : Cond.instanceMethod yX7_copyFrom ∈ gs_B := gs_in (i := 809) (by decide +kernel) (by decide +kernel)
theorem kS_X7_copyFrom : Cond.selects RX7 yX7_copyFrom yX7_copyFrom ∈ gs_B := gs_in (i := 810) (by decide +kernel) (by decide +kernel)
set_option maxRecDepth 40000 in
theorem kC_X7_copyFrom : Cond.code yX7_copyFrom cX7_copyFrom 3 none ∈ gs_B := gs_in (i := 811) (rfl) (rfl)
theorem kM_L_110 : Cond.methodLink RL 110 yX8_restore ∈ gs_B := gs_in (i := 812) (by decide +kernel) (by decide +kernel)
theorem kI_X8_restore : Cond.instanceMethod yX8_restore ∈ gs_B := gs_in (i := 813) (by decide +kernel) (by decide +kernel)
theorem kS_X8_restore : Cond.selects RX8 yX8_restore yX8_restore ∈ gs_B := gs_in (i := 814) (by decide +kernel) (by decide +kernel)
set_option maxRecDepth 40000 in
theorem kC_X8_restore : Cond.code yX8_restore cX8_restore 1 (some .int) ∈ gs_B := gs_in (i := 815) (rfl) (rfl)
theorem kM_L_114 : Cond.methodLink RL 114 yX8_count ∈ gs_B := gs_in (i := 816) (by decide +kernel) (by decide +kernel)
theorem kI_X8_count : Cond.instanceMethod yX8_count ∈ gs_B := gs_in (i := 817) (by decide +kernel) (by decide +kernel)
theorem kS_X8_count : Cond.selects RX8 yX8_count yX8_count ∈ gs_B := gs_in (i := 818) (by decide +kernel) (by decide +kernel)
set_option maxRecDepth 40000 in
theorem kC_X8_count : Cond.code yX8_count cX8_count 2 (some .int) ∈ gs_B := gs_in (i := 819) (rfl) (rfl)
theorem kM_X8_217 : Cond.methodLink RX8 217 yX8_countOf ∈ gs_B := gs_in (i := 820) (by decide +kernel) (by decide +kernel)
theorem kI_X8_countOf : Cond.instanceMethod yX8_countOf ∈ gs_B := gs_in (i := 822) (by decide +kernel) (by decide +kernel)
set_option maxRecDepth 40000 in
theorem kC_X8_countOf : Cond.code yX8_countOf cX8_countOf 2 (some .int) ∈ gs_B := gs_in (i := 823) (rfl) (rfl)
theorem kM_X8_266 : Cond.methodLink RX8 266 yX6_thingsThere ∈ gs_B := gs_in (i := 824) (by decide +kernel) (by decide +kernel)
theorem kI_X6_thingsThere : Cond.instanceMethod yX6_thingsThere ∈ gs_B := gs_in (i := 825) (by decide +kernel) (by decide +kernel)
theorem kS_X6_thingsThere : Cond.selects RX6 yX6_thingsThere yX6_thingsThere ∈ gs_B := gs_in (i := 826) (by decide +kernel) (by decide +kernel)
set_option maxRecDepth 40000 in
theorem kC_X6_thingsThere : Cond.code yX6_thingsThere cX6_thingsThere 5 (some .int) ∈ gs_B := gs_in (i := 827) (rfl) (rfl)
theorem kM_X6_80 : Cond.methodLink RX6 80 yX3_armOf ∈ gs_B := gs_in (i := 828) (by decide +kernel) (by decide +kernel)
theorem kM_L_118 : Cond.methodLink RL 118 yX8_digest ∈ gs_B := gs_in (i := 829) (by decide +kernel) (by decide +kernel)
theorem kI_X8_digest : Cond.instanceMethod yX8_digest ∈ gs_B := gs_in (i := 830) (by decide +kernel) (by decide +kernel)
theorem kS_X8_digest : Cond.selects RX8 yX8_digest yX8_digest ∈ gs_B := gs_in (i := 831) (by decide +kernel) (by decide +kernel)
set_option maxRecDepth 40000 in
theorem kC_X8_digest : Cond.code yX8_digest cX8_digest 5 (some .long) ∈ gs_B := gs_in (i := 832) (rfl) (rfl)
theorem kK_X8_221 : Cond.constantLong RX8 221 (1303) ∈ gs_B := gs_in (i := 833) (by decide +kernel) (by decide +kernel)
theorem kK_X8_226 : Cond.constantLong RX8 226 (31) ∈ gs_B := gs_in (i := 834) (by decide +kernel) (by decide +kernel)
theorem kM_X8_228 : Cond.methodLink RX8 228 yX8_best ∈ gs_B := gs_in (i := 835) (by decide +kernel) (by decide +kernel)
theorem kM_X8_231 : Cond.methodLink RX8 231 yX8_even ∈ gs_B := gs_in (i := 836) (by decide +kernel) (by decide +kernel)
theorem kM_L_12 : Cond.methodLink RL 12 yX9_init ∈ gs_B := gs_in (i := 839) (by decide +kernel) (by decide +kernel)
theorem kI_X9_init : Cond.instanceMethod yX9_init ∈ gs_B := gs_in (i := 840) (by decide +kernel) (by decide +kernel)
set_option maxRecDepth 40000 in
theorem kC_X9_init : Cond.code yX9_init cX9_init 1 none ∈ gs_B := gs_in (i := 841) (rfl) (rfl)
theorem kF_X9_7 : Cond.fieldLink RX9 7 RX9 "page" "[I" ∈ gs_B := gs_in (i := 843) (by decide +kernel) (by decide +kernel)
theorem kF_X9_68 : Cond.fieldLink RX9 68 RX9 "pageMany" "I" ∈ gs_B := gs_in (i := 844) (by decide +kernel) (by decide +kernel)
theorem kF_X9_84 : Cond.fieldLink RX9 84 RX9 "end" "I" ∈ gs_B := gs_in (i := 845) (by decide +kernel) (by decide +kernel)
theorem kF_X9_73 : Cond.fieldLink RX9 73 RX9 "toldRods" "I" ∈ gs_B := gs_in (i := 846) (by decide +kernel) (by decide +kernel)
theorem kF_X9_104 : Cond.fieldLink RX9 104 RX9 "rods" "I" ∈ gs_B := gs_in (i := 847) (by decide +kernel) (by decide +kernel)
theorem kF_X9_107 : Cond.fieldLink RX9 107 RX9 "things" "I" ∈ gs_B := gs_in (i := 848) (by decide +kernel) (by decide +kernel)
theorem kF_X9_110 : Cond.fieldLink RX9 110 RX9 "hours" "I" ∈ gs_B := gs_in (i := 849) (by decide +kernel) (by decide +kernel)
theorem kF_X9_122 : Cond.fieldLink RX9 122 RX9 "mobilesRead" "I" ∈ gs_B := gs_in (i := 850) (by decide +kernel) (by decide +kernel)
theorem kF_X9_113 : Cond.fieldLink RX9 113 RX9 "cutRods" "I" ∈ gs_B := gs_in (i := 851) (by decide +kernel) (by decide +kernel)
theorem kF_X9_116 : Cond.fieldLink RX9 116 RX9 "cutThings" "I" ∈ gs_B := gs_in (i := 852) (by decide +kernel) (by decide +kernel)
theorem kF_X9_13 : Cond.fieldLink RX9 13 RX9 "arms" "[I" ∈ gs_B := gs_in (i := 853) (by decide +kernel) (by decide +kernel)
theorem kF_X9_16 : Cond.fieldLink RX9 16 RX9 "hangs" "[I" ∈ gs_B := gs_in (i := 854) (by decide +kernel) (by decide +kernel)
theorem kF_X9_19 : Cond.fieldLink RX9 19 RX9 "placeArm" "[I" ∈ gs_B := gs_in (i := 855) (by decide +kernel) (by decide +kernel)
theorem kF_X9_22 : Cond.fieldLink RX9 22 RX9 "kinds" "[I" ∈ gs_B := gs_in (i := 856) (by decide +kernel) (by decide +kernel)
theorem kF_X9_25 : Cond.fieldLink RX9 25 RX9 "sizes" "[I" ∈ gs_B := gs_in (i := 857) (by decide +kernel) (by decide +kernel)
theorem kF_X9_28 : Cond.fieldLink RX9 28 RX9 "laid" "[I" ∈ gs_B := gs_in (i := 858) (by decide +kernel) (by decide +kernel)
theorem kF_X9_31 : Cond.fieldLink RX9 31 RX9 "laidThen" "[I" ∈ gs_B := gs_in (i := 859) (by decide +kernel) (by decide +kernel)
theorem kF_X9_129 : Cond.fieldLink RX9 129 RX9 "hourThen" "I" ∈ gs_B := gs_in (i := 860) (by decide +kernel) (by decide +kernel)
theorem kF_X9_34 : Cond.fieldLink RX9 34 RX9 "weights" "[I" ∈ gs_B := gs_in (i := 861) (by decide +kernel) (by decide +kernel)
theorem kF_X9_37 : Cond.fieldLink RX9 37 RX9 "tilts" "[I" ∈ gs_B := gs_in (i := 862) (by decide +kernel) (by decide +kernel)
theorem kF_X9_221 : Cond.fieldLink RX9 221 RX9 "laysDone" "I" ∈ gs_B := gs_in (i := 863) (by decide +kernel) (by decide +kernel)
theorem kF_X9_119 : Cond.fieldLink RX9 119 RX9 "seenMany" "I" ∈ gs_B := gs_in (i := 864) (by decide +kernel) (by decide +kernel)
theorem kF_X9_40 : Cond.fieldLink RX9 40 RX9 "sights" "[I" ∈ gs_B := gs_in (i := 865) (by decide +kernel) (by decide +kernel)
theorem kF_X9_244 : Cond.fieldLink RX9 244 RX9 "seedNow" "I" ∈ gs_B := gs_in (i := 866) (by decide +kernel) (by decide +kernel)
theorem kF_X9_58 : Cond.fieldLink RX9 58 RX9 "keptMobile" "I" ∈ gs_B := gs_in (i := 867) (by decide +kernel) (by decide +kernel)
theorem kF_X9_257 : Cond.fieldLink RX9 257 RX9 "keptHours" "I" ∈ gs_B := gs_in (i := 868) (by decide +kernel) (by decide +kernel)
theorem kF_X9_260 : Cond.fieldLink RX9 260 RX9 "keptCutRods" "I" ∈ gs_B := gs_in (i := 869) (by decide +kernel) (by decide +kernel)
theorem kF_X9_263 : Cond.fieldLink RX9 263 RX9 "keptCutThings" "I" ∈ gs_B := gs_in (i := 870) (by decide +kernel) (by decide +kernel)
theorem kF_X9_266 : Cond.fieldLink RX9 266 RX9 "keptSeen" "I" ∈ gs_B := gs_in (i := 871) (by decide +kernel) (by decide +kernel)
theorem kF_X9_43 : Cond.fieldLink RX9 43 RX9 "keptArms" "[I" ∈ gs_B := gs_in (i := 872) (by decide +kernel) (by decide +kernel)
theorem kF_X9_46 : Cond.fieldLink RX9 46 RX9 "keptKinds" "[I" ∈ gs_B := gs_in (i := 873) (by decide +kernel) (by decide +kernel)
theorem kF_X9_49 : Cond.fieldLink RX9 49 RX9 "keptSizes" "[I" ∈ gs_B := gs_in (i := 874) (by decide +kernel) (by decide +kernel)
theorem kF_X9_52 : Cond.fieldLink RX9 52 RX9 "keptLaid" "[I" ∈ gs_B := gs_in (i := 875) (by decide +kernel) (by decide +kernel)
theorem kF_X9_55 : Cond.fieldLink RX9 55 RX9 "keptSights" "[I" ∈ gs_B := gs_in (i := 876) (by decide +kernel) (by decide +kernel)
theorem kF_X9_280 : Cond.fieldLink RX9 280 RX9 "hash" "J" ∈ gs_B := gs_in (i := 877) (by decide +kernel) (by decide +kernel)
theorem kM_L_17 : Cond.methodLink RL 17 yX9_letter ∈ gs_B := gs_in (i := 949) (by decide +kernel) (by decide +kernel)
theorem kI_X9_letter : Cond.instanceMethod yX9_letter ∈ gs_B := gs_in (i := 950) (by decide +kernel) (by decide +kernel)
theorem kS_X9_letter : Cond.selects RX9 yX9_letter yX9_letter ∈ gs_B := gs_in (i := 951) (by decide +kernel) (by decide +kernel)
set_option maxRecDepth 40000 in
theorem kC_X9_letter : Cond.code yX9_letter cX9_letter 2 (some .int) ∈ gs_B := gs_in (i := 952) (rfl) (rfl)
theorem kK_X9_62 : Cond.constantLong RX9 62 (126) ∈ gs_B := gs_in (i := 953) (by decide +kernel) (by decide +kernel)
theorem kM_X9_64 : Cond.methodLink RX9 64 yX9_in ∈ gs_B := gs_in (i := 954) (by decide +kernel) (by decide +kernel)
theorem kT_X9_in : Cond.static yX9_in ∈ gs_B := gs_in (i := 955) (by decide +kernel) (by decide +kernel)
set_option maxRecDepth 40000 in
theorem kC_X9_in : Cond.code yX9_in cX9_in 6 (some .boolean) ∈ gs_B := gs_in (i := 956) (rfl) (rfl)
theorem kM_L_22 : Cond.methodLink RL 22 yX9_blank ∈ gs_B := gs_in (i := 957) (by decide +kernel) (by decide +kernel)
theorem kI_X9_blank : Cond.instanceMethod yX9_blank ∈ gs_B := gs_in (i := 958) (by decide +kernel) (by decide +kernel)
theorem kS_X9_blank : Cond.selects RX9 yX9_blank yX9_blank ∈ gs_B := gs_in (i := 959) (by decide +kernel) (by decide +kernel)
set_option maxRecDepth 40000 in
theorem kC_X9_blank : Cond.code yX9_blank cX9_blank 2 (some .int) ∈ gs_B := gs_in (i := 960) (rfl) (rfl)
theorem kM_L_26 : Cond.methodLink RL 26 yX9_fault ∈ gs_B := gs_in (i := 961) (by decide +kernel) (by decide +kernel)
theorem kI_X9_fault : Cond.instanceMethod yX9_fault ∈ gs_B := gs_in (i := 962) (by decide +kernel) (by decide +kernel)
theorem kS_X9_fault : Cond.selects RX9 yX9_fault yX9_fault ∈ gs_B := gs_in (i := 963) (by decide +kernel) (by decide +kernel)
set_option maxRecDepth 40000 in
theorem kC_X9_fault : Cond.code yX9_fault cX9_fault 1 (some .int) ∈ gs_B := gs_in (i := 964) (rfl) (rfl)
theorem kM_X9_100 : Cond.methodLink RX9 100 yX9_faultOf ∈ gs_B := gs_in (i := 965) (by decide +kernel) (by decide +kernel)
theorem kI_X9_faultOf : Cond.instanceMethod yX9_faultOf ∈ gs_B := gs_in (i := 967) (by decide +kernel) (by decide +kernel)
set_option maxRecDepth 40000 in
theorem kC_X9_faultOf : Cond.code yX9_faultOf cX9_faultOf 2 (some .int) ∈ gs_B := gs_in (i := 968) (rfl) (rfl)
theorem kM_X9_93 : Cond.methodLink RX9 93 yX9_isRodLetter ∈ gs_B := gs_in (i := 969) (by decide +kernel) (by decide +kernel)
theorem kI_X9_isRodLetter : Cond.instanceMethod yX9_isRodLetter ∈ gs_B := gs_in (i := 971) (by decide +kernel) (by decide +kernel)
set_option maxRecDepth 40000 in
theorem kC_X9_isRodLetter : Cond.code yX9_isRodLetter cX9_isRodLetter 4 (some .boolean) ∈ gs_B := gs_in (i := 972) (rfl) (rfl)
theorem kK_X9_76 : Cond.constantLong RX9 76 (49) ∈ gs_B := gs_in (i := 973) (by decide +kernel) (by decide +kernel)
theorem kK_X9_78 : Cond.constantLong RX9 78 (57) ∈ gs_B := gs_in (i := 974) (by decide +kernel) (by decide +kernel)
theorem kM_X9_80 : Cond.methodLink RX9 80 yX9_isHanging ∈ gs_B := gs_in (i := 975) (by decide +kernel) (by decide +kernel)
theorem kI_X9_isHanging : Cond.instanceMethod yX9_isHanging ∈ gs_B := gs_in (i := 977) (by decide +kernel) (by decide +kernel)
set_option maxRecDepth 40000 in
theorem kC_X9_isHanging : Cond.code yX9_isHanging cX9_isHanging 5 (some .boolean) ∈ gs_B := gs_in (i := 978) (rfl) (rfl)
theorem kK_X9_71 : Cond.constantLong RX9 71 (4) ∈ gs_B := gs_in (i := 979) (by decide +kernel) (by decide +kernel)
theorem kM_X9_97 : Cond.methodLink RX9 97 yX9_isThingLetter ∈ gs_B := gs_in (i := 980) (by decide +kernel) (by decide +kernel)
theorem kI_X9_isThingLetter : Cond.instanceMethod yX9_isThingLetter ∈ gs_B := gs_in (i := 982) (by decide +kernel) (by decide +kernel)
set_option maxRecDepth 40000 in
theorem kC_X9_isThingLetter : Cond.code yX9_isThingLetter cX9_isThingLetter 5 (some .boolean) ∈ gs_B := gs_in (i := 983) (rfl) (rfl)
theorem kM_X9_87 : Cond.methodLink RX9 87 yX9_kindBy ∈ gs_B := gs_in (i := 984) (by decide +kernel) (by decide +kernel)
theorem kT_X9_kindBy : Cond.static yX9_kindBy ∈ gs_B := gs_in (i := 985) (by decide +kernel) (by decide +kernel)
set_option maxRecDepth 40000 in
theorem kC_X9_kindBy : Cond.code yX9_kindBy cX9_kindBy 1 (some .int) ∈ gs_B := gs_in (i := 986) (rfl) (rfl)
theorem kK_X9_91 : Cond.constantLong RX9 91 (48) ∈ gs_B := gs_in (i := 987) (by decide +kernel) (by decide +kernel)
theorem kM_L_30 : Cond.methodLink RL 30 yX9_mobile ∈ gs_B := gs_in (i := 988) (by decide +kernel) (by decide +kernel)
theorem kI_X9_mobile : Cond.instanceMethod yX9_mobile ∈ gs_B := gs_in (i := 989) (by decide +kernel) (by decide +kernel)
theorem kS_X9_mobile : Cond.selects RX9 yX9_mobile yX9_mobile ∈ gs_B := gs_in (i := 990) (by decide +kernel) (by decide +kernel)
set_option maxRecDepth 40000 in
theorem kC_X9_mobile : Cond.code yX9_mobile cX9_mobile 5 (some .int) ∈ gs_B := gs_in (i := 991) (rfl) (rfl)
theorem kM_L_35 : Cond.methodLink RL 35 yX9_rod ∈ gs_B := gs_in (i := 992) (by decide +kernel) (by decide +kernel)
theorem kI_X9_rod : Cond.instanceMethod yX9_rod ∈ gs_B := gs_in (i := 993) (by decide +kernel) (by decide +kernel)
theorem kS_X9_rod : Cond.selects RX9 yX9_rod yX9_rod ∈ gs_B := gs_in (i := 994) (by decide +kernel) (by decide +kernel)
set_option maxRecDepth 40000 in
theorem kC_X9_rod : Cond.code yX9_rod cX9_rod 3 (some .int) ∈ gs_B := gs_in (i := 995) (rfl) (rfl)
theorem kM_X9_163 : Cond.methodLink RX9 163 yX9_isRod ∈ gs_B := gs_in (i := 996) (by decide +kernel) (by decide +kernel)
theorem kI_X9_isRod : Cond.instanceMethod yX9_isRod ∈ gs_B := gs_in (i := 998) (by decide +kernel) (by decide +kernel)
set_option maxRecDepth 40000 in
theorem kC_X9_isRod : Cond.code yX9_isRod cX9_isRod 2 (some .boolean) ∈ gs_B := gs_in (i := 999) (rfl) (rfl)
theorem kM_X9_166 : Cond.methodLink RX9 166 yX9_tellRod ∈ gs_B := gs_in (i := 1000) (by decide +kernel) (by decide +kernel)
theorem kI_X9_tellRod : Cond.instanceMethod yX9_tellRod ∈ gs_B := gs_in (i := 1002) (by decide +kernel) (by decide +kernel)
set_option maxRecDepth 40000 in
theorem kC_X9_tellRod : Cond.code yX9_tellRod cX9_tellRod 3 (some .int) ∈ gs_B := gs_in (i := 1003) (rfl) (rfl)
theorem kM_X9_148 : Cond.methodLink RX9 148 yX9_begin ∈ gs_B := gs_in (i := 1004) (by decide +kernel) (by decide +kernel)
theorem kI_X9_begin : Cond.instanceMethod yX9_begin ∈ gs_B := gs_in (i := 1006) (by decide +kernel) (by decide +kernel)
set_option maxRecDepth 40000 in
theorem kC_X9_begin : Cond.code yX9_begin cX9_begin 1 none ∈ gs_B := gs_in (i := 1007) (rfl) (rfl)
theorem kM_X9_125 : Cond.methodLink RX9 125 yX9_copy ∈ gs_B := gs_in (i := 1008) (by decide +kernel) (by decide +kernel)
theorem kT_X9_copy : Cond.static yX9_copy ∈ gs_B := gs_in (i := 1009) (by decide +kernel) (by decide +kernel)
set_option maxRecDepth 40000 in
theorem kC_X9_copy : Cond.code yX9_copy cX9_copy 3 none ∈ gs_B := gs_in (i := 1010) (rfl) (rfl)
theorem kM_X9_142 : Cond.methodLink RX9 142 yX9_layTilts ∈ gs_B := gs_in (i := 1011) (by decide +kernel) (by decide +kernel)
theorem kI_X9_layTilts : Cond.instanceMethod yX9_layTilts ∈ gs_B := gs_in (i := 1013) (by decide +kernel) (by decide +kernel)
set_option maxRecDepth 40000 in
theorem kC_X9_layTilts : Cond.code yX9_layTilts cX9_layTilts 4 none ∈ gs_B := gs_in (i := 1014) (rfl) (rfl)
theorem kM_X9_139 : Cond.methodLink RX9 139 yX9_hungThen ∈ gs_B := gs_in (i := 1015) (by decide +kernel) (by decide +kernel)
theorem kI_X9_hungThen : Cond.instanceMethod yX9_hungThen ∈ gs_B := gs_in (i := 1017) (by decide +kernel) (by decide +kernel)
set_option maxRecDepth 40000 in
theorem kC_X9_hungThen : Cond.code yX9_hungThen cX9_hungThen 3 (some .int) ∈ gs_B := gs_in (i := 1018) (rfl) (rfl)
theorem kM_X9_136 : Cond.methodLink RX9 136 yX9_thingThen ∈ gs_B := gs_in (i := 1019) (by decide +kernel) (by decide +kernel)
theorem kI_X9_thingThen : Cond.instanceMethod yX9_thingThen ∈ gs_B := gs_in (i := 1021) (by decide +kernel) (by decide +kernel)
set_option maxRecDepth 40000 in
theorem kC_X9_thingThen : Cond.code yX9_thingThen cX9_thingThen 2 (some .int) ∈ gs_B := gs_in (i := 1022) (rfl) (rfl)
theorem kM_X9_132 : Cond.methodLink RX9 132 yX9_weighsBy ∈ gs_B := gs_in (i := 1023) (by decide +kernel) (by decide +kernel)
theorem kT_X9_weighsBy : Cond.static yX9_weighsBy ∈ gs_B := gs_in (i := 1024) (by decide +kernel) (by decide +kernel)
set_option maxRecDepth 40000 in
theorem kC_X9_weighsBy : Cond.code yX9_weighsBy cX9_weighsBy 3 (some .int) ∈ gs_B := gs_in (i := 1025) (rfl) (rfl)
theorem kM_X9_154 : Cond.methodLink RX9 154 yX9_hangsOf ∈ gs_B := gs_in (i := 1026) (by decide +kernel) (by decide +kernel)
theorem kI_X9_hangsOf : Cond.instanceMethod yX9_hangsOf ∈ gs_B := gs_in (i := 1028) (by decide +kernel) (by decide +kernel)
set_option maxRecDepth 40000 in
theorem kC_X9_hangsOf : Cond.code yX9_hangsOf cX9_hangsOf 2 (some .int) ∈ gs_B := gs_in (i := 1029) (rfl) (rfl)
theorem kM_X9_145 : Cond.methodLink RX9 145 yX9_there ∈ gs_B := gs_in (i := 1030) (by decide +kernel) (by decide +kernel)
theorem kI_X9_there : Cond.instanceMethod yX9_there ∈ gs_B := gs_in (i := 1032) (by decide +kernel) (by decide +kernel)
set_option maxRecDepth 40000 in
theorem kC_X9_there : Cond.code yX9_there cX9_there 5 (some .int) ∈ gs_B := gs_in (i := 1033) (rfl) (rfl)
theorem kM_X9_157 : Cond.methodLink RX9 157 yX9_hookOf ∈ gs_B := gs_in (i := 1034) (by decide +kernel) (by decide +kernel)
theorem kI_X9_hookOf : Cond.instanceMethod yX9_hookOf ∈ gs_B := gs_in (i := 1036) (by decide +kernel) (by decide +kernel)
set_option maxRecDepth 40000 in
theorem kC_X9_hookOf : Cond.code yX9_hookOf cX9_hookOf 6 (some .int) ∈ gs_B := gs_in (i := 1037) (rfl) (rfl)
theorem kM_X9_160 : Cond.methodLink RX9 160 yX9_addOf ∈ gs_B := gs_in (i := 1038) (by decide +kernel) (by decide +kernel)
theorem kI_X9_addOf : Cond.instanceMethod yX9_addOf ∈ gs_B := gs_in (i := 1040) (by decide +kernel) (by decide +kernel)
set_option maxRecDepth 40000 in
theorem kC_X9_addOf : Cond.code yX9_addOf cX9_addOf 3 (some .int) ∈ gs_B := gs_in (i := 1041) (rfl) (rfl)
theorem kM_L_39 : Cond.methodLink RL 39 yX9_thing ∈ gs_B := gs_in (i := 1042) (by decide +kernel) (by decide +kernel)
theorem kI_X9_thing : Cond.instanceMethod yX9_thing ∈ gs_B := gs_in (i := 1043) (by decide +kernel) (by decide +kernel)
theorem kS_X9_thing : Cond.selects RX9 yX9_thing yX9_thing ∈ gs_B := gs_in (i := 1044) (by decide +kernel) (by decide +kernel)
set_option maxRecDepth 40000 in
theorem kC_X9_thing : Cond.code yX9_thing cX9_thing 3 (some .int) ∈ gs_B := gs_in (i := 1045) (rfl) (rfl)
theorem kM_X9_176 : Cond.methodLink RX9 176 yX9_isThing ∈ gs_B := gs_in (i := 1046) (by decide +kernel) (by decide +kernel)
theorem kI_X9_isThing : Cond.instanceMethod yX9_isThing ∈ gs_B := gs_in (i := 1048) (by decide +kernel) (by decide +kernel)
set_option maxRecDepth 40000 in
theorem kC_X9_isThing : Cond.code yX9_isThing cX9_isThing 2 (some .boolean) ∈ gs_B := gs_in (i := 1049) (rfl) (rfl)
theorem kM_X9_179 : Cond.methodLink RX9 179 yX9_tellThing ∈ gs_B := gs_in (i := 1050) (by decide +kernel) (by decide +kernel)
theorem kI_X9_tellThing : Cond.instanceMethod yX9_tellThing ∈ gs_B := gs_in (i := 1052) (by decide +kernel) (by decide +kernel)
set_option maxRecDepth 40000 in
theorem kC_X9_tellThing : Cond.code yX9_tellThing cX9_tellThing 3 (some .int) ∈ gs_B := gs_in (i := 1053) (rfl) (rfl)
theorem kM_X9_170 : Cond.methodLink RX9 170 yX9_armOf ∈ gs_B := gs_in (i := 1054) (by decide +kernel) (by decide +kernel)
theorem kI_X9_armOf : Cond.instanceMethod yX9_armOf ∈ gs_B := gs_in (i := 1056) (by decide +kernel) (by decide +kernel)
set_option maxRecDepth 40000 in
theorem kC_X9_armOf : Cond.code yX9_armOf cX9_armOf 3 (some .int) ∈ gs_B := gs_in (i := 1057) (rfl) (rfl)
theorem kM_X9_173 : Cond.methodLink RX9 173 yX9_sizesOf ∈ gs_B := gs_in (i := 1058) (by decide +kernel) (by decide +kernel)
theorem kI_X9_sizesOf : Cond.instanceMethod yX9_sizesOf ∈ gs_B := gs_in (i := 1060) (by decide +kernel) (by decide +kernel)
set_option maxRecDepth 40000 in
theorem kC_X9_sizesOf : Cond.code yX9_sizesOf cX9_sizesOf 6 (some .int) ∈ gs_B := gs_in (i := 1061) (rfl) (rfl)
theorem kM_X9_235 : Cond.methodLink RX9 235 yX9_howIf ∈ gs_B := gs_in (i := 1062) (by decide +kernel) (by decide +kernel)
theorem kI_X9_howIf : Cond.instanceMethod yX9_howIf ∈ gs_B := gs_in (i := 1064) (by decide +kernel) (by decide +kernel)
set_option maxRecDepth 40000 in
theorem kC_X9_howIf : Cond.code yX9_howIf cX9_howIf 6 (some .int) ∈ gs_B := gs_in (i := 1065) (rfl) (rfl)
theorem kM_L_43 : Cond.methodLink RL 43 yX9_as ∈ gs_B := gs_in (i := 1066) (by decide +kernel) (by decide +kernel)
theorem kI_X9_as : Cond.instanceMethod yX9_as ∈ gs_B := gs_in (i := 1067) (by decide +kernel) (by decide +kernel)
theorem kS_X9_as : Cond.selects RX9 yX9_as yX9_as ∈ gs_B := gs_in (i := 1068) (by decide +kernel) (by decide +kernel)
set_option maxRecDepth 40000 in
theorem kC_X9_as : Cond.code yX9_as cX9_as 4 (some .int) ∈ gs_B := gs_in (i := 1069) (rfl) (rfl)
theorem kM_L_47 : Cond.methodLink RL 47 yX9_hour ∈ gs_B := gs_in (i := 1070) (by decide +kernel) (by decide +kernel)
theorem kI_X9_hour : Cond.instanceMethod yX9_hour ∈ gs_B := gs_in (i := 1071) (by decide +kernel) (by decide +kernel)
theorem kS_X9_hour : Cond.selects RX9 yX9_hour yX9_hour ∈ gs_B := gs_in (i := 1072) (by decide +kernel) (by decide +kernel)
set_option maxRecDepth 40000 in
theorem kC_X9_hour : Cond.code yX9_hour cX9_hour 1 (some .int) ∈ gs_B := gs_in (i := 1073) (rfl) (rfl)
theorem kM_X9_182 : Cond.methodLink RX9 182 yX9_lacks ∈ gs_B := gs_in (i := 1074) (by decide +kernel) (by decide +kernel)
theorem kI_X9_lacks : Cond.instanceMethod yX9_lacks ∈ gs_B := gs_in (i := 1076) (by decide +kernel) (by decide +kernel)
set_option maxRecDepth 40000 in
theorem kC_X9_lacks : Cond.code yX9_lacks cX9_lacks 1 (some .boolean) ∈ gs_B := gs_in (i := 1077) (rfl) (rfl)
theorem kM_L_51 : Cond.methodLink RL 51 yX9_exchange ∈ gs_B := gs_in (i := 1078) (by decide +kernel) (by decide +kernel)
theorem kI_X9_exchange : Cond.instanceMethod yX9_exchange ∈ gs_B := gs_in (i := 1079) (by decide +kernel) (by decide +kernel)
theorem kS_X9_exchange : Cond.selects RX9 yX9_exchange yX9_exchange ∈ gs_B := gs_in (i := 1080) (by decide +kernel) (by decide +kernel)
set_option maxRecDepth 40000 in
theorem kC_X9_exchange : Cond.code yX9_exchange cX9_exchange 3 (some .int) ∈ gs_B := gs_in (i := 1081) (rfl) (rfl)
theorem kM_X9_186 : Cond.methodLink RX9 186 yX9_isCut ∈ gs_B := gs_in (i := 1082) (by decide +kernel) (by decide +kernel)
theorem kI_X9_isCut : Cond.instanceMethod yX9_isCut ∈ gs_B := gs_in (i := 1084) (by decide +kernel) (by decide +kernel)
set_option maxRecDepth 40000 in
theorem kC_X9_isCut : Cond.code yX9_isCut cX9_isCut 2 (some .boolean) ∈ gs_B := gs_in (i := 1085) (rfl) (rfl)
theorem kM_X9_189 : Cond.methodLink RX9 189 yX9_trade ∈ gs_B := gs_in (i := 1086) (by decide +kernel) (by decide +kernel)
theorem kT_X9_trade : Cond.static yX9_trade ∈ gs_B := gs_in (i := 1087) (by decide +kernel) (by decide +kernel)
set_option maxRecDepth 40000 in
theorem kC_X9_trade : Cond.code yX9_trade cX9_trade 4 none ∈ gs_B := gs_in (i := 1088) (rfl) (rfl)
theorem kM_X9_193 : Cond.methodLink RX9 193 yX9_levelNow ∈ gs_B := gs_in (i := 1089) (by decide +kernel) (by decide +kernel)
theorem kI_X9_levelNow : Cond.instanceMethod yX9_levelNow ∈ gs_B := gs_in (i := 1091) (by decide +kernel) (by decide +kernel)
set_option maxRecDepth 40000 in
theorem kC_X9_levelNow : Cond.code yX9_levelNow cX9_levelNow 1 (some .int) ∈ gs_B := gs_in (i := 1092) (rfl) (rfl)
theorem kM_X9_151 : Cond.methodLink RX9 151 yX9_levelThen ∈ gs_B := gs_in (i := 1093) (by decide +kernel) (by decide +kernel)
theorem kI_X9_levelThen : Cond.instanceMethod yX9_levelThen ∈ gs_B := gs_in (i := 1095) (by decide +kernel) (by decide +kernel)
set_option maxRecDepth 40000 in
theorem kC_X9_levelThen : Cond.code yX9_levelThen cX9_levelThen 4 (some .int) ∈ gs_B := gs_in (i := 1096) (rfl) (rfl)
theorem kM_L_55 : Cond.methodLink RL 55 yX9_move ∈ gs_B := gs_in (i := 1097) (by decide +kernel) (by decide +kernel)
theorem kI_X9_move : Cond.instanceMethod yX9_move ∈ gs_B := gs_in (i := 1098) (by decide +kernel) (by decide +kernel)
theorem kS_X9_move : Cond.selects RX9 yX9_move yX9_move ∈ gs_B := gs_in (i := 1099) (by decide +kernel) (by decide +kernel)
set_option maxRecDepth 40000 in
theorem kC_X9_move : Cond.code yX9_move cX9_move 5 (some .int) ∈ gs_B := gs_in (i := 1100) (rfl) (rfl)
theorem kM_L_59 : Cond.methodLink RL 59 yX9_cut ∈ gs_B := gs_in (i := 1101) (by decide +kernel) (by decide +kernel)
theorem kI_X9_cut : Cond.instanceMethod yX9_cut ∈ gs_B := gs_in (i := 1102) (by decide +kernel) (by decide +kernel)
theorem kS_X9_cut : Cond.selects RX9 yX9_cut yX9_cut ∈ gs_B := gs_in (i := 1103) (by decide +kernel) (by decide +kernel)
set_option maxRecDepth 40000 in
theorem kC_X9_cut : Cond.code yX9_cut cX9_cut 2 (some .int) ∈ gs_B := gs_in (i := 1104) (rfl) (rfl)
theorem kM_L_63 : Cond.methodLink RL 63 yX9_drop ∈ gs_B := gs_in (i := 1105) (by decide +kernel) (by decide +kernel)
theorem kI_X9_drop : Cond.instanceMethod yX9_drop ∈ gs_B := gs_in (i := 1106) (by decide +kernel) (by decide +kernel)
theorem kS_X9_drop : Cond.selects RX9 yX9_drop yX9_drop ∈ gs_B := gs_in (i := 1107) (by decide +kernel) (by decide +kernel)
set_option maxRecDepth 40000 in
theorem kC_X9_drop : Cond.code yX9_drop cX9_drop 2 (some .int) ∈ gs_B := gs_in (i := 1108) (rfl) (rfl)
theorem kM_X9_196 : Cond.methodLink RX9 196 yX9_ones ∈ gs_B := gs_in (i := 1109) (by decide +kernel) (by decide +kernel)
theorem kT_X9_ones : Cond.static yX9_ones ∈ gs_B := gs_in (i := 1110) (by decide +kernel) (by decide +kernel)
set_option maxRecDepth 40000 in
theorem kC_X9_ones : Cond.code yX9_ones cX9_ones 3 (some .int) ∈ gs_B := gs_in (i := 1111) (rfl) (rfl)
theorem kM_L_67 : Cond.methodLink RL 67 yX9_mend ∈ gs_B := gs_in (i := 1112) (by decide +kernel) (by decide +kernel)
theorem kI_X9_mend : Cond.instanceMethod yX9_mend ∈ gs_B := gs_in (i := 1113) (by decide +kernel) (by decide +kernel)
theorem kS_X9_mend : Cond.selects RX9 yX9_mend yX9_mend ∈ gs_B := gs_in (i := 1114) (by decide +kernel) (by decide +kernel)
set_option maxRecDepth 40000 in
theorem kC_X9_mend : Cond.code yX9_mend cX9_mend 2 (some .int) ∈ gs_B := gs_in (i := 1115) (rfl) (rfl)
theorem kM_L_72 : Cond.methodLink RL 72 yX9_change ∈ gs_B := gs_in (i := 1116) (by decide +kernel) (by decide +kernel)
theorem kI_X9_change : Cond.instanceMethod yX9_change ∈ gs_B := gs_in (i := 1117) (by decide +kernel) (by decide +kernel)
theorem kS_X9_change : Cond.selects RX9 yX9_change yX9_change ∈ gs_B := gs_in (i := 1118) (by decide +kernel) (by decide +kernel)
set_option maxRecDepth 40000 in
theorem kC_X9_change : Cond.code yX9_change cX9_change 5 (some .int) ∈ gs_B := gs_in (i := 1119) (rfl) (rfl)
theorem kK_X9_199 : Cond.constantLong RX9 199 (9) ∈ gs_B := gs_in (i := 1120) (by decide +kernel) (by decide +kernel)
theorem kM_L_76 : Cond.methodLink RL 76 yX9_best ∈ gs_B := gs_in (i := 1121) (by decide +kernel) (by decide +kernel)
theorem kI_X9_best : Cond.instanceMethod yX9_best ∈ gs_B := gs_in (i := 1122) (by decide +kernel) (by decide +kernel)
theorem kS_X9_best : Cond.selects RX9 yX9_best yX9_best ∈ gs_B := gs_in (i := 1123) (by decide +kernel) (by decide +kernel)
set_option maxRecDepth 40000 in
theorem kC_X9_best : Cond.code yX9_best cX9_best 1 (some .int) ∈ gs_B := gs_in (i := 1124) (rfl) (rfl)
theorem kM_X9_201 : Cond.methodLink RX9 201 yX9_bestOf ∈ gs_B := gs_in (i := 1125) (by decide +kernel) (by decide +kernel)
theorem kI_X9_bestOf : Cond.instanceMethod yX9_bestOf ∈ gs_B := gs_in (i := 1127) (by decide +kernel) (by decide +kernel)
set_option maxRecDepth 40000 in
theorem kC_X9_bestOf : Cond.code yX9_bestOf cX9_bestOf 7 (some .int) ∈ gs_B := gs_in (i := 1128) (rfl) (rfl)
theorem kM_L_80 : Cond.methodLink RL 80 yX9_lay ∈ gs_B := gs_in (i := 1129) (by decide +kernel) (by decide +kernel)
theorem kI_X9_lay : Cond.instanceMethod yX9_lay ∈ gs_B := gs_in (i := 1130) (by decide +kernel) (by decide +kernel)
theorem kS_X9_lay : Cond.selects RX9 yX9_lay yX9_lay ∈ gs_B := gs_in (i := 1131) (by decide +kernel) (by decide +kernel)
set_option maxRecDepth 40000 in
theorem kC_X9_lay : Cond.code yX9_lay cX9_lay 2 (some .int) ∈ gs_B := gs_in (i := 1132) (rfl) (rfl)
theorem kK_X9_217 : Cond.constantLong RX9 217 (10) ∈ gs_B := gs_in (i := 1133) (by decide +kernel) (by decide +kernel)
theorem kK_X9_219 : Cond.constantLong RX9 219 (15) ∈ gs_B := gs_in (i := 1134) (by decide +kernel) (by decide +kernel)
theorem kM_X9_224 : Cond.methodLink RX9 224 yX9_layOf ∈ gs_B := gs_in (i := 1135) (by decide +kernel) (by decide +kernel)
theorem kI_X9_layOf : Cond.instanceMethod yX9_layOf ∈ gs_B := gs_in (i := 1137) (by decide +kernel) (by decide +kernel)
set_option maxRecDepth 40000 in
theorem kC_X9_layOf : Cond.code yX9_layOf cX9_layOf 8 (some .int) ∈ gs_B := gs_in (i := 1138) (rfl) (rfl)
theorem kM_X9_204 : Cond.methodLink RX9 204 yX9_looseMany ∈ gs_B := gs_in (i := 1139) (by decide +kernel) (by decide +kernel)
theorem kI_X9_looseMany : Cond.instanceMethod yX9_looseMany ∈ gs_B := gs_in (i := 1141) (by decide +kernel) (by decide +kernel)
set_option maxRecDepth 40000 in
theorem kC_X9_looseMany : Cond.code yX9_looseMany cX9_looseMany 1 (some .int) ∈ gs_B := gs_in (i := 1142) (rfl) (rfl)
theorem kM_X9_207 : Cond.methodLink RX9 207 yX9_factorial ∈ gs_B := gs_in (i := 1143) (by decide +kernel) (by decide +kernel)
theorem kT_X9_factorial : Cond.static yX9_factorial ∈ gs_B := gs_in (i := 1144) (by decide +kernel) (by decide +kernel)
set_option maxRecDepth 40000 in
theorem kC_X9_factorial : Cond.code yX9_factorial cX9_factorial 3 (some .int) ∈ gs_B := gs_in (i := 1145) (rfl) (rfl)
theorem kM_X9_210 : Cond.methodLink RX9 210 yX9_layOrder ∈ gs_B := gs_in (i := 1146) (by decide +kernel) (by decide +kernel)
theorem kI_X9_layOrder : Cond.instanceMethod yX9_layOrder ∈ gs_B := gs_in (i := 1148) (by decide +kernel) (by decide +kernel)
set_option maxRecDepth 40000 in
theorem kC_X9_layOrder : Cond.code yX9_layOrder cX9_layOrder 8 none ∈ gs_B := gs_in (i := 1149) (rfl) (rfl)
theorem kM_X9_214 : Cond.methodLink RX9 214 yX9_tiltsAll ∈ gs_B := gs_in (i := 1150) (by decide +kernel) (by decide +kernel)
theorem kI_X9_tiltsAll : Cond.instanceMethod yX9_tiltsAll ∈ gs_B := gs_in (i := 1152) (by decide +kernel) (by decide +kernel)
set_option maxRecDepth 40000 in
theorem kC_X9_tiltsAll : Cond.code yX9_tiltsAll cX9_tiltsAll 5 (some .int) ∈ gs_B := gs_in (i := 1153) (rfl) (rfl)
theorem kM_L_84 : Cond.methodLink RL 84 yX9_even ∈ gs_B := gs_in (i := 1154) (by decide +kernel) (by decide +kernel)
theorem kI_X9_even : Cond.instanceMethod yX9_even ∈ gs_B := gs_in (i := 1155) (by decide +kernel) (by decide +kernel)
theorem kS_X9_even : Cond.selects RX9 yX9_even yX9_even ∈ gs_B := gs_in (i := 1156) (by decide +kernel) (by decide +kernel)
set_option maxRecDepth 40000 in
theorem kC_X9_even : Cond.code yX9_even cX9_even 1 (some .int) ∈ gs_B := gs_in (i := 1157) (rfl) (rfl)
theorem kM_X9_227 : Cond.methodLink RX9 227 yX9_evenOf ∈ gs_B := gs_in (i := 1158) (by decide +kernel) (by decide +kernel)
theorem kI_X9_evenOf : Cond.instanceMethod yX9_evenOf ∈ gs_B := gs_in (i := 1160) (by decide +kernel) (by decide +kernel)
set_option maxRecDepth 40000 in
theorem kC_X9_evenOf : Cond.code yX9_evenOf cX9_evenOf 3 (some .int) ∈ gs_B := gs_in (i := 1161) (rfl) (rfl)
theorem kM_L_88 : Cond.methodLink RL 88 yX9_odds ∈ gs_B := gs_in (i := 1162) (by decide +kernel) (by decide +kernel)
theorem kI_X9_odds : Cond.instanceMethod yX9_odds ∈ gs_B := gs_in (i := 1163) (by decide +kernel) (by decide +kernel)
theorem kS_X9_odds : Cond.selects RX9 yX9_odds yX9_odds ∈ gs_B := gs_in (i := 1164) (by decide +kernel) (by decide +kernel)
set_option maxRecDepth 40000 in
theorem kC_X9_odds : Cond.code yX9_odds cX9_odds 2 (some .int) ∈ gs_B := gs_in (i := 1165) (rfl) (rfl)
theorem kM_X9_230 : Cond.methodLink RX9 230 yX9_oddsOf ∈ gs_B := gs_in (i := 1166) (by decide +kernel) (by decide +kernel)
theorem kI_X9_oddsOf : Cond.instanceMethod yX9_oddsOf ∈ gs_B := gs_in (i := 1168) (by decide +kernel) (by decide +kernel)
set_option maxRecDepth 40000 in
theorem kC_X9_oddsOf : Cond.code yX9_oddsOf cX9_oddsOf 8 (some .int) ∈ gs_B := gs_in (i := 1169) (rfl) (rfl)
theorem kM_L_93 : Cond.methodLink RL 93 yX9_see ∈ gs_B := gs_in (i := 1170) (by decide +kernel) (by decide +kernel)
theorem kI_X9_see : Cond.instanceMethod yX9_see ∈ gs_B := gs_in (i := 1171) (by decide +kernel) (by decide +kernel)
theorem kS_X9_see : Cond.selects RX9 yX9_see yX9_see ∈ gs_B := gs_in (i := 1172) (by decide +kernel) (by decide +kernel)
set_option maxRecDepth 40000 in
theorem kC_X9_see : Cond.code yX9_see cX9_see 5 (some .int) ∈ gs_B := gs_in (i := 1173) (rfl) (rfl)
theorem kK_X9_233 : Cond.constantLong RX9 233 (2) ∈ gs_B := gs_in (i := 1174) (by decide +kernel) (by decide +kernel)
theorem kM_L_97 : Cond.methodLink RL 97 yX9_forget ∈ gs_B := gs_in (i := 1175) (by decide +kernel) (by decide +kernel)
theorem kI_X9_forget : Cond.instanceMethod yX9_forget ∈ gs_B := gs_in (i := 1176) (by decide +kernel) (by decide +kernel)
theorem kS_X9_forget : Cond.selects RX9 yX9_forget yX9_forget ∈ gs_B := gs_in (i := 1177) (by decide +kernel) (by decide +kernel)
set_option maxRecDepth 40000 in
theorem kC_X9_forget : Cond.code yX9_forget cX9_forget 2 (some .int) ∈ gs_B := gs_in (i := 1178) (rfl) (rfl)
theorem kM_L_101 : Cond.methodLink RL 101 yX9_trial ∈ gs_B := gs_in (i := 1179) (by decide +kernel) (by decide +kernel)
theorem kI_X9_trial : Cond.instanceMethod yX9_trial ∈ gs_B := gs_in (i := 1180) (by decide +kernel) (by decide +kernel)
theorem kS_X9_trial : Cond.selects RX9 yX9_trial yX9_trial ∈ gs_B := gs_in (i := 1181) (by decide +kernel) (by decide +kernel)
set_option maxRecDepth 40000 in
theorem kC_X9_trial : Cond.code yX9_trial cX9_trial 3 (some .int) ∈ gs_B := gs_in (i := 1182) (rfl) (rfl)
theorem kM_X9_239 : Cond.methodLink RX9 239 yX9_trialOf ∈ gs_B := gs_in (i := 1183) (by decide +kernel) (by decide +kernel)
theorem kI_X9_trialOf : Cond.instanceMethod yX9_trialOf ∈ gs_B := gs_in (i := 1185) (by decide +kernel) (by decide +kernel)
set_option maxRecDepth 40000 in
theorem kC_X9_trialOf : Cond.code yX9_trialOf cX9_trialOf 11 (some .int) ∈ gs_B := gs_in (i := 1186) (rfl) (rfl)
theorem kM_L_105 : Cond.methodLink RL 105 yX9_evenings ∈ gs_B := gs_in (i := 1187) (by decide +kernel) (by decide +kernel)
theorem kI_X9_evenings : Cond.instanceMethod yX9_evenings ∈ gs_B := gs_in (i := 1188) (by decide +kernel) (by decide +kernel)
theorem kS_X9_evenings : Cond.selects RX9 yX9_evenings yX9_evenings ∈ gs_B := gs_in (i := 1189) (by decide +kernel) (by decide +kernel)
set_option maxRecDepth 40000 in
theorem kC_X9_evenings : Cond.code yX9_evenings cX9_evenings 8 (some .int) ∈ gs_B := gs_in (i := 1190) (rfl) (rfl)
theorem kK_X9_252 : Cond.constantLong RX9 252 (60) ∈ gs_B := gs_in (i := 1191) (by decide +kernel) (by decide +kernel)
theorem kM_X9_254 : Cond.methodLink RX9 254 yX9_draw ∈ gs_B := gs_in (i := 1192) (by decide +kernel) (by decide +kernel)
theorem kI_X9_draw : Cond.instanceMethod yX9_draw ∈ gs_B := gs_in (i := 1194) (by decide +kernel) (by decide +kernel)
set_option maxRecDepth 40000 in
theorem kC_X9_draw : Cond.code yX9_draw cX9_draw 2 (some .int) ∈ gs_B := gs_in (i := 1195) (rfl) (rfl)
theorem kK_X9_242 : Cond.constantLong RX9 242 (1103515245) ∈ gs_B := gs_in (i := 1196) (by decide +kernel) (by decide +kernel)
theorem kK_X9_247 : Cond.constantLong RX9 247 (12345) ∈ gs_B := gs_in (i := 1197) (by decide +kernel) (by decide +kernel)
theorem kK_X9_249 : Cond.constantLong RX9 249 (2147483647) ∈ gs_B := gs_in (i := 1198) (by decide +kernel) (by decide +kernel)
theorem kK_X9_251 : Cond.constant RX9 251 (65536) ∈ gs_B := gs_in (i := 1199) (by decide +kernel) (by decide +kernel)
theorem kM_L_109 : Cond.methodLink RL 109 yX9_image ∈ gs_B := gs_in (i := 1200) (by decide +kernel) (by decide +kernel)
theorem kI_X9_image : Cond.instanceMethod yX9_image ∈ gs_B := gs_in (i := 1201) (by decide +kernel) (by decide +kernel)
theorem kS_X9_image : Cond.selects RX9 yX9_image yX9_image ∈ gs_B := gs_in (i := 1202) (by decide +kernel) (by decide +kernel)
set_option maxRecDepth 40000 in
theorem kC_X9_image : Cond.code yX9_image cX9_image 1 (some .int) ∈ gs_B := gs_in (i := 1203) (rfl) (rfl)
theorem kM_L_113 : Cond.methodLink RL 113 yX9_restore ∈ gs_B := gs_in (i := 1204) (by decide +kernel) (by decide +kernel)
theorem kI_X9_restore : Cond.instanceMethod yX9_restore ∈ gs_B := gs_in (i := 1205) (by decide +kernel) (by decide +kernel)
theorem kS_X9_restore : Cond.selects RX9 yX9_restore yX9_restore ∈ gs_B := gs_in (i := 1206) (by decide +kernel) (by decide +kernel)
set_option maxRecDepth 40000 in
theorem kC_X9_restore : Cond.code yX9_restore cX9_restore 1 (some .int) ∈ gs_B := gs_in (i := 1207) (rfl) (rfl)
theorem kM_L_117 : Cond.methodLink RL 117 yX9_count ∈ gs_B := gs_in (i := 1208) (by decide +kernel) (by decide +kernel)
theorem kI_X9_count : Cond.instanceMethod yX9_count ∈ gs_B := gs_in (i := 1209) (by decide +kernel) (by decide +kernel)
theorem kS_X9_count : Cond.selects RX9 yX9_count yX9_count ∈ gs_B := gs_in (i := 1210) (by decide +kernel) (by decide +kernel)
set_option maxRecDepth 40000 in
theorem kC_X9_count : Cond.code yX9_count cX9_count 2 (some .int) ∈ gs_B := gs_in (i := 1211) (rfl) (rfl)
theorem kM_X9_275 : Cond.methodLink RX9 275 yX9_countOf ∈ gs_B := gs_in (i := 1212) (by decide +kernel) (by decide +kernel)
theorem kI_X9_countOf : Cond.instanceMethod yX9_countOf ∈ gs_B := gs_in (i := 1214) (by decide +kernel) (by decide +kernel)
set_option maxRecDepth 40000 in
theorem kC_X9_countOf : Cond.code yX9_countOf cX9_countOf 2 (some .int) ∈ gs_B := gs_in (i := 1215) (rfl) (rfl)
theorem kM_X9_269 : Cond.methodLink RX9 269 yX9_thingsThere ∈ gs_B := gs_in (i := 1216) (by decide +kernel) (by decide +kernel)
theorem kI_X9_thingsThere : Cond.instanceMethod yX9_thingsThere ∈ gs_B := gs_in (i := 1218) (by decide +kernel) (by decide +kernel)
set_option maxRecDepth 40000 in
theorem kC_X9_thingsThere : Cond.code yX9_thingsThere cX9_thingsThere 4 (some .int) ∈ gs_B := gs_in (i := 1219) (rfl) (rfl)
theorem kM_X9_272 : Cond.methodLink RX9 272 yX9_weighsAll ∈ gs_B := gs_in (i := 1220) (by decide +kernel) (by decide +kernel)
theorem kI_X9_weighsAll : Cond.instanceMethod yX9_weighsAll ∈ gs_B := gs_in (i := 1222) (by decide +kernel) (by decide +kernel)
set_option maxRecDepth 40000 in
theorem kC_X9_weighsAll : Cond.code yX9_weighsAll cX9_weighsAll 1 (some .int) ∈ gs_B := gs_in (i := 1223) (rfl) (rfl)
theorem kM_L_122 : Cond.methodLink RL 122 yX9_digest ∈ gs_B := gs_in (i := 1224) (by decide +kernel) (by decide +kernel)
theorem kI_X9_digest : Cond.instanceMethod yX9_digest ∈ gs_B := gs_in (i := 1225) (by decide +kernel) (by decide +kernel)
theorem kS_X9_digest : Cond.selects RX9 yX9_digest yX9_digest ∈ gs_B := gs_in (i := 1226) (by decide +kernel) (by decide +kernel)
set_option maxRecDepth 40000 in
theorem kC_X9_digest : Cond.code yX9_digest cX9_digest 3 (some .long) ∈ gs_B := gs_in (i := 1227) (rfl) (rfl)
theorem kK_X9_284 : Cond.constantLong RX9 284 (1303) ∈ gs_B := gs_in (i := 1228) (by decide +kernel) (by decide +kernel)
theorem kM_X9_286 : Cond.methodLink RX9 286 yX9_say ∈ gs_B := gs_in (i := 1229) (by decide +kernel) (by decide +kernel)
theorem kI_X9_say : Cond.instanceMethod yX9_say ∈ gs_B := gs_in (i := 1231) (by decide +kernel) (by decide +kernel)
set_option maxRecDepth 40000 in
theorem kC_X9_say : Cond.code yX9_say cX9_say 3 none ∈ gs_B := gs_in (i := 1232) (rfl) (rfl)
theorem kK_X9_278 : Cond.constantLong RX9 278 (31) ∈ gs_B := gs_in (i := 1233) (by decide +kernel) (by decide +kernel)
theorem inX0 : ∀ w ∈ u_ws RX0 TX0 5, w ∈ gs_B := gs_ins [331, 333, 335, 337, 339] (by decide +kernel) (by decide +kernel)
theorem inX2 : ∀ w ∈ u_ws RX2 TX2 11, w ∈ gs_B := gs_ins [292, 294, 296, 298, 300, 302, 304, 306, 308, 310, 312] (by decide +kernel) (by decide +kernel)
theorem inX3 : ∀ w ∈ u_ws RX3 TX3 11, w ∈ gs_B := gs_ins [222, 224, 226, 228, 230, 232, 234, 236, 238, 240, 242] (by decide +kernel) (by decide +kernel)
theorem inX4 : ∀ w ∈ u_ws RX4 TX4 2, w ∈ gs_B := gs_ins [100, 102] (by decide +kernel) (by decide +kernel)
theorem inX5 : ∀ w ∈ u_ws RX5 TX5 10, w ∈ gs_B := gs_ins [128, 130, 132, 134, 136, 138, 140, 142, 144, 146] (by decide +kernel) (by decide +kernel)
theorem inX6 : ∀ w ∈ u_ws RX6 TX6 4, w ∈ gs_B := gs_ins [259, 261, 263, 265] (by decide +kernel) (by decide +kernel)
theorem inX7 : ∀ w ∈ u_ws RX7 TX7 5, w ∈ gs_B := gs_ins [169, 171, 173, 175, 177] (by decide +kernel) (by decide +kernel)
theorem inX8 : ∀ w ∈ u_ws RX8 TX8 10, w ∈ gs_B := gs_ins [352, 354, 356, 358, 360, 362, 364, 366, 368, 370] (by decide +kernel) (by decide +kernel)
theorem inX9 : ∀ w ∈ u_ws RX9 TX9 35, w ∈ gs_B := gs_ins [878, 880, 882, 884, 886, 888, 890, 892, 894, 896, 898, 900, 902, 904, 906, 908, 910, 912, 914, 916, 918, 920, 922, 924, 926, 928, 930, 932, 934, 936, 938, 940, 942, 944, 946] (by decide +kernel) (by decide +kernel)
end
section
theorem dX0_init_0 : decode cX0_init 0 = .ok (.aload_n 0, 1) := by decide +kernel
theorem dX0_init_1 : decode cX0_init 1 = .ok (.invokespecial 3, 3) := by decide +kernel
theorem dX0_init_4 : decode cX0_init 4 = .ok (.aload_n 0, 1) := by decide +kernel
theorem dX0_init_5 : decode cX0_init 5 = .ok (.new 9, 3) := by decide +kernel
theorem dX0_init_8 : decode cX0_init 8 = .ok (.dup, 1) := by decide +kernel
theorem dX0_init_9 : decode cX0_init 9 = .ok (.invokespecial 11, 3) := by decide +kernel
theorem dX0_init_12 : decode cX0_init 12 = .ok (.putfield 12, 3) := by decide +kernel
theorem dX0_init_15 : decode cX0_init 15 = .ok (.aload_n 0, 1) := by decide +kernel
theorem dX0_init_16 : decode cX0_init 16 = .ok (.bipush 6, 2) := by decide +kernel
theorem dX0_init_18 : decode cX0_init 18 = .ok (.newarray .int, 2) := by decide +kernel
theorem dX0_init_20 : decode cX0_init 20 = .ok (.putfield 18, 3) := by decide +kernel
theorem dX0_init_23 : decode cX0_init 23 = .ok (.return_, 1) := by decide +kernel
theorem dX0_hoursUntilLevel_0 : decode cX0_hoursUntilLevel 0 = .ok (.iconst 0, 1) := by decide +kernel
theorem dX0_hoursUntilLevel_1 : decode cX0_hoursUntilLevel 1 = .ok (.istore_n 2, 1) := by decide +kernel
theorem dX0_hoursUntilLevel_2 : decode cX0_hoursUntilLevel 2 = .ok (.iload_n 2, 1) := by decide +kernel
theorem dX0_hoursUntilLevel_3 : decode cX0_hoursUntilLevel 3 = .ok (.bipush 20, 2) := by decide +kernel
theorem dX0_hoursUntilLevel_5 : decode cX0_hoursUntilLevel 5 = .ok (.if_icmp .gt 40, 3) := by decide +kernel
theorem dX0_hoursUntilLevel_8 : decode cX0_hoursUntilLevel 8 = .ok (.aload_n 0, 1) := by decide +kernel
theorem dX0_hoursUntilLevel_9 : decode cX0_hoursUntilLevel 9 = .ok (.getfield 12, 3) := by decide +kernel
theorem dX0_hoursUntilLevel_12 : decode cX0_hoursUntilLevel 12 = .ok (.aload_n 1, 1) := by decide +kernel
theorem dX0_hoursUntilLevel_13 : decode cX0_hoursUntilLevel 13 = .ok (.aload_n 1, 1) := by decide +kernel
theorem dX0_hoursUntilLevel_14 : decode cX0_hoursUntilLevel 14 = .ok (.getfield 22, 3) := by decide +kernel
theorem dX0_hoursUntilLevel_17 : decode cX0_hoursUntilLevel 17 = .ok (.iload_n 2, 1) := by decide +kernel
theorem dX0_hoursUntilLevel_18 : decode cX0_hoursUntilLevel 18 = .ok (.iadd, 1) := by decide +kernel
theorem dX0_hoursUntilLevel_19 : decode cX0_hoursUntilLevel 19 = .ok (.invokevirtual 28, 3) := by decide +kernel
theorem dX0_hoursUntilLevel_22 : decode cX0_hoursUntilLevel 22 = .ok (.aload_n 0, 1) := by decide +kernel
theorem dX0_hoursUntilLevel_23 : decode cX0_hoursUntilLevel 23 = .ok (.getfield 12, 3) := by decide +kernel
theorem dX0_hoursUntilLevel_26 : decode cX0_hoursUntilLevel 26 = .ok (.aload_n 1, 1) := by decide +kernel
theorem dX0_hoursUntilLevel_27 : decode cX0_hoursUntilLevel 27 = .ok (.aload_n 1, 1) := by decide +kernel
theorem dX0_hoursUntilLevel_28 : decode cX0_hoursUntilLevel 28 = .ok (.getfield 32, 3) := by decide +kernel
theorem dX0_hoursUntilLevel_31 : decode cX0_hoursUntilLevel 31 = .ok (.invokevirtual 33, 3) := by decide +kernel
theorem dX0_hoursUntilLevel_34 : decode cX0_hoursUntilLevel 34 = .ok (.ifCond .eq 5, 3) := by decide +kernel
theorem dX0_hoursUntilLevel_37 : decode cX0_hoursUntilLevel 37 = .ok (.iload_n 2, 1) := by decide +kernel
theorem dX0_hoursUntilLevel_38 : decode cX0_hoursUntilLevel 38 = .ok (.ireturn, 1) := by decide +kernel
theorem dX0_hoursUntilLevel_39 : decode cX0_hoursUntilLevel 39 = .ok (.iinc 2 1, 3) := by decide +kernel
theorem dX0_hoursUntilLevel_42 : decode cX0_hoursUntilLevel 42 = .ok (.goto (-40), 3) := by decide +kernel
theorem dX0_hoursUntilLevel_45 : decode cX0_hoursUntilLevel 45 = .ok (.iconst (-1), 1) := by decide +kernel
theorem dX0_hoursUntilLevel_46 : decode cX0_hoursUntilLevel 46 = .ok (.ireturn, 1) := by decide +kernel
theorem dX0_pass_0 : decode cX0_pass 0 = .ok (.aload_n 0, 1) := by decide +kernel
theorem dX0_pass_1 : decode cX0_pass 1 = .ok (.iload_n 3, 1) := by decide +kernel
theorem dX0_pass_2 : decode cX0_pass 2 = .ok (.putfield 37, 3) := by decide +kernel
theorem dX0_pass_5 : decode cX0_pass 5 = .ok (.aload_n 0, 1) := by decide +kernel
theorem dX0_pass_6 : decode cX0_pass 6 = .ok (.iconst 0, 1) := by decide +kernel
theorem dX0_pass_7 : decode cX0_pass 7 = .ok (.putfield 40, 3) := by decide +kernel
theorem dX0_pass_10 : decode cX0_pass 10 = .ok (.iconst 0, 1) := by decide +kernel
theorem dX0_pass_11 : decode cX0_pass 11 = .ok (.istore 4, 2) := by decide +kernel
theorem dX0_pass_13 : decode cX0_pass 13 = .ok (.iload 4, 2) := by decide +kernel
theorem dX0_pass_15 : decode cX0_pass 15 = .ok (.bipush 6, 2) := by decide +kernel
theorem dX0_pass_17 : decode cX0_pass 17 = .ok (.if_icmp .ge 23, 3) := by decide +kernel
theorem dX0_pass_20 : decode cX0_pass 20 = .ok (.aload_n 0, 1) := by decide +kernel
theorem dX0_pass_21 : decode cX0_pass 21 = .ok (.getfield 18, 3) := by decide +kernel
theorem dX0_pass_24 : decode cX0_pass 24 = .ok (.iload 4, 2) := by decide +kernel
theorem dX0_pass_26 : decode cX0_pass 26 = .ok (.aload_n 1, 1) := by decide +kernel
theorem dX0_pass_27 : decode cX0_pass 27 = .ok (.getfield 32, 3) := by decide +kernel
theorem dX0_pass_30 : decode cX0_pass 30 = .ok (.iload 4, 2) := by decide +kernel
theorem dX0_pass_32 : decode cX0_pass 32 = .ok (.iaload, 1) := by decide +kernel
theorem dX0_pass_33 : decode cX0_pass 33 = .ok (.iastore, 1) := by decide +kernel
theorem dX0_pass_34 : decode cX0_pass 34 = .ok (.iinc 4 1, 3) := by decide +kernel
theorem dX0_pass_37 : decode cX0_pass 37 = .ok (.goto (-24), 3) := by decide +kernel
theorem dX0_pass_40 : decode cX0_pass 40 = .ok (.iconst 1, 1) := by decide +kernel
theorem dX0_pass_41 : decode cX0_pass 41 = .ok (.istore 4, 2) := by decide +kernel
theorem dX0_pass_43 : decode cX0_pass 43 = .ok (.iload 4, 2) := by decide +kernel
theorem dX0_pass_45 : decode cX0_pass 45 = .ok (.iload_n 2, 1) := by decide +kernel
theorem dX0_pass_46 : decode cX0_pass 46 = .ok (.if_icmp .gt 111, 3) := by decide +kernel
theorem dX0_pass_49 : decode cX0_pass 49 = .ok (.aload_n 0, 1) := by decide +kernel
theorem dX0_pass_50 : decode cX0_pass 50 = .ok (.aload_n 1, 1) := by decide +kernel
theorem dX0_pass_51 : decode cX0_pass 51 = .ok (.getfield 43, 3) := by decide +kernel
theorem dX0_pass_54 : decode cX0_pass 54 = .ok (.invokevirtual 46, 3) := by decide +kernel
theorem dX0_pass_57 : decode cX0_pass 57 = .ok (.istore 5, 2) := by decide +kernel
theorem dX0_pass_59 : decode cX0_pass 59 = .ok (.aload_n 0, 1) := by decide +kernel
theorem dX0_pass_60 : decode cX0_pass 60 = .ok (.aload_n 1, 1) := by decide +kernel
theorem dX0_pass_61 : decode cX0_pass 61 = .ok (.getfield 43, 3) := by decide +kernel
theorem dX0_pass_64 : decode cX0_pass 64 = .ok (.invokevirtual 46, 3) := by decide +kernel
theorem dX0_pass_67 : decode cX0_pass 67 = .ok (.istore 6, 2) := by decide +kernel
theorem dX0_pass_69 : decode cX0_pass 69 = .ok (.iload 5, 2) := by decide +kernel
theorem dX0_pass_71 : decode cX0_pass 71 = .ok (.iload 6, 2) := by decide +kernel
theorem dX0_pass_73 : decode cX0_pass 73 = .ok (.if_icmp .eq 34, 3) := by decide +kernel
theorem dX0_pass_76 : decode cX0_pass 76 = .ok (.aload_n 1, 1) := by decide +kernel
theorem dX0_pass_77 : decode cX0_pass 77 = .ok (.getfield 50, 3) := by decide +kernel
theorem dX0_pass_80 : decode cX0_pass 80 = .ok (.iload 5, 2) := by decide +kernel
theorem dX0_pass_82 : decode cX0_pass 82 = .ok (.baload, 1) := by decide +kernel
theorem dX0_pass_83 : decode cX0_pass 83 = .ok (.ifCond .ne 24, 3) := by decide +kernel
theorem dX0_pass_86 : decode cX0_pass 86 = .ok (.aload_n 1, 1) := by decide +kernel
theorem dX0_pass_87 : decode cX0_pass 87 = .ok (.getfield 50, 3) := by decide +kernel
theorem dX0_pass_90 : decode cX0_pass 90 = .ok (.iload 6, 2) := by decide +kernel
theorem dX0_pass_92 : decode cX0_pass 92 = .ok (.baload, 1) := by decide +kernel
theorem dX0_pass_93 : decode cX0_pass 93 = .ok (.ifCond .ne 14, 3) := by decide +kernel
theorem dX0_pass_96 : decode cX0_pass 96 = .ok (.aload_n 0, 1) := by decide +kernel
theorem dX0_pass_97 : decode cX0_pass 97 = .ok (.getfield 18, 3) := by decide +kernel
theorem dX0_pass_100 : decode cX0_pass 100 = .ok (.iload 5, 2) := by decide +kernel
theorem dX0_pass_102 : decode cX0_pass 102 = .ok (.iload 6, 2) := by decide +kernel
theorem dX0_pass_104 : decode cX0_pass 104 = .ok (.invokestatic 54, 3) := by decide +kernel
theorem dX0_pass_107 : decode cX0_pass 107 = .ok (.aload_n 0, 1) := by decide +kernel
theorem dX0_pass_108 : decode cX0_pass 108 = .ok (.getfield 12, 3) := by decide +kernel
theorem dX0_pass_111 : decode cX0_pass 111 = .ok (.aload_n 1, 1) := by decide +kernel
theorem dX0_pass_112 : decode cX0_pass 112 = .ok (.aload_n 1, 1) := by decide +kernel
theorem dX0_pass_113 : decode cX0_pass 113 = .ok (.getfield 22, 3) := by decide +kernel
theorem dX0_pass_116 : decode cX0_pass 116 = .ok (.iload 4, 2) := by decide +kernel
theorem dX0_pass_118 : decode cX0_pass 118 = .ok (.iadd, 1) := by decide +kernel
theorem dX0_pass_119 : decode cX0_pass 119 = .ok (.invokevirtual 28, 3) := by decide +kernel
theorem dX0_pass_122 : decode cX0_pass 122 = .ok (.aload_n 0, 1) := by decide +kernel
theorem dX0_pass_123 : decode cX0_pass 123 = .ok (.getfield 12, 3) := by decide +kernel
theorem dX0_pass_126 : decode cX0_pass 126 = .ok (.aload_n 1, 1) := by decide +kernel
theorem dX0_pass_127 : decode cX0_pass 127 = .ok (.aload_n 0, 1) := by decide +kernel
theorem dX0_pass_128 : decode cX0_pass 128 = .ok (.getfield 18, 3) := by decide +kernel
theorem dX0_pass_131 : decode cX0_pass 131 = .ok (.invokevirtual 58, 3) := by decide +kernel
theorem dX0_pass_134 : decode cX0_pass 134 = .ok (.aload_n 0, 1) := by decide +kernel
theorem dX0_pass_135 : decode cX0_pass 135 = .ok (.dup, 1) := by decide +kernel
theorem dX0_pass_136 : decode cX0_pass 136 = .ok (.getfield 40, 3) := by decide +kernel
theorem dX0_pass_139 : decode cX0_pass 139 = .ok (.aload_n 0, 1) := by decide +kernel
theorem dX0_pass_140 : decode cX0_pass 140 = .ok (.getfield 12, 3) := by decide +kernel
theorem dX0_pass_143 : decode cX0_pass 143 = .ok (.aload_n 1, 1) := by decide +kernel
theorem dX0_pass_144 : decode cX0_pass 144 = .ok (.invokevirtual 62, 3) := by decide +kernel
theorem dX0_pass_147 : decode cX0_pass 147 = .ok (.iadd, 1) := by decide +kernel
theorem dX0_pass_148 : decode cX0_pass 148 = .ok (.putfield 40, 3) := by decide +kernel
theorem dX0_pass_151 : decode cX0_pass 151 = .ok (.iinc 4 1, 3) := by decide +kernel
theorem dX0_pass_154 : decode cX0_pass 154 = .ok (.goto (-111), 3) := by decide +kernel
theorem dX0_pass_157 : decode cX0_pass 157 = .ok (.aload_n 0, 1) := by decide +kernel
theorem dX0_pass_158 : decode cX0_pass 158 = .ok (.aload_n 0, 1) := by decide +kernel
theorem dX0_pass_159 : decode cX0_pass 159 = .ok (.getfield 12, 3) := by decide +kernel
theorem dX0_pass_162 : decode cX0_pass 162 = .ok (.getfield 66, 3) := by decide +kernel
theorem dX0_pass_165 : decode cX0_pass 165 = .ok (.iconst 0, 1) := by decide +kernel
theorem dX0_pass_166 : decode cX0_pass 166 = .ok (.iaload, 1) := by decide +kernel
theorem dX0_pass_167 : decode cX0_pass 167 = .ok (.putfield 69, 3) := by decide +kernel
theorem dX0_pass_170 : decode cX0_pass 170 = .ok (.return_, 1) := by decide +kernel
theorem dX0_draw_0 : decode cX0_draw 0 = .ok (.aload_n 0, 1) := by decide +kernel
theorem dX0_draw_1 : decode cX0_draw 1 = .ok (.ldc2_w 72, 3) := by decide +kernel
theorem dX0_draw_4 : decode cX0_draw 4 = .ok (.aload_n 0, 1) := by decide +kernel
theorem dX0_draw_5 : decode cX0_draw 5 = .ok (.getfield 37, 3) := by decide +kernel
theorem dX0_draw_8 : decode cX0_draw 8 = .ok (.i2l, 1) := by decide +kernel
theorem dX0_draw_9 : decode cX0_draw 9 = .ok (.lmul, 1) := by decide +kernel
theorem dX0_draw_10 : decode cX0_draw 10 = .ok (.ldc2_w 74, 3) := by decide +kernel
theorem dX0_draw_13 : decode cX0_draw 13 = .ok (.ladd, 1) := by decide +kernel
theorem dX0_draw_14 : decode cX0_draw 14 = .ok (.ldc2_w 76, 3) := by decide +kernel
theorem dX0_draw_17 : decode cX0_draw 17 = .ok (.land, 1) := by decide +kernel
theorem dX0_draw_18 : decode cX0_draw 18 = .ok (.l2i, 1) := by decide +kernel
theorem dX0_draw_19 : decode cX0_draw 19 = .ok (.putfield 37, 3) := by decide +kernel
theorem dX0_draw_22 : decode cX0_draw 22 = .ok (.iload_n 1, 1) := by decide +kernel
theorem dX0_draw_23 : decode cX0_draw 23 = .ok (.ifCond .le 15, 3) := by decide +kernel
theorem dX0_draw_26 : decode cX0_draw 26 = .ok (.aload_n 0, 1) := by decide +kernel
theorem dX0_draw_27 : decode cX0_draw 27 = .ok (.getfield 37, 3) := by decide +kernel
theorem dX0_draw_30 : decode cX0_draw 30 = .ok (.ldc 78, 2) := by decide +kernel
theorem dX0_draw_32 : decode cX0_draw 32 = .ok (.idiv, 1) := by decide +kernel
theorem dX0_draw_33 : decode cX0_draw 33 = .ok (.iload_n 1, 1) := by decide +kernel
theorem dX0_draw_34 : decode cX0_draw 34 = .ok (.irem, 1) := by decide +kernel
theorem dX0_draw_35 : decode cX0_draw 35 = .ok (.goto 4, 3) := by decide +kernel
theorem dX0_draw_38 : decode cX0_draw 38 = .ok (.iconst 0, 1) := by decide +kernel
theorem dX0_draw_39 : decode cX0_draw 39 = .ok (.ireturn, 1) := by decide +kernel
theorem dX1_isKind_0 : decode cX1_isKind 0 = .ok (.iload_n 0, 1) := by decide +kernel
theorem dX1_isKind_1 : decode cX1_isKind 1 = .ok (.ifCond .lt 12, 3) := by decide +kernel
theorem dX1_isKind_4 : decode cX1_isKind 4 = .ok (.iload_n 0, 1) := by decide +kernel
theorem dX1_isKind_5 : decode cX1_isKind 5 = .ok (.iconst 4, 1) := by decide +kernel
theorem dX1_isKind_6 : decode cX1_isKind 6 = .ok (.if_icmp .gt 7, 3) := by decide +kernel
theorem dX1_isKind_9 : decode cX1_isKind 9 = .ok (.iconst 1, 1) := by decide +kernel
theorem dX1_isKind_10 : decode cX1_isKind 10 = .ok (.goto 4, 3) := by decide +kernel
theorem dX1_isKind_13 : decode cX1_isKind 13 = .ok (.iconst 0, 1) := by decide +kernel
theorem dX1_isKind_14 : decode cX1_isKind 14 = .ok (.ireturn, 1) := by decide +kernel
theorem dX1_isA_0 : decode cX1_isA 0 = .ok (.iload_n 1, 1) := by decide +kernel
theorem dX1_isA_1 : decode cX1_isA 1 = .ok (.iload_n 0, 1) := by decide +kernel
theorem dX1_isA_2 : decode cX1_isA 2 = .ok (.if_icmp .eq 17, 3) := by decide +kernel
theorem dX1_isA_5 : decode cX1_isA 5 = .ok (.iload_n 1, 1) := by decide +kernel
theorem dX1_isA_6 : decode cX1_isA 6 = .ok (.ifCond .eq 13, 3) := by decide +kernel
theorem dX1_isA_9 : decode cX1_isA 9 = .ok (.iload_n 0, 1) := by decide +kernel
theorem dX1_isA_10 : decode cX1_isA 10 = .ok (.iconst 4, 1) := by decide +kernel
theorem dX1_isA_11 : decode cX1_isA 11 = .ok (.if_icmp .ne 12, 3) := by decide +kernel
theorem dX1_isA_14 : decode cX1_isA 14 = .ok (.iload_n 1, 1) := by decide +kernel
theorem dX1_isA_15 : decode cX1_isA 15 = .ok (.iconst 1, 1) := by decide +kernel
theorem dX1_isA_16 : decode cX1_isA 16 = .ok (.if_icmp .ne 7, 3) := by decide +kernel
theorem dX1_isA_19 : decode cX1_isA 19 = .ok (.iconst 1, 1) := by decide +kernel
theorem dX1_isA_20 : decode cX1_isA 20 = .ok (.goto 4, 3) := by decide +kernel
theorem dX1_isA_23 : decode cX1_isA 23 = .ok (.iconst 0, 1) := by decide +kernel
theorem dX1_isA_24 : decode cX1_isA 24 = .ok (.ireturn, 1) := by decide +kernel
theorem dX1_weight_0 : decode cX1_weight 0 = .ok (.iload_n 0, 1) := by decide +kernel
theorem dX1_weight_1 : decode cX1_weight 1 = .ok (.tableswitch 50 1 4 #[31, 35, 37, 40], 31) := by decide +kernel
theorem dX1_weight_32 : decode cX1_weight 32 = .ok (.iconst 2, 1) := by decide +kernel
theorem dX1_weight_33 : decode cX1_weight 33 = .ok (.iload_n 1, 1) := by decide +kernel
theorem dX1_weight_34 : decode cX1_weight 34 = .ok (.imul, 1) := by decide +kernel
theorem dX1_weight_35 : decode cX1_weight 35 = .ok (.ireturn, 1) := by decide +kernel
theorem dX1_weight_36 : decode cX1_weight 36 = .ok (.iconst 0, 1) := by decide +kernel
theorem dX1_weight_37 : decode cX1_weight 37 = .ok (.ireturn, 1) := by decide +kernel
theorem dX1_weight_38 : decode cX1_weight 38 = .ok (.iload_n 1, 1) := by decide +kernel
theorem dX1_weight_39 : decode cX1_weight 39 = .ok (.ineg, 1) := by decide +kernel
theorem dX1_weight_40 : decode cX1_weight 40 = .ok (.ireturn, 1) := by decide +kernel
theorem dX1_weight_41 : decode cX1_weight 41 = .ok (.iconst 0, 1) := by decide +kernel
theorem dX1_weight_42 : decode cX1_weight 42 = .ok (.iconst 2, 1) := by decide +kernel
theorem dX1_weight_43 : decode cX1_weight 43 = .ok (.iload_n 1, 1) := by decide +kernel
theorem dX1_weight_44 : decode cX1_weight 44 = .ok (.imul, 1) := by decide +kernel
theorem dX1_weight_45 : decode cX1_weight 45 = .ok (.iload_n 2, 1) := by decide +kernel
theorem dX1_weight_46 : decode cX1_weight 46 = .ok (.isub, 1) := by decide +kernel
theorem dX1_weight_47 : decode cX1_weight 47 = .ok (.invokestatic 9, 3) := by decide +kernel
theorem dX1_weight_50 : decode cX1_weight 50 = .ok (.ireturn, 1) := by decide +kernel
theorem dX1_weight_51 : decode cX1_weight 51 = .ok (.iload_n 1, 1) := by decide +kernel
theorem dX1_weight_52 : decode cX1_weight 52 = .ok (.ireturn, 1) := by decide +kernel
theorem dX2_init_0 : decode cX2_init 0 = .ok (.aload_n 0, 1) := by decide +kernel
theorem dX2_init_1 : decode cX2_init 1 = .ok (.invokespecial 3, 3) := by decide +kernel
theorem dX2_init_4 : decode cX2_init 4 = .ok (.aload_n 0, 1) := by decide +kernel
theorem dX2_init_5 : decode cX2_init 5 = .ok (.bipush 6, 2) := by decide +kernel
theorem dX2_init_7 : decode cX2_init 7 = .ok (.newarray .int, 2) := by decide +kernel
theorem dX2_init_9 : decode cX2_init 9 = .ok (.putfield 9, 3) := by decide +kernel
theorem dX2_init_12 : decode cX2_init 12 = .ok (.aload_n 0, 1) := by decide +kernel
theorem dX2_init_13 : decode cX2_init 13 = .ok (.new 15, 3) := by decide +kernel
theorem dX2_init_16 : decode cX2_init 16 = .ok (.dup, 1) := by decide +kernel
theorem dX2_init_17 : decode cX2_init 17 = .ok (.invokespecial 17, 3) := by decide +kernel
theorem dX2_init_20 : decode cX2_init 20 = .ok (.putfield 18, 3) := by decide +kernel
theorem dX2_init_23 : decode cX2_init 23 = .ok (.aload_n 0, 1) := by decide +kernel
theorem dX2_init_24 : decode cX2_init 24 = .ok (.bipush 6, 2) := by decide +kernel
theorem dX2_init_26 : decode cX2_init 26 = .ok (.newarray .int, 2) := by decide +kernel
theorem dX2_init_28 : decode cX2_init 28 = .ok (.putfield 22, 3) := by decide +kernel
theorem dX2_init_31 : decode cX2_init 31 = .ok (.aload_n 0, 1) := by decide +kernel
theorem dX2_init_32 : decode cX2_init 32 = .ok (.bipush 6, 2) := by decide +kernel
theorem dX2_init_34 : decode cX2_init 34 = .ok (.newarray .int, 2) := by decide +kernel
theorem dX2_init_36 : decode cX2_init 36 = .ok (.putfield 25, 3) := by decide +kernel
theorem dX2_init_39 : decode cX2_init 39 = .ok (.aload_n 0, 1) := by decide +kernel
theorem dX2_init_40 : decode cX2_init 40 = .ok (.bipush 6, 2) := by decide +kernel
theorem dX2_init_42 : decode cX2_init 42 = .ok (.newarray .int, 2) := by decide +kernel
theorem dX2_init_44 : decode cX2_init 44 = .ok (.putfield 28, 3) := by decide +kernel
theorem dX2_init_47 : decode cX2_init 47 = .ok (.return_, 1) := by decide +kernel
theorem dX2_bestExchange_0 : decode cX2_bestExchange 0 = .ok (.aload_n 0, 1) := by decide +kernel
theorem dX2_bestExchange_1 : decode cX2_bestExchange 1 = .ok (.getfield 18, 3) := by decide +kernel
theorem dX2_bestExchange_4 : decode cX2_bestExchange 4 = .ok (.aload_n 1, 1) := by decide +kernel
theorem dX2_bestExchange_5 : decode cX2_bestExchange 5 = .ok (.invokevirtual 31, 3) := by decide +kernel
theorem dX2_bestExchange_8 : decode cX2_bestExchange 8 = .ok (.aload_n 0, 1) := by decide +kernel
theorem dX2_bestExchange_9 : decode cX2_bestExchange 9 = .ok (.getfield 18, 3) := by decide +kernel
theorem dX2_bestExchange_12 : decode cX2_bestExchange 12 = .ok (.aload_n 1, 1) := by decide +kernel
theorem dX2_bestExchange_13 : decode cX2_bestExchange 13 = .ok (.invokevirtual 35, 3) := by decide +kernel
theorem dX2_bestExchange_16 : decode cX2_bestExchange 16 = .ok (.istore_n 2, 1) := by decide +kernel
theorem dX2_bestExchange_17 : decode cX2_bestExchange 17 = .ok (.iconst (-1), 1) := by decide +kernel
theorem dX2_bestExchange_18 : decode cX2_bestExchange 18 = .ok (.istore_n 3, 1) := by decide +kernel
theorem dX2_bestExchange_19 : decode cX2_bestExchange 19 = .ok (.aload_n 0, 1) := by decide +kernel
theorem dX2_bestExchange_20 : decode cX2_bestExchange 20 = .ok (.aload_n 1, 1) := by decide +kernel
theorem dX2_bestExchange_21 : decode cX2_bestExchange 21 = .ok (.invokevirtual 39, 3) := by decide +kernel
theorem dX2_bestExchange_24 : decode cX2_bestExchange 24 = .ok (.iconst 0, 1) := by decide +kernel
theorem dX2_bestExchange_25 : decode cX2_bestExchange 25 = .ok (.istore 4, 2) := by decide +kernel
theorem dX2_bestExchange_27 : decode cX2_bestExchange 27 = .ok (.iload 4, 2) := by decide +kernel
theorem dX2_bestExchange_29 : decode cX2_bestExchange 29 = .ok (.aload_n 1, 1) := by decide +kernel
theorem dX2_bestExchange_30 : decode cX2_bestExchange 30 = .ok (.getfield 42, 3) := by decide +kernel
theorem dX2_bestExchange_33 : decode cX2_bestExchange 33 = .ok (.if_icmp .ge 59, 3) := by decide +kernel
theorem dX2_bestExchange_36 : decode cX2_bestExchange 36 = .ok (.iload 4, 2) := by decide +kernel
theorem dX2_bestExchange_38 : decode cX2_bestExchange 38 = .ok (.iconst 1, 1) := by decide +kernel
theorem dX2_bestExchange_39 : decode cX2_bestExchange 39 = .ok (.iadd, 1) := by decide +kernel
theorem dX2_bestExchange_40 : decode cX2_bestExchange 40 = .ok (.istore 5, 2) := by decide +kernel
theorem dX2_bestExchange_42 : decode cX2_bestExchange 42 = .ok (.iload 5, 2) := by decide +kernel
theorem dX2_bestExchange_44 : decode cX2_bestExchange 44 = .ok (.aload_n 1, 1) := by decide +kernel
theorem dX2_bestExchange_45 : decode cX2_bestExchange 45 = .ok (.getfield 42, 3) := by decide +kernel
theorem dX2_bestExchange_48 : decode cX2_bestExchange 48 = .ok (.if_icmp .ge 38, 3) := by decide +kernel
theorem dX2_bestExchange_51 : decode cX2_bestExchange 51 = .ok (.aload_n 0, 1) := by decide +kernel
theorem dX2_bestExchange_52 : decode cX2_bestExchange 52 = .ok (.aload_n 1, 1) := by decide +kernel
theorem dX2_bestExchange_53 : decode cX2_bestExchange 53 = .ok (.iload 4, 2) := by decide +kernel
theorem dX2_bestExchange_55 : decode cX2_bestExchange 55 = .ok (.iload 5, 2) := by decide +kernel
theorem dX2_bestExchange_57 : decode cX2_bestExchange 57 = .ok (.invokevirtual 48, 3) := by decide +kernel
theorem dX2_bestExchange_60 : decode cX2_bestExchange 60 = .ok (.istore 6, 2) := by decide +kernel
theorem dX2_bestExchange_62 : decode cX2_bestExchange 62 = .ok (.iload 6, 2) := by decide +kernel
theorem dX2_bestExchange_64 : decode cX2_bestExchange 64 = .ok (.iload_n 2, 1) := by decide +kernel
theorem dX2_bestExchange_65 : decode cX2_bestExchange 65 = .ok (.if_icmp .le 15, 3) := by decide +kernel
theorem dX2_bestExchange_68 : decode cX2_bestExchange 68 = .ok (.iload 6, 2) := by decide +kernel
theorem dX2_bestExchange_70 : decode cX2_bestExchange 70 = .ok (.istore_n 2, 1) := by decide +kernel
theorem dX2_bestExchange_71 : decode cX2_bestExchange 71 = .ok (.bipush 10, 2) := by decide +kernel
theorem dX2_bestExchange_73 : decode cX2_bestExchange 73 = .ok (.iload 4, 2) := by decide +kernel
theorem dX2_bestExchange_75 : decode cX2_bestExchange 75 = .ok (.imul, 1) := by decide +kernel
theorem dX2_bestExchange_76 : decode cX2_bestExchange 76 = .ok (.iload 5, 2) := by decide +kernel
theorem dX2_bestExchange_78 : decode cX2_bestExchange 78 = .ok (.iadd, 1) := by decide +kernel
theorem dX2_bestExchange_79 : decode cX2_bestExchange 79 = .ok (.istore_n 3, 1) := by decide +kernel
theorem dX2_bestExchange_80 : decode cX2_bestExchange 80 = .ok (.iinc 5 1, 3) := by decide +kernel
theorem dX2_bestExchange_83 : decode cX2_bestExchange 83 = .ok (.goto (-41), 3) := by decide +kernel
theorem dX2_bestExchange_86 : decode cX2_bestExchange 86 = .ok (.iinc 4 1, 3) := by decide +kernel
theorem dX2_bestExchange_89 : decode cX2_bestExchange 89 = .ok (.goto (-62), 3) := by decide +kernel
theorem dX2_bestExchange_92 : decode cX2_bestExchange 92 = .ok (.iload_n 3, 1) := by decide +kernel
theorem dX2_bestExchange_93 : decode cX2_bestExchange 93 = .ok (.ireturn, 1) := by decide +kernel
theorem dX2_levelIfSwapped_0 : decode cX2_levelIfSwapped 0 = .ok (.aload_n 1, 1) := by decide +kernel
theorem dX2_levelIfSwapped_1 : decode cX2_levelIfSwapped 1 = .ok (.getfield 52, 3) := by decide +kernel
theorem dX2_levelIfSwapped_4 : decode cX2_levelIfSwapped 4 = .ok (.iload_n 2, 1) := by decide +kernel
theorem dX2_levelIfSwapped_5 : decode cX2_levelIfSwapped 5 = .ok (.baload, 1) := by decide +kernel
theorem dX2_levelIfSwapped_6 : decode cX2_levelIfSwapped 6 = .ok (.ifCond .ne 12, 3) := by decide +kernel
theorem dX2_levelIfSwapped_9 : decode cX2_levelIfSwapped 9 = .ok (.aload_n 1, 1) := by decide +kernel
theorem dX2_levelIfSwapped_10 : decode cX2_levelIfSwapped 10 = .ok (.getfield 52, 3) := by decide +kernel
theorem dX2_levelIfSwapped_13 : decode cX2_levelIfSwapped 13 = .ok (.iload_n 3, 1) := by decide +kernel
theorem dX2_levelIfSwapped_14 : decode cX2_levelIfSwapped 14 = .ok (.baload, 1) := by decide +kernel
theorem dX2_levelIfSwapped_15 : decode cX2_levelIfSwapped 15 = .ok (.ifCond .eq 5, 3) := by decide +kernel
theorem dX2_levelIfSwapped_18 : decode cX2_levelIfSwapped 18 = .ok (.iconst (-1), 1) := by decide +kernel
theorem dX2_levelIfSwapped_19 : decode cX2_levelIfSwapped 19 = .ok (.ireturn, 1) := by decide +kernel
theorem dX2_levelIfSwapped_20 : decode cX2_levelIfSwapped 20 = .ok (.aload_n 0, 1) := by decide +kernel
theorem dX2_levelIfSwapped_21 : decode cX2_levelIfSwapped 21 = .ok (.getfield 22, 3) := by decide +kernel
theorem dX2_levelIfSwapped_24 : decode cX2_levelIfSwapped 24 = .ok (.iload_n 2, 1) := by decide +kernel
theorem dX2_levelIfSwapped_25 : decode cX2_levelIfSwapped 25 = .ok (.iload_n 3, 1) := by decide +kernel
theorem dX2_levelIfSwapped_26 : decode cX2_levelIfSwapped 26 = .ok (.invokestatic 56, 3) := by decide +kernel
theorem dX2_levelIfSwapped_29 : decode cX2_levelIfSwapped 29 = .ok (.aload_n 0, 1) := by decide +kernel
theorem dX2_levelIfSwapped_30 : decode cX2_levelIfSwapped 30 = .ok (.getfield 18, 3) := by decide +kernel
theorem dX2_levelIfSwapped_33 : decode cX2_levelIfSwapped 33 = .ok (.aload_n 1, 1) := by decide +kernel
theorem dX2_levelIfSwapped_34 : decode cX2_levelIfSwapped 34 = .ok (.aload_n 0, 1) := by decide +kernel
theorem dX2_levelIfSwapped_35 : decode cX2_levelIfSwapped 35 = .ok (.getfield 22, 3) := by decide +kernel
theorem dX2_levelIfSwapped_38 : decode cX2_levelIfSwapped 38 = .ok (.invokevirtual 60, 3) := by decide +kernel
theorem dX2_levelIfSwapped_41 : decode cX2_levelIfSwapped 41 = .ok (.aload_n 0, 1) := by decide +kernel
theorem dX2_levelIfSwapped_42 : decode cX2_levelIfSwapped 42 = .ok (.getfield 22, 3) := by decide +kernel
theorem dX2_levelIfSwapped_45 : decode cX2_levelIfSwapped 45 = .ok (.iload_n 2, 1) := by decide +kernel
theorem dX2_levelIfSwapped_46 : decode cX2_levelIfSwapped 46 = .ok (.iload_n 3, 1) := by decide +kernel
theorem dX2_levelIfSwapped_47 : decode cX2_levelIfSwapped 47 = .ok (.invokestatic 56, 3) := by decide +kernel
theorem dX2_levelIfSwapped_50 : decode cX2_levelIfSwapped 50 = .ok (.aload_n 0, 1) := by decide +kernel
theorem dX2_levelIfSwapped_51 : decode cX2_levelIfSwapped 51 = .ok (.getfield 18, 3) := by decide +kernel
theorem dX2_levelIfSwapped_54 : decode cX2_levelIfSwapped 54 = .ok (.aload_n 1, 1) := by decide +kernel
theorem dX2_levelIfSwapped_55 : decode cX2_levelIfSwapped 55 = .ok (.invokevirtual 35, 3) := by decide +kernel
theorem dX2_levelIfSwapped_58 : decode cX2_levelIfSwapped 58 = .ok (.ireturn, 1) := by decide +kernel
theorem dX2_findBestLaying_0 : decode cX2_findBestLaying 0 = .ok (.aload_n 0, 1) := by decide +kernel
theorem dX2_findBestLaying_1 : decode cX2_findBestLaying 1 = .ok (.aload_n 1, 1) := by decide +kernel
theorem dX2_findBestLaying_2 : decode cX2_findBestLaying 2 = .ok (.invokevirtual 64, 3) := by decide +kernel
theorem dX2_findBestLaying_5 : decode cX2_findBestLaying 5 = .ok (.aload_n 0, 1) := by decide +kernel
theorem dX2_findBestLaying_6 : decode cX2_findBestLaying 6 = .ok (.iconst (-1), 1) := by decide +kernel
theorem dX2_findBestLaying_7 : decode cX2_findBestLaying 7 = .ok (.putfield 67, 3) := by decide +kernel
theorem dX2_findBestLaying_10 : decode cX2_findBestLaying 10 = .ok (.iconst 0, 1) := by decide +kernel
theorem dX2_findBestLaying_11 : decode cX2_findBestLaying 11 = .ok (.istore_n 2, 1) := by decide +kernel
theorem dX2_findBestLaying_12 : decode cX2_findBestLaying 12 = .ok (.iload_n 2, 1) := by decide +kernel
theorem dX2_findBestLaying_13 : decode cX2_findBestLaying 13 = .ok (.aload_n 0, 1) := by decide +kernel
theorem dX2_findBestLaying_14 : decode cX2_findBestLaying 14 = .ok (.getfield 70, 3) := by decide +kernel
theorem dX2_findBestLaying_17 : decode cX2_findBestLaying 17 = .ok (.if_icmp .ge 49, 3) := by decide +kernel
theorem dX2_findBestLaying_20 : decode cX2_findBestLaying 20 = .ok (.aload_n 0, 1) := by decide +kernel
theorem dX2_findBestLaying_21 : decode cX2_findBestLaying 21 = .ok (.invokevirtual 73, 3) := by decide +kernel
theorem dX2_findBestLaying_24 : decode cX2_findBestLaying 24 = .ok (.aload_n 0, 1) := by decide +kernel
theorem dX2_findBestLaying_25 : decode cX2_findBestLaying 25 = .ok (.getfield 18, 3) := by decide +kernel
theorem dX2_findBestLaying_28 : decode cX2_findBestLaying 28 = .ok (.aload_n 1, 1) := by decide +kernel
theorem dX2_findBestLaying_29 : decode cX2_findBestLaying 29 = .ok (.aload_n 0, 1) := by decide +kernel
theorem dX2_findBestLaying_30 : decode cX2_findBestLaying 30 = .ok (.getfield 22, 3) := by decide +kernel
theorem dX2_findBestLaying_33 : decode cX2_findBestLaying 33 = .ok (.invokevirtual 60, 3) := by decide +kernel
theorem dX2_findBestLaying_36 : decode cX2_findBestLaying 36 = .ok (.aload_n 0, 1) := by decide +kernel
theorem dX2_findBestLaying_37 : decode cX2_findBestLaying 37 = .ok (.aload_n 0, 1) := by decide +kernel
theorem dX2_findBestLaying_38 : decode cX2_findBestLaying 38 = .ok (.getfield 18, 3) := by decide +kernel
theorem dX2_findBestLaying_41 : decode cX2_findBestLaying 41 = .ok (.aload_n 1, 1) := by decide +kernel
theorem dX2_findBestLaying_42 : decode cX2_findBestLaying 42 = .ok (.invokevirtual 35, 3) := by decide +kernel
theorem dX2_findBestLaying_45 : decode cX2_findBestLaying 45 = .ok (.aload_n 0, 1) := by decide +kernel
theorem dX2_findBestLaying_46 : decode cX2_findBestLaying 46 = .ok (.getfield 18, 3) := by decide +kernel
theorem dX2_findBestLaying_49 : decode cX2_findBestLaying 49 = .ok (.aload_n 1, 1) := by decide +kernel
theorem dX2_findBestLaying_50 : decode cX2_findBestLaying 50 = .ok (.invokevirtual 76, 3) := by decide +kernel
theorem dX2_findBestLaying_53 : decode cX2_findBestLaying 53 = .ok (.invokevirtual 79, 3) := by decide +kernel
theorem dX2_findBestLaying_56 : decode cX2_findBestLaying 56 = .ok (.aload_n 0, 1) := by decide +kernel
theorem dX2_findBestLaying_57 : decode cX2_findBestLaying 57 = .ok (.invokevirtual 83, 3) := by decide +kernel
theorem dX2_findBestLaying_60 : decode cX2_findBestLaying 60 = .ok (.iinc 2 1, 3) := by decide +kernel
theorem dX2_findBestLaying_63 : decode cX2_findBestLaying 63 = .ok (.goto (-51), 3) := by decide +kernel
theorem dX2_findBestLaying_66 : decode cX2_findBestLaying 66 = .ok (.return_, 1) := by decide +kernel
theorem dX2_keepIfBetter_0 : decode cX2_keepIfBetter 0 = .ok (.iload_n 1, 1) := by decide +kernel
theorem dX2_keepIfBetter_1 : decode cX2_keepIfBetter 1 = .ok (.aload_n 0, 1) := by decide +kernel
theorem dX2_keepIfBetter_2 : decode cX2_keepIfBetter 2 = .ok (.getfield 67, 3) := by decide +kernel
theorem dX2_keepIfBetter_5 : decode cX2_keepIfBetter 5 = .ok (.if_icmp .lt 19, 3) := by decide +kernel
theorem dX2_keepIfBetter_8 : decode cX2_keepIfBetter 8 = .ok (.iload_n 1, 1) := by decide +kernel
theorem dX2_keepIfBetter_9 : decode cX2_keepIfBetter 9 = .ok (.aload_n 0, 1) := by decide +kernel
theorem dX2_keepIfBetter_10 : decode cX2_keepIfBetter 10 = .ok (.getfield 67, 3) := by decide +kernel
theorem dX2_keepIfBetter_13 : decode cX2_keepIfBetter 13 = .ok (.if_icmp .ne 12, 3) := by decide +kernel
theorem dX2_keepIfBetter_16 : decode cX2_keepIfBetter 16 = .ok (.iload_n 2, 1) := by decide +kernel
theorem dX2_keepIfBetter_17 : decode cX2_keepIfBetter 17 = .ok (.aload_n 0, 1) := by decide +kernel
theorem dX2_keepIfBetter_18 : decode cX2_keepIfBetter 18 = .ok (.getfield 86, 3) := by decide +kernel
theorem dX2_keepIfBetter_21 : decode cX2_keepIfBetter 21 = .ok (.if_icmp .lt 4, 3) := by decide +kernel
theorem dX2_keepIfBetter_24 : decode cX2_keepIfBetter 24 = .ok (.return_, 1) := by decide +kernel
theorem dX2_keepIfBetter_25 : decode cX2_keepIfBetter 25 = .ok (.aload_n 0, 1) := by decide +kernel
theorem dX2_keepIfBetter_26 : decode cX2_keepIfBetter 26 = .ok (.iload_n 1, 1) := by decide +kernel
theorem dX2_keepIfBetter_27 : decode cX2_keepIfBetter 27 = .ok (.putfield 67, 3) := by decide +kernel
theorem dX2_keepIfBetter_30 : decode cX2_keepIfBetter 30 = .ok (.aload_n 0, 1) := by decide +kernel
theorem dX2_keepIfBetter_31 : decode cX2_keepIfBetter 31 = .ok (.iload_n 2, 1) := by decide +kernel
theorem dX2_keepIfBetter_32 : decode cX2_keepIfBetter 32 = .ok (.putfield 86, 3) := by decide +kernel
theorem dX2_keepIfBetter_35 : decode cX2_keepIfBetter 35 = .ok (.iconst 0, 1) := by decide +kernel
theorem dX2_keepIfBetter_36 : decode cX2_keepIfBetter 36 = .ok (.istore_n 3, 1) := by decide +kernel
theorem dX2_keepIfBetter_37 : decode cX2_keepIfBetter 37 = .ok (.iload_n 3, 1) := by decide +kernel
theorem dX2_keepIfBetter_38 : decode cX2_keepIfBetter 38 = .ok (.bipush 6, 2) := by decide +kernel
theorem dX2_keepIfBetter_40 : decode cX2_keepIfBetter 40 = .ok (.if_icmp .ge 16, 3) := by decide +kernel
theorem dX2_keepIfBetter_43 : decode cX2_keepIfBetter 43 = .ok (.aload_n 0, 1) := by decide +kernel
theorem dX2_keepIfBetter_44 : decode cX2_keepIfBetter 44 = .ok (.getfield 9, 3) := by decide +kernel
theorem dX2_keepIfBetter_47 : decode cX2_keepIfBetter 47 = .ok (.iload_n 3, 1) := by decide +kernel
theorem dX2_keepIfBetter_48 : decode cX2_keepIfBetter 48 = .ok (.iconst (-1), 1) := by decide +kernel
theorem dX2_keepIfBetter_49 : decode cX2_keepIfBetter 49 = .ok (.iastore, 1) := by decide +kernel
theorem dX2_keepIfBetter_50 : decode cX2_keepIfBetter 50 = .ok (.iinc 3 1, 3) := by decide +kernel
theorem dX2_keepIfBetter_53 : decode cX2_keepIfBetter 53 = .ok (.goto (-16), 3) := by decide +kernel
theorem dX2_keepIfBetter_56 : decode cX2_keepIfBetter 56 = .ok (.iconst 0, 1) := by decide +kernel
theorem dX2_keepIfBetter_57 : decode cX2_keepIfBetter 57 = .ok (.istore_n 3, 1) := by decide +kernel
theorem dX2_keepIfBetter_58 : decode cX2_keepIfBetter 58 = .ok (.iload_n 3, 1) := by decide +kernel
theorem dX2_keepIfBetter_59 : decode cX2_keepIfBetter 59 = .ok (.aload_n 0, 1) := by decide +kernel
theorem dX2_keepIfBetter_60 : decode cX2_keepIfBetter 60 = .ok (.getfield 89, 3) := by decide +kernel
theorem dX2_keepIfBetter_63 : decode cX2_keepIfBetter 63 = .ok (.if_icmp .ge 26, 3) := by decide +kernel
theorem dX2_keepIfBetter_66 : decode cX2_keepIfBetter 66 = .ok (.aload_n 0, 1) := by decide +kernel
theorem dX2_keepIfBetter_67 : decode cX2_keepIfBetter 67 = .ok (.getfield 9, 3) := by decide +kernel
theorem dX2_keepIfBetter_70 : decode cX2_keepIfBetter 70 = .ok (.aload_n 0, 1) := by decide +kernel
theorem dX2_keepIfBetter_71 : decode cX2_keepIfBetter 71 = .ok (.getfield 25, 3) := by decide +kernel
theorem dX2_keepIfBetter_74 : decode cX2_keepIfBetter 74 = .ok (.iload_n 3, 1) := by decide +kernel
theorem dX2_keepIfBetter_75 : decode cX2_keepIfBetter 75 = .ok (.iaload, 1) := by decide +kernel
theorem dX2_keepIfBetter_76 : decode cX2_keepIfBetter 76 = .ok (.aload_n 0, 1) := by decide +kernel
theorem dX2_keepIfBetter_77 : decode cX2_keepIfBetter 77 = .ok (.getfield 28, 3) := by decide +kernel
theorem dX2_keepIfBetter_80 : decode cX2_keepIfBetter 80 = .ok (.iload_n 3, 1) := by decide +kernel
theorem dX2_keepIfBetter_81 : decode cX2_keepIfBetter 81 = .ok (.iaload, 1) := by decide +kernel
theorem dX2_keepIfBetter_82 : decode cX2_keepIfBetter 82 = .ok (.iastore, 1) := by decide +kernel
theorem dX2_keepIfBetter_83 : decode cX2_keepIfBetter 83 = .ok (.iinc 3 1, 3) := by decide +kernel
theorem dX2_keepIfBetter_86 : decode cX2_keepIfBetter 86 = .ok (.goto (-28), 3) := by decide +kernel
theorem dX2_keepIfBetter_89 : decode cX2_keepIfBetter 89 = .ok (.return_, 1) := by decide +kernel
theorem dX2_findOdds_0 : decode cX2_findOdds 0 = .ok (.aload_n 0, 1) := by decide +kernel
theorem dX2_findOdds_1 : decode cX2_findOdds 1 = .ok (.aload_n 1, 1) := by decide +kernel
theorem dX2_findOdds_2 : decode cX2_findOdds 2 = .ok (.invokevirtual 64, 3) := by decide +kernel
theorem dX2_findOdds_5 : decode cX2_findOdds 5 = .ok (.iconst 0, 1) := by decide +kernel
theorem dX2_findOdds_6 : decode cX2_findOdds 6 = .ok (.istore_n 2, 1) := by decide +kernel
theorem dX2_findOdds_7 : decode cX2_findOdds 7 = .ok (.iconst 0, 1) := by decide +kernel
theorem dX2_findOdds_8 : decode cX2_findOdds 8 = .ok (.istore_n 3, 1) := by decide +kernel
theorem dX2_findOdds_9 : decode cX2_findOdds 9 = .ok (.iload_n 3, 1) := by decide +kernel
theorem dX2_findOdds_10 : decode cX2_findOdds 10 = .ok (.aload_n 0, 1) := by decide +kernel
theorem dX2_findOdds_11 : decode cX2_findOdds 11 = .ok (.getfield 70, 3) := by decide +kernel
theorem dX2_findOdds_14 : decode cX2_findOdds 14 = .ok (.if_icmp .ge 40, 3) := by decide +kernel
theorem dX2_findOdds_17 : decode cX2_findOdds 17 = .ok (.aload_n 0, 1) := by decide +kernel
theorem dX2_findOdds_18 : decode cX2_findOdds 18 = .ok (.invokevirtual 73, 3) := by decide +kernel
theorem dX2_findOdds_21 : decode cX2_findOdds 21 = .ok (.iload_n 2, 1) := by decide +kernel
theorem dX2_findOdds_22 : decode cX2_findOdds 22 = .ok (.aload_n 0, 1) := by decide +kernel
theorem dX2_findOdds_23 : decode cX2_findOdds 23 = .ok (.getfield 18, 3) := by decide +kernel
theorem dX2_findOdds_26 : decode cX2_findOdds 26 = .ok (.aload_n 1, 1) := by decide +kernel
theorem dX2_findOdds_27 : decode cX2_findOdds 27 = .ok (.aload_n 0, 1) := by decide +kernel
theorem dX2_findOdds_28 : decode cX2_findOdds 28 = .ok (.getfield 22, 3) := by decide +kernel
theorem dX2_findOdds_31 : decode cX2_findOdds 31 = .ok (.invokevirtual 92, 3) := by decide +kernel
theorem dX2_findOdds_34 : decode cX2_findOdds 34 = .ok (.ifCond .eq 7, 3) := by decide +kernel
theorem dX2_findOdds_37 : decode cX2_findOdds 37 = .ok (.iconst 1, 1) := by decide +kernel
theorem dX2_findOdds_38 : decode cX2_findOdds 38 = .ok (.goto 4, 3) := by decide +kernel
theorem dX2_findOdds_41 : decode cX2_findOdds 41 = .ok (.iconst 0, 1) := by decide +kernel
theorem dX2_findOdds_42 : decode cX2_findOdds 42 = .ok (.iadd, 1) := by decide +kernel
theorem dX2_findOdds_43 : decode cX2_findOdds 43 = .ok (.istore_n 2, 1) := by decide +kernel
theorem dX2_findOdds_44 : decode cX2_findOdds 44 = .ok (.aload_n 0, 1) := by decide +kernel
theorem dX2_findOdds_45 : decode cX2_findOdds 45 = .ok (.invokevirtual 83, 3) := by decide +kernel
theorem dX2_findOdds_48 : decode cX2_findOdds 48 = .ok (.iinc 3 1, 3) := by decide +kernel
theorem dX2_findOdds_51 : decode cX2_findOdds 51 = .ok (.goto (-42), 3) := by decide +kernel
theorem dX2_findOdds_54 : decode cX2_findOdds 54 = .ok (.iload_n 2, 1) := by decide +kernel
theorem dX2_findOdds_55 : decode cX2_findOdds 55 = .ok (.aload_n 0, 1) := by decide +kernel
theorem dX2_findOdds_56 : decode cX2_findOdds 56 = .ok (.getfield 70, 3) := by decide +kernel
theorem dX2_findOdds_59 : decode cX2_findOdds 59 = .ok (.invokestatic 96, 3) := by decide +kernel
theorem dX2_findOdds_62 : decode cX2_findOdds 62 = .ok (.istore_n 3, 1) := by decide +kernel
theorem dX2_findOdds_63 : decode cX2_findOdds 63 = .ok (.aload_n 0, 1) := by decide +kernel
theorem dX2_findOdds_64 : decode cX2_findOdds 64 = .ok (.iload_n 2, 1) := by decide +kernel
theorem dX2_findOdds_65 : decode cX2_findOdds 65 = .ok (.iload_n 3, 1) := by decide +kernel
theorem dX2_findOdds_66 : decode cX2_findOdds 66 = .ok (.idiv, 1) := by decide +kernel
theorem dX2_findOdds_67 : decode cX2_findOdds 67 = .ok (.putfield 100, 3) := by decide +kernel
theorem dX2_findOdds_70 : decode cX2_findOdds 70 = .ok (.aload_n 0, 1) := by decide +kernel
theorem dX2_findOdds_71 : decode cX2_findOdds 71 = .ok (.aload_n 0, 1) := by decide +kernel
theorem dX2_findOdds_72 : decode cX2_findOdds 72 = .ok (.getfield 70, 3) := by decide +kernel
theorem dX2_findOdds_75 : decode cX2_findOdds 75 = .ok (.iload_n 3, 1) := by decide +kernel
theorem dX2_findOdds_76 : decode cX2_findOdds 76 = .ok (.idiv, 1) := by decide +kernel
theorem dX2_findOdds_77 : decode cX2_findOdds 77 = .ok (.putfield 103, 3) := by decide +kernel
theorem dX2_findOdds_80 : decode cX2_findOdds 80 = .ok (.return_, 1) := by decide +kernel
theorem dX2_beginOrders_0 : decode cX2_beginOrders 0 = .ok (.aload_n 0, 1) := by decide +kernel
theorem dX2_beginOrders_1 : decode cX2_beginOrders 1 = .ok (.getfield 18, 3) := by decide +kernel
theorem dX2_beginOrders_4 : decode cX2_beginOrders 4 = .ok (.aload_n 1, 1) := by decide +kernel
theorem dX2_beginOrders_5 : decode cX2_beginOrders 5 = .ok (.aload_n 1, 1) := by decide +kernel
theorem dX2_beginOrders_6 : decode cX2_beginOrders 6 = .ok (.getfield 106, 3) := by decide +kernel
theorem dX2_beginOrders_9 : decode cX2_beginOrders 9 = .ok (.invokevirtual 109, 3) := by decide +kernel
theorem dX2_beginOrders_12 : decode cX2_beginOrders 12 = .ok (.aload_n 0, 1) := by decide +kernel
theorem dX2_beginOrders_13 : decode cX2_beginOrders 13 = .ok (.aload_n 1, 1) := by decide +kernel
theorem dX2_beginOrders_14 : decode cX2_beginOrders 14 = .ok (.invokevirtual 39, 3) := by decide +kernel
theorem dX2_beginOrders_17 : decode cX2_beginOrders 17 = .ok (.aload_n 0, 1) := by decide +kernel
theorem dX2_beginOrders_18 : decode cX2_beginOrders 18 = .ok (.iconst 0, 1) := by decide +kernel
theorem dX2_beginOrders_19 : decode cX2_beginOrders 19 = .ok (.putfield 89, 3) := by decide +kernel
theorem dX2_beginOrders_22 : decode cX2_beginOrders 22 = .ok (.aload_n 0, 1) := by decide +kernel
theorem dX2_beginOrders_23 : decode cX2_beginOrders 23 = .ok (.iconst 1, 1) := by decide +kernel
theorem dX2_beginOrders_24 : decode cX2_beginOrders 24 = .ok (.putfield 70, 3) := by decide +kernel
theorem dX2_beginOrders_27 : decode cX2_beginOrders 27 = .ok (.iconst 0, 1) := by decide +kernel
theorem dX2_beginOrders_28 : decode cX2_beginOrders 28 = .ok (.istore_n 2, 1) := by decide +kernel
theorem dX2_beginOrders_29 : decode cX2_beginOrders 29 = .ok (.iload_n 2, 1) := by decide +kernel
theorem dX2_beginOrders_30 : decode cX2_beginOrders 30 = .ok (.aload_n 1, 1) := by decide +kernel
theorem dX2_beginOrders_31 : decode cX2_beginOrders 31 = .ok (.getfield 42, 3) := by decide +kernel
theorem dX2_beginOrders_34 : decode cX2_beginOrders 34 = .ok (.if_icmp .ge 56, 3) := by decide +kernel
theorem dX2_beginOrders_37 : decode cX2_beginOrders 37 = .ok (.aload_n 1, 1) := by decide +kernel
theorem dX2_beginOrders_38 : decode cX2_beginOrders 38 = .ok (.getfield 52, 3) := by decide +kernel
theorem dX2_beginOrders_41 : decode cX2_beginOrders 41 = .ok (.aload_n 0, 1) := by decide +kernel
theorem dX2_beginOrders_42 : decode cX2_beginOrders 42 = .ok (.getfield 22, 3) := by decide +kernel
theorem dX2_beginOrders_45 : decode cX2_beginOrders 45 = .ok (.iload_n 2, 1) := by decide +kernel
theorem dX2_beginOrders_46 : decode cX2_beginOrders 46 = .ok (.iaload, 1) := by decide +kernel
theorem dX2_beginOrders_47 : decode cX2_beginOrders 47 = .ok (.baload, 1) := by decide +kernel
theorem dX2_beginOrders_48 : decode cX2_beginOrders 48 = .ok (.ifCond .ne 36, 3) := by decide +kernel
theorem dX2_beginOrders_51 : decode cX2_beginOrders 51 = .ok (.aload_n 0, 1) := by decide +kernel
theorem dX2_beginOrders_52 : decode cX2_beginOrders 52 = .ok (.getfield 25, 3) := by decide +kernel
theorem dX2_beginOrders_55 : decode cX2_beginOrders 55 = .ok (.aload_n 0, 1) := by decide +kernel
theorem dX2_beginOrders_56 : decode cX2_beginOrders 56 = .ok (.getfield 89, 3) := by decide +kernel
theorem dX2_beginOrders_59 : decode cX2_beginOrders 59 = .ok (.iload_n 2, 1) := by decide +kernel
theorem dX2_beginOrders_60 : decode cX2_beginOrders 60 = .ok (.iastore, 1) := by decide +kernel
theorem dX2_beginOrders_61 : decode cX2_beginOrders 61 = .ok (.aload_n 0, 1) := by decide +kernel
theorem dX2_beginOrders_62 : decode cX2_beginOrders 62 = .ok (.dup, 1) := by decide +kernel
theorem dX2_beginOrders_63 : decode cX2_beginOrders 63 = .ok (.getfield 89, 3) := by decide +kernel
theorem dX2_beginOrders_66 : decode cX2_beginOrders 66 = .ok (.iconst 1, 1) := by decide +kernel
theorem dX2_beginOrders_67 : decode cX2_beginOrders 67 = .ok (.iadd, 1) := by decide +kernel
theorem dX2_beginOrders_68 : decode cX2_beginOrders 68 = .ok (.putfield 89, 3) := by decide +kernel
theorem dX2_beginOrders_71 : decode cX2_beginOrders 71 = .ok (.aload_n 0, 1) := by decide +kernel
theorem dX2_beginOrders_72 : decode cX2_beginOrders 72 = .ok (.dup, 1) := by decide +kernel
theorem dX2_beginOrders_73 : decode cX2_beginOrders 73 = .ok (.getfield 70, 3) := by decide +kernel
theorem dX2_beginOrders_76 : decode cX2_beginOrders 76 = .ok (.aload_n 0, 1) := by decide +kernel
theorem dX2_beginOrders_77 : decode cX2_beginOrders 77 = .ok (.getfield 89, 3) := by decide +kernel
theorem dX2_beginOrders_80 : decode cX2_beginOrders 80 = .ok (.imul, 1) := by decide +kernel
theorem dX2_beginOrders_81 : decode cX2_beginOrders 81 = .ok (.putfield 70, 3) := by decide +kernel
theorem dX2_beginOrders_84 : decode cX2_beginOrders 84 = .ok (.iinc 2 1, 3) := by decide +kernel
theorem dX2_beginOrders_87 : decode cX2_beginOrders 87 = .ok (.goto (-58), 3) := by decide +kernel
theorem dX2_beginOrders_90 : decode cX2_beginOrders 90 = .ok (.iconst 0, 1) := by decide +kernel
theorem dX2_beginOrders_91 : decode cX2_beginOrders 91 = .ok (.istore_n 2, 1) := by decide +kernel
theorem dX2_beginOrders_92 : decode cX2_beginOrders 92 = .ok (.iconst 0, 1) := by decide +kernel
theorem dX2_beginOrders_93 : decode cX2_beginOrders 93 = .ok (.istore_n 3, 1) := by decide +kernel
theorem dX2_beginOrders_94 : decode cX2_beginOrders 94 = .ok (.iload_n 3, 1) := by decide +kernel
theorem dX2_beginOrders_95 : decode cX2_beginOrders 95 = .ok (.aload_n 1, 1) := by decide +kernel
theorem dX2_beginOrders_96 : decode cX2_beginOrders 96 = .ok (.getfield 42, 3) := by decide +kernel
theorem dX2_beginOrders_99 : decode cX2_beginOrders 99 = .ok (.if_icmp .ge 36, 3) := by decide +kernel
theorem dX2_beginOrders_102 : decode cX2_beginOrders 102 = .ok (.iload_n 2, 1) := by decide +kernel
theorem dX2_beginOrders_103 : decode cX2_beginOrders 103 = .ok (.aload_n 0, 1) := by decide +kernel
theorem dX2_beginOrders_104 : decode cX2_beginOrders 104 = .ok (.getfield 89, 3) := by decide +kernel
theorem dX2_beginOrders_107 : decode cX2_beginOrders 107 = .ok (.if_icmp .ge 28, 3) := by decide +kernel
theorem dX2_beginOrders_110 : decode cX2_beginOrders 110 = .ok (.aload_n 1, 1) := by decide +kernel
theorem dX2_beginOrders_111 : decode cX2_beginOrders 111 = .ok (.getfield 52, 3) := by decide +kernel
theorem dX2_beginOrders_114 : decode cX2_beginOrders 114 = .ok (.iload_n 3, 1) := by decide +kernel
theorem dX2_beginOrders_115 : decode cX2_beginOrders 115 = .ok (.baload, 1) := by decide +kernel
theorem dX2_beginOrders_116 : decode cX2_beginOrders 116 = .ok (.ifCond .ne 13, 3) := by decide +kernel
theorem dX2_beginOrders_119 : decode cX2_beginOrders 119 = .ok (.aload_n 0, 1) := by decide +kernel
theorem dX2_beginOrders_120 : decode cX2_beginOrders 120 = .ok (.getfield 28, 3) := by decide +kernel
theorem dX2_beginOrders_123 : decode cX2_beginOrders 123 = .ok (.iload_n 2, 1) := by decide +kernel
theorem dX2_beginOrders_124 : decode cX2_beginOrders 124 = .ok (.iload_n 3, 1) := by decide +kernel
theorem dX2_beginOrders_125 : decode cX2_beginOrders 125 = .ok (.iastore, 1) := by decide +kernel
theorem dX2_beginOrders_126 : decode cX2_beginOrders 126 = .ok (.iinc 2 1, 3) := by decide +kernel
theorem dX2_beginOrders_129 : decode cX2_beginOrders 129 = .ok (.iinc 3 1, 3) := by decide +kernel
theorem dX2_beginOrders_132 : decode cX2_beginOrders 132 = .ok (.goto (-38), 3) := by decide +kernel
theorem dX2_beginOrders_135 : decode cX2_beginOrders 135 = .ok (.return_, 1) := by decide +kernel
theorem dX2_copyLaid_0 : decode cX2_copyLaid 0 = .ok (.iconst 0, 1) := by decide +kernel
theorem dX2_copyLaid_1 : decode cX2_copyLaid 1 = .ok (.istore_n 2, 1) := by decide +kernel
theorem dX2_copyLaid_2 : decode cX2_copyLaid 2 = .ok (.iload_n 2, 1) := by decide +kernel
theorem dX2_copyLaid_3 : decode cX2_copyLaid 3 = .ok (.bipush 6, 2) := by decide +kernel
theorem dX2_copyLaid_5 : decode cX2_copyLaid 5 = .ok (.if_icmp .ge 21, 3) := by decide +kernel
theorem dX2_copyLaid_8 : decode cX2_copyLaid 8 = .ok (.aload_n 0, 1) := by decide +kernel
theorem dX2_copyLaid_9 : decode cX2_copyLaid 9 = .ok (.getfield 22, 3) := by decide +kernel
theorem dX2_copyLaid_12 : decode cX2_copyLaid 12 = .ok (.iload_n 2, 1) := by decide +kernel
theorem dX2_copyLaid_13 : decode cX2_copyLaid 13 = .ok (.aload_n 1, 1) := by decide +kernel
theorem dX2_copyLaid_14 : decode cX2_copyLaid 14 = .ok (.getfield 113, 3) := by decide +kernel
theorem dX2_copyLaid_17 : decode cX2_copyLaid 17 = .ok (.iload_n 2, 1) := by decide +kernel
theorem dX2_copyLaid_18 : decode cX2_copyLaid 18 = .ok (.iaload, 1) := by decide +kernel
theorem dX2_copyLaid_19 : decode cX2_copyLaid 19 = .ok (.iastore, 1) := by decide +kernel
theorem dX2_copyLaid_20 : decode cX2_copyLaid 20 = .ok (.iinc 2 1, 3) := by decide +kernel
theorem dX2_copyLaid_23 : decode cX2_copyLaid 23 = .ok (.goto (-21), 3) := by decide +kernel
theorem dX2_copyLaid_26 : decode cX2_copyLaid 26 = .ok (.return_, 1) := by decide +kernel
theorem dX2_layInOrder_0 : decode cX2_layInOrder 0 = .ok (.iconst 0, 1) := by decide +kernel
theorem dX2_layInOrder_1 : decode cX2_layInOrder 1 = .ok (.istore_n 1, 1) := by decide +kernel
theorem dX2_layInOrder_2 : decode cX2_layInOrder 2 = .ok (.iload_n 1, 1) := by decide +kernel
theorem dX2_layInOrder_3 : decode cX2_layInOrder 3 = .ok (.aload_n 0, 1) := by decide +kernel
theorem dX2_layInOrder_4 : decode cX2_layInOrder 4 = .ok (.getfield 89, 3) := by decide +kernel
theorem dX2_layInOrder_7 : decode cX2_layInOrder 7 = .ok (.if_icmp .ge 26, 3) := by decide +kernel
theorem dX2_layInOrder_10 : decode cX2_layInOrder 10 = .ok (.aload_n 0, 1) := by decide +kernel
theorem dX2_layInOrder_11 : decode cX2_layInOrder 11 = .ok (.getfield 22, 3) := by decide +kernel
theorem dX2_layInOrder_14 : decode cX2_layInOrder 14 = .ok (.aload_n 0, 1) := by decide +kernel
theorem dX2_layInOrder_15 : decode cX2_layInOrder 15 = .ok (.getfield 25, 3) := by decide +kernel
theorem dX2_layInOrder_18 : decode cX2_layInOrder 18 = .ok (.iload_n 1, 1) := by decide +kernel
theorem dX2_layInOrder_19 : decode cX2_layInOrder 19 = .ok (.iaload, 1) := by decide +kernel
theorem dX2_layInOrder_20 : decode cX2_layInOrder 20 = .ok (.aload_n 0, 1) := by decide +kernel
theorem dX2_layInOrder_21 : decode cX2_layInOrder 21 = .ok (.getfield 28, 3) := by decide +kernel
theorem dX2_layInOrder_24 : decode cX2_layInOrder 24 = .ok (.iload_n 1, 1) := by decide +kernel
theorem dX2_layInOrder_25 : decode cX2_layInOrder 25 = .ok (.iaload, 1) := by decide +kernel
theorem dX2_layInOrder_26 : decode cX2_layInOrder 26 = .ok (.iastore, 1) := by decide +kernel
theorem dX2_layInOrder_27 : decode cX2_layInOrder 27 = .ok (.iinc 1 1, 3) := by decide +kernel
theorem dX2_layInOrder_30 : decode cX2_layInOrder 30 = .ok (.goto (-28), 3) := by decide +kernel
theorem dX2_layInOrder_33 : decode cX2_layInOrder 33 = .ok (.return_, 1) := by decide +kernel
theorem dX2_nextOrder_0 : decode cX2_nextOrder 0 = .ok (.aload_n 0, 1) := by decide +kernel
theorem dX2_nextOrder_1 : decode cX2_nextOrder 1 = .ok (.getfield 89, 3) := by decide +kernel
theorem dX2_nextOrder_4 : decode cX2_nextOrder 4 = .ok (.iconst 2, 1) := by decide +kernel
theorem dX2_nextOrder_5 : decode cX2_nextOrder 5 = .ok (.isub, 1) := by decide +kernel
theorem dX2_nextOrder_6 : decode cX2_nextOrder 6 = .ok (.istore_n 1, 1) := by decide +kernel
theorem dX2_nextOrder_7 : decode cX2_nextOrder 7 = .ok (.iload_n 1, 1) := by decide +kernel
theorem dX2_nextOrder_8 : decode cX2_nextOrder 8 = .ok (.ifCond .lt 26, 3) := by decide +kernel
theorem dX2_nextOrder_11 : decode cX2_nextOrder 11 = .ok (.aload_n 0, 1) := by decide +kernel
theorem dX2_nextOrder_12 : decode cX2_nextOrder 12 = .ok (.getfield 28, 3) := by decide +kernel
theorem dX2_nextOrder_15 : decode cX2_nextOrder 15 = .ok (.iload_n 1, 1) := by decide +kernel
theorem dX2_nextOrder_16 : decode cX2_nextOrder 16 = .ok (.iaload, 1) := by decide +kernel
theorem dX2_nextOrder_17 : decode cX2_nextOrder 17 = .ok (.aload_n 0, 1) := by decide +kernel
theorem dX2_nextOrder_18 : decode cX2_nextOrder 18 = .ok (.getfield 28, 3) := by decide +kernel
theorem dX2_nextOrder_21 : decode cX2_nextOrder 21 = .ok (.iload_n 1, 1) := by decide +kernel
theorem dX2_nextOrder_22 : decode cX2_nextOrder 22 = .ok (.iconst 1, 1) := by decide +kernel
theorem dX2_nextOrder_23 : decode cX2_nextOrder 23 = .ok (.iadd, 1) := by decide +kernel
theorem dX2_nextOrder_24 : decode cX2_nextOrder 24 = .ok (.iaload, 1) := by decide +kernel
theorem dX2_nextOrder_25 : decode cX2_nextOrder 25 = .ok (.if_icmp .le 9, 3) := by decide +kernel
theorem dX2_nextOrder_28 : decode cX2_nextOrder 28 = .ok (.iinc 1 (-1), 3) := by decide +kernel
theorem dX2_nextOrder_31 : decode cX2_nextOrder 31 = .ok (.goto (-24), 3) := by decide +kernel
theorem dX2_nextOrder_34 : decode cX2_nextOrder 34 = .ok (.iload_n 1, 1) := by decide +kernel
theorem dX2_nextOrder_35 : decode cX2_nextOrder 35 = .ok (.ifCond .ge 4, 3) := by decide +kernel
theorem dX2_nextOrder_38 : decode cX2_nextOrder 38 = .ok (.return_, 1) := by decide +kernel
theorem dX2_nextOrder_39 : decode cX2_nextOrder 39 = .ok (.aload_n 0, 1) := by decide +kernel
theorem dX2_nextOrder_40 : decode cX2_nextOrder 40 = .ok (.getfield 89, 3) := by decide +kernel
theorem dX2_nextOrder_43 : decode cX2_nextOrder 43 = .ok (.iconst 1, 1) := by decide +kernel
theorem dX2_nextOrder_44 : decode cX2_nextOrder 44 = .ok (.isub, 1) := by decide +kernel
theorem dX2_nextOrder_45 : decode cX2_nextOrder 45 = .ok (.istore_n 2, 1) := by decide +kernel
theorem dX2_nextOrder_46 : decode cX2_nextOrder 46 = .ok (.iload_n 2, 1) := by decide +kernel
theorem dX2_nextOrder_47 : decode cX2_nextOrder 47 = .ok (.iload_n 1, 1) := by decide +kernel
theorem dX2_nextOrder_48 : decode cX2_nextOrder 48 = .ok (.if_icmp .le 24, 3) := by decide +kernel
theorem dX2_nextOrder_51 : decode cX2_nextOrder 51 = .ok (.aload_n 0, 1) := by decide +kernel
theorem dX2_nextOrder_52 : decode cX2_nextOrder 52 = .ok (.getfield 28, 3) := by decide +kernel
theorem dX2_nextOrder_55 : decode cX2_nextOrder 55 = .ok (.iload_n 2, 1) := by decide +kernel
theorem dX2_nextOrder_56 : decode cX2_nextOrder 56 = .ok (.iaload, 1) := by decide +kernel
theorem dX2_nextOrder_57 : decode cX2_nextOrder 57 = .ok (.aload_n 0, 1) := by decide +kernel
theorem dX2_nextOrder_58 : decode cX2_nextOrder 58 = .ok (.getfield 28, 3) := by decide +kernel
theorem dX2_nextOrder_61 : decode cX2_nextOrder 61 = .ok (.iload_n 1, 1) := by decide +kernel
theorem dX2_nextOrder_62 : decode cX2_nextOrder 62 = .ok (.iaload, 1) := by decide +kernel
theorem dX2_nextOrder_63 : decode cX2_nextOrder 63 = .ok (.if_icmp .ge 9, 3) := by decide +kernel
theorem dX2_nextOrder_66 : decode cX2_nextOrder 66 = .ok (.iinc 2 (-1), 3) := by decide +kernel
theorem dX2_nextOrder_69 : decode cX2_nextOrder 69 = .ok (.goto (-23), 3) := by decide +kernel
theorem dX2_nextOrder_72 : decode cX2_nextOrder 72 = .ok (.aload_n 0, 1) := by decide +kernel
theorem dX2_nextOrder_73 : decode cX2_nextOrder 73 = .ok (.iload_n 1, 1) := by decide +kernel
theorem dX2_nextOrder_74 : decode cX2_nextOrder 74 = .ok (.iload_n 2, 1) := by decide +kernel
theorem dX2_nextOrder_75 : decode cX2_nextOrder 75 = .ok (.invokevirtual 114, 3) := by decide +kernel
theorem dX2_nextOrder_78 : decode cX2_nextOrder 78 = .ok (.aload_n 0, 1) := by decide +kernel
theorem dX2_nextOrder_79 : decode cX2_nextOrder 79 = .ok (.getfield 89, 3) := by decide +kernel
theorem dX2_nextOrder_82 : decode cX2_nextOrder 82 = .ok (.iconst 1, 1) := by decide +kernel
theorem dX2_nextOrder_83 : decode cX2_nextOrder 83 = .ok (.isub, 1) := by decide +kernel
theorem dX2_nextOrder_84 : decode cX2_nextOrder 84 = .ok (.istore_n 3, 1) := by decide +kernel
theorem dX2_nextOrder_85 : decode cX2_nextOrder 85 = .ok (.iload_n 1, 1) := by decide +kernel
theorem dX2_nextOrder_86 : decode cX2_nextOrder 86 = .ok (.iconst 1, 1) := by decide +kernel
theorem dX2_nextOrder_87 : decode cX2_nextOrder 87 = .ok (.iadd, 1) := by decide +kernel
theorem dX2_nextOrder_88 : decode cX2_nextOrder 88 = .ok (.istore 4, 2) := by decide +kernel
theorem dX2_nextOrder_90 : decode cX2_nextOrder 90 = .ok (.iload 4, 2) := by decide +kernel
theorem dX2_nextOrder_92 : decode cX2_nextOrder 92 = .ok (.iload_n 3, 1) := by decide +kernel
theorem dX2_nextOrder_93 : decode cX2_nextOrder 93 = .ok (.if_icmp .ge 19, 3) := by decide +kernel
theorem dX2_nextOrder_96 : decode cX2_nextOrder 96 = .ok (.aload_n 0, 1) := by decide +kernel
theorem dX2_nextOrder_97 : decode cX2_nextOrder 97 = .ok (.iload 4, 2) := by decide +kernel
theorem dX2_nextOrder_99 : decode cX2_nextOrder 99 = .ok (.iload_n 3, 1) := by decide +kernel
theorem dX2_nextOrder_100 : decode cX2_nextOrder 100 = .ok (.invokevirtual 114, 3) := by decide +kernel
theorem dX2_nextOrder_103 : decode cX2_nextOrder 103 = .ok (.iinc 3 (-1), 3) := by decide +kernel
theorem dX2_nextOrder_106 : decode cX2_nextOrder 106 = .ok (.iinc 4 1, 3) := by decide +kernel
theorem dX2_nextOrder_109 : decode cX2_nextOrder 109 = .ok (.goto (-19), 3) := by decide +kernel
theorem dX2_nextOrder_112 : decode cX2_nextOrder 112 = .ok (.return_, 1) := by decide +kernel
theorem dX2_swapAt_0 : decode cX2_swapAt 0 = .ok (.aload_n 0, 1) := by decide +kernel
theorem dX2_swapAt_1 : decode cX2_swapAt 1 = .ok (.getfield 28, 3) := by decide +kernel
theorem dX2_swapAt_4 : decode cX2_swapAt 4 = .ok (.iload_n 1, 1) := by decide +kernel
theorem dX2_swapAt_5 : decode cX2_swapAt 5 = .ok (.iaload, 1) := by decide +kernel
theorem dX2_swapAt_6 : decode cX2_swapAt 6 = .ok (.istore_n 3, 1) := by decide +kernel
theorem dX2_swapAt_7 : decode cX2_swapAt 7 = .ok (.aload_n 0, 1) := by decide +kernel
theorem dX2_swapAt_8 : decode cX2_swapAt 8 = .ok (.getfield 28, 3) := by decide +kernel
theorem dX2_swapAt_11 : decode cX2_swapAt 11 = .ok (.iload_n 1, 1) := by decide +kernel
theorem dX2_swapAt_12 : decode cX2_swapAt 12 = .ok (.aload_n 0, 1) := by decide +kernel
theorem dX2_swapAt_13 : decode cX2_swapAt 13 = .ok (.getfield 28, 3) := by decide +kernel
theorem dX2_swapAt_16 : decode cX2_swapAt 16 = .ok (.iload_n 2, 1) := by decide +kernel
theorem dX2_swapAt_17 : decode cX2_swapAt 17 = .ok (.iaload, 1) := by decide +kernel
theorem dX2_swapAt_18 : decode cX2_swapAt 18 = .ok (.iastore, 1) := by decide +kernel
theorem dX2_swapAt_19 : decode cX2_swapAt 19 = .ok (.aload_n 0, 1) := by decide +kernel
theorem dX2_swapAt_20 : decode cX2_swapAt 20 = .ok (.getfield 28, 3) := by decide +kernel
theorem dX2_swapAt_23 : decode cX2_swapAt 23 = .ok (.iload_n 2, 1) := by decide +kernel
theorem dX2_swapAt_24 : decode cX2_swapAt 24 = .ok (.iload_n 3, 1) := by decide +kernel
theorem dX2_swapAt_25 : decode cX2_swapAt 25 = .ok (.iastore, 1) := by decide +kernel
theorem dX2_swapAt_26 : decode cX2_swapAt 26 = .ok (.return_, 1) := by decide +kernel
theorem dX2_greatestDivisor_0 : decode cX2_greatestDivisor 0 = .ok (.iload_n 1, 1) := by decide +kernel
theorem dX2_greatestDivisor_1 : decode cX2_greatestDivisor 1 = .ok (.istore_n 2, 1) := by decide +kernel
theorem dX2_greatestDivisor_2 : decode cX2_greatestDivisor 2 = .ok (.iload_n 2, 1) := by decide +kernel
theorem dX2_greatestDivisor_3 : decode cX2_greatestDivisor 3 = .ok (.iconst 1, 1) := by decide +kernel
theorem dX2_greatestDivisor_4 : decode cX2_greatestDivisor 4 = .ok (.if_icmp .le 23, 3) := by decide +kernel
theorem dX2_greatestDivisor_7 : decode cX2_greatestDivisor 7 = .ok (.iload_n 0, 1) := by decide +kernel
theorem dX2_greatestDivisor_8 : decode cX2_greatestDivisor 8 = .ok (.iload_n 2, 1) := by decide +kernel
theorem dX2_greatestDivisor_9 : decode cX2_greatestDivisor 9 = .ok (.irem, 1) := by decide +kernel
theorem dX2_greatestDivisor_10 : decode cX2_greatestDivisor 10 = .ok (.ifCond .ne 11, 3) := by decide +kernel
theorem dX2_greatestDivisor_13 : decode cX2_greatestDivisor 13 = .ok (.iload_n 1, 1) := by decide +kernel
theorem dX2_greatestDivisor_14 : decode cX2_greatestDivisor 14 = .ok (.iload_n 2, 1) := by decide +kernel
theorem dX2_greatestDivisor_15 : decode cX2_greatestDivisor 15 = .ok (.irem, 1) := by decide +kernel
theorem dX2_greatestDivisor_16 : decode cX2_greatestDivisor 16 = .ok (.ifCond .ne 5, 3) := by decide +kernel
theorem dX2_greatestDivisor_19 : decode cX2_greatestDivisor 19 = .ok (.iload_n 2, 1) := by decide +kernel
theorem dX2_greatestDivisor_20 : decode cX2_greatestDivisor 20 = .ok (.ireturn, 1) := by decide +kernel
theorem dX2_greatestDivisor_21 : decode cX2_greatestDivisor 21 = .ok (.iinc 2 (-1), 3) := by decide +kernel
theorem dX2_greatestDivisor_24 : decode cX2_greatestDivisor 24 = .ok (.goto (-22), 3) := by decide +kernel
theorem dX2_greatestDivisor_27 : decode cX2_greatestDivisor 27 = .ok (.iconst 1, 1) := by decide +kernel
theorem dX2_greatestDivisor_28 : decode cX2_greatestDivisor 28 = .ok (.ireturn, 1) := by decide +kernel
theorem dX3_init_0 : decode cX3_init 0 = .ok (.aload_n 0, 1) := by decide +kernel
theorem dX3_init_1 : decode cX3_init 1 = .ok (.invokespecial 3, 3) := by decide +kernel
theorem dX3_init_4 : decode cX3_init 4 = .ok (.aload_n 0, 1) := by decide +kernel
theorem dX3_init_5 : decode cX3_init 5 = .ok (.bipush 10, 2) := by decide +kernel
theorem dX3_init_7 : decode cX3_init 7 = .ok (.newarray .int, 2) := by decide +kernel
theorem dX3_init_9 : decode cX3_init 9 = .ok (.putfield 9, 3) := by decide +kernel
theorem dX3_init_12 : decode cX3_init 12 = .ok (.aload_n 0, 1) := by decide +kernel
theorem dX3_init_13 : decode cX3_init 13 = .ok (.bipush 10, 2) := by decide +kernel
theorem dX3_init_15 : decode cX3_init 15 = .ok (.newarray .int, 2) := by decide +kernel
theorem dX3_init_17 : decode cX3_init 17 = .ok (.putfield 15, 3) := by decide +kernel
theorem dX3_init_20 : decode cX3_init 20 = .ok (.aload_n 0, 1) := by decide +kernel
theorem dX3_init_21 : decode cX3_init 21 = .ok (.bipush 6, 2) := by decide +kernel
theorem dX3_init_23 : decode cX3_init 23 = .ok (.newarray .int, 2) := by decide +kernel
theorem dX3_init_25 : decode cX3_init 25 = .ok (.putfield 18, 3) := by decide +kernel
theorem dX3_init_28 : decode cX3_init 28 = .ok (.aload_n 0, 1) := by decide +kernel
theorem dX3_init_29 : decode cX3_init 29 = .ok (.bipush 6, 2) := by decide +kernel
theorem dX3_init_31 : decode cX3_init 31 = .ok (.newarray .int, 2) := by decide +kernel
theorem dX3_init_33 : decode cX3_init 33 = .ok (.putfield 21, 3) := by decide +kernel
theorem dX3_init_36 : decode cX3_init 36 = .ok (.aload_n 0, 1) := by decide +kernel
theorem dX3_init_37 : decode cX3_init 37 = .ok (.bipush 6, 2) := by decide +kernel
theorem dX3_init_39 : decode cX3_init 39 = .ok (.newarray .int, 2) := by decide +kernel
theorem dX3_init_41 : decode cX3_init 41 = .ok (.putfield 24, 3) := by decide +kernel
theorem dX3_init_44 : decode cX3_init 44 = .ok (.aload_n 0, 1) := by decide +kernel
theorem dX3_init_45 : decode cX3_init 45 = .ok (.bipush 6, 2) := by decide +kernel
theorem dX3_init_47 : decode cX3_init 47 = .ok (.newarray .boolean, 2) := by decide +kernel
theorem dX3_init_49 : decode cX3_init 49 = .ok (.putfield 27, 3) := by decide +kernel
theorem dX3_init_52 : decode cX3_init 52 = .ok (.aload_n 0, 1) := by decide +kernel
theorem dX3_init_53 : decode cX3_init 53 = .ok (.iconst 5, 1) := by decide +kernel
theorem dX3_init_54 : decode cX3_init 54 = .ok (.newarray .boolean, 2) := by decide +kernel
theorem dX3_init_56 : decode cX3_init 56 = .ok (.putfield 31, 3) := by decide +kernel
theorem dX3_init_59 : decode cX3_init 59 = .ok (.aload_n 0, 1) := by decide +kernel
theorem dX3_init_60 : decode cX3_init 60 = .ok (.new 34, 3) := by decide +kernel
theorem dX3_init_63 : decode cX3_init 63 = .ok (.dup, 1) := by decide +kernel
theorem dX3_init_64 : decode cX3_init 64 = .ok (.invokespecial 36, 3) := by decide +kernel
theorem dX3_init_67 : decode cX3_init 67 = .ok (.putfield 37, 3) := by decide +kernel
theorem dX3_init_70 : decode cX3_init 70 = .ok (.return_, 1) := by decide +kernel
theorem dX3_hangAsRead_0 : decode cX3_hangAsRead 0 = .ok (.aload_n 0, 1) := by decide +kernel
theorem dX3_hangAsRead_1 : decode cX3_hangAsRead 1 = .ok (.aload_n 1, 1) := by decide +kernel
theorem dX3_hangAsRead_2 : decode cX3_hangAsRead 2 = .ok (.getfield 41, 3) := by decide +kernel
theorem dX3_hangAsRead_5 : decode cX3_hangAsRead 5 = .ok (.iconst 1, 1) := by decide +kernel
theorem dX3_hangAsRead_6 : decode cX3_hangAsRead 6 = .ok (.iadd, 1) := by decide +kernel
theorem dX3_hangAsRead_7 : decode cX3_hangAsRead 7 = .ok (.putfield 47, 3) := by decide +kernel
theorem dX3_hangAsRead_10 : decode cX3_hangAsRead 10 = .ok (.aload_n 0, 1) := by decide +kernel
theorem dX3_hangAsRead_11 : decode cX3_hangAsRead 11 = .ok (.aload_n 1, 1) := by decide +kernel
theorem dX3_hangAsRead_12 : decode cX3_hangAsRead 12 = .ok (.getfield 50, 3) := by decide +kernel
theorem dX3_hangAsRead_15 : decode cX3_hangAsRead 15 = .ok (.putfield 53, 3) := by decide +kernel
theorem dX3_hangAsRead_18 : decode cX3_hangAsRead 18 = .ok (.aload_n 0, 1) := by decide +kernel
theorem dX3_hangAsRead_19 : decode cX3_hangAsRead 19 = .ok (.iconst 0, 1) := by decide +kernel
theorem dX3_hangAsRead_20 : decode cX3_hangAsRead 20 = .ok (.putfield 56, 3) := by decide +kernel
theorem dX3_hangAsRead_23 : decode cX3_hangAsRead 23 = .ok (.iconst 0, 1) := by decide +kernel
theorem dX3_hangAsRead_24 : decode cX3_hangAsRead 24 = .ok (.istore_n 2, 1) := by decide +kernel
theorem dX3_hangAsRead_25 : decode cX3_hangAsRead 25 = .ok (.iload_n 2, 1) := by decide +kernel
theorem dX3_hangAsRead_26 : decode cX3_hangAsRead 26 = .ok (.bipush 10, 2) := by decide +kernel
theorem dX3_hangAsRead_28 : decode cX3_hangAsRead 28 = .ok (.if_icmp .ge 33, 3) := by decide +kernel
theorem dX3_hangAsRead_31 : decode cX3_hangAsRead 31 = .ok (.aload_n 0, 1) := by decide +kernel
theorem dX3_hangAsRead_32 : decode cX3_hangAsRead 32 = .ok (.getfield 9, 3) := by decide +kernel
theorem dX3_hangAsRead_35 : decode cX3_hangAsRead 35 = .ok (.iload_n 2, 1) := by decide +kernel
theorem dX3_hangAsRead_36 : decode cX3_hangAsRead 36 = .ok (.aload_n 1, 1) := by decide +kernel
theorem dX3_hangAsRead_37 : decode cX3_hangAsRead 37 = .ok (.getfield 59, 3) := by decide +kernel
theorem dX3_hangAsRead_40 : decode cX3_hangAsRead 40 = .ok (.iload_n 2, 1) := by decide +kernel
theorem dX3_hangAsRead_41 : decode cX3_hangAsRead 41 = .ok (.iaload, 1) := by decide +kernel
theorem dX3_hangAsRead_42 : decode cX3_hangAsRead 42 = .ok (.iastore, 1) := by decide +kernel
theorem dX3_hangAsRead_43 : decode cX3_hangAsRead 43 = .ok (.aload_n 0, 1) := by decide +kernel
theorem dX3_hangAsRead_44 : decode cX3_hangAsRead 44 = .ok (.getfield 15, 3) := by decide +kernel
theorem dX3_hangAsRead_47 : decode cX3_hangAsRead 47 = .ok (.iload_n 2, 1) := by decide +kernel
theorem dX3_hangAsRead_48 : decode cX3_hangAsRead 48 = .ok (.aload_n 1, 1) := by decide +kernel
theorem dX3_hangAsRead_49 : decode cX3_hangAsRead 49 = .ok (.getfield 60, 3) := by decide +kernel
theorem dX3_hangAsRead_52 : decode cX3_hangAsRead 52 = .ok (.iload_n 2, 1) := by decide +kernel
theorem dX3_hangAsRead_53 : decode cX3_hangAsRead 53 = .ok (.iaload, 1) := by decide +kernel
theorem dX3_hangAsRead_54 : decode cX3_hangAsRead 54 = .ok (.iastore, 1) := by decide +kernel
theorem dX3_hangAsRead_55 : decode cX3_hangAsRead 55 = .ok (.iinc 2 1, 3) := by decide +kernel
theorem dX3_hangAsRead_58 : decode cX3_hangAsRead 58 = .ok (.goto (-33), 3) := by decide +kernel
theorem dX3_hangAsRead_61 : decode cX3_hangAsRead 61 = .ok (.iconst 0, 1) := by decide +kernel
theorem dX3_hangAsRead_62 : decode cX3_hangAsRead 62 = .ok (.istore_n 2, 1) := by decide +kernel
theorem dX3_hangAsRead_63 : decode cX3_hangAsRead 63 = .ok (.iload_n 2, 1) := by decide +kernel
theorem dX3_hangAsRead_64 : decode cX3_hangAsRead 64 = .ok (.bipush 6, 2) := by decide +kernel
theorem dX3_hangAsRead_66 : decode cX3_hangAsRead 66 = .ok (.if_icmp .ge 40, 3) := by decide +kernel
theorem dX3_hangAsRead_69 : decode cX3_hangAsRead 69 = .ok (.aload_n 0, 1) := by decide +kernel
theorem dX3_hangAsRead_70 : decode cX3_hangAsRead 70 = .ok (.getfield 18, 3) := by decide +kernel
theorem dX3_hangAsRead_73 : decode cX3_hangAsRead 73 = .ok (.iload_n 2, 1) := by decide +kernel
theorem dX3_hangAsRead_74 : decode cX3_hangAsRead 74 = .ok (.iload_n 2, 1) := by decide +kernel
theorem dX3_hangAsRead_75 : decode cX3_hangAsRead 75 = .ok (.iastore, 1) := by decide +kernel
theorem dX3_hangAsRead_76 : decode cX3_hangAsRead 76 = .ok (.aload_n 0, 1) := by decide +kernel
theorem dX3_hangAsRead_77 : decode cX3_hangAsRead 77 = .ok (.getfield 21, 3) := by decide +kernel
theorem dX3_hangAsRead_80 : decode cX3_hangAsRead 80 = .ok (.iload_n 2, 1) := by decide +kernel
theorem dX3_hangAsRead_81 : decode cX3_hangAsRead 81 = .ok (.aload_n 1, 1) := by decide +kernel
theorem dX3_hangAsRead_82 : decode cX3_hangAsRead 82 = .ok (.getfield 61, 3) := by decide +kernel
theorem dX3_hangAsRead_85 : decode cX3_hangAsRead 85 = .ok (.iload_n 2, 1) := by decide +kernel
theorem dX3_hangAsRead_86 : decode cX3_hangAsRead 86 = .ok (.iaload, 1) := by decide +kernel
theorem dX3_hangAsRead_87 : decode cX3_hangAsRead 87 = .ok (.iastore, 1) := by decide +kernel
theorem dX3_hangAsRead_88 : decode cX3_hangAsRead 88 = .ok (.aload_n 0, 1) := by decide +kernel
theorem dX3_hangAsRead_89 : decode cX3_hangAsRead 89 = .ok (.getfield 24, 3) := by decide +kernel
theorem dX3_hangAsRead_92 : decode cX3_hangAsRead 92 = .ok (.iload_n 2, 1) := by decide +kernel
theorem dX3_hangAsRead_93 : decode cX3_hangAsRead 93 = .ok (.aload_n 1, 1) := by decide +kernel
theorem dX3_hangAsRead_94 : decode cX3_hangAsRead 94 = .ok (.getfield 62, 3) := by decide +kernel
theorem dX3_hangAsRead_97 : decode cX3_hangAsRead 97 = .ok (.iload_n 2, 1) := by decide +kernel
theorem dX3_hangAsRead_98 : decode cX3_hangAsRead 98 = .ok (.iaload, 1) := by decide +kernel
theorem dX3_hangAsRead_99 : decode cX3_hangAsRead 99 = .ok (.iastore, 1) := by decide +kernel
theorem dX3_hangAsRead_100 : decode cX3_hangAsRead 100 = .ok (.iinc 2 1, 3) := by decide +kernel
theorem dX3_hangAsRead_103 : decode cX3_hangAsRead 103 = .ok (.goto (-40), 3) := by decide +kernel
theorem dX3_hangAsRead_106 : decode cX3_hangAsRead 106 = .ok (.aload_n 0, 1) := by decide +kernel
theorem dX3_hangAsRead_107 : decode cX3_hangAsRead 107 = .ok (.invokevirtual 63, 3) := by decide +kernel
theorem dX3_hangAsRead_110 : decode cX3_hangAsRead 110 = .ok (.pop, 1) := by decide +kernel
theorem dX3_hangAsRead_111 : decode cX3_hangAsRead 111 = .ok (.aload_n 0, 1) := by decide +kernel
theorem dX3_hangAsRead_112 : decode cX3_hangAsRead 112 = .ok (.getfield 37, 3) := by decide +kernel
theorem dX3_hangAsRead_115 : decode cX3_hangAsRead 115 = .ok (.iconst 0, 1) := by decide +kernel
theorem dX3_hangAsRead_116 : decode cX3_hangAsRead 116 = .ok (.putfield 67, 3) := by decide +kernel
theorem dX3_hangAsRead_119 : decode cX3_hangAsRead 119 = .ok (.return_, 1) := by decide +kernel
theorem dX3_copyFrom_0 : decode cX3_copyFrom 0 = .ok (.aload_n 0, 1) := by decide +kernel
theorem dX3_copyFrom_1 : decode cX3_copyFrom 1 = .ok (.aload_n 1, 1) := by decide +kernel
theorem dX3_copyFrom_2 : decode cX3_copyFrom 2 = .ok (.getfield 47, 3) := by decide +kernel
theorem dX3_copyFrom_5 : decode cX3_copyFrom 5 = .ok (.putfield 47, 3) := by decide +kernel
theorem dX3_copyFrom_8 : decode cX3_copyFrom 8 = .ok (.aload_n 0, 1) := by decide +kernel
theorem dX3_copyFrom_9 : decode cX3_copyFrom 9 = .ok (.aload_n 1, 1) := by decide +kernel
theorem dX3_copyFrom_10 : decode cX3_copyFrom 10 = .ok (.getfield 53, 3) := by decide +kernel
theorem dX3_copyFrom_13 : decode cX3_copyFrom 13 = .ok (.putfield 53, 3) := by decide +kernel
theorem dX3_copyFrom_16 : decode cX3_copyFrom 16 = .ok (.aload_n 0, 1) := by decide +kernel
theorem dX3_copyFrom_17 : decode cX3_copyFrom 17 = .ok (.aload_n 1, 1) := by decide +kernel
theorem dX3_copyFrom_18 : decode cX3_copyFrom 18 = .ok (.getfield 56, 3) := by decide +kernel
theorem dX3_copyFrom_21 : decode cX3_copyFrom 21 = .ok (.putfield 56, 3) := by decide +kernel
theorem dX3_copyFrom_24 : decode cX3_copyFrom 24 = .ok (.iconst 0, 1) := by decide +kernel
theorem dX3_copyFrom_25 : decode cX3_copyFrom 25 = .ok (.istore_n 2, 1) := by decide +kernel
theorem dX3_copyFrom_26 : decode cX3_copyFrom 26 = .ok (.iload_n 2, 1) := by decide +kernel
theorem dX3_copyFrom_27 : decode cX3_copyFrom 27 = .ok (.bipush 10, 2) := by decide +kernel
theorem dX3_copyFrom_29 : decode cX3_copyFrom 29 = .ok (.if_icmp .ge 33, 3) := by decide +kernel
theorem dX3_copyFrom_32 : decode cX3_copyFrom 32 = .ok (.aload_n 0, 1) := by decide +kernel
theorem dX3_copyFrom_33 : decode cX3_copyFrom 33 = .ok (.getfield 9, 3) := by decide +kernel
theorem dX3_copyFrom_36 : decode cX3_copyFrom 36 = .ok (.iload_n 2, 1) := by decide +kernel
theorem dX3_copyFrom_37 : decode cX3_copyFrom 37 = .ok (.aload_n 1, 1) := by decide +kernel
theorem dX3_copyFrom_38 : decode cX3_copyFrom 38 = .ok (.getfield 9, 3) := by decide +kernel
theorem dX3_copyFrom_41 : decode cX3_copyFrom 41 = .ok (.iload_n 2, 1) := by decide +kernel
theorem dX3_copyFrom_42 : decode cX3_copyFrom 42 = .ok (.iaload, 1) := by decide +kernel
theorem dX3_copyFrom_43 : decode cX3_copyFrom 43 = .ok (.iastore, 1) := by decide +kernel
theorem dX3_copyFrom_44 : decode cX3_copyFrom 44 = .ok (.aload_n 0, 1) := by decide +kernel
theorem dX3_copyFrom_45 : decode cX3_copyFrom 45 = .ok (.getfield 15, 3) := by decide +kernel
theorem dX3_copyFrom_48 : decode cX3_copyFrom 48 = .ok (.iload_n 2, 1) := by decide +kernel
theorem dX3_copyFrom_49 : decode cX3_copyFrom 49 = .ok (.aload_n 1, 1) := by decide +kernel
theorem dX3_copyFrom_50 : decode cX3_copyFrom 50 = .ok (.getfield 15, 3) := by decide +kernel
theorem dX3_copyFrom_53 : decode cX3_copyFrom 53 = .ok (.iload_n 2, 1) := by decide +kernel
theorem dX3_copyFrom_54 : decode cX3_copyFrom 54 = .ok (.iaload, 1) := by decide +kernel
theorem dX3_copyFrom_55 : decode cX3_copyFrom 55 = .ok (.iastore, 1) := by decide +kernel
theorem dX3_copyFrom_56 : decode cX3_copyFrom 56 = .ok (.iinc 2 1, 3) := by decide +kernel
theorem dX3_copyFrom_59 : decode cX3_copyFrom 59 = .ok (.goto (-33), 3) := by decide +kernel
theorem dX3_copyFrom_62 : decode cX3_copyFrom 62 = .ok (.iconst 0, 1) := by decide +kernel
theorem dX3_copyFrom_63 : decode cX3_copyFrom 63 = .ok (.istore_n 2, 1) := by decide +kernel
theorem dX3_copyFrom_64 : decode cX3_copyFrom 64 = .ok (.iload_n 2, 1) := by decide +kernel
theorem dX3_copyFrom_65 : decode cX3_copyFrom 65 = .ok (.bipush 6, 2) := by decide +kernel
theorem dX3_copyFrom_67 : decode cX3_copyFrom 67 = .ok (.if_icmp .ge 57, 3) := by decide +kernel
theorem dX3_copyFrom_70 : decode cX3_copyFrom 70 = .ok (.aload_n 0, 1) := by decide +kernel
theorem dX3_copyFrom_71 : decode cX3_copyFrom 71 = .ok (.getfield 18, 3) := by decide +kernel
theorem dX3_copyFrom_74 : decode cX3_copyFrom 74 = .ok (.iload_n 2, 1) := by decide +kernel
theorem dX3_copyFrom_75 : decode cX3_copyFrom 75 = .ok (.aload_n 1, 1) := by decide +kernel
theorem dX3_copyFrom_76 : decode cX3_copyFrom 76 = .ok (.getfield 18, 3) := by decide +kernel
theorem dX3_copyFrom_79 : decode cX3_copyFrom 79 = .ok (.iload_n 2, 1) := by decide +kernel
theorem dX3_copyFrom_80 : decode cX3_copyFrom 80 = .ok (.iaload, 1) := by decide +kernel
theorem dX3_copyFrom_81 : decode cX3_copyFrom 81 = .ok (.iastore, 1) := by decide +kernel
theorem dX3_copyFrom_82 : decode cX3_copyFrom 82 = .ok (.aload_n 0, 1) := by decide +kernel
theorem dX3_copyFrom_83 : decode cX3_copyFrom 83 = .ok (.getfield 21, 3) := by decide +kernel
theorem dX3_copyFrom_86 : decode cX3_copyFrom 86 = .ok (.iload_n 2, 1) := by decide +kernel
theorem dX3_copyFrom_87 : decode cX3_copyFrom 87 = .ok (.aload_n 1, 1) := by decide +kernel
theorem dX3_copyFrom_88 : decode cX3_copyFrom 88 = .ok (.getfield 21, 3) := by decide +kernel
theorem dX3_copyFrom_91 : decode cX3_copyFrom 91 = .ok (.iload_n 2, 1) := by decide +kernel
theorem dX3_copyFrom_92 : decode cX3_copyFrom 92 = .ok (.iaload, 1) := by decide +kernel
theorem dX3_copyFrom_93 : decode cX3_copyFrom 93 = .ok (.iastore, 1) := by decide +kernel
theorem dX3_copyFrom_94 : decode cX3_copyFrom 94 = .ok (.aload_n 0, 1) := by decide +kernel
theorem dX3_copyFrom_95 : decode cX3_copyFrom 95 = .ok (.getfield 24, 3) := by decide +kernel
theorem dX3_copyFrom_98 : decode cX3_copyFrom 98 = .ok (.iload_n 2, 1) := by decide +kernel
theorem dX3_copyFrom_99 : decode cX3_copyFrom 99 = .ok (.aload_n 1, 1) := by decide +kernel
theorem dX3_copyFrom_100 : decode cX3_copyFrom 100 = .ok (.getfield 24, 3) := by decide +kernel
theorem dX3_copyFrom_103 : decode cX3_copyFrom 103 = .ok (.iload_n 2, 1) := by decide +kernel
theorem dX3_copyFrom_104 : decode cX3_copyFrom 104 = .ok (.iaload, 1) := by decide +kernel
theorem dX3_copyFrom_105 : decode cX3_copyFrom 105 = .ok (.iastore, 1) := by decide +kernel
theorem dX3_copyFrom_106 : decode cX3_copyFrom 106 = .ok (.aload_n 0, 1) := by decide +kernel
theorem dX3_copyFrom_107 : decode cX3_copyFrom 107 = .ok (.getfield 27, 3) := by decide +kernel
theorem dX3_copyFrom_110 : decode cX3_copyFrom 110 = .ok (.iload_n 2, 1) := by decide +kernel
theorem dX3_copyFrom_111 : decode cX3_copyFrom 111 = .ok (.aload_n 1, 1) := by decide +kernel
theorem dX3_copyFrom_112 : decode cX3_copyFrom 112 = .ok (.getfield 27, 3) := by decide +kernel
theorem dX3_copyFrom_115 : decode cX3_copyFrom 115 = .ok (.iload_n 2, 1) := by decide +kernel
theorem dX3_copyFrom_116 : decode cX3_copyFrom 116 = .ok (.baload, 1) := by decide +kernel
theorem dX3_copyFrom_117 : decode cX3_copyFrom 117 = .ok (.bastore, 1) := by decide +kernel
theorem dX3_copyFrom_118 : decode cX3_copyFrom 118 = .ok (.iinc 2 1, 3) := by decide +kernel
theorem dX3_copyFrom_121 : decode cX3_copyFrom 121 = .ok (.goto (-57), 3) := by decide +kernel
theorem dX3_copyFrom_124 : decode cX3_copyFrom 124 = .ok (.iconst 0, 1) := by decide +kernel
theorem dX3_copyFrom_125 : decode cX3_copyFrom 125 = .ok (.istore_n 2, 1) := by decide +kernel
theorem dX3_copyFrom_126 : decode cX3_copyFrom 126 = .ok (.iload_n 2, 1) := by decide +kernel
theorem dX3_copyFrom_127 : decode cX3_copyFrom 127 = .ok (.iconst 5, 1) := by decide +kernel
theorem dX3_copyFrom_128 : decode cX3_copyFrom 128 = .ok (.if_icmp .ge 21, 3) := by decide +kernel
theorem dX3_copyFrom_131 : decode cX3_copyFrom 131 = .ok (.aload_n 0, 1) := by decide +kernel
theorem dX3_copyFrom_132 : decode cX3_copyFrom 132 = .ok (.getfield 31, 3) := by decide +kernel
theorem dX3_copyFrom_135 : decode cX3_copyFrom 135 = .ok (.iload_n 2, 1) := by decide +kernel
theorem dX3_copyFrom_136 : decode cX3_copyFrom 136 = .ok (.aload_n 1, 1) := by decide +kernel
theorem dX3_copyFrom_137 : decode cX3_copyFrom 137 = .ok (.getfield 31, 3) := by decide +kernel
theorem dX3_copyFrom_140 : decode cX3_copyFrom 140 = .ok (.iload_n 2, 1) := by decide +kernel
theorem dX3_copyFrom_141 : decode cX3_copyFrom 141 = .ok (.baload, 1) := by decide +kernel
theorem dX3_copyFrom_142 : decode cX3_copyFrom 142 = .ok (.bastore, 1) := by decide +kernel
theorem dX3_copyFrom_143 : decode cX3_copyFrom 143 = .ok (.iinc 2 1, 3) := by decide +kernel
theorem dX3_copyFrom_146 : decode cX3_copyFrom 146 = .ok (.goto (-20), 3) := by decide +kernel
theorem dX3_copyFrom_149 : decode cX3_copyFrom 149 = .ok (.aload_n 0, 1) := by decide +kernel
theorem dX3_copyFrom_150 : decode cX3_copyFrom 150 = .ok (.getfield 37, 3) := by decide +kernel
theorem dX3_copyFrom_153 : decode cX3_copyFrom 153 = .ok (.aload_n 1, 1) := by decide +kernel
theorem dX3_copyFrom_154 : decode cX3_copyFrom 154 = .ok (.getfield 37, 3) := by decide +kernel
theorem dX3_copyFrom_157 : decode cX3_copyFrom 157 = .ok (.invokevirtual 70, 3) := by decide +kernel
theorem dX3_copyFrom_160 : decode cX3_copyFrom 160 = .ok (.return_, 1) := by decide +kernel
theorem dX3_hangAllAgain_0 : decode cX3_hangAllAgain 0 = .ok (.iconst 0, 1) := by decide +kernel
theorem dX3_hangAllAgain_1 : decode cX3_hangAllAgain 1 = .ok (.istore_n 1, 1) := by decide +kernel
theorem dX3_hangAllAgain_2 : decode cX3_hangAllAgain 2 = .ok (.iconst 0, 1) := by decide +kernel
theorem dX3_hangAllAgain_3 : decode cX3_hangAllAgain 3 = .ok (.istore_n 2, 1) := by decide +kernel
theorem dX3_hangAllAgain_4 : decode cX3_hangAllAgain 4 = .ok (.iload_n 2, 1) := by decide +kernel
theorem dX3_hangAllAgain_5 : decode cX3_hangAllAgain 5 = .ok (.bipush 6, 2) := by decide +kernel
theorem dX3_hangAllAgain_7 : decode cX3_hangAllAgain 7 = .ok (.if_icmp .ge 33, 3) := by decide +kernel
theorem dX3_hangAllAgain_10 : decode cX3_hangAllAgain 10 = .ok (.iload_n 1, 1) := by decide +kernel
theorem dX3_hangAllAgain_11 : decode cX3_hangAllAgain 11 = .ok (.aload_n 0, 1) := by decide +kernel
theorem dX3_hangAllAgain_12 : decode cX3_hangAllAgain 12 = .ok (.getfield 27, 3) := by decide +kernel
theorem dX3_hangAllAgain_15 : decode cX3_hangAllAgain 15 = .ok (.iload_n 2, 1) := by decide +kernel
theorem dX3_hangAllAgain_16 : decode cX3_hangAllAgain 16 = .ok (.baload, 1) := by decide +kernel
theorem dX3_hangAllAgain_17 : decode cX3_hangAllAgain 17 = .ok (.ifCond .eq 7, 3) := by decide +kernel
theorem dX3_hangAllAgain_20 : decode cX3_hangAllAgain 20 = .ok (.iconst 1, 1) := by decide +kernel
theorem dX3_hangAllAgain_21 : decode cX3_hangAllAgain 21 = .ok (.goto 4, 3) := by decide +kernel
theorem dX3_hangAllAgain_24 : decode cX3_hangAllAgain 24 = .ok (.iconst 0, 1) := by decide +kernel
theorem dX3_hangAllAgain_25 : decode cX3_hangAllAgain 25 = .ok (.iadd, 1) := by decide +kernel
theorem dX3_hangAllAgain_26 : decode cX3_hangAllAgain 26 = .ok (.istore_n 1, 1) := by decide +kernel
theorem dX3_hangAllAgain_27 : decode cX3_hangAllAgain 27 = .ok (.aload_n 0, 1) := by decide +kernel
theorem dX3_hangAllAgain_28 : decode cX3_hangAllAgain 28 = .ok (.getfield 27, 3) := by decide +kernel
theorem dX3_hangAllAgain_31 : decode cX3_hangAllAgain 31 = .ok (.iload_n 2, 1) := by decide +kernel
theorem dX3_hangAllAgain_32 : decode cX3_hangAllAgain 32 = .ok (.iconst 0, 1) := by decide +kernel
theorem dX3_hangAllAgain_33 : decode cX3_hangAllAgain 33 = .ok (.bastore, 1) := by decide +kernel
theorem dX3_hangAllAgain_34 : decode cX3_hangAllAgain 34 = .ok (.iinc 2 1, 3) := by decide +kernel
theorem dX3_hangAllAgain_37 : decode cX3_hangAllAgain 37 = .ok (.goto (-33), 3) := by decide +kernel
theorem dX3_hangAllAgain_40 : decode cX3_hangAllAgain 40 = .ok (.iconst 0, 1) := by decide +kernel
theorem dX3_hangAllAgain_41 : decode cX3_hangAllAgain 41 = .ok (.istore_n 2, 1) := by decide +kernel
theorem dX3_hangAllAgain_42 : decode cX3_hangAllAgain 42 = .ok (.iload_n 2, 1) := by decide +kernel
theorem dX3_hangAllAgain_43 : decode cX3_hangAllAgain 43 = .ok (.iconst 5, 1) := by decide +kernel
theorem dX3_hangAllAgain_44 : decode cX3_hangAllAgain 44 = .ok (.if_icmp .ge 33, 3) := by decide +kernel
theorem dX3_hangAllAgain_47 : decode cX3_hangAllAgain 47 = .ok (.iload_n 1, 1) := by decide +kernel
theorem dX3_hangAllAgain_48 : decode cX3_hangAllAgain 48 = .ok (.aload_n 0, 1) := by decide +kernel
theorem dX3_hangAllAgain_49 : decode cX3_hangAllAgain 49 = .ok (.getfield 31, 3) := by decide +kernel
theorem dX3_hangAllAgain_52 : decode cX3_hangAllAgain 52 = .ok (.iload_n 2, 1) := by decide +kernel
theorem dX3_hangAllAgain_53 : decode cX3_hangAllAgain 53 = .ok (.baload, 1) := by decide +kernel
theorem dX3_hangAllAgain_54 : decode cX3_hangAllAgain 54 = .ok (.ifCond .eq 7, 3) := by decide +kernel
theorem dX3_hangAllAgain_57 : decode cX3_hangAllAgain 57 = .ok (.iconst 1, 1) := by decide +kernel
theorem dX3_hangAllAgain_58 : decode cX3_hangAllAgain 58 = .ok (.goto 4, 3) := by decide +kernel
theorem dX3_hangAllAgain_61 : decode cX3_hangAllAgain 61 = .ok (.iconst 0, 1) := by decide +kernel
theorem dX3_hangAllAgain_62 : decode cX3_hangAllAgain 62 = .ok (.iadd, 1) := by decide +kernel
theorem dX3_hangAllAgain_63 : decode cX3_hangAllAgain 63 = .ok (.istore_n 1, 1) := by decide +kernel
theorem dX3_hangAllAgain_64 : decode cX3_hangAllAgain 64 = .ok (.aload_n 0, 1) := by decide +kernel
theorem dX3_hangAllAgain_65 : decode cX3_hangAllAgain 65 = .ok (.getfield 31, 3) := by decide +kernel
theorem dX3_hangAllAgain_68 : decode cX3_hangAllAgain 68 = .ok (.iload_n 2, 1) := by decide +kernel
theorem dX3_hangAllAgain_69 : decode cX3_hangAllAgain 69 = .ok (.iconst 0, 1) := by decide +kernel
theorem dX3_hangAllAgain_70 : decode cX3_hangAllAgain 70 = .ok (.bastore, 1) := by decide +kernel
theorem dX3_hangAllAgain_71 : decode cX3_hangAllAgain 71 = .ok (.iinc 2 1, 3) := by decide +kernel
theorem dX3_hangAllAgain_74 : decode cX3_hangAllAgain 74 = .ok (.goto (-32), 3) := by decide +kernel
theorem dX3_hangAllAgain_77 : decode cX3_hangAllAgain 77 = .ok (.iload_n 1, 1) := by decide +kernel
theorem dX3_hangAllAgain_78 : decode cX3_hangAllAgain 78 = .ok (.ireturn, 1) := by decide +kernel
theorem dX3_hangingFrom_0 : decode cX3_hangingFrom 0 = .ok (.aload_n 0, 1) := by decide +kernel
theorem dX3_hangingFrom_1 : decode cX3_hangingFrom 1 = .ok (.getfield 15, 3) := by decide +kernel
theorem dX3_hangingFrom_4 : decode cX3_hangingFrom 4 = .ok (.iload_n 1, 1) := by decide +kernel
theorem dX3_hangingFrom_5 : decode cX3_hangingFrom 5 = .ok (.iaload, 1) := by decide +kernel
theorem dX3_hangingFrom_6 : decode cX3_hangingFrom 6 = .ok (.istore_n 2, 1) := by decide +kernel
theorem dX3_hangingFrom_7 : decode cX3_hangingFrom 7 = .ok (.iload_n 2, 1) := by decide +kernel
theorem dX3_hangingFrom_8 : decode cX3_hangingFrom 8 = .ok (.bipush 10, 2) := by decide +kernel
theorem dX3_hangingFrom_10 : decode cX3_hangingFrom 10 = .ok (.if_icmp .ge 7, 3) := by decide +kernel
theorem dX3_hangingFrom_13 : decode cX3_hangingFrom 13 = .ok (.iload_n 2, 1) := by decide +kernel
theorem dX3_hangingFrom_14 : decode cX3_hangingFrom 14 = .ok (.goto 15, 3) := by decide +kernel
theorem dX3_hangingFrom_17 : decode cX3_hangingFrom 17 = .ok (.bipush 10, 2) := by decide +kernel
theorem dX3_hangingFrom_19 : decode cX3_hangingFrom 19 = .ok (.aload_n 0, 1) := by decide +kernel
theorem dX3_hangingFrom_20 : decode cX3_hangingFrom 20 = .ok (.getfield 18, 3) := by decide +kernel
theorem dX3_hangingFrom_23 : decode cX3_hangingFrom 23 = .ok (.iload_n 2, 1) := by decide +kernel
theorem dX3_hangingFrom_24 : decode cX3_hangingFrom 24 = .ok (.bipush 10, 2) := by decide +kernel
theorem dX3_hangingFrom_26 : decode cX3_hangingFrom 26 = .ok (.isub, 1) := by decide +kernel
theorem dX3_hangingFrom_27 : decode cX3_hangingFrom 27 = .ok (.iaload, 1) := by decide +kernel
theorem dX3_hangingFrom_28 : decode cX3_hangingFrom 28 = .ok (.iadd, 1) := by decide +kernel
theorem dX3_hangingFrom_29 : decode cX3_hangingFrom 29 = .ok (.ireturn, 1) := by decide +kernel
theorem dX3_armOf_0 : decode cX3_armOf 0 = .ok (.iconst 0, 1) := by decide +kernel
theorem dX3_armOf_1 : decode cX3_armOf 1 = .ok (.istore_n 2, 1) := by decide +kernel
theorem dX3_armOf_2 : decode cX3_armOf 2 = .ok (.iload_n 2, 1) := by decide +kernel
theorem dX3_armOf_3 : decode cX3_armOf 3 = .ok (.iconst 2, 1) := by decide +kernel
theorem dX3_armOf_4 : decode cX3_armOf 4 = .ok (.aload_n 0, 1) := by decide +kernel
theorem dX3_armOf_5 : decode cX3_armOf 5 = .ok (.getfield 47, 3) := by decide +kernel
theorem dX3_armOf_8 : decode cX3_armOf 8 = .ok (.imul, 1) := by decide +kernel
theorem dX3_armOf_9 : decode cX3_armOf 9 = .ok (.if_icmp .ge 23, 3) := by decide +kernel
theorem dX3_armOf_12 : decode cX3_armOf 12 = .ok (.aload_n 0, 1) := by decide +kernel
theorem dX3_armOf_13 : decode cX3_armOf 13 = .ok (.iload_n 2, 1) := by decide +kernel
theorem dX3_armOf_14 : decode cX3_armOf 14 = .ok (.invokevirtual 74, 3) := by decide +kernel
theorem dX3_armOf_17 : decode cX3_armOf 17 = .ok (.bipush 10, 2) := by decide +kernel
theorem dX3_armOf_19 : decode cX3_armOf 19 = .ok (.iload_n 1, 1) := by decide +kernel
theorem dX3_armOf_20 : decode cX3_armOf 20 = .ok (.iadd, 1) := by decide +kernel
theorem dX3_armOf_21 : decode cX3_armOf 21 = .ok (.if_icmp .ne 5, 3) := by decide +kernel
theorem dX3_armOf_24 : decode cX3_armOf 24 = .ok (.iload_n 2, 1) := by decide +kernel
theorem dX3_armOf_25 : decode cX3_armOf 25 = .ok (.ireturn, 1) := by decide +kernel
theorem dX3_armOf_26 : decode cX3_armOf 26 = .ok (.iinc 2 1, 3) := by decide +kernel
theorem dX3_armOf_29 : decode cX3_armOf 29 = .ok (.goto (-27), 3) := by decide +kernel
theorem dX3_armOf_32 : decode cX3_armOf 32 = .ok (.iconst 0, 1) := by decide +kernel
theorem dX3_armOf_33 : decode cX3_armOf 33 = .ok (.ireturn, 1) := by decide +kernel
theorem dX4_init_0 : decode cX4_init 0 = .ok (.aload_n 0, 1) := by decide +kernel
theorem dX4_init_1 : decode cX4_init 1 = .ok (.invokespecial 3, 3) := by decide +kernel
theorem dX4_init_4 : decode cX4_init 4 = .ok (.aload_n 0, 1) := by decide +kernel
theorem dX4_init_5 : decode cX4_init 5 = .ok (.bipush 46, 2) := by decide +kernel
theorem dX4_init_7 : decode cX4_init 7 = .ok (.newarray .int, 2) := by decide +kernel
theorem dX4_init_9 : decode cX4_init 9 = .ok (.putfield 9, 3) := by decide +kernel
theorem dX4_init_12 : decode cX4_init 12 = .ok (.return_, 1) := by decide +kernel
theorem dX5_init_0 : decode cX5_init 0 = .ok (.aload_n 0, 1) := by decide +kernel
theorem dX5_init_1 : decode cX5_init 1 = .ok (.invokespecial 3, 3) := by decide +kernel
theorem dX5_init_4 : decode cX5_init 4 = .ok (.aload_n 0, 1) := by decide +kernel
theorem dX5_init_5 : decode cX5_init 5 = .ok (.bipush 10, 2) := by decide +kernel
theorem dX5_init_7 : decode cX5_init 7 = .ok (.newarray .int, 2) := by decide +kernel
theorem dX5_init_9 : decode cX5_init 9 = .ok (.putfield 9, 3) := by decide +kernel
theorem dX5_init_12 : decode cX5_init 12 = .ok (.aload_n 0, 1) := by decide +kernel
theorem dX5_init_13 : decode cX5_init 13 = .ok (.bipush 10, 2) := by decide +kernel
theorem dX5_init_15 : decode cX5_init 15 = .ok (.newarray .int, 2) := by decide +kernel
theorem dX5_init_17 : decode cX5_init 17 = .ok (.putfield 15, 3) := by decide +kernel
theorem dX5_init_20 : decode cX5_init 20 = .ok (.aload_n 0, 1) := by decide +kernel
theorem dX5_init_21 : decode cX5_init 21 = .ok (.bipush 6, 2) := by decide +kernel
theorem dX5_init_23 : decode cX5_init 23 = .ok (.newarray .int, 2) := by decide +kernel
theorem dX5_init_25 : decode cX5_init 25 = .ok (.putfield 18, 3) := by decide +kernel
theorem dX5_init_28 : decode cX5_init 28 = .ok (.aload_n 0, 1) := by decide +kernel
theorem dX5_init_29 : decode cX5_init 29 = .ok (.bipush 6, 2) := by decide +kernel
theorem dX5_init_31 : decode cX5_init 31 = .ok (.newarray .int, 2) := by decide +kernel
theorem dX5_init_33 : decode cX5_init 33 = .ok (.putfield 21, 3) := by decide +kernel
theorem dX5_init_36 : decode cX5_init 36 = .ok (.aload_n 0, 1) := by decide +kernel
theorem dX5_init_37 : decode cX5_init 37 = .ok (.iconst 5, 1) := by decide +kernel
theorem dX5_init_38 : decode cX5_init 38 = .ok (.newarray .boolean, 2) := by decide +kernel
theorem dX5_init_40 : decode cX5_init 40 = .ok (.putfield 24, 3) := by decide +kernel
theorem dX5_init_43 : decode cX5_init 43 = .ok (.return_, 1) := by decide +kernel
theorem dX5_readLetters_0 : decode cX5_readLetters 0 = .ok (.aload_n 0, 1) := by decide +kernel
theorem dX5_readLetters_1 : decode cX5_readLetters 1 = .ok (.invokevirtual 28, 3) := by decide +kernel
theorem dX5_readLetters_4 : decode cX5_readLetters 4 = .ok (.iconst 0, 1) := by decide +kernel
theorem dX5_readLetters_5 : decode cX5_readLetters 5 = .ok (.istore_n 2, 1) := by decide +kernel
theorem dX5_readLetters_6 : decode cX5_readLetters 6 = .ok (.iload_n 2, 1) := by decide +kernel
theorem dX5_readLetters_7 : decode cX5_readLetters 7 = .ok (.aload_n 1, 1) := by decide +kernel
theorem dX5_readLetters_8 : decode cX5_readLetters 8 = .ok (.getfield 31, 3) := by decide +kernel
theorem dX5_readLetters_11 : decode cX5_readLetters 11 = .ok (.if_icmp .ge 24, 3) := by decide +kernel
theorem dX5_readLetters_14 : decode cX5_readLetters 14 = .ok (.aload_n 0, 1) := by decide +kernel
theorem dX5_readLetters_15 : decode cX5_readLetters 15 = .ok (.aload_n 1, 1) := by decide +kernel
theorem dX5_readLetters_16 : decode cX5_readLetters 16 = .ok (.getfield 37, 3) := by decide +kernel
theorem dX5_readLetters_19 : decode cX5_readLetters 19 = .ok (.iload_n 2, 1) := by decide +kernel
theorem dX5_readLetters_20 : decode cX5_readLetters 20 = .ok (.iaload, 1) := by decide +kernel
theorem dX5_readLetters_21 : decode cX5_readLetters 21 = .ok (.invokevirtual 40, 3) := by decide +kernel
theorem dX5_readLetters_24 : decode cX5_readLetters 24 = .ok (.ifCond .ne 5, 3) := by decide +kernel
theorem dX5_readLetters_27 : decode cX5_readLetters 27 = .ok (.iload_n 2, 1) := by decide +kernel
theorem dX5_readLetters_28 : decode cX5_readLetters 28 = .ok (.ireturn, 1) := by decide +kernel
theorem dX5_readLetters_29 : decode cX5_readLetters 29 = .ok (.iinc 2 1, 3) := by decide +kernel
theorem dX5_readLetters_32 : decode cX5_readLetters 32 = .ok (.goto (-26), 3) := by decide +kernel
theorem dX5_readLetters_35 : decode cX5_readLetters 35 = .ok (.aload_n 1, 1) := by decide +kernel
theorem dX5_readLetters_36 : decode cX5_readLetters 36 = .ok (.getfield 31, 3) := by decide +kernel
theorem dX5_readLetters_39 : decode cX5_readLetters 39 = .ok (.ireturn, 1) := by decide +kernel
theorem dX5_isWhole_0 : decode cX5_isWhole 0 = .ok (.aload_n 0, 1) := by decide +kernel
theorem dX5_isWhole_1 : decode cX5_isWhole 1 = .ok (.getfield 44, 3) := by decide +kernel
theorem dX5_isWhole_4 : decode cX5_isWhole 4 = .ok (.iconst 5, 1) := by decide +kernel
theorem dX5_isWhole_5 : decode cX5_isWhole 5 = .ok (.if_icmp .ne 18, 3) := by decide +kernel
theorem dX5_isWhole_8 : decode cX5_isWhole 8 = .ok (.aload_n 0, 1) := by decide +kernel
theorem dX5_isWhole_9 : decode cX5_isWhole 9 = .ok (.getfield 47, 3) := by decide +kernel
theorem dX5_isWhole_12 : decode cX5_isWhole 12 = .ok (.aload_n 0, 1) := by decide +kernel
theorem dX5_isWhole_13 : decode cX5_isWhole 13 = .ok (.getfield 50, 3) := by decide +kernel
theorem dX5_isWhole_16 : decode cX5_isWhole 16 = .ok (.if_icmp .ne 7, 3) := by decide +kernel
theorem dX5_isWhole_19 : decode cX5_isWhole 19 = .ok (.iconst 1, 1) := by decide +kernel
theorem dX5_isWhole_20 : decode cX5_isWhole 20 = .ok (.goto 4, 3) := by decide +kernel
theorem dX5_isWhole_23 : decode cX5_isWhole 23 = .ok (.iconst 0, 1) := by decide +kernel
theorem dX5_isWhole_24 : decode cX5_isWhole 24 = .ok (.ireturn, 1) := by decide +kernel
theorem dX5_begin_0 : decode cX5_begin 0 = .ok (.aload_n 0, 1) := by decide +kernel
theorem dX5_begin_1 : decode cX5_begin 1 = .ok (.iconst 0, 1) := by decide +kernel
theorem dX5_begin_2 : decode cX5_begin 2 = .ok (.putfield 44, 3) := by decide +kernel
theorem dX5_begin_5 : decode cX5_begin 5 = .ok (.aload_n 0, 1) := by decide +kernel
theorem dX5_begin_6 : decode cX5_begin 6 = .ok (.iconst 0, 1) := by decide +kernel
theorem dX5_begin_7 : decode cX5_begin 7 = .ok (.putfield 53, 3) := by decide +kernel
theorem dX5_begin_10 : decode cX5_begin 10 = .ok (.aload_n 0, 1) := by decide +kernel
theorem dX5_begin_11 : decode cX5_begin 11 = .ok (.iconst 0, 1) := by decide +kernel
theorem dX5_begin_12 : decode cX5_begin 12 = .ok (.putfield 47, 3) := by decide +kernel
theorem dX5_begin_15 : decode cX5_begin 15 = .ok (.aload_n 0, 1) := by decide +kernel
theorem dX5_begin_16 : decode cX5_begin 16 = .ok (.iconst 0, 1) := by decide +kernel
theorem dX5_begin_17 : decode cX5_begin 17 = .ok (.putfield 50, 3) := by decide +kernel
theorem dX5_begin_20 : decode cX5_begin 20 = .ok (.aload_n 0, 1) := by decide +kernel
theorem dX5_begin_21 : decode cX5_begin 21 = .ok (.iconst 0, 1) := by decide +kernel
theorem dX5_begin_22 : decode cX5_begin 22 = .ok (.putfield 56, 3) := by decide +kernel
theorem dX5_begin_25 : decode cX5_begin 25 = .ok (.iconst 0, 1) := by decide +kernel
theorem dX5_begin_26 : decode cX5_begin 26 = .ok (.istore_n 1, 1) := by decide +kernel
theorem dX5_begin_27 : decode cX5_begin 27 = .ok (.iload_n 1, 1) := by decide +kernel
theorem dX5_begin_28 : decode cX5_begin 28 = .ok (.iconst 5, 1) := by decide +kernel
theorem dX5_begin_29 : decode cX5_begin 29 = .ok (.if_icmp .ge 24, 3) := by decide +kernel
theorem dX5_begin_32 : decode cX5_begin 32 = .ok (.aload_n 0, 1) := by decide +kernel
theorem dX5_begin_33 : decode cX5_begin 33 = .ok (.getfield 24, 3) := by decide +kernel
theorem dX5_begin_36 : decode cX5_begin 36 = .ok (.iload_n 1, 1) := by decide +kernel
theorem dX5_begin_37 : decode cX5_begin 37 = .ok (.iload_n 1, 1) := by decide +kernel
theorem dX5_begin_38 : decode cX5_begin 38 = .ok (.ifCond .ne 7, 3) := by decide +kernel
theorem dX5_begin_41 : decode cX5_begin 41 = .ok (.iconst 1, 1) := by decide +kernel
theorem dX5_begin_42 : decode cX5_begin 42 = .ok (.goto 4, 3) := by decide +kernel
theorem dX5_begin_45 : decode cX5_begin 45 = .ok (.iconst 0, 1) := by decide +kernel
theorem dX5_begin_46 : decode cX5_begin 46 = .ok (.bastore, 1) := by decide +kernel
theorem dX5_begin_47 : decode cX5_begin 47 = .ok (.iinc 1 1, 3) := by decide +kernel
theorem dX5_begin_50 : decode cX5_begin 50 = .ok (.goto (-23), 3) := by decide +kernel
theorem dX5_begin_53 : decode cX5_begin 53 = .ok (.return_, 1) := by decide +kernel
theorem dX5_takes_0 : decode cX5_takes 0 = .ok (.aload_n 0, 1) := by decide +kernel
theorem dX5_takes_1 : decode cX5_takes 1 = .ok (.getfield 44, 3) := by decide +kernel
theorem dX5_takes_4 : decode cX5_takes 4 = .ok (.tableswitch 66 0 4 #[36, 42, 48, 54, 60], 36) := by decide +kernel
theorem dX5_takes_40 : decode cX5_takes 40 = .ok (.aload_n 0, 1) := by decide +kernel
theorem dX5_takes_41 : decode cX5_takes 41 = .ok (.iload_n 1, 1) := by decide +kernel
theorem dX5_takes_42 : decode cX5_takes 42 = .ok (.invokevirtual 59, 3) := by decide +kernel
theorem dX5_takes_45 : decode cX5_takes 45 = .ok (.ireturn, 1) := by decide +kernel
theorem dX5_takes_46 : decode cX5_takes 46 = .ok (.aload_n 0, 1) := by decide +kernel
theorem dX5_takes_47 : decode cX5_takes 47 = .ok (.iload_n 1, 1) := by decide +kernel
theorem dX5_takes_48 : decode cX5_takes 48 = .ok (.invokevirtual 62, 3) := by decide +kernel
theorem dX5_takes_51 : decode cX5_takes 51 = .ok (.ireturn, 1) := by decide +kernel
theorem dX5_takes_52 : decode cX5_takes 52 = .ok (.aload_n 0, 1) := by decide +kernel
theorem dX5_takes_53 : decode cX5_takes 53 = .ok (.iload_n 1, 1) := by decide +kernel
theorem dX5_takes_54 : decode cX5_takes 54 = .ok (.invokevirtual 65, 3) := by decide +kernel
theorem dX5_takes_57 : decode cX5_takes 57 = .ok (.ireturn, 1) := by decide +kernel
theorem dX5_takes_58 : decode cX5_takes 58 = .ok (.aload_n 0, 1) := by decide +kernel
theorem dX5_takes_59 : decode cX5_takes 59 = .ok (.iload_n 1, 1) := by decide +kernel
theorem dX5_takes_60 : decode cX5_takes 60 = .ok (.invokevirtual 68, 3) := by decide +kernel
theorem dX5_takes_63 : decode cX5_takes 63 = .ok (.ireturn, 1) := by decide +kernel
theorem dX5_takes_64 : decode cX5_takes 64 = .ok (.aload_n 0, 1) := by decide +kernel
theorem dX5_takes_65 : decode cX5_takes 65 = .ok (.iload_n 1, 1) := by decide +kernel
theorem dX5_takes_66 : decode cX5_takes 66 = .ok (.invokevirtual 71, 3) := by decide +kernel
theorem dX5_takes_69 : decode cX5_takes 69 = .ok (.ireturn, 1) := by decide +kernel
theorem dX5_takes_70 : decode cX5_takes 70 = .ok (.aload_n 0, 1) := by decide +kernel
theorem dX5_takes_71 : decode cX5_takes 71 = .ok (.iload_n 1, 1) := by decide +kernel
theorem dX5_takes_72 : decode cX5_takes 72 = .ok (.invokevirtual 74, 3) := by decide +kernel
theorem dX5_takes_75 : decode cX5_takes 75 = .ok (.ireturn, 1) := by decide +kernel
theorem dX5_takesLength_0 : decode cX5_takesLength 0 = .ok (.iload_n 1, 1) := by decide +kernel
theorem dX5_takesLength_1 : decode cX5_takesLength 1 = .ok (.bipush 49, 2) := by decide +kernel
theorem dX5_takesLength_3 : decode cX5_takesLength 3 = .ok (.if_icmp .lt 18, 3) := by decide +kernel
theorem dX5_takesLength_6 : decode cX5_takesLength 6 = .ok (.iload_n 1, 1) := by decide +kernel
theorem dX5_takesLength_7 : decode cX5_takesLength 7 = .ok (.bipush 57, 2) := by decide +kernel
theorem dX5_takesLength_9 : decode cX5_takesLength 9 = .ok (.if_icmp .gt 12, 3) := by decide +kernel
theorem dX5_takesLength_12 : decode cX5_takesLength 12 = .ok (.aload_n 0, 1) := by decide +kernel
theorem dX5_takesLength_13 : decode cX5_takesLength 13 = .ok (.getfield 53, 3) := by decide +kernel
theorem dX5_takesLength_16 : decode cX5_takesLength 16 = .ok (.bipush 10, 2) := by decide +kernel
theorem dX5_takesLength_18 : decode cX5_takesLength 18 = .ok (.if_icmp .lt 5, 3) := by decide +kernel
theorem dX5_takesLength_21 : decode cX5_takesLength 21 = .ok (.iconst 0, 1) := by decide +kernel
theorem dX5_takesLength_22 : decode cX5_takesLength 22 = .ok (.ireturn, 1) := by decide +kernel
theorem dX5_takesLength_23 : decode cX5_takesLength 23 = .ok (.aload_n 0, 1) := by decide +kernel
theorem dX5_takesLength_24 : decode cX5_takesLength 24 = .ok (.getfield 9, 3) := by decide +kernel
theorem dX5_takesLength_27 : decode cX5_takesLength 27 = .ok (.aload_n 0, 1) := by decide +kernel
theorem dX5_takesLength_28 : decode cX5_takesLength 28 = .ok (.getfield 53, 3) := by decide +kernel
theorem dX5_takesLength_31 : decode cX5_takesLength 31 = .ok (.iload_n 1, 1) := by decide +kernel
theorem dX5_takesLength_32 : decode cX5_takesLength 32 = .ok (.bipush 48, 2) := by decide +kernel
theorem dX5_takesLength_34 : decode cX5_takesLength 34 = .ok (.isub, 1) := by decide +kernel
theorem dX5_takesLength_35 : decode cX5_takesLength 35 = .ok (.iastore, 1) := by decide +kernel
theorem dX5_takesLength_36 : decode cX5_takesLength 36 = .ok (.aload_n 0, 1) := by decide +kernel
theorem dX5_takesLength_37 : decode cX5_takesLength 37 = .ok (.iconst 1, 1) := by decide +kernel
theorem dX5_takesLength_38 : decode cX5_takesLength 38 = .ok (.putfield 44, 3) := by decide +kernel
theorem dX5_takesLength_41 : decode cX5_takesLength 41 = .ok (.iconst 1, 1) := by decide +kernel
theorem dX5_takesLength_42 : decode cX5_takesLength 42 = .ok (.ireturn, 1) := by decide +kernel
theorem dX5_takesEnd_0 : decode cX5_takesEnd 0 = .ok (.aload_n 0, 1) := by decide +kernel
theorem dX5_takesEnd_1 : decode cX5_takesEnd 1 = .ok (.getfield 53, 3) := by decide +kernel
theorem dX5_takesEnd_4 : decode cX5_takesEnd 4 = .ok (.iconst 2, 1) := by decide +kernel
theorem dX5_takesEnd_5 : decode cX5_takesEnd 5 = .ok (.idiv, 1) := by decide +kernel
theorem dX5_takesEnd_6 : decode cX5_takesEnd 6 = .ok (.istore_n 2, 1) := by decide +kernel
theorem dX5_takesEnd_7 : decode cX5_takesEnd 7 = .ok (.iload_n 1, 1) := by decide +kernel
theorem dX5_takesEnd_8 : decode cX5_takesEnd 8 = .ok (.bipush 42, 2) := by decide +kernel
theorem dX5_takesEnd_10 : decode cX5_takesEnd 10 = .ok (.if_icmp .ne 41, 3) := by decide +kernel
theorem dX5_takesEnd_13 : decode cX5_takesEnd 13 = .ok (.aload_n 0, 1) := by decide +kernel
theorem dX5_takesEnd_14 : decode cX5_takesEnd 14 = .ok (.getfield 50, 3) := by decide +kernel
theorem dX5_takesEnd_17 : decode cX5_takesEnd 17 = .ok (.bipush 6, 2) := by decide +kernel
theorem dX5_takesEnd_19 : decode cX5_takesEnd 19 = .ok (.if_icmp .ge 32, 3) := by decide +kernel
theorem dX5_takesEnd_22 : decode cX5_takesEnd 22 = .ok (.aload_n 0, 1) := by decide +kernel
theorem dX5_takesEnd_23 : decode cX5_takesEnd 23 = .ok (.getfield 15, 3) := by decide +kernel
theorem dX5_takesEnd_26 : decode cX5_takesEnd 26 = .ok (.aload_n 0, 1) := by decide +kernel
theorem dX5_takesEnd_27 : decode cX5_takesEnd 27 = .ok (.getfield 53, 3) := by decide +kernel
theorem dX5_takesEnd_30 : decode cX5_takesEnd 30 = .ok (.bipush 10, 2) := by decide +kernel
theorem dX5_takesEnd_32 : decode cX5_takesEnd 32 = .ok (.aload_n 0, 1) := by decide +kernel
theorem dX5_takesEnd_33 : decode cX5_takesEnd 33 = .ok (.getfield 50, 3) := by decide +kernel
theorem dX5_takesEnd_36 : decode cX5_takesEnd 36 = .ok (.iadd, 1) := by decide +kernel
theorem dX5_takesEnd_37 : decode cX5_takesEnd 37 = .ok (.iastore, 1) := by decide +kernel
theorem dX5_takesEnd_38 : decode cX5_takesEnd 38 = .ok (.aload_n 0, 1) := by decide +kernel
theorem dX5_takesEnd_39 : decode cX5_takesEnd 39 = .ok (.dup, 1) := by decide +kernel
theorem dX5_takesEnd_40 : decode cX5_takesEnd 40 = .ok (.getfield 50, 3) := by decide +kernel
theorem dX5_takesEnd_43 : decode cX5_takesEnd 43 = .ok (.iconst 1, 1) := by decide +kernel
theorem dX5_takesEnd_44 : decode cX5_takesEnd 44 = .ok (.iadd, 1) := by decide +kernel
theorem dX5_takesEnd_45 : decode cX5_takesEnd 45 = .ok (.putfield 50, 3) := by decide +kernel
theorem dX5_takesEnd_48 : decode cX5_takesEnd 48 = .ok (.goto 58, 3) := by decide +kernel
theorem dX5_takesEnd_51 : decode cX5_takesEnd 51 = .ok (.aload_n 0, 1) := by decide +kernel
theorem dX5_takesEnd_52 : decode cX5_takesEnd 52 = .ok (.iload_n 1, 1) := by decide +kernel
theorem dX5_takesEnd_53 : decode cX5_takesEnd 53 = .ok (.bipush 48, 2) := by decide +kernel
theorem dX5_takesEnd_55 : decode cX5_takesEnd 55 = .ok (.isub, 1) := by decide +kernel
theorem dX5_takesEnd_56 : decode cX5_takesEnd 56 = .ok (.iload_n 2, 1) := by decide +kernel
theorem dX5_takesEnd_57 : decode cX5_takesEnd 57 = .ok (.invokevirtual 77, 3) := by decide +kernel
theorem dX5_takesEnd_60 : decode cX5_takesEnd 60 = .ok (.ifCond .eq 44, 3) := by decide +kernel
theorem dX5_takesEnd_63 : decode cX5_takesEnd 63 = .ok (.aload_n 0, 1) := by decide +kernel
theorem dX5_takesEnd_64 : decode cX5_takesEnd 64 = .ok (.getfield 15, 3) := by decide +kernel
theorem dX5_takesEnd_67 : decode cX5_takesEnd 67 = .ok (.aload_n 0, 1) := by decide +kernel
theorem dX5_takesEnd_68 : decode cX5_takesEnd 68 = .ok (.getfield 53, 3) := by decide +kernel
theorem dX5_takesEnd_71 : decode cX5_takesEnd 71 = .ok (.iload_n 1, 1) := by decide +kernel
theorem dX5_takesEnd_72 : decode cX5_takesEnd 72 = .ok (.bipush 48, 2) := by decide +kernel
theorem dX5_takesEnd_74 : decode cX5_takesEnd 74 = .ok (.isub, 1) := by decide +kernel
theorem dX5_takesEnd_75 : decode cX5_takesEnd 75 = .ok (.iastore, 1) := by decide +kernel
theorem dX5_takesEnd_76 : decode cX5_takesEnd 76 = .ok (.aload_n 0, 1) := by decide +kernel
theorem dX5_takesEnd_77 : decode cX5_takesEnd 77 = .ok (.getfield 24, 3) := by decide +kernel
theorem dX5_takesEnd_80 : decode cX5_takesEnd 80 = .ok (.iload_n 1, 1) := by decide +kernel
theorem dX5_takesEnd_81 : decode cX5_takesEnd 81 = .ok (.bipush 48, 2) := by decide +kernel
theorem dX5_takesEnd_83 : decode cX5_takesEnd 83 = .ok (.isub, 1) := by decide +kernel
theorem dX5_takesEnd_84 : decode cX5_takesEnd 84 = .ok (.iconst 1, 1) := by decide +kernel
theorem dX5_takesEnd_85 : decode cX5_takesEnd 85 = .ok (.bastore, 1) := by decide +kernel
theorem dX5_takesEnd_86 : decode cX5_takesEnd 86 = .ok (.aload_n 0, 1) := by decide +kernel
theorem dX5_takesEnd_87 : decode cX5_takesEnd 87 = .ok (.aload_n 0, 1) := by decide +kernel
theorem dX5_takesEnd_88 : decode cX5_takesEnd 88 = .ok (.getfield 56, 3) := by decide +kernel
theorem dX5_takesEnd_91 : decode cX5_takesEnd 91 = .ok (.iload_n 1, 1) := by decide +kernel
theorem dX5_takesEnd_92 : decode cX5_takesEnd 92 = .ok (.bipush 48, 2) := by decide +kernel
theorem dX5_takesEnd_94 : decode cX5_takesEnd 94 = .ok (.isub, 1) := by decide +kernel
theorem dX5_takesEnd_95 : decode cX5_takesEnd 95 = .ok (.invokestatic 81, 3) := by decide +kernel
theorem dX5_takesEnd_98 : decode cX5_takesEnd 98 = .ok (.putfield 56, 3) := by decide +kernel
theorem dX5_takesEnd_101 : decode cX5_takesEnd 101 = .ok (.goto 5, 3) := by decide +kernel
theorem dX5_takesEnd_104 : decode cX5_takesEnd 104 = .ok (.iconst 0, 1) := by decide +kernel
theorem dX5_takesEnd_105 : decode cX5_takesEnd 105 = .ok (.ireturn, 1) := by decide +kernel
theorem dX5_takesEnd_106 : decode cX5_takesEnd 106 = .ok (.aload_n 0, 1) := by decide +kernel
theorem dX5_takesEnd_107 : decode cX5_takesEnd 107 = .ok (.getfield 53, 3) := by decide +kernel
theorem dX5_takesEnd_110 : decode cX5_takesEnd 110 = .ok (.iconst 2, 1) := by decide +kernel
theorem dX5_takesEnd_111 : decode cX5_takesEnd 111 = .ok (.irem, 1) := by decide +kernel
theorem dX5_takesEnd_112 : decode cX5_takesEnd 112 = .ok (.iconst 1, 1) := by decide +kernel
theorem dX5_takesEnd_113 : decode cX5_takesEnd 113 = .ok (.if_icmp .ne 7, 3) := by decide +kernel
theorem dX5_takesEnd_116 : decode cX5_takesEnd 116 = .ok (.iconst 1, 1) := by decide +kernel
theorem dX5_takesEnd_117 : decode cX5_takesEnd 117 = .ok (.goto 4, 3) := by decide +kernel
theorem dX5_takesEnd_120 : decode cX5_takesEnd 120 = .ok (.iconst 0, 1) := by decide +kernel
theorem dX5_takesEnd_121 : decode cX5_takesEnd 121 = .ok (.istore_n 3, 1) := by decide +kernel
theorem dX5_takesEnd_122 : decode cX5_takesEnd 122 = .ok (.aload_n 0, 1) := by decide +kernel
theorem dX5_takesEnd_123 : decode cX5_takesEnd 123 = .ok (.dup, 1) := by decide +kernel
theorem dX5_takesEnd_124 : decode cX5_takesEnd 124 = .ok (.getfield 53, 3) := by decide +kernel
theorem dX5_takesEnd_127 : decode cX5_takesEnd 127 = .ok (.iconst 1, 1) := by decide +kernel
theorem dX5_takesEnd_128 : decode cX5_takesEnd 128 = .ok (.iadd, 1) := by decide +kernel
theorem dX5_takesEnd_129 : decode cX5_takesEnd 129 = .ok (.putfield 53, 3) := by decide +kernel
theorem dX5_takesEnd_132 : decode cX5_takesEnd 132 = .ok (.aload_n 0, 1) := by decide +kernel
theorem dX5_takesEnd_133 : decode cX5_takesEnd 133 = .ok (.iload_n 3, 1) := by decide +kernel
theorem dX5_takesEnd_134 : decode cX5_takesEnd 134 = .ok (.ifCond .eq 7, 3) := by decide +kernel
theorem dX5_takesEnd_137 : decode cX5_takesEnd 137 = .ok (.iconst 2, 1) := by decide +kernel
theorem dX5_takesEnd_138 : decode cX5_takesEnd 138 = .ok (.goto 4, 3) := by decide +kernel
theorem dX5_takesEnd_141 : decode cX5_takesEnd 141 = .ok (.iconst 0, 1) := by decide +kernel
theorem dX5_takesEnd_142 : decode cX5_takesEnd 142 = .ok (.putfield 44, 3) := by decide +kernel
theorem dX5_takesEnd_145 : decode cX5_takesEnd 145 = .ok (.iload_n 3, 1) := by decide +kernel
theorem dX5_takesEnd_146 : decode cX5_takesEnd 146 = .ok (.ifCond .eq 13, 3) := by decide +kernel
theorem dX5_takesEnd_149 : decode cX5_takesEnd 149 = .ok (.aload_n 0, 1) := by decide +kernel
theorem dX5_takesEnd_150 : decode cX5_takesEnd 150 = .ok (.iload_n 2, 1) := by decide +kernel
theorem dX5_takesEnd_151 : decode cX5_takesEnd 151 = .ok (.iconst 1, 1) := by decide +kernel
theorem dX5_takesEnd_152 : decode cX5_takesEnd 152 = .ok (.iadd, 1) := by decide +kernel
theorem dX5_takesEnd_153 : decode cX5_takesEnd 153 = .ok (.invokevirtual 87, 3) := by decide +kernel
theorem dX5_takesEnd_156 : decode cX5_takesEnd 156 = .ok (.ifCond .eq 7, 3) := by decide +kernel
theorem dX5_takesEnd_159 : decode cX5_takesEnd 159 = .ok (.iconst 1, 1) := by decide +kernel
theorem dX5_takesEnd_160 : decode cX5_takesEnd 160 = .ok (.goto 4, 3) := by decide +kernel
theorem dX5_takesEnd_163 : decode cX5_takesEnd 163 = .ok (.iconst 0, 1) := by decide +kernel
theorem dX5_takesEnd_164 : decode cX5_takesEnd 164 = .ok (.ireturn, 1) := by decide +kernel
theorem dX5_canTell_0 : decode cX5_canTell 0 = .ok (.iload_n 1, 1) := by decide +kernel
theorem dX5_canTell_1 : decode cX5_canTell 1 = .ok (.iload_n 2, 1) := by decide +kernel
theorem dX5_canTell_2 : decode cX5_canTell 2 = .ok (.if_icmp .le 21, 3) := by decide +kernel
theorem dX5_canTell_5 : decode cX5_canTell 5 = .ok (.iload_n 1, 1) := by decide +kernel
theorem dX5_canTell_6 : decode cX5_canTell 6 = .ok (.iconst 5, 1) := by decide +kernel
theorem dX5_canTell_7 : decode cX5_canTell 7 = .ok (.if_icmp .ge 16, 3) := by decide +kernel
theorem dX5_canTell_10 : decode cX5_canTell 10 = .ok (.aload_n 0, 1) := by decide +kernel
theorem dX5_canTell_11 : decode cX5_canTell 11 = .ok (.getfield 24, 3) := by decide +kernel
theorem dX5_canTell_14 : decode cX5_canTell 14 = .ok (.iload_n 1, 1) := by decide +kernel
theorem dX5_canTell_15 : decode cX5_canTell 15 = .ok (.baload, 1) := by decide +kernel
theorem dX5_canTell_16 : decode cX5_canTell 16 = .ok (.ifCond .ne 7, 3) := by decide +kernel
theorem dX5_canTell_19 : decode cX5_canTell 19 = .ok (.iconst 1, 1) := by decide +kernel
theorem dX5_canTell_20 : decode cX5_canTell 20 = .ok (.goto 4, 3) := by decide +kernel
theorem dX5_canTell_23 : decode cX5_canTell 23 = .ok (.iconst 0, 1) := by decide +kernel
theorem dX5_canTell_24 : decode cX5_canTell 24 = .ok (.ireturn, 1) := by decide +kernel
theorem dX5_canFollow_0 : decode cX5_canFollow 0 = .ok (.iload_n 1, 1) := by decide +kernel
theorem dX5_canFollow_1 : decode cX5_canFollow 1 = .ok (.aload_n 0, 1) := by decide +kernel
theorem dX5_canFollow_2 : decode cX5_canFollow 2 = .ok (.getfield 56, 3) := by decide +kernel
theorem dX5_canFollow_5 : decode cX5_canFollow 5 = .ok (.if_icmp .gt 12, 3) := by decide +kernel
theorem dX5_canFollow_8 : decode cX5_canFollow 8 = .ok (.aload_n 0, 1) := by decide +kernel
theorem dX5_canFollow_9 : decode cX5_canFollow 9 = .ok (.getfield 24, 3) := by decide +kernel
theorem dX5_canFollow_12 : decode cX5_canFollow 12 = .ok (.iload_n 1, 1) := by decide +kernel
theorem dX5_canFollow_13 : decode cX5_canFollow 13 = .ok (.baload, 1) := by decide +kernel
theorem dX5_canFollow_14 : decode cX5_canFollow 14 = .ok (.ifCond .eq 7, 3) := by decide +kernel
theorem dX5_canFollow_17 : decode cX5_canFollow 17 = .ok (.iconst 1, 1) := by decide +kernel
theorem dX5_canFollow_18 : decode cX5_canFollow 18 = .ok (.goto 4, 3) := by decide +kernel
theorem dX5_canFollow_21 : decode cX5_canFollow 21 = .ok (.iconst 0, 1) := by decide +kernel
theorem dX5_canFollow_22 : decode cX5_canFollow 22 = .ok (.ireturn, 1) := by decide +kernel
theorem dX5_takesBehindRod_0 : decode cX5_takesBehindRod 0 = .ok (.aload_n 0, 1) := by decide +kernel
theorem dX5_takesBehindRod_1 : decode cX5_takesBehindRod 1 = .ok (.getfield 53, 3) := by decide +kernel
theorem dX5_takesBehindRod_4 : decode cX5_takesBehindRod 4 = .ok (.iconst 2, 1) := by decide +kernel
theorem dX5_takesBehindRod_5 : decode cX5_takesBehindRod 5 = .ok (.idiv, 1) := by decide +kernel
theorem dX5_takesBehindRod_6 : decode cX5_takesBehindRod 6 = .ok (.aload_n 0, 1) := by decide +kernel
theorem dX5_takesBehindRod_7 : decode cX5_takesBehindRod 7 = .ok (.getfield 56, 3) := by decide +kernel
theorem dX5_takesBehindRod_10 : decode cX5_takesBehindRod 10 = .ok (.if_icmp .le 7, 3) := by decide +kernel
theorem dX5_takesBehindRod_13 : decode cX5_takesBehindRod 13 = .ok (.iconst 1, 1) := by decide +kernel
theorem dX5_takesBehindRod_14 : decode cX5_takesBehindRod 14 = .ok (.goto 4, 3) := by decide +kernel
theorem dX5_takesBehindRod_17 : decode cX5_takesBehindRod 17 = .ok (.iconst 0, 1) := by decide +kernel
theorem dX5_takesBehindRod_18 : decode cX5_takesBehindRod 18 = .ok (.istore_n 2, 1) := by decide +kernel
theorem dX5_takesBehindRod_19 : decode cX5_takesBehindRod 19 = .ok (.aload_n 0, 1) := by decide +kernel
theorem dX5_takesBehindRod_20 : decode cX5_takesBehindRod 20 = .ok (.iload_n 2, 1) := by decide +kernel
theorem dX5_takesBehindRod_21 : decode cX5_takesBehindRod 21 = .ok (.ifCond .eq 7, 3) := by decide +kernel
theorem dX5_takesBehindRod_24 : decode cX5_takesBehindRod 24 = .ok (.iconst 3, 1) := by decide +kernel
theorem dX5_takesBehindRod_25 : decode cX5_takesBehindRod 25 = .ok (.goto 4, 3) := by decide +kernel
theorem dX5_takesBehindRod_28 : decode cX5_takesBehindRod 28 = .ok (.iconst 0, 1) := by decide +kernel
theorem dX5_takesBehindRod_29 : decode cX5_takesBehindRod 29 = .ok (.putfield 44, 3) := by decide +kernel
theorem dX5_takesBehindRod_32 : decode cX5_takesBehindRod 32 = .ok (.iload_n 1, 1) := by decide +kernel
theorem dX5_takesBehindRod_33 : decode cX5_takesBehindRod 33 = .ok (.iload_n 2, 1) := by decide +kernel
theorem dX5_takesBehindRod_34 : decode cX5_takesBehindRod 34 = .ok (.ifCond .eq 8, 3) := by decide +kernel
theorem dX5_takesBehindRod_37 : decode cX5_takesBehindRod 37 = .ok (.bipush 59, 2) := by decide +kernel
theorem dX5_takesBehindRod_39 : decode cX5_takesBehindRod 39 = .ok (.goto 5, 3) := by decide +kernel
theorem dX5_takesBehindRod_42 : decode cX5_takesBehindRod 42 = .ok (.bipush 44, 2) := by decide +kernel
theorem dX5_takesBehindRod_44 : decode cX5_takesBehindRod 44 = .ok (.if_icmp .ne 7, 3) := by decide +kernel
theorem dX5_takesBehindRod_47 : decode cX5_takesBehindRod 47 = .ok (.iconst 1, 1) := by decide +kernel
theorem dX5_takesBehindRod_48 : decode cX5_takesBehindRod 48 = .ok (.goto 4, 3) := by decide +kernel
theorem dX5_takesBehindRod_51 : decode cX5_takesBehindRod 51 = .ok (.iconst 0, 1) := by decide +kernel
theorem dX5_takesBehindRod_52 : decode cX5_takesBehindRod 52 = .ok (.ireturn, 1) := by decide +kernel
theorem dX5_takesKind_0 : decode cX5_takesKind 0 = .ok (.ldc 92, 2) := by decide +kernel
theorem dX5_takesKind_2 : decode cX5_takesKind 2 = .ok (.iload_n 1, 1) := by decide +kernel
theorem dX5_takesKind_3 : decode cX5_takesKind 3 = .ok (.i2c, 1) := by decide +kernel
theorem dX5_takesKind_4 : decode cX5_takesKind 4 = .ok (.invokevirtual 94, 3) := by decide +kernel
theorem dX5_takesKind_7 : decode cX5_takesKind 7 = .ok (.istore_n 2, 1) := by decide +kernel
theorem dX5_takesKind_8 : decode cX5_takesKind 8 = .ok (.iload_n 2, 1) := by decide +kernel
theorem dX5_takesKind_9 : decode cX5_takesKind 9 = .ok (.ifCond .lt 12, 3) := by decide +kernel
theorem dX5_takesKind_12 : decode cX5_takesKind 12 = .ok (.aload_n 0, 1) := by decide +kernel
theorem dX5_takesKind_13 : decode cX5_takesKind 13 = .ok (.getfield 47, 3) := by decide +kernel
theorem dX5_takesKind_16 : decode cX5_takesKind 16 = .ok (.bipush 6, 2) := by decide +kernel
theorem dX5_takesKind_18 : decode cX5_takesKind 18 = .ok (.if_icmp .lt 5, 3) := by decide +kernel
theorem dX5_takesKind_21 : decode cX5_takesKind 21 = .ok (.iconst 0, 1) := by decide +kernel
theorem dX5_takesKind_22 : decode cX5_takesKind 22 = .ok (.ireturn, 1) := by decide +kernel
theorem dX5_takesKind_23 : decode cX5_takesKind 23 = .ok (.aload_n 0, 1) := by decide +kernel
theorem dX5_takesKind_24 : decode cX5_takesKind 24 = .ok (.getfield 18, 3) := by decide +kernel
theorem dX5_takesKind_27 : decode cX5_takesKind 27 = .ok (.aload_n 0, 1) := by decide +kernel
theorem dX5_takesKind_28 : decode cX5_takesKind 28 = .ok (.getfield 47, 3) := by decide +kernel
theorem dX5_takesKind_31 : decode cX5_takesKind 31 = .ok (.iload_n 2, 1) := by decide +kernel
theorem dX5_takesKind_32 : decode cX5_takesKind 32 = .ok (.iastore, 1) := by decide +kernel
theorem dX5_takesKind_33 : decode cX5_takesKind 33 = .ok (.aload_n 0, 1) := by decide +kernel
theorem dX5_takesKind_34 : decode cX5_takesKind 34 = .ok (.iconst 4, 1) := by decide +kernel
theorem dX5_takesKind_35 : decode cX5_takesKind 35 = .ok (.putfield 44, 3) := by decide +kernel
theorem dX5_takesKind_38 : decode cX5_takesKind 38 = .ok (.iconst 1, 1) := by decide +kernel
theorem dX5_takesKind_39 : decode cX5_takesKind 39 = .ok (.ireturn, 1) := by decide +kernel
theorem dX5_takesSize_0 : decode cX5_takesSize 0 = .ok (.iload_n 1, 1) := by decide +kernel
theorem dX5_takesSize_1 : decode cX5_takesSize 1 = .ok (.bipush 48, 2) := by decide +kernel
theorem dX5_takesSize_3 : decode cX5_takesSize 3 = .ok (.if_icmp .lt 18, 3) := by decide +kernel
theorem dX5_takesSize_6 : decode cX5_takesSize 6 = .ok (.iload_n 1, 1) := by decide +kernel
theorem dX5_takesSize_7 : decode cX5_takesSize 7 = .ok (.bipush 57, 2) := by decide +kernel
theorem dX5_takesSize_9 : decode cX5_takesSize 9 = .ok (.if_icmp .gt 12, 3) := by decide +kernel
theorem dX5_takesSize_12 : decode cX5_takesSize 12 = .ok (.aload_n 0, 1) := by decide +kernel
theorem dX5_takesSize_13 : decode cX5_takesSize 13 = .ok (.getfield 47, 3) := by decide +kernel
theorem dX5_takesSize_16 : decode cX5_takesSize 16 = .ok (.bipush 6, 2) := by decide +kernel
theorem dX5_takesSize_18 : decode cX5_takesSize 18 = .ok (.if_icmp .lt 5, 3) := by decide +kernel
theorem dX5_takesSize_21 : decode cX5_takesSize 21 = .ok (.iconst 0, 1) := by decide +kernel
theorem dX5_takesSize_22 : decode cX5_takesSize 22 = .ok (.ireturn, 1) := by decide +kernel
theorem dX5_takesSize_23 : decode cX5_takesSize 23 = .ok (.aload_n 0, 1) := by decide +kernel
theorem dX5_takesSize_24 : decode cX5_takesSize 24 = .ok (.getfield 21, 3) := by decide +kernel
theorem dX5_takesSize_27 : decode cX5_takesSize 27 = .ok (.aload_n 0, 1) := by decide +kernel
theorem dX5_takesSize_28 : decode cX5_takesSize 28 = .ok (.getfield 47, 3) := by decide +kernel
theorem dX5_takesSize_31 : decode cX5_takesSize 31 = .ok (.iload_n 1, 1) := by decide +kernel
theorem dX5_takesSize_32 : decode cX5_takesSize 32 = .ok (.bipush 48, 2) := by decide +kernel
theorem dX5_takesSize_34 : decode cX5_takesSize 34 = .ok (.isub, 1) := by decide +kernel
theorem dX5_takesSize_35 : decode cX5_takesSize 35 = .ok (.iastore, 1) := by decide +kernel
theorem dX5_takesSize_36 : decode cX5_takesSize 36 = .ok (.aload_n 0, 1) := by decide +kernel
theorem dX5_takesSize_37 : decode cX5_takesSize 37 = .ok (.dup, 1) := by decide +kernel
theorem dX5_takesSize_38 : decode cX5_takesSize 38 = .ok (.getfield 47, 3) := by decide +kernel
theorem dX5_takesSize_41 : decode cX5_takesSize 41 = .ok (.iconst 1, 1) := by decide +kernel
theorem dX5_takesSize_42 : decode cX5_takesSize 42 = .ok (.iadd, 1) := by decide +kernel
theorem dX5_takesSize_43 : decode cX5_takesSize 43 = .ok (.putfield 47, 3) := by decide +kernel
theorem dX5_takesSize_46 : decode cX5_takesSize 46 = .ok (.aload_n 0, 1) := by decide +kernel
theorem dX5_takesSize_47 : decode cX5_takesSize 47 = .ok (.iconst 5, 1) := by decide +kernel
theorem dX5_takesSize_48 : decode cX5_takesSize 48 = .ok (.putfield 44, 3) := by decide +kernel
theorem dX5_takesSize_51 : decode cX5_takesSize 51 = .ok (.iconst 1, 1) := by decide +kernel
theorem dX5_takesSize_52 : decode cX5_takesSize 52 = .ok (.ireturn, 1) := by decide +kernel
theorem dX5_takesBehindThing_0 : decode cX5_takesBehindThing 0 = .ok (.aload_n 0, 1) := by decide +kernel
theorem dX5_takesBehindThing_1 : decode cX5_takesBehindThing 1 = .ok (.iconst 3, 1) := by decide +kernel
theorem dX5_takesBehindThing_2 : decode cX5_takesBehindThing 2 = .ok (.putfield 44, 3) := by decide +kernel
theorem dX5_takesBehindThing_5 : decode cX5_takesBehindThing 5 = .ok (.iload_n 1, 1) := by decide +kernel
theorem dX5_takesBehindThing_6 : decode cX5_takesBehindThing 6 = .ok (.bipush 44, 2) := by decide +kernel
theorem dX5_takesBehindThing_8 : decode cX5_takesBehindThing 8 = .ok (.if_icmp .ne 18, 3) := by decide +kernel
theorem dX5_takesBehindThing_11 : decode cX5_takesBehindThing 11 = .ok (.aload_n 0, 1) := by decide +kernel
theorem dX5_takesBehindThing_12 : decode cX5_takesBehindThing 12 = .ok (.getfield 47, 3) := by decide +kernel
theorem dX5_takesBehindThing_15 : decode cX5_takesBehindThing 15 = .ok (.aload_n 0, 1) := by decide +kernel
theorem dX5_takesBehindThing_16 : decode cX5_takesBehindThing 16 = .ok (.getfield 50, 3) := by decide +kernel
theorem dX5_takesBehindThing_19 : decode cX5_takesBehindThing 19 = .ok (.if_icmp .ge 7, 3) := by decide +kernel
theorem dX5_takesBehindThing_22 : decode cX5_takesBehindThing 22 = .ok (.iconst 1, 1) := by decide +kernel
theorem dX5_takesBehindThing_23 : decode cX5_takesBehindThing 23 = .ok (.goto 4, 3) := by decide +kernel
theorem dX5_takesBehindThing_26 : decode cX5_takesBehindThing 26 = .ok (.iconst 0, 1) := by decide +kernel
theorem dX5_takesBehindThing_27 : decode cX5_takesBehindThing 27 = .ok (.ireturn, 1) := by decide +kernel
end
section
theorem dX6_init_0 : decode cX6_init 0 = .ok (.aload_n 0, 1) := by decide +kernel
theorem dX6_init_1 : decode cX6_init 1 = .ok (.invokespecial 3, 3) := by decide +kernel
theorem dX6_init_4 : decode cX6_init 4 = .ok (.aload_n 0, 1) := by decide +kernel
theorem dX6_init_5 : decode cX6_init 5 = .ok (.bipush 10, 2) := by decide +kernel
theorem dX6_init_7 : decode cX6_init 7 = .ok (.newarray .int, 2) := by decide +kernel
theorem dX6_init_9 : decode cX6_init 9 = .ok (.putfield 9, 3) := by decide +kernel
theorem dX6_init_12 : decode cX6_init 12 = .ok (.aload_n 0, 1) := by decide +kernel
theorem dX6_init_13 : decode cX6_init 13 = .ok (.iconst 5, 1) := by decide +kernel
theorem dX6_init_14 : decode cX6_init 14 = .ok (.newarray .int, 2) := by decide +kernel
theorem dX6_init_16 : decode cX6_init 16 = .ok (.putfield 15, 3) := by decide +kernel
theorem dX6_init_19 : decode cX6_init 19 = .ok (.aload_n 0, 1) := by decide +kernel
theorem dX6_init_20 : decode cX6_init 20 = .ok (.iconst 5, 1) := by decide +kernel
theorem dX6_init_21 : decode cX6_init 21 = .ok (.newarray .boolean, 2) := by decide +kernel
theorem dX6_init_23 : decode cX6_init 23 = .ok (.putfield 18, 3) := by decide +kernel
theorem dX6_init_26 : decode cX6_init 26 = .ok (.aload_n 0, 1) := by decide +kernel
theorem dX6_init_27 : decode cX6_init 27 = .ok (.bipush 6, 2) := by decide +kernel
theorem dX6_init_29 : decode cX6_init 29 = .ok (.newarray .int, 2) := by decide +kernel
theorem dX6_init_31 : decode cX6_init 31 = .ok (.putfield 22, 3) := by decide +kernel
theorem dX6_init_34 : decode cX6_init 34 = .ok (.return_, 1) := by decide +kernel
theorem dX6_weigh_0 : decode cX6_weigh 0 = .ok (.aload_n 0, 1) := by decide +kernel
theorem dX6_weigh_1 : decode cX6_weigh 1 = .ok (.aload_n 1, 1) := by decide +kernel
theorem dX6_weigh_2 : decode cX6_weigh 2 = .ok (.aload_n 1, 1) := by decide +kernel
theorem dX6_weigh_3 : decode cX6_weigh 3 = .ok (.getfield 25, 3) := by decide +kernel
theorem dX6_weigh_6 : decode cX6_weigh 6 = .ok (.invokevirtual 31, 3) := by decide +kernel
theorem dX6_weigh_9 : decode cX6_weigh 9 = .ok (.aload_n 0, 1) := by decide +kernel
theorem dX6_weigh_10 : decode cX6_weigh 10 = .ok (.aload_n 1, 1) := by decide +kernel
theorem dX6_weigh_11 : decode cX6_weigh 11 = .ok (.aload_n 1, 1) := by decide +kernel
theorem dX6_weigh_12 : decode cX6_weigh 12 = .ok (.getfield 35, 3) := by decide +kernel
theorem dX6_weigh_15 : decode cX6_weigh 15 = .ok (.invokevirtual 38, 3) := by decide +kernel
theorem dX6_weigh_18 : decode cX6_weigh 18 = .ok (.return_, 1) := by decide +kernel
theorem dX6_prepare_0 : decode cX6_prepare 0 = .ok (.iconst 0, 1) := by decide +kernel
theorem dX6_prepare_1 : decode cX6_prepare 1 = .ok (.istore_n 3, 1) := by decide +kernel
theorem dX6_prepare_2 : decode cX6_prepare 2 = .ok (.iload_n 3, 1) := by decide +kernel
theorem dX6_prepare_3 : decode cX6_prepare 3 = .ok (.aload_n 1, 1) := by decide +kernel
theorem dX6_prepare_4 : decode cX6_prepare 4 = .ok (.getfield 42, 3) := by decide +kernel
theorem dX6_prepare_7 : decode cX6_prepare 7 = .ok (.if_icmp .ge 48, 3) := by decide +kernel
theorem dX6_prepare_10 : decode cX6_prepare 10 = .ok (.aload_n 1, 1) := by decide +kernel
theorem dX6_prepare_11 : decode cX6_prepare 11 = .ok (.getfield 45, 3) := by decide +kernel
theorem dX6_prepare_14 : decode cX6_prepare 14 = .ok (.iload_n 3, 1) := by decide +kernel
theorem dX6_prepare_15 : decode cX6_prepare 15 = .ok (.iaload, 1) := by decide +kernel
theorem dX6_prepare_16 : decode cX6_prepare 16 = .ok (.aload_n 1, 1) := by decide +kernel
theorem dX6_prepare_17 : decode cX6_prepare 17 = .ok (.getfield 48, 3) := by decide +kernel
theorem dX6_prepare_20 : decode cX6_prepare 20 = .ok (.iload_n 3, 1) := by decide +kernel
theorem dX6_prepare_21 : decode cX6_prepare 21 = .ok (.iaload, 1) := by decide +kernel
theorem dX6_prepare_22 : decode cX6_prepare 22 = .ok (.iload_n 2, 1) := by decide +kernel
theorem dX6_prepare_23 : decode cX6_prepare 23 = .ok (.invokestatic 51, 3) := by decide +kernel
theorem dX6_prepare_26 : decode cX6_prepare 26 = .ok (.istore 4, 2) := by decide +kernel
theorem dX6_prepare_28 : decode cX6_prepare 28 = .ok (.aload_n 0, 1) := by decide +kernel
theorem dX6_prepare_29 : decode cX6_prepare 29 = .ok (.getfield 22, 3) := by decide +kernel
theorem dX6_prepare_32 : decode cX6_prepare 32 = .ok (.iload_n 3, 1) := by decide +kernel
theorem dX6_prepare_33 : decode cX6_prepare 33 = .ok (.aload_n 1, 1) := by decide +kernel
theorem dX6_prepare_34 : decode cX6_prepare 34 = .ok (.getfield 57, 3) := by decide +kernel
theorem dX6_prepare_37 : decode cX6_prepare 37 = .ok (.iload_n 3, 1) := by decide +kernel
theorem dX6_prepare_38 : decode cX6_prepare 38 = .ok (.baload, 1) := by decide +kernel
theorem dX6_prepare_39 : decode cX6_prepare 39 = .ok (.ifCond .eq 7, 3) := by decide +kernel
theorem dX6_prepare_42 : decode cX6_prepare 42 = .ok (.iconst 0, 1) := by decide +kernel
theorem dX6_prepare_43 : decode cX6_prepare 43 = .ok (.goto 5, 3) := by decide +kernel
theorem dX6_prepare_46 : decode cX6_prepare 46 = .ok (.iload 4, 2) := by decide +kernel
theorem dX6_prepare_48 : decode cX6_prepare 48 = .ok (.iastore, 1) := by decide +kernel
theorem dX6_prepare_49 : decode cX6_prepare 49 = .ok (.iinc 3 1, 3) := by decide +kernel
theorem dX6_prepare_52 : decode cX6_prepare 52 = .ok (.goto (-50), 3) := by decide +kernel
theorem dX6_prepare_55 : decode cX6_prepare 55 = .ok (.aload_n 0, 1) := by decide +kernel
theorem dX6_prepare_56 : decode cX6_prepare 56 = .ok (.getfield 18, 3) := by decide +kernel
theorem dX6_prepare_59 : decode cX6_prepare 59 = .ok (.iconst 0, 1) := by decide +kernel
theorem dX6_prepare_60 : decode cX6_prepare 60 = .ok (.iconst 1, 1) := by decide +kernel
theorem dX6_prepare_61 : decode cX6_prepare 61 = .ok (.bastore, 1) := by decide +kernel
theorem dX6_prepare_62 : decode cX6_prepare 62 = .ok (.iconst 0, 1) := by decide +kernel
theorem dX6_prepare_63 : decode cX6_prepare 63 = .ok (.istore_n 3, 1) := by decide +kernel
theorem dX6_prepare_64 : decode cX6_prepare 64 = .ok (.iload_n 3, 1) := by decide +kernel
theorem dX6_prepare_65 : decode cX6_prepare 65 = .ok (.iconst 2, 1) := by decide +kernel
theorem dX6_prepare_66 : decode cX6_prepare 66 = .ok (.aload_n 1, 1) := by decide +kernel
theorem dX6_prepare_67 : decode cX6_prepare 67 = .ok (.getfield 60, 3) := by decide +kernel
theorem dX6_prepare_70 : decode cX6_prepare 70 = .ok (.imul, 1) := by decide +kernel
theorem dX6_prepare_71 : decode cX6_prepare 71 = .ok (.if_icmp .ge 57, 3) := by decide +kernel
theorem dX6_prepare_74 : decode cX6_prepare 74 = .ok (.aload_n 1, 1) := by decide +kernel
theorem dX6_prepare_75 : decode cX6_prepare 75 = .ok (.getfield 63, 3) := by decide +kernel
theorem dX6_prepare_78 : decode cX6_prepare 78 = .ok (.iload_n 3, 1) := by decide +kernel
theorem dX6_prepare_79 : decode cX6_prepare 79 = .ok (.iaload, 1) := by decide +kernel
theorem dX6_prepare_80 : decode cX6_prepare 80 = .ok (.istore 4, 2) := by decide +kernel
theorem dX6_prepare_82 : decode cX6_prepare 82 = .ok (.iload 4, 2) := by decide +kernel
theorem dX6_prepare_84 : decode cX6_prepare 84 = .ok (.bipush 10, 2) := by decide +kernel
theorem dX6_prepare_86 : decode cX6_prepare 86 = .ok (.if_icmp .ge 36, 3) := by decide +kernel
theorem dX6_prepare_89 : decode cX6_prepare 89 = .ok (.aload_n 0, 1) := by decide +kernel
theorem dX6_prepare_90 : decode cX6_prepare 90 = .ok (.getfield 18, 3) := by decide +kernel
theorem dX6_prepare_93 : decode cX6_prepare 93 = .ok (.iload 4, 2) := by decide +kernel
theorem dX6_prepare_95 : decode cX6_prepare 95 = .ok (.aload_n 0, 1) := by decide +kernel
theorem dX6_prepare_96 : decode cX6_prepare 96 = .ok (.getfield 18, 3) := by decide +kernel
theorem dX6_prepare_99 : decode cX6_prepare 99 = .ok (.iload_n 3, 1) := by decide +kernel
theorem dX6_prepare_100 : decode cX6_prepare 100 = .ok (.iconst 2, 1) := by decide +kernel
theorem dX6_prepare_101 : decode cX6_prepare 101 = .ok (.idiv, 1) := by decide +kernel
theorem dX6_prepare_102 : decode cX6_prepare 102 = .ok (.baload, 1) := by decide +kernel
theorem dX6_prepare_103 : decode cX6_prepare 103 = .ok (.ifCond .eq 17, 3) := by decide +kernel
theorem dX6_prepare_106 : decode cX6_prepare 106 = .ok (.aload_n 1, 1) := by decide +kernel
theorem dX6_prepare_107 : decode cX6_prepare 107 = .ok (.getfield 66, 3) := by decide +kernel
theorem dX6_prepare_110 : decode cX6_prepare 110 = .ok (.iload 4, 2) := by decide +kernel
theorem dX6_prepare_112 : decode cX6_prepare 112 = .ok (.baload, 1) := by decide +kernel
theorem dX6_prepare_113 : decode cX6_prepare 113 = .ok (.ifCond .ne 7, 3) := by decide +kernel
theorem dX6_prepare_116 : decode cX6_prepare 116 = .ok (.iconst 1, 1) := by decide +kernel
theorem dX6_prepare_117 : decode cX6_prepare 117 = .ok (.goto 4, 3) := by decide +kernel
theorem dX6_prepare_120 : decode cX6_prepare 120 = .ok (.iconst 0, 1) := by decide +kernel
theorem dX6_prepare_121 : decode cX6_prepare 121 = .ok (.bastore, 1) := by decide +kernel
theorem dX6_prepare_122 : decode cX6_prepare 122 = .ok (.iinc 3 1, 3) := by decide +kernel
theorem dX6_prepare_125 : decode cX6_prepare 125 = .ok (.goto (-61), 3) := by decide +kernel
theorem dX6_prepare_128 : decode cX6_prepare 128 = .ok (.return_, 1) := by decide +kernel
theorem dX6_hang_0 : decode cX6_hang 0 = .ok (.aload_n 1, 1) := by decide +kernel
theorem dX6_hang_1 : decode cX6_hang 1 = .ok (.getfield 60, 3) := by decide +kernel
theorem dX6_hang_4 : decode cX6_hang 4 = .ok (.iconst 1, 1) := by decide +kernel
theorem dX6_hang_5 : decode cX6_hang 5 = .ok (.isub, 1) := by decide +kernel
theorem dX6_hang_6 : decode cX6_hang 6 = .ok (.istore_n 3, 1) := by decide +kernel
theorem dX6_hang_7 : decode cX6_hang 7 = .ok (.iload_n 3, 1) := by decide +kernel
theorem dX6_hang_8 : decode cX6_hang 8 = .ok (.ifCond .lt 16, 3) := by decide +kernel
theorem dX6_hang_11 : decode cX6_hang 11 = .ok (.aload_n 0, 1) := by decide +kernel
theorem dX6_hang_12 : decode cX6_hang 12 = .ok (.aload_n 1, 1) := by decide +kernel
theorem dX6_hang_13 : decode cX6_hang 13 = .ok (.aload_n 2, 1) := by decide +kernel
theorem dX6_hang_14 : decode cX6_hang 14 = .ok (.iload_n 3, 1) := by decide +kernel
theorem dX6_hang_15 : decode cX6_hang 15 = .ok (.invokevirtual 69, 3) := by decide +kernel
theorem dX6_hang_18 : decode cX6_hang 18 = .ok (.iinc 3 (-1), 3) := by decide +kernel
theorem dX6_hang_21 : decode cX6_hang 21 = .ok (.goto (-14), 3) := by decide +kernel
theorem dX6_hang_24 : decode cX6_hang 24 = .ok (.return_, 1) := by decide +kernel
theorem dX6_hangsLevel_0 : decode cX6_hangsLevel 0 = .ok (.aload_n 1, 1) := by decide +kernel
theorem dX6_hangsLevel_1 : decode cX6_hangsLevel 1 = .ok (.getfield 60, 3) := by decide +kernel
theorem dX6_hangsLevel_4 : decode cX6_hangsLevel 4 = .ok (.iconst 1, 1) := by decide +kernel
theorem dX6_hangsLevel_5 : decode cX6_hangsLevel 5 = .ok (.isub, 1) := by decide +kernel
theorem dX6_hangsLevel_6 : decode cX6_hangsLevel 6 = .ok (.istore_n 3, 1) := by decide +kernel
theorem dX6_hangsLevel_7 : decode cX6_hangsLevel 7 = .ok (.iload_n 3, 1) := by decide +kernel
theorem dX6_hangsLevel_8 : decode cX6_hangsLevel 8 = .ok (.ifCond .lt 36, 3) := by decide +kernel
theorem dX6_hangsLevel_11 : decode cX6_hangsLevel 11 = .ok (.aload_n 0, 1) := by decide +kernel
theorem dX6_hangsLevel_12 : decode cX6_hangsLevel 12 = .ok (.aload_n 1, 1) := by decide +kernel
theorem dX6_hangsLevel_13 : decode cX6_hangsLevel 13 = .ok (.aload_n 2, 1) := by decide +kernel
theorem dX6_hangsLevel_14 : decode cX6_hangsLevel 14 = .ok (.iload_n 3, 1) := by decide +kernel
theorem dX6_hangsLevel_15 : decode cX6_hangsLevel 15 = .ok (.invokevirtual 69, 3) := by decide +kernel
theorem dX6_hangsLevel_18 : decode cX6_hangsLevel 18 = .ok (.aload_n 0, 1) := by decide +kernel
theorem dX6_hangsLevel_19 : decode cX6_hangsLevel 19 = .ok (.getfield 18, 3) := by decide +kernel
theorem dX6_hangsLevel_22 : decode cX6_hangsLevel 22 = .ok (.iload_n 3, 1) := by decide +kernel
theorem dX6_hangsLevel_23 : decode cX6_hangsLevel 23 = .ok (.baload, 1) := by decide +kernel
theorem dX6_hangsLevel_24 : decode cX6_hangsLevel 24 = .ok (.ifCond .eq 14, 3) := by decide +kernel
theorem dX6_hangsLevel_27 : decode cX6_hangsLevel 27 = .ok (.aload_n 0, 1) := by decide +kernel
theorem dX6_hangsLevel_28 : decode cX6_hangsLevel 28 = .ok (.getfield 15, 3) := by decide +kernel
theorem dX6_hangsLevel_31 : decode cX6_hangsLevel 31 = .ok (.iload_n 3, 1) := by decide +kernel
theorem dX6_hangsLevel_32 : decode cX6_hangsLevel 32 = .ok (.iaload, 1) := by decide +kernel
theorem dX6_hangsLevel_33 : decode cX6_hangsLevel 33 = .ok (.ifCond .eq 5, 3) := by decide +kernel
theorem dX6_hangsLevel_36 : decode cX6_hangsLevel 36 = .ok (.iconst 0, 1) := by decide +kernel
theorem dX6_hangsLevel_37 : decode cX6_hangsLevel 37 = .ok (.ireturn, 1) := by decide +kernel
theorem dX6_hangsLevel_38 : decode cX6_hangsLevel 38 = .ok (.iinc 3 (-1), 3) := by decide +kernel
theorem dX6_hangsLevel_41 : decode cX6_hangsLevel 41 = .ok (.goto (-34), 3) := by decide +kernel
theorem dX6_hangsLevel_44 : decode cX6_hangsLevel 44 = .ok (.iconst 1, 1) := by decide +kernel
theorem dX6_hangsLevel_45 : decode cX6_hangsLevel 45 = .ok (.ireturn, 1) := by decide +kernel
theorem dX6_hangRod_0 : decode cX6_hangRod 0 = .ok (.iconst 2, 1) := by decide +kernel
theorem dX6_hangRod_1 : decode cX6_hangRod 1 = .ok (.iload_n 3, 1) := by decide +kernel
theorem dX6_hangRod_2 : decode cX6_hangRod 2 = .ok (.imul, 1) := by decide +kernel
theorem dX6_hangRod_3 : decode cX6_hangRod 3 = .ok (.istore 4, 2) := by decide +kernel
theorem dX6_hangRod_5 : decode cX6_hangRod 5 = .ok (.iload 4, 2) := by decide +kernel
theorem dX6_hangRod_7 : decode cX6_hangRod 7 = .ok (.iconst 1, 1) := by decide +kernel
theorem dX6_hangRod_8 : decode cX6_hangRod 8 = .ok (.iadd, 1) := by decide +kernel
theorem dX6_hangRod_9 : decode cX6_hangRod 9 = .ok (.istore 5, 2) := by decide +kernel
theorem dX6_hangRod_11 : decode cX6_hangRod 11 = .ok (.aload_n 0, 1) := by decide +kernel
theorem dX6_hangRod_12 : decode cX6_hangRod 12 = .ok (.getfield 9, 3) := by decide +kernel
theorem dX6_hangRod_15 : decode cX6_hangRod 15 = .ok (.iload 4, 2) := by decide +kernel
theorem dX6_hangRod_17 : decode cX6_hangRod 17 = .ok (.aload_n 0, 1) := by decide +kernel
theorem dX6_hangRod_18 : decode cX6_hangRod 18 = .ok (.aload_n 1, 1) := by decide +kernel
theorem dX6_hangRod_19 : decode cX6_hangRod 19 = .ok (.aload_n 2, 1) := by decide +kernel
theorem dX6_hangRod_20 : decode cX6_hangRod 20 = .ok (.iload 4, 2) := by decide +kernel
theorem dX6_hangRod_22 : decode cX6_hangRod 22 = .ok (.invokevirtual 73, 3) := by decide +kernel
theorem dX6_hangRod_25 : decode cX6_hangRod 25 = .ok (.iastore, 1) := by decide +kernel
theorem dX6_hangRod_26 : decode cX6_hangRod 26 = .ok (.aload_n 0, 1) := by decide +kernel
theorem dX6_hangRod_27 : decode cX6_hangRod 27 = .ok (.getfield 9, 3) := by decide +kernel
theorem dX6_hangRod_30 : decode cX6_hangRod 30 = .ok (.iload 5, 2) := by decide +kernel
theorem dX6_hangRod_32 : decode cX6_hangRod 32 = .ok (.aload_n 0, 1) := by decide +kernel
theorem dX6_hangRod_33 : decode cX6_hangRod 33 = .ok (.aload_n 1, 1) := by decide +kernel
theorem dX6_hangRod_34 : decode cX6_hangRod 34 = .ok (.aload_n 2, 1) := by decide +kernel
theorem dX6_hangRod_35 : decode cX6_hangRod 35 = .ok (.iload 5, 2) := by decide +kernel
theorem dX6_hangRod_37 : decode cX6_hangRod 37 = .ok (.invokevirtual 73, 3) := by decide +kernel
theorem dX6_hangRod_40 : decode cX6_hangRod 40 = .ok (.iastore, 1) := by decide +kernel
theorem dX6_hangRod_41 : decode cX6_hangRod 41 = .ok (.aload_n 0, 1) := by decide +kernel
theorem dX6_hangRod_42 : decode cX6_hangRod 42 = .ok (.getfield 15, 3) := by decide +kernel
theorem dX6_hangRod_45 : decode cX6_hangRod 45 = .ok (.iload_n 3, 1) := by decide +kernel
theorem dX6_hangRod_46 : decode cX6_hangRod 46 = .ok (.aload_n 0, 1) := by decide +kernel
theorem dX6_hangRod_47 : decode cX6_hangRod 47 = .ok (.getfield 9, 3) := by decide +kernel
theorem dX6_hangRod_50 : decode cX6_hangRod 50 = .ok (.iload 5, 2) := by decide +kernel
theorem dX6_hangRod_52 : decode cX6_hangRod 52 = .ok (.iaload, 1) := by decide +kernel
theorem dX6_hangRod_53 : decode cX6_hangRod 53 = .ok (.aload_n 1, 1) := by decide +kernel
theorem dX6_hangRod_54 : decode cX6_hangRod 54 = .ok (.getfield 77, 3) := by decide +kernel
theorem dX6_hangRod_57 : decode cX6_hangRod 57 = .ok (.iload 5, 2) := by decide +kernel
theorem dX6_hangRod_59 : decode cX6_hangRod 59 = .ok (.iaload, 1) := by decide +kernel
theorem dX6_hangRod_60 : decode cX6_hangRod 60 = .ok (.imul, 1) := by decide +kernel
theorem dX6_hangRod_61 : decode cX6_hangRod 61 = .ok (.aload_n 0, 1) := by decide +kernel
theorem dX6_hangRod_62 : decode cX6_hangRod 62 = .ok (.getfield 9, 3) := by decide +kernel
theorem dX6_hangRod_65 : decode cX6_hangRod 65 = .ok (.iload 4, 2) := by decide +kernel
theorem dX6_hangRod_67 : decode cX6_hangRod 67 = .ok (.iaload, 1) := by decide +kernel
theorem dX6_hangRod_68 : decode cX6_hangRod 68 = .ok (.aload_n 1, 1) := by decide +kernel
theorem dX6_hangRod_69 : decode cX6_hangRod 69 = .ok (.getfield 77, 3) := by decide +kernel
theorem dX6_hangRod_72 : decode cX6_hangRod 72 = .ok (.iload 4, 2) := by decide +kernel
theorem dX6_hangRod_74 : decode cX6_hangRod 74 = .ok (.iaload, 1) := by decide +kernel
theorem dX6_hangRod_75 : decode cX6_hangRod 75 = .ok (.imul, 1) := by decide +kernel
theorem dX6_hangRod_76 : decode cX6_hangRod 76 = .ok (.isub, 1) := by decide +kernel
theorem dX6_hangRod_77 : decode cX6_hangRod 77 = .ok (.iastore, 1) := by decide +kernel
theorem dX6_hangRod_78 : decode cX6_hangRod 78 = .ok (.return_, 1) := by decide +kernel
theorem dX6_loadOf_0 : decode cX6_loadOf 0 = .ok (.aload_n 1, 1) := by decide +kernel
theorem dX6_loadOf_1 : decode cX6_loadOf 1 = .ok (.getfield 63, 3) := by decide +kernel
theorem dX6_loadOf_4 : decode cX6_loadOf 4 = .ok (.iload_n 3, 1) := by decide +kernel
theorem dX6_loadOf_5 : decode cX6_loadOf 5 = .ok (.iaload, 1) := by decide +kernel
theorem dX6_loadOf_6 : decode cX6_loadOf 6 = .ok (.istore 4, 2) := by decide +kernel
theorem dX6_loadOf_8 : decode cX6_loadOf 8 = .ok (.iload 4, 2) := by decide +kernel
theorem dX6_loadOf_10 : decode cX6_loadOf 10 = .ok (.bipush 10, 2) := by decide +kernel
theorem dX6_loadOf_12 : decode cX6_loadOf 12 = .ok (.if_icmp .lt 16, 3) := by decide +kernel
theorem dX6_loadOf_15 : decode cX6_loadOf 15 = .ok (.aload_n 0, 1) := by decide +kernel
theorem dX6_loadOf_16 : decode cX6_loadOf 16 = .ok (.getfield 22, 3) := by decide +kernel
theorem dX6_loadOf_19 : decode cX6_loadOf 19 = .ok (.aload_n 2, 1) := by decide +kernel
theorem dX6_loadOf_20 : decode cX6_loadOf 20 = .ok (.iload 4, 2) := by decide +kernel
theorem dX6_loadOf_22 : decode cX6_loadOf 22 = .ok (.bipush 10, 2) := by decide +kernel
theorem dX6_loadOf_24 : decode cX6_loadOf 24 = .ok (.isub, 1) := by decide +kernel
theorem dX6_loadOf_25 : decode cX6_loadOf 25 = .ok (.iaload, 1) := by decide +kernel
theorem dX6_loadOf_26 : decode cX6_loadOf 26 = .ok (.iaload, 1) := by decide +kernel
theorem dX6_loadOf_27 : decode cX6_loadOf 27 = .ok (.ireturn, 1) := by decide +kernel
theorem dX6_loadOf_28 : decode cX6_loadOf 28 = .ok (.aload_n 1, 1) := by decide +kernel
theorem dX6_loadOf_29 : decode cX6_loadOf 29 = .ok (.getfield 66, 3) := by decide +kernel
theorem dX6_loadOf_32 : decode cX6_loadOf 32 = .ok (.iload 4, 2) := by decide +kernel
theorem dX6_loadOf_34 : decode cX6_loadOf 34 = .ok (.baload, 1) := by decide +kernel
theorem dX6_loadOf_35 : decode cX6_loadOf 35 = .ok (.ifCond .eq 7, 3) := by decide +kernel
theorem dX6_loadOf_38 : decode cX6_loadOf 38 = .ok (.iconst 0, 1) := by decide +kernel
theorem dX6_loadOf_39 : decode cX6_loadOf 39 = .ok (.goto 24, 3) := by decide +kernel
theorem dX6_loadOf_42 : decode cX6_loadOf 42 = .ok (.aload_n 0, 1) := by decide +kernel
theorem dX6_loadOf_43 : decode cX6_loadOf 43 = .ok (.getfield 9, 3) := by decide +kernel
theorem dX6_loadOf_46 : decode cX6_loadOf 46 = .ok (.iconst 2, 1) := by decide +kernel
theorem dX6_loadOf_47 : decode cX6_loadOf 47 = .ok (.iload 4, 2) := by decide +kernel
theorem dX6_loadOf_49 : decode cX6_loadOf 49 = .ok (.imul, 1) := by decide +kernel
theorem dX6_loadOf_50 : decode cX6_loadOf 50 = .ok (.iaload, 1) := by decide +kernel
theorem dX6_loadOf_51 : decode cX6_loadOf 51 = .ok (.aload_n 0, 1) := by decide +kernel
theorem dX6_loadOf_52 : decode cX6_loadOf 52 = .ok (.getfield 9, 3) := by decide +kernel
theorem dX6_loadOf_55 : decode cX6_loadOf 55 = .ok (.iconst 2, 1) := by decide +kernel
theorem dX6_loadOf_56 : decode cX6_loadOf 56 = .ok (.iload 4, 2) := by decide +kernel
theorem dX6_loadOf_58 : decode cX6_loadOf 58 = .ok (.imul, 1) := by decide +kernel
theorem dX6_loadOf_59 : decode cX6_loadOf 59 = .ok (.iconst 1, 1) := by decide +kernel
theorem dX6_loadOf_60 : decode cX6_loadOf 60 = .ok (.iadd, 1) := by decide +kernel
theorem dX6_loadOf_61 : decode cX6_loadOf 61 = .ok (.iaload, 1) := by decide +kernel
theorem dX6_loadOf_62 : decode cX6_loadOf 62 = .ok (.iadd, 1) := by decide +kernel
theorem dX6_loadOf_63 : decode cX6_loadOf 63 = .ok (.ireturn, 1) := by decide +kernel
theorem dX6_rodsThere_0 : decode cX6_rodsThere 0 = .ok (.iconst 0, 1) := by decide +kernel
theorem dX6_rodsThere_1 : decode cX6_rodsThere 1 = .ok (.istore_n 2, 1) := by decide +kernel
theorem dX6_rodsThere_2 : decode cX6_rodsThere 2 = .ok (.iconst 0, 1) := by decide +kernel
theorem dX6_rodsThere_3 : decode cX6_rodsThere 3 = .ok (.istore_n 3, 1) := by decide +kernel
theorem dX6_rodsThere_4 : decode cX6_rodsThere 4 = .ok (.iload_n 3, 1) := by decide +kernel
theorem dX6_rodsThere_5 : decode cX6_rodsThere 5 = .ok (.aload_n 1, 1) := by decide +kernel
theorem dX6_rodsThere_6 : decode cX6_rodsThere 6 = .ok (.getfield 60, 3) := by decide +kernel
theorem dX6_rodsThere_9 : decode cX6_rodsThere 9 = .ok (.if_icmp .ge 26, 3) := by decide +kernel
theorem dX6_rodsThere_12 : decode cX6_rodsThere 12 = .ok (.iload_n 2, 1) := by decide +kernel
theorem dX6_rodsThere_13 : decode cX6_rodsThere 13 = .ok (.aload_n 0, 1) := by decide +kernel
theorem dX6_rodsThere_14 : decode cX6_rodsThere 14 = .ok (.getfield 18, 3) := by decide +kernel
theorem dX6_rodsThere_17 : decode cX6_rodsThere 17 = .ok (.iload_n 3, 1) := by decide +kernel
theorem dX6_rodsThere_18 : decode cX6_rodsThere 18 = .ok (.baload, 1) := by decide +kernel
theorem dX6_rodsThere_19 : decode cX6_rodsThere 19 = .ok (.ifCond .eq 7, 3) := by decide +kernel
theorem dX6_rodsThere_22 : decode cX6_rodsThere 22 = .ok (.iconst 1, 1) := by decide +kernel
theorem dX6_rodsThere_23 : decode cX6_rodsThere 23 = .ok (.goto 4, 3) := by decide +kernel
theorem dX6_rodsThere_26 : decode cX6_rodsThere 26 = .ok (.iconst 0, 1) := by decide +kernel
theorem dX6_rodsThere_27 : decode cX6_rodsThere 27 = .ok (.iadd, 1) := by decide +kernel
theorem dX6_rodsThere_28 : decode cX6_rodsThere 28 = .ok (.istore_n 2, 1) := by decide +kernel
theorem dX6_rodsThere_29 : decode cX6_rodsThere 29 = .ok (.iinc 3 1, 3) := by decide +kernel
theorem dX6_rodsThere_32 : decode cX6_rodsThere 32 = .ok (.goto (-28), 3) := by decide +kernel
theorem dX6_rodsThere_35 : decode cX6_rodsThere 35 = .ok (.iload_n 2, 1) := by decide +kernel
theorem dX6_rodsThere_36 : decode cX6_rodsThere 36 = .ok (.ireturn, 1) := by decide +kernel
theorem dX6_rodsLevel_0 : decode cX6_rodsLevel 0 = .ok (.iconst 0, 1) := by decide +kernel
theorem dX6_rodsLevel_1 : decode cX6_rodsLevel 1 = .ok (.istore_n 2, 1) := by decide +kernel
theorem dX6_rodsLevel_2 : decode cX6_rodsLevel 2 = .ok (.iconst 0, 1) := by decide +kernel
theorem dX6_rodsLevel_3 : decode cX6_rodsLevel 3 = .ok (.istore_n 3, 1) := by decide +kernel
theorem dX6_rodsLevel_4 : decode cX6_rodsLevel 4 = .ok (.iload_n 3, 1) := by decide +kernel
theorem dX6_rodsLevel_5 : decode cX6_rodsLevel 5 = .ok (.aload_n 1, 1) := by decide +kernel
theorem dX6_rodsLevel_6 : decode cX6_rodsLevel 6 = .ok (.getfield 60, 3) := by decide +kernel
theorem dX6_rodsLevel_9 : decode cX6_rodsLevel 9 = .ok (.if_icmp .ge 35, 3) := by decide +kernel
theorem dX6_rodsLevel_12 : decode cX6_rodsLevel 12 = .ok (.iload_n 2, 1) := by decide +kernel
theorem dX6_rodsLevel_13 : decode cX6_rodsLevel 13 = .ok (.aload_n 0, 1) := by decide +kernel
theorem dX6_rodsLevel_14 : decode cX6_rodsLevel 14 = .ok (.getfield 18, 3) := by decide +kernel
theorem dX6_rodsLevel_17 : decode cX6_rodsLevel 17 = .ok (.iload_n 3, 1) := by decide +kernel
theorem dX6_rodsLevel_18 : decode cX6_rodsLevel 18 = .ok (.baload, 1) := by decide +kernel
theorem dX6_rodsLevel_19 : decode cX6_rodsLevel 19 = .ok (.ifCond .eq 16, 3) := by decide +kernel
theorem dX6_rodsLevel_22 : decode cX6_rodsLevel 22 = .ok (.aload_n 0, 1) := by decide +kernel
theorem dX6_rodsLevel_23 : decode cX6_rodsLevel 23 = .ok (.getfield 15, 3) := by decide +kernel
theorem dX6_rodsLevel_26 : decode cX6_rodsLevel 26 = .ok (.iload_n 3, 1) := by decide +kernel
theorem dX6_rodsLevel_27 : decode cX6_rodsLevel 27 = .ok (.iaload, 1) := by decide +kernel
theorem dX6_rodsLevel_28 : decode cX6_rodsLevel 28 = .ok (.ifCond .ne 7, 3) := by decide +kernel
theorem dX6_rodsLevel_31 : decode cX6_rodsLevel 31 = .ok (.iconst 1, 1) := by decide +kernel
theorem dX6_rodsLevel_32 : decode cX6_rodsLevel 32 = .ok (.goto 4, 3) := by decide +kernel
theorem dX6_rodsLevel_35 : decode cX6_rodsLevel 35 = .ok (.iconst 0, 1) := by decide +kernel
theorem dX6_rodsLevel_36 : decode cX6_rodsLevel 36 = .ok (.iadd, 1) := by decide +kernel
theorem dX6_rodsLevel_37 : decode cX6_rodsLevel 37 = .ok (.istore_n 2, 1) := by decide +kernel
theorem dX6_rodsLevel_38 : decode cX6_rodsLevel 38 = .ok (.iinc 3 1, 3) := by decide +kernel
theorem dX6_rodsLevel_41 : decode cX6_rodsLevel 41 = .ok (.goto (-37), 3) := by decide +kernel
theorem dX6_rodsLevel_44 : decode cX6_rodsLevel 44 = .ok (.iload_n 2, 1) := by decide +kernel
theorem dX6_rodsLevel_45 : decode cX6_rodsLevel 45 = .ok (.ireturn, 1) := by decide +kernel
theorem dX6_thingsThere_0 : decode cX6_thingsThere 0 = .ok (.iconst 0, 1) := by decide +kernel
theorem dX6_thingsThere_1 : decode cX6_thingsThere 1 = .ok (.istore_n 2, 1) := by decide +kernel
theorem dX6_thingsThere_2 : decode cX6_thingsThere 2 = .ok (.iconst 0, 1) := by decide +kernel
theorem dX6_thingsThere_3 : decode cX6_thingsThere 3 = .ok (.istore_n 3, 1) := by decide +kernel
theorem dX6_thingsThere_4 : decode cX6_thingsThere 4 = .ok (.iload_n 3, 1) := by decide +kernel
theorem dX6_thingsThere_5 : decode cX6_thingsThere 5 = .ok (.aload_n 1, 1) := by decide +kernel
theorem dX6_thingsThere_6 : decode cX6_thingsThere 6 = .ok (.getfield 42, 3) := by decide +kernel
theorem dX6_thingsThere_9 : decode cX6_thingsThere 9 = .ok (.if_icmp .ge 53, 3) := by decide +kernel
theorem dX6_thingsThere_12 : decode cX6_thingsThere 12 = .ok (.aload_n 1, 1) := by decide +kernel
theorem dX6_thingsThere_13 : decode cX6_thingsThere 13 = .ok (.getfield 57, 3) := by decide +kernel
theorem dX6_thingsThere_16 : decode cX6_thingsThere 16 = .ok (.iload_n 3, 1) := by decide +kernel
theorem dX6_thingsThere_17 : decode cX6_thingsThere 17 = .ok (.baload, 1) := by decide +kernel
theorem dX6_thingsThere_18 : decode cX6_thingsThere 18 = .ok (.ifCond .ne 22, 3) := by decide +kernel
theorem dX6_thingsThere_21 : decode cX6_thingsThere 21 = .ok (.aload_n 0, 1) := by decide +kernel
theorem dX6_thingsThere_22 : decode cX6_thingsThere 22 = .ok (.getfield 18, 3) := by decide +kernel
theorem dX6_thingsThere_25 : decode cX6_thingsThere 25 = .ok (.aload_n 1, 1) := by decide +kernel
theorem dX6_thingsThere_26 : decode cX6_thingsThere 26 = .ok (.iload_n 3, 1) := by decide +kernel
theorem dX6_thingsThere_27 : decode cX6_thingsThere 27 = .ok (.invokevirtual 80, 3) := by decide +kernel
theorem dX6_thingsThere_30 : decode cX6_thingsThere 30 = .ok (.iconst 2, 1) := by decide +kernel
theorem dX6_thingsThere_31 : decode cX6_thingsThere 31 = .ok (.idiv, 1) := by decide +kernel
theorem dX6_thingsThere_32 : decode cX6_thingsThere 32 = .ok (.baload, 1) := by decide +kernel
theorem dX6_thingsThere_33 : decode cX6_thingsThere 33 = .ok (.ifCond .eq 7, 3) := by decide +kernel
theorem dX6_thingsThere_36 : decode cX6_thingsThere 36 = .ok (.iconst 1, 1) := by decide +kernel
theorem dX6_thingsThere_37 : decode cX6_thingsThere 37 = .ok (.goto 4, 3) := by decide +kernel
theorem dX6_thingsThere_40 : decode cX6_thingsThere 40 = .ok (.iconst 0, 1) := by decide +kernel
theorem dX6_thingsThere_41 : decode cX6_thingsThere 41 = .ok (.istore 4, 2) := by decide +kernel
theorem dX6_thingsThere_43 : decode cX6_thingsThere 43 = .ok (.iload_n 2, 1) := by decide +kernel
theorem dX6_thingsThere_44 : decode cX6_thingsThere 44 = .ok (.iload 4, 2) := by decide +kernel
theorem dX6_thingsThere_46 : decode cX6_thingsThere 46 = .ok (.ifCond .eq 7, 3) := by decide +kernel
theorem dX6_thingsThere_49 : decode cX6_thingsThere 49 = .ok (.iconst 1, 1) := by decide +kernel
theorem dX6_thingsThere_50 : decode cX6_thingsThere 50 = .ok (.goto 4, 3) := by decide +kernel
theorem dX6_thingsThere_53 : decode cX6_thingsThere 53 = .ok (.iconst 0, 1) := by decide +kernel
theorem dX6_thingsThere_54 : decode cX6_thingsThere 54 = .ok (.iadd, 1) := by decide +kernel
theorem dX6_thingsThere_55 : decode cX6_thingsThere 55 = .ok (.istore_n 2, 1) := by decide +kernel
theorem dX6_thingsThere_56 : decode cX6_thingsThere 56 = .ok (.iinc 3 1, 3) := by decide +kernel
theorem dX6_thingsThere_59 : decode cX6_thingsThere 59 = .ok (.goto (-55), 3) := by decide +kernel
theorem dX6_thingsThere_62 : decode cX6_thingsThere 62 = .ok (.iload_n 2, 1) := by decide +kernel
theorem dX6_thingsThere_63 : decode cX6_thingsThere 63 = .ok (.ireturn, 1) := by decide +kernel
theorem dX6_tiltTogether_0 : decode cX6_tiltTogether 0 = .ok (.iconst 0, 1) := by decide +kernel
theorem dX6_tiltTogether_1 : decode cX6_tiltTogether 1 = .ok (.istore_n 2, 1) := by decide +kernel
theorem dX6_tiltTogether_2 : decode cX6_tiltTogether 2 = .ok (.iconst 0, 1) := by decide +kernel
theorem dX6_tiltTogether_3 : decode cX6_tiltTogether 3 = .ok (.istore_n 3, 1) := by decide +kernel
theorem dX6_tiltTogether_4 : decode cX6_tiltTogether 4 = .ok (.iload_n 3, 1) := by decide +kernel
theorem dX6_tiltTogether_5 : decode cX6_tiltTogether 5 = .ok (.aload_n 1, 1) := by decide +kernel
theorem dX6_tiltTogether_6 : decode cX6_tiltTogether 6 = .ok (.getfield 60, 3) := by decide +kernel
theorem dX6_tiltTogether_9 : decode cX6_tiltTogether 9 = .ok (.if_icmp .ge 34, 3) := by decide +kernel
theorem dX6_tiltTogether_12 : decode cX6_tiltTogether 12 = .ok (.iload_n 2, 1) := by decide +kernel
theorem dX6_tiltTogether_13 : decode cX6_tiltTogether 13 = .ok (.aload_n 0, 1) := by decide +kernel
theorem dX6_tiltTogether_14 : decode cX6_tiltTogether 14 = .ok (.getfield 18, 3) := by decide +kernel
theorem dX6_tiltTogether_17 : decode cX6_tiltTogether 17 = .ok (.iload_n 3, 1) := by decide +kernel
theorem dX6_tiltTogether_18 : decode cX6_tiltTogether 18 = .ok (.baload, 1) := by decide +kernel
theorem dX6_tiltTogether_19 : decode cX6_tiltTogether 19 = .ok (.ifCond .eq 15, 3) := by decide +kernel
theorem dX6_tiltTogether_22 : decode cX6_tiltTogether 22 = .ok (.aload_n 0, 1) := by decide +kernel
theorem dX6_tiltTogether_23 : decode cX6_tiltTogether 23 = .ok (.getfield 15, 3) := by decide +kernel
theorem dX6_tiltTogether_26 : decode cX6_tiltTogether 26 = .ok (.iload_n 3, 1) := by decide +kernel
theorem dX6_tiltTogether_27 : decode cX6_tiltTogether 27 = .ok (.iaload, 1) := by decide +kernel
theorem dX6_tiltTogether_28 : decode cX6_tiltTogether 28 = .ok (.invokestatic 84, 3) := by decide +kernel
theorem dX6_tiltTogether_31 : decode cX6_tiltTogether 31 = .ok (.goto 4, 3) := by decide +kernel
theorem dX6_tiltTogether_34 : decode cX6_tiltTogether 34 = .ok (.iconst 0, 1) := by decide +kernel
theorem dX6_tiltTogether_35 : decode cX6_tiltTogether 35 = .ok (.iadd, 1) := by decide +kernel
theorem dX6_tiltTogether_36 : decode cX6_tiltTogether 36 = .ok (.istore_n 2, 1) := by decide +kernel
theorem dX6_tiltTogether_37 : decode cX6_tiltTogether 37 = .ok (.iinc 3 1, 3) := by decide +kernel
theorem dX6_tiltTogether_40 : decode cX6_tiltTogether 40 = .ok (.goto (-36), 3) := by decide +kernel
theorem dX6_tiltTogether_43 : decode cX6_tiltTogether 43 = .ok (.iload_n 2, 1) := by decide +kernel
theorem dX6_tiltTogether_44 : decode cX6_tiltTogether 44 = .ok (.ireturn, 1) := by decide +kernel
theorem dX6_hookFor_0 : decode cX6_hookFor 0 = .ok (.aload_n 1, 1) := by decide +kernel
theorem dX6_hookFor_1 : decode cX6_hookFor 1 = .ok (.getfield 77, 3) := by decide +kernel
theorem dX6_hookFor_4 : decode cX6_hookFor 4 = .ok (.iconst 2, 1) := by decide +kernel
theorem dX6_hookFor_5 : decode cX6_hookFor 5 = .ok (.iload_n 2, 1) := by decide +kernel
theorem dX6_hookFor_6 : decode cX6_hookFor 6 = .ok (.imul, 1) := by decide +kernel
theorem dX6_hookFor_7 : decode cX6_hookFor 7 = .ok (.iaload, 1) := by decide +kernel
theorem dX6_hookFor_8 : decode cX6_hookFor 8 = .ok (.aload_n 1, 1) := by decide +kernel
theorem dX6_hookFor_9 : decode cX6_hookFor 9 = .ok (.getfield 77, 3) := by decide +kernel
theorem dX6_hookFor_12 : decode cX6_hookFor 12 = .ok (.iconst 2, 1) := by decide +kernel
theorem dX6_hookFor_13 : decode cX6_hookFor 13 = .ok (.iload_n 2, 1) := by decide +kernel
theorem dX6_hookFor_14 : decode cX6_hookFor 14 = .ok (.imul, 1) := by decide +kernel
theorem dX6_hookFor_15 : decode cX6_hookFor 15 = .ok (.iconst 1, 1) := by decide +kernel
theorem dX6_hookFor_16 : decode cX6_hookFor 16 = .ok (.iadd, 1) := by decide +kernel
theorem dX6_hookFor_17 : decode cX6_hookFor 17 = .ok (.iaload, 1) := by decide +kernel
theorem dX6_hookFor_18 : decode cX6_hookFor 18 = .ok (.iadd, 1) := by decide +kernel
theorem dX6_hookFor_19 : decode cX6_hookFor 19 = .ok (.istore_n 3, 1) := by decide +kernel
theorem dX6_hookFor_20 : decode cX6_hookFor 20 = .ok (.iconst 1, 1) := by decide +kernel
theorem dX6_hookFor_21 : decode cX6_hookFor 21 = .ok (.istore 4, 2) := by decide +kernel
theorem dX6_hookFor_23 : decode cX6_hookFor 23 = .ok (.iload 4, 2) := by decide +kernel
theorem dX6_hookFor_25 : decode cX6_hookFor 25 = .ok (.iload_n 3, 1) := by decide +kernel
theorem dX6_hookFor_26 : decode cX6_hookFor 26 = .ok (.if_icmp .ge 41, 3) := by decide +kernel
theorem dX6_hookFor_29 : decode cX6_hookFor 29 = .ok (.aload_n 0, 1) := by decide +kernel
theorem dX6_hookFor_30 : decode cX6_hookFor 30 = .ok (.getfield 9, 3) := by decide +kernel
theorem dX6_hookFor_33 : decode cX6_hookFor 33 = .ok (.iconst 2, 1) := by decide +kernel
theorem dX6_hookFor_34 : decode cX6_hookFor 34 = .ok (.iload_n 2, 1) := by decide +kernel
theorem dX6_hookFor_35 : decode cX6_hookFor 35 = .ok (.imul, 1) := by decide +kernel
theorem dX6_hookFor_36 : decode cX6_hookFor 36 = .ok (.iaload, 1) := by decide +kernel
theorem dX6_hookFor_37 : decode cX6_hookFor 37 = .ok (.iload 4, 2) := by decide +kernel
theorem dX6_hookFor_39 : decode cX6_hookFor 39 = .ok (.imul, 1) := by decide +kernel
theorem dX6_hookFor_40 : decode cX6_hookFor 40 = .ok (.aload_n 0, 1) := by decide +kernel
theorem dX6_hookFor_41 : decode cX6_hookFor 41 = .ok (.getfield 9, 3) := by decide +kernel
theorem dX6_hookFor_44 : decode cX6_hookFor 44 = .ok (.iconst 2, 1) := by decide +kernel
theorem dX6_hookFor_45 : decode cX6_hookFor 45 = .ok (.iload_n 2, 1) := by decide +kernel
theorem dX6_hookFor_46 : decode cX6_hookFor 46 = .ok (.imul, 1) := by decide +kernel
theorem dX6_hookFor_47 : decode cX6_hookFor 47 = .ok (.iconst 1, 1) := by decide +kernel
theorem dX6_hookFor_48 : decode cX6_hookFor 48 = .ok (.iadd, 1) := by decide +kernel
theorem dX6_hookFor_49 : decode cX6_hookFor 49 = .ok (.iaload, 1) := by decide +kernel
theorem dX6_hookFor_50 : decode cX6_hookFor 50 = .ok (.iload_n 3, 1) := by decide +kernel
theorem dX6_hookFor_51 : decode cX6_hookFor 51 = .ok (.iload 4, 2) := by decide +kernel
theorem dX6_hookFor_53 : decode cX6_hookFor 53 = .ok (.isub, 1) := by decide +kernel
theorem dX6_hookFor_54 : decode cX6_hookFor 54 = .ok (.imul, 1) := by decide +kernel
theorem dX6_hookFor_55 : decode cX6_hookFor 55 = .ok (.if_icmp .ne 6, 3) := by decide +kernel
theorem dX6_hookFor_58 : decode cX6_hookFor 58 = .ok (.iload 4, 2) := by decide +kernel
theorem dX6_hookFor_60 : decode cX6_hookFor 60 = .ok (.ireturn, 1) := by decide +kernel
theorem dX6_hookFor_61 : decode cX6_hookFor 61 = .ok (.iinc 4 1, 3) := by decide +kernel
theorem dX6_hookFor_64 : decode cX6_hookFor 64 = .ok (.goto (-41), 3) := by decide +kernel
theorem dX6_hookFor_67 : decode cX6_hookFor 67 = .ok (.iconst (-1), 1) := by decide +kernel
theorem dX6_hookFor_68 : decode cX6_hookFor 68 = .ok (.ireturn, 1) := by decide +kernel
theorem dX6_beadToAdd_0 : decode cX6_beadToAdd 0 = .ok (.aload_n 0, 1) := by decide +kernel
theorem dX6_beadToAdd_1 : decode cX6_beadToAdd 1 = .ok (.getfield 15, 3) := by decide +kernel
theorem dX6_beadToAdd_4 : decode cX6_beadToAdd 4 = .ok (.iload_n 2, 1) := by decide +kernel
theorem dX6_beadToAdd_5 : decode cX6_beadToAdd 5 = .ok (.iaload, 1) := by decide +kernel
theorem dX6_beadToAdd_6 : decode cX6_beadToAdd 6 = .ok (.ifCond .ne 5, 3) := by decide +kernel
theorem dX6_beadToAdd_9 : decode cX6_beadToAdd 9 = .ok (.iconst 0, 1) := by decide +kernel
theorem dX6_beadToAdd_10 : decode cX6_beadToAdd 10 = .ok (.ireturn, 1) := by decide +kernel
theorem dX6_beadToAdd_11 : decode cX6_beadToAdd 11 = .ok (.iconst 1, 1) := by decide +kernel
theorem dX6_beadToAdd_12 : decode cX6_beadToAdd 12 = .ok (.istore_n 3, 1) := by decide +kernel
theorem dX6_beadToAdd_13 : decode cX6_beadToAdd 13 = .ok (.iload_n 3, 1) := by decide +kernel
theorem dX6_beadToAdd_14 : decode cX6_beadToAdd 14 = .ok (.bipush 30, 2) := by decide +kernel
theorem dX6_beadToAdd_16 : decode cX6_beadToAdd 16 = .ok (.if_icmp .gt 56, 3) := by decide +kernel
theorem dX6_beadToAdd_19 : decode cX6_beadToAdd 19 = .ok (.aload_n 0, 1) := by decide +kernel
theorem dX6_beadToAdd_20 : decode cX6_beadToAdd 20 = .ok (.getfield 15, 3) := by decide +kernel
theorem dX6_beadToAdd_23 : decode cX6_beadToAdd 23 = .ok (.iload_n 2, 1) := by decide +kernel
theorem dX6_beadToAdd_24 : decode cX6_beadToAdd 24 = .ok (.iaload, 1) := by decide +kernel
theorem dX6_beadToAdd_25 : decode cX6_beadToAdd 25 = .ok (.iload_n 3, 1) := by decide +kernel
theorem dX6_beadToAdd_26 : decode cX6_beadToAdd 26 = .ok (.aload_n 1, 1) := by decide +kernel
theorem dX6_beadToAdd_27 : decode cX6_beadToAdd 27 = .ok (.getfield 77, 3) := by decide +kernel
theorem dX6_beadToAdd_30 : decode cX6_beadToAdd 30 = .ok (.iconst 2, 1) := by decide +kernel
theorem dX6_beadToAdd_31 : decode cX6_beadToAdd 31 = .ok (.iload_n 2, 1) := by decide +kernel
theorem dX6_beadToAdd_32 : decode cX6_beadToAdd 32 = .ok (.imul, 1) := by decide +kernel
theorem dX6_beadToAdd_33 : decode cX6_beadToAdd 33 = .ok (.iconst 1, 1) := by decide +kernel
theorem dX6_beadToAdd_34 : decode cX6_beadToAdd 34 = .ok (.iadd, 1) := by decide +kernel
theorem dX6_beadToAdd_35 : decode cX6_beadToAdd 35 = .ok (.iaload, 1) := by decide +kernel
theorem dX6_beadToAdd_36 : decode cX6_beadToAdd 36 = .ok (.imul, 1) := by decide +kernel
theorem dX6_beadToAdd_37 : decode cX6_beadToAdd 37 = .ok (.iadd, 1) := by decide +kernel
theorem dX6_beadToAdd_38 : decode cX6_beadToAdd 38 = .ok (.ifCond .ne 5, 3) := by decide +kernel
theorem dX6_beadToAdd_41 : decode cX6_beadToAdd 41 = .ok (.iload_n 3, 1) := by decide +kernel
theorem dX6_beadToAdd_42 : decode cX6_beadToAdd 42 = .ok (.ireturn, 1) := by decide +kernel
theorem dX6_beadToAdd_43 : decode cX6_beadToAdd 43 = .ok (.aload_n 0, 1) := by decide +kernel
theorem dX6_beadToAdd_44 : decode cX6_beadToAdd 44 = .ok (.getfield 15, 3) := by decide +kernel
theorem dX6_beadToAdd_47 : decode cX6_beadToAdd 47 = .ok (.iload_n 2, 1) := by decide +kernel
theorem dX6_beadToAdd_48 : decode cX6_beadToAdd 48 = .ok (.iaload, 1) := by decide +kernel
theorem dX6_beadToAdd_49 : decode cX6_beadToAdd 49 = .ok (.iload_n 3, 1) := by decide +kernel
theorem dX6_beadToAdd_50 : decode cX6_beadToAdd 50 = .ok (.aload_n 1, 1) := by decide +kernel
theorem dX6_beadToAdd_51 : decode cX6_beadToAdd 51 = .ok (.getfield 77, 3) := by decide +kernel
theorem dX6_beadToAdd_54 : decode cX6_beadToAdd 54 = .ok (.iconst 2, 1) := by decide +kernel
theorem dX6_beadToAdd_55 : decode cX6_beadToAdd 55 = .ok (.iload_n 2, 1) := by decide +kernel
theorem dX6_beadToAdd_56 : decode cX6_beadToAdd 56 = .ok (.imul, 1) := by decide +kernel
theorem dX6_beadToAdd_57 : decode cX6_beadToAdd 57 = .ok (.iaload, 1) := by decide +kernel
theorem dX6_beadToAdd_58 : decode cX6_beadToAdd 58 = .ok (.imul, 1) := by decide +kernel
theorem dX6_beadToAdd_59 : decode cX6_beadToAdd 59 = .ok (.isub, 1) := by decide +kernel
theorem dX6_beadToAdd_60 : decode cX6_beadToAdd 60 = .ok (.ifCond .ne 6, 3) := by decide +kernel
theorem dX6_beadToAdd_63 : decode cX6_beadToAdd 63 = .ok (.iload_n 3, 1) := by decide +kernel
theorem dX6_beadToAdd_64 : decode cX6_beadToAdd 64 = .ok (.ineg, 1) := by decide +kernel
theorem dX6_beadToAdd_65 : decode cX6_beadToAdd 65 = .ok (.ireturn, 1) := by decide +kernel
theorem dX6_beadToAdd_66 : decode cX6_beadToAdd 66 = .ok (.iinc 3 1, 3) := by decide +kernel
theorem dX6_beadToAdd_69 : decode cX6_beadToAdd 69 = .ok (.goto (-56), 3) := by decide +kernel
theorem dX6_beadToAdd_72 : decode cX6_beadToAdd 72 = .ok (.bipush 99, 2) := by decide +kernel
theorem dX6_beadToAdd_74 : decode cX6_beadToAdd 74 = .ok (.ireturn, 1) := by decide +kernel
theorem dX7_init_0 : decode cX7_init 0 = .ok (.aload_n 0, 1) := by decide +kernel
theorem dX7_init_1 : decode cX7_init 1 = .ok (.invokespecial 3, 3) := by decide +kernel
theorem dX7_init_4 : decode cX7_init 4 = .ok (.aload_n 0, 1) := by decide +kernel
theorem dX7_init_5 : decode cX7_init 5 = .ok (.bipush 6, 2) := by decide +kernel
theorem dX7_init_7 : decode cX7_init 7 = .ok (.newarray .int, 2) := by decide +kernel
theorem dX7_init_9 : decode cX7_init 9 = .ok (.putfield 9, 3) := by decide +kernel
theorem dX7_init_12 : decode cX7_init 12 = .ok (.aload_n 0, 1) := by decide +kernel
theorem dX7_init_13 : decode cX7_init 13 = .ok (.bipush 6, 2) := by decide +kernel
theorem dX7_init_15 : decode cX7_init 15 = .ok (.newarray .int, 2) := by decide +kernel
theorem dX7_init_17 : decode cX7_init 17 = .ok (.putfield 15, 3) := by decide +kernel
theorem dX7_init_20 : decode cX7_init 20 = .ok (.aload_n 0, 1) := by decide +kernel
theorem dX7_init_21 : decode cX7_init 21 = .ok (.bipush 6, 2) := by decide +kernel
theorem dX7_init_23 : decode cX7_init 23 = .ok (.newarray .int, 2) := by decide +kernel
theorem dX7_init_25 : decode cX7_init 25 = .ok (.putfield 18, 3) := by decide +kernel
theorem dX7_init_28 : decode cX7_init 28 = .ok (.aload_n 0, 1) := by decide +kernel
theorem dX7_init_29 : decode cX7_init 29 = .ok (.bipush 6, 2) := by decide +kernel
theorem dX7_init_31 : decode cX7_init 31 = .ok (.newarray .int, 2) := by decide +kernel
theorem dX7_init_33 : decode cX7_init 33 = .ok (.putfield 21, 3) := by decide +kernel
theorem dX7_init_36 : decode cX7_init 36 = .ok (.return_, 1) := by decide +kernel
theorem dX7_add_0 : decode cX7_add 0 = .ok (.aload_n 0, 1) := by decide +kernel
theorem dX7_add_1 : decode cX7_add 1 = .ok (.getfield 24, 3) := by decide +kernel
theorem dX7_add_4 : decode cX7_add 4 = .ok (.bipush 6, 2) := by decide +kernel
theorem dX7_add_6 : decode cX7_add 6 = .ok (.if_icmp .lt 4, 3) := by decide +kernel
theorem dX7_add_9 : decode cX7_add 9 = .ok (.return_, 1) := by decide +kernel
theorem dX7_add_10 : decode cX7_add 10 = .ok (.aload_n 0, 1) := by decide +kernel
theorem dX7_add_11 : decode cX7_add 11 = .ok (.getfield 9, 3) := by decide +kernel
theorem dX7_add_14 : decode cX7_add 14 = .ok (.aload_n 0, 1) := by decide +kernel
theorem dX7_add_15 : decode cX7_add 15 = .ok (.getfield 24, 3) := by decide +kernel
theorem dX7_add_18 : decode cX7_add 18 = .ok (.iload_n 1, 1) := by decide +kernel
theorem dX7_add_19 : decode cX7_add 19 = .ok (.iastore, 1) := by decide +kernel
theorem dX7_add_20 : decode cX7_add 20 = .ok (.aload_n 0, 1) := by decide +kernel
theorem dX7_add_21 : decode cX7_add 21 = .ok (.getfield 15, 3) := by decide +kernel
theorem dX7_add_24 : decode cX7_add 24 = .ok (.aload_n 0, 1) := by decide +kernel
theorem dX7_add_25 : decode cX7_add 25 = .ok (.getfield 24, 3) := by decide +kernel
theorem dX7_add_28 : decode cX7_add 28 = .ok (.iload_n 2, 1) := by decide +kernel
theorem dX7_add_29 : decode cX7_add 29 = .ok (.iastore, 1) := by decide +kernel
theorem dX7_add_30 : decode cX7_add 30 = .ok (.aload_n 0, 1) := by decide +kernel
theorem dX7_add_31 : decode cX7_add 31 = .ok (.getfield 18, 3) := by decide +kernel
theorem dX7_add_34 : decode cX7_add 34 = .ok (.aload_n 0, 1) := by decide +kernel
theorem dX7_add_35 : decode cX7_add 35 = .ok (.getfield 24, 3) := by decide +kernel
theorem dX7_add_38 : decode cX7_add 38 = .ok (.iload_n 3, 1) := by decide +kernel
theorem dX7_add_39 : decode cX7_add 39 = .ok (.iastore, 1) := by decide +kernel
theorem dX7_add_40 : decode cX7_add 40 = .ok (.aload_n 0, 1) := by decide +kernel
theorem dX7_add_41 : decode cX7_add 41 = .ok (.getfield 21, 3) := by decide +kernel
theorem dX7_add_44 : decode cX7_add 44 = .ok (.aload_n 0, 1) := by decide +kernel
theorem dX7_add_45 : decode cX7_add 45 = .ok (.getfield 24, 3) := by decide +kernel
theorem dX7_add_48 : decode cX7_add 48 = .ok (.iload 4, 2) := by decide +kernel
theorem dX7_add_50 : decode cX7_add 50 = .ok (.iastore, 1) := by decide +kernel
theorem dX7_add_51 : decode cX7_add 51 = .ok (.aload_n 0, 1) := by decide +kernel
theorem dX7_add_52 : decode cX7_add 52 = .ok (.dup, 1) := by decide +kernel
theorem dX7_add_53 : decode cX7_add 53 = .ok (.getfield 24, 3) := by decide +kernel
theorem dX7_add_56 : decode cX7_add 56 = .ok (.iconst 1, 1) := by decide +kernel
theorem dX7_add_57 : decode cX7_add 57 = .ok (.iadd, 1) := by decide +kernel
theorem dX7_add_58 : decode cX7_add 58 = .ok (.putfield 24, 3) := by decide +kernel
theorem dX7_add_61 : decode cX7_add 61 = .ok (.return_, 1) := by decide +kernel
theorem dX7_copyFrom_0 : decode cX7_copyFrom 0 = .ok (.aload_n 0, 1) := by decide +kernel
theorem dX7_copyFrom_1 : decode cX7_copyFrom 1 = .ok (.aload_n 1, 1) := by decide +kernel
theorem dX7_copyFrom_2 : decode cX7_copyFrom 2 = .ok (.getfield 24, 3) := by decide +kernel
theorem dX7_copyFrom_5 : decode cX7_copyFrom 5 = .ok (.putfield 24, 3) := by decide +kernel
theorem dX7_copyFrom_8 : decode cX7_copyFrom 8 = .ok (.iconst 0, 1) := by decide +kernel
theorem dX7_copyFrom_9 : decode cX7_copyFrom 9 = .ok (.istore_n 2, 1) := by decide +kernel
theorem dX7_copyFrom_10 : decode cX7_copyFrom 10 = .ok (.iload_n 2, 1) := by decide +kernel
theorem dX7_copyFrom_11 : decode cX7_copyFrom 11 = .ok (.bipush 6, 2) := by decide +kernel
theorem dX7_copyFrom_13 : decode cX7_copyFrom 13 = .ok (.if_icmp .ge 57, 3) := by decide +kernel
theorem dX7_copyFrom_16 : decode cX7_copyFrom 16 = .ok (.aload_n 0, 1) := by decide +kernel
theorem dX7_copyFrom_17 : decode cX7_copyFrom 17 = .ok (.getfield 9, 3) := by decide +kernel
theorem dX7_copyFrom_20 : decode cX7_copyFrom 20 = .ok (.iload_n 2, 1) := by decide +kernel
theorem dX7_copyFrom_21 : decode cX7_copyFrom 21 = .ok (.aload_n 1, 1) := by decide +kernel
theorem dX7_copyFrom_22 : decode cX7_copyFrom 22 = .ok (.getfield 9, 3) := by decide +kernel
theorem dX7_copyFrom_25 : decode cX7_copyFrom 25 = .ok (.iload_n 2, 1) := by decide +kernel
theorem dX7_copyFrom_26 : decode cX7_copyFrom 26 = .ok (.iaload, 1) := by decide +kernel
theorem dX7_copyFrom_27 : decode cX7_copyFrom 27 = .ok (.iastore, 1) := by decide +kernel
theorem dX7_copyFrom_28 : decode cX7_copyFrom 28 = .ok (.aload_n 0, 1) := by decide +kernel
theorem dX7_copyFrom_29 : decode cX7_copyFrom 29 = .ok (.getfield 15, 3) := by decide +kernel
theorem dX7_copyFrom_32 : decode cX7_copyFrom 32 = .ok (.iload_n 2, 1) := by decide +kernel
theorem dX7_copyFrom_33 : decode cX7_copyFrom 33 = .ok (.aload_n 1, 1) := by decide +kernel
theorem dX7_copyFrom_34 : decode cX7_copyFrom 34 = .ok (.getfield 15, 3) := by decide +kernel
theorem dX7_copyFrom_37 : decode cX7_copyFrom 37 = .ok (.iload_n 2, 1) := by decide +kernel
theorem dX7_copyFrom_38 : decode cX7_copyFrom 38 = .ok (.iaload, 1) := by decide +kernel
theorem dX7_copyFrom_39 : decode cX7_copyFrom 39 = .ok (.iastore, 1) := by decide +kernel
theorem dX7_copyFrom_40 : decode cX7_copyFrom 40 = .ok (.aload_n 0, 1) := by decide +kernel
theorem dX7_copyFrom_41 : decode cX7_copyFrom 41 = .ok (.getfield 18, 3) := by decide +kernel
theorem dX7_copyFrom_44 : decode cX7_copyFrom 44 = .ok (.iload_n 2, 1) := by decide +kernel
theorem dX7_copyFrom_45 : decode cX7_copyFrom 45 = .ok (.aload_n 1, 1) := by decide +kernel
theorem dX7_copyFrom_46 : decode cX7_copyFrom 46 = .ok (.getfield 18, 3) := by decide +kernel
theorem dX7_copyFrom_49 : decode cX7_copyFrom 49 = .ok (.iload_n 2, 1) := by decide +kernel
theorem dX7_copyFrom_50 : decode cX7_copyFrom 50 = .ok (.iaload, 1) := by decide +kernel
theorem dX7_copyFrom_51 : decode cX7_copyFrom 51 = .ok (.iastore, 1) := by decide +kernel
theorem dX7_copyFrom_52 : decode cX7_copyFrom 52 = .ok (.aload_n 0, 1) := by decide +kernel
theorem dX7_copyFrom_53 : decode cX7_copyFrom 53 = .ok (.getfield 21, 3) := by decide +kernel
theorem dX7_copyFrom_56 : decode cX7_copyFrom 56 = .ok (.iload_n 2, 1) := by decide +kernel
theorem dX7_copyFrom_57 : decode cX7_copyFrom 57 = .ok (.aload_n 1, 1) := by decide +kernel
theorem dX7_copyFrom_58 : decode cX7_copyFrom 58 = .ok (.getfield 21, 3) := by decide +kernel
theorem dX7_copyFrom_61 : decode cX7_copyFrom 61 = .ok (.iload_n 2, 1) := by decide +kernel
theorem dX7_copyFrom_62 : decode cX7_copyFrom 62 = .ok (.iaload, 1) := by decide +kernel
theorem dX7_copyFrom_63 : decode cX7_copyFrom 63 = .ok (.iastore, 1) := by decide +kernel
theorem dX7_copyFrom_64 : decode cX7_copyFrom 64 = .ok (.iinc 2 1, 3) := by decide +kernel
theorem dX7_copyFrom_67 : decode cX7_copyFrom 67 = .ok (.goto (-57), 3) := by decide +kernel
theorem dX7_copyFrom_70 : decode cX7_copyFrom 70 = .ok (.return_, 1) := by decide +kernel
theorem dX7_sizesOf_0 : decode cX7_sizesOf 0 = .ok (.sipush 1023, 3) := by decide +kernel
theorem dX7_sizesOf_3 : decode cX7_sizesOf 3 = .ok (.istore_n 3, 1) := by decide +kernel
theorem dX7_sizesOf_4 : decode cX7_sizesOf 4 = .ok (.iconst 0, 1) := by decide +kernel
theorem dX7_sizesOf_5 : decode cX7_sizesOf 5 = .ok (.istore 4, 2) := by decide +kernel
theorem dX7_sizesOf_7 : decode cX7_sizesOf 7 = .ok (.iload 4, 2) := by decide +kernel
theorem dX7_sizesOf_9 : decode cX7_sizesOf 9 = .ok (.aload_n 0, 1) := by decide +kernel
theorem dX7_sizesOf_10 : decode cX7_sizesOf 10 = .ok (.getfield 24, 3) := by decide +kernel
theorem dX7_sizesOf_13 : decode cX7_sizesOf 13 = .ok (.if_icmp .ge 49, 3) := by decide +kernel
theorem dX7_sizesOf_16 : decode cX7_sizesOf 16 = .ok (.aload_n 0, 1) := by decide +kernel
theorem dX7_sizesOf_17 : decode cX7_sizesOf 17 = .ok (.getfield 9, 3) := by decide +kernel
theorem dX7_sizesOf_20 : decode cX7_sizesOf 20 = .ok (.iload 4, 2) := by decide +kernel
theorem dX7_sizesOf_22 : decode cX7_sizesOf 22 = .ok (.iaload, 1) := by decide +kernel
theorem dX7_sizesOf_23 : decode cX7_sizesOf 23 = .ok (.iload_n 2, 1) := by decide +kernel
theorem dX7_sizesOf_24 : decode cX7_sizesOf 24 = .ok (.if_icmp .ne 32, 3) := by decide +kernel
theorem dX7_sizesOf_27 : decode cX7_sizesOf 27 = .ok (.iload_n 3, 1) := by decide +kernel
theorem dX7_sizesOf_28 : decode cX7_sizesOf 28 = .ok (.aload_n 1, 1) := by decide +kernel
theorem dX7_sizesOf_29 : decode cX7_sizesOf 29 = .ok (.iload_n 2, 1) := by decide +kernel
theorem dX7_sizesOf_30 : decode cX7_sizesOf 30 = .ok (.aload_n 0, 1) := by decide +kernel
theorem dX7_sizesOf_31 : decode cX7_sizesOf 31 = .ok (.getfield 15, 3) := by decide +kernel
theorem dX7_sizesOf_34 : decode cX7_sizesOf 34 = .ok (.iload 4, 2) := by decide +kernel
theorem dX7_sizesOf_36 : decode cX7_sizesOf 36 = .ok (.iaload, 1) := by decide +kernel
theorem dX7_sizesOf_37 : decode cX7_sizesOf 37 = .ok (.aload_n 0, 1) := by decide +kernel
theorem dX7_sizesOf_38 : decode cX7_sizesOf 38 = .ok (.getfield 18, 3) := by decide +kernel
theorem dX7_sizesOf_41 : decode cX7_sizesOf 41 = .ok (.iload 4, 2) := by decide +kernel
theorem dX7_sizesOf_43 : decode cX7_sizesOf 43 = .ok (.iaload, 1) := by decide +kernel
theorem dX7_sizesOf_44 : decode cX7_sizesOf 44 = .ok (.aload_n 0, 1) := by decide +kernel
theorem dX7_sizesOf_45 : decode cX7_sizesOf 45 = .ok (.getfield 21, 3) := by decide +kernel
theorem dX7_sizesOf_48 : decode cX7_sizesOf 48 = .ok (.iload 4, 2) := by decide +kernel
theorem dX7_sizesOf_50 : decode cX7_sizesOf 50 = .ok (.iaload, 1) := by decide +kernel
theorem dX7_sizesOf_51 : decode cX7_sizesOf 51 = .ok (.invokestatic 28, 3) := by decide +kernel
theorem dX7_sizesOf_54 : decode cX7_sizesOf 54 = .ok (.iand, 1) := by decide +kernel
theorem dX7_sizesOf_55 : decode cX7_sizesOf 55 = .ok (.istore_n 3, 1) := by decide +kernel
theorem dX7_sizesOf_56 : decode cX7_sizesOf 56 = .ok (.iinc 4 1, 3) := by decide +kernel
theorem dX7_sizesOf_59 : decode cX7_sizesOf 59 = .ok (.goto (-52), 3) := by decide +kernel
theorem dX7_sizesOf_62 : decode cX7_sizesOf 62 = .ok (.iload_n 3, 1) := by decide +kernel
theorem dX7_sizesOf_63 : decode cX7_sizesOf 63 = .ok (.ireturn, 1) := by decide +kernel
theorem dX7_beadToTry_0 : decode cX7_beadToTry 0 = .ok (.aload_n 0, 1) := by decide +kernel
theorem dX7_beadToTry_1 : decode cX7_beadToTry 1 = .ok (.aload_n 1, 1) := by decide +kernel
theorem dX7_beadToTry_2 : decode cX7_beadToTry 2 = .ok (.iload_n 2, 1) := by decide +kernel
theorem dX7_beadToTry_3 : decode cX7_beadToTry 3 = .ok (.invokevirtual 32, 3) := by decide +kernel
theorem dX7_beadToTry_6 : decode cX7_beadToTry 6 = .ok (.istore 4, 2) := by decide +kernel
theorem dX7_beadToTry_8 : decode cX7_beadToTry 8 = .ok (.iload 4, 2) := by decide +kernel
theorem dX7_beadToTry_10 : decode cX7_beadToTry 10 = .ok (.ifCond .ne 5, 3) := by decide +kernel
theorem dX7_beadToTry_13 : decode cX7_beadToTry 13 = .ok (.iconst (-1), 1) := by decide +kernel
theorem dX7_beadToTry_14 : decode cX7_beadToTry 14 = .ok (.ireturn, 1) := by decide +kernel
theorem dX7_beadToTry_15 : decode cX7_beadToTry 15 = .ok (.iconst 0, 1) := by decide +kernel
theorem dX7_beadToTry_16 : decode cX7_beadToTry 16 = .ok (.istore 5, 2) := by decide +kernel
theorem dX7_beadToTry_18 : decode cX7_beadToTry 18 = .ok (.bipush 11, 2) := by decide +kernel
theorem dX7_beadToTry_20 : decode cX7_beadToTry 20 = .ok (.istore 6, 2) := by decide +kernel
theorem dX7_beadToTry_22 : decode cX7_beadToTry 22 = .ok (.iconst 0, 1) := by decide +kernel
theorem dX7_beadToTry_23 : decode cX7_beadToTry 23 = .ok (.istore 7, 2) := by decide +kernel
theorem dX7_beadToTry_25 : decode cX7_beadToTry 25 = .ok (.iload 7, 2) := by decide +kernel
theorem dX7_beadToTry_27 : decode cX7_beadToTry 27 = .ok (.bipush 10, 2) := by decide +kernel
theorem dX7_beadToTry_29 : decode cX7_beadToTry 29 = .ok (.if_icmp .ge 69, 3) := by decide +kernel
theorem dX7_beadToTry_32 : decode cX7_beadToTry 32 = .ok (.iconst 0, 1) := by decide +kernel
theorem dX7_beadToTry_33 : decode cX7_beadToTry 33 = .ok (.istore 8, 2) := by decide +kernel
theorem dX7_beadToTry_35 : decode cX7_beadToTry 35 = .ok (.iconst 0, 1) := by decide +kernel
theorem dX7_beadToTry_36 : decode cX7_beadToTry 36 = .ok (.istore 9, 2) := by decide +kernel
theorem dX7_beadToTry_38 : decode cX7_beadToTry 38 = .ok (.iload 9, 2) := by decide +kernel
theorem dX7_beadToTry_40 : decode cX7_beadToTry 40 = .ok (.iconst 2, 1) := by decide +kernel
theorem dX7_beadToTry_41 : decode cX7_beadToTry 41 = .ok (.if_icmp .gt 36, 3) := by decide +kernel
theorem dX7_beadToTry_44 : decode cX7_beadToTry 44 = .ok (.iload 4, 2) := by decide +kernel
theorem dX7_beadToTry_46 : decode cX7_beadToTry 46 = .ok (.aload_n 1, 1) := by decide +kernel
theorem dX7_beadToTry_47 : decode cX7_beadToTry 47 = .ok (.iload_n 2, 1) := by decide +kernel
theorem dX7_beadToTry_48 : decode cX7_beadToTry 48 = .ok (.iload_n 3, 1) := by decide +kernel
theorem dX7_beadToTry_49 : decode cX7_beadToTry 49 = .ok (.iload 7, 2) := by decide +kernel
theorem dX7_beadToTry_51 : decode cX7_beadToTry 51 = .ok (.iload 9, 2) := by decide +kernel
theorem dX7_beadToTry_53 : decode cX7_beadToTry 53 = .ok (.invokestatic 28, 3) := by decide +kernel
theorem dX7_beadToTry_56 : decode cX7_beadToTry 56 = .ok (.iand, 1) := by decide +kernel
theorem dX7_beadToTry_57 : decode cX7_beadToTry 57 = .ok (.istore 10, 2) := by decide +kernel
theorem dX7_beadToTry_59 : decode cX7_beadToTry 59 = .ok (.iload 8, 2) := by decide +kernel
theorem dX7_beadToTry_61 : decode cX7_beadToTry 61 = .ok (.iload 10, 2) := by decide +kernel
theorem dX7_beadToTry_63 : decode cX7_beadToTry 63 = .ok (.invokestatic 36, 3) := by decide +kernel
theorem dX7_beadToTry_66 : decode cX7_beadToTry 66 = .ok (.invokestatic 42, 3) := by decide +kernel
theorem dX7_beadToTry_69 : decode cX7_beadToTry 69 = .ok (.istore 8, 2) := by decide +kernel
theorem dX7_beadToTry_71 : decode cX7_beadToTry 71 = .ok (.iinc 9 1, 3) := by decide +kernel
theorem dX7_beadToTry_74 : decode cX7_beadToTry 74 = .ok (.goto (-36), 3) := by decide +kernel
theorem dX7_beadToTry_77 : decode cX7_beadToTry 77 = .ok (.iload 8, 2) := by decide +kernel
theorem dX7_beadToTry_79 : decode cX7_beadToTry 79 = .ok (.iload 6, 2) := by decide +kernel
theorem dX7_beadToTry_81 : decode cX7_beadToTry 81 = .ok (.if_icmp .ge 11, 3) := by decide +kernel
theorem dX7_beadToTry_84 : decode cX7_beadToTry 84 = .ok (.iload 8, 2) := by decide +kernel
theorem dX7_beadToTry_86 : decode cX7_beadToTry 86 = .ok (.istore 6, 2) := by decide +kernel
theorem dX7_beadToTry_88 : decode cX7_beadToTry 88 = .ok (.iload 7, 2) := by decide +kernel
theorem dX7_beadToTry_90 : decode cX7_beadToTry 90 = .ok (.istore 5, 2) := by decide +kernel
theorem dX7_beadToTry_92 : decode cX7_beadToTry 92 = .ok (.iinc 7 1, 3) := by decide +kernel
theorem dX7_beadToTry_95 : decode cX7_beadToTry 95 = .ok (.goto (-70), 3) := by decide +kernel
theorem dX7_beadToTry_98 : decode cX7_beadToTry 98 = .ok (.iload 5, 2) := by decide +kernel
theorem dX7_beadToTry_100 : decode cX7_beadToTry 100 = .ok (.ireturn, 1) := by decide +kernel
theorem dX7_sizesTilting_0 : decode cX7_sizesTilting 0 = .ok (.iconst 0, 1) := by decide +kernel
theorem dX7_sizesTilting_1 : decode cX7_sizesTilting 1 = .ok (.istore 5, 2) := by decide +kernel
theorem dX7_sizesTilting_3 : decode cX7_sizesTilting 3 = .ok (.iload_n 3, 1) := by decide +kernel
theorem dX7_sizesTilting_4 : decode cX7_sizesTilting 4 = .ok (.aload_n 0, 1) := by decide +kernel
theorem dX7_sizesTilting_5 : decode cX7_sizesTilting 5 = .ok (.getfield 48, 3) := by decide +kernel
theorem dX7_sizesTilting_8 : decode cX7_sizesTilting 8 = .ok (.iconst 2, 1) := by decide +kernel
theorem dX7_sizesTilting_9 : decode cX7_sizesTilting 9 = .ok (.iload_n 2, 1) := by decide +kernel
theorem dX7_sizesTilting_10 : decode cX7_sizesTilting 10 = .ok (.imul, 1) := by decide +kernel
theorem dX7_sizesTilting_11 : decode cX7_sizesTilting 11 = .ok (.iconst 1, 1) := by decide +kernel
theorem dX7_sizesTilting_12 : decode cX7_sizesTilting 12 = .ok (.iadd, 1) := by decide +kernel
theorem dX7_sizesTilting_13 : decode cX7_sizesTilting 13 = .ok (.iaload, 1) := by decide +kernel
theorem dX7_sizesTilting_14 : decode cX7_sizesTilting 14 = .ok (.imul, 1) := by decide +kernel
theorem dX7_sizesTilting_15 : decode cX7_sizesTilting 15 = .ok (.istore 6, 2) := by decide +kernel
theorem dX7_sizesTilting_17 : decode cX7_sizesTilting 17 = .ok (.iconst 0, 1) := by decide +kernel
theorem dX7_sizesTilting_18 : decode cX7_sizesTilting 18 = .ok (.istore 7, 2) := by decide +kernel
theorem dX7_sizesTilting_20 : decode cX7_sizesTilting 20 = .ok (.iload 7, 2) := by decide +kernel
theorem dX7_sizesTilting_22 : decode cX7_sizesTilting 22 = .ok (.bipush 10, 2) := by decide +kernel
theorem dX7_sizesTilting_24 : decode cX7_sizesTilting 24 = .ok (.if_icmp .ge 61, 3) := by decide +kernel
theorem dX7_sizesTilting_27 : decode cX7_sizesTilting 27 = .ok (.aload_n 0, 1) := by decide +kernel
theorem dX7_sizesTilting_28 : decode cX7_sizesTilting 28 = .ok (.getfield 53, 3) := by decide +kernel
theorem dX7_sizesTilting_31 : decode cX7_sizesTilting 31 = .ok (.iload_n 1, 1) := by decide +kernel
theorem dX7_sizesTilting_32 : decode cX7_sizesTilting 32 = .ok (.iaload, 1) := by decide +kernel
theorem dX7_sizesTilting_33 : decode cX7_sizesTilting 33 = .ok (.iload 7, 2) := by decide +kernel
theorem dX7_sizesTilting_35 : decode cX7_sizesTilting 35 = .ok (.aload_n 0, 1) := by decide +kernel
theorem dX7_sizesTilting_36 : decode cX7_sizesTilting 36 = .ok (.getfield 56, 3) := by decide +kernel
theorem dX7_sizesTilting_39 : decode cX7_sizesTilting 39 = .ok (.invokestatic 59, 3) := by decide +kernel
theorem dX7_sizesTilting_42 : decode cX7_sizesTilting 42 = .ok (.istore 8, 2) := by decide +kernel
theorem dX7_sizesTilting_44 : decode cX7_sizesTilting 44 = .ok (.iload 6, 2) := by decide +kernel
theorem dX7_sizesTilting_46 : decode cX7_sizesTilting 46 = .ok (.iload 8, 2) := by decide +kernel
theorem dX7_sizesTilting_48 : decode cX7_sizesTilting 48 = .ok (.aload_n 0, 1) := by decide +kernel
theorem dX7_sizesTilting_49 : decode cX7_sizesTilting 49 = .ok (.getfield 48, 3) := by decide +kernel
theorem dX7_sizesTilting_52 : decode cX7_sizesTilting 52 = .ok (.iconst 2, 1) := by decide +kernel
theorem dX7_sizesTilting_53 : decode cX7_sizesTilting 53 = .ok (.iload_n 2, 1) := by decide +kernel
theorem dX7_sizesTilting_54 : decode cX7_sizesTilting 54 = .ok (.imul, 1) := by decide +kernel
theorem dX7_sizesTilting_55 : decode cX7_sizesTilting 55 = .ok (.iaload, 1) := by decide +kernel
theorem dX7_sizesTilting_56 : decode cX7_sizesTilting 56 = .ok (.imul, 1) := by decide +kernel
theorem dX7_sizesTilting_57 : decode cX7_sizesTilting 57 = .ok (.isub, 1) := by decide +kernel
theorem dX7_sizesTilting_58 : decode cX7_sizesTilting 58 = .ok (.istore 9, 2) := by decide +kernel
theorem dX7_sizesTilting_60 : decode cX7_sizesTilting 60 = .ok (.iload 9, 2) := by decide +kernel
theorem dX7_sizesTilting_62 : decode cX7_sizesTilting 62 = .ok (.invokestatic 65, 3) := by decide +kernel
theorem dX7_sizesTilting_65 : decode cX7_sizesTilting 65 = .ok (.iload 4, 2) := by decide +kernel
theorem dX7_sizesTilting_67 : decode cX7_sizesTilting 67 = .ok (.if_icmp .ne 12, 3) := by decide +kernel
theorem dX7_sizesTilting_70 : decode cX7_sizesTilting 70 = .ok (.iload 5, 2) := by decide +kernel
theorem dX7_sizesTilting_72 : decode cX7_sizesTilting 72 = .ok (.iconst 1, 1) := by decide +kernel
theorem dX7_sizesTilting_73 : decode cX7_sizesTilting 73 = .ok (.iload 7, 2) := by decide +kernel
theorem dX7_sizesTilting_75 : decode cX7_sizesTilting 75 = .ok (.ishl, 1) := by decide +kernel
theorem dX7_sizesTilting_76 : decode cX7_sizesTilting 76 = .ok (.ior, 1) := by decide +kernel
theorem dX7_sizesTilting_77 : decode cX7_sizesTilting 77 = .ok (.istore 5, 2) := by decide +kernel
theorem dX7_sizesTilting_79 : decode cX7_sizesTilting 79 = .ok (.iinc 7 1, 3) := by decide +kernel
theorem dX7_sizesTilting_82 : decode cX7_sizesTilting 82 = .ok (.goto (-62), 3) := by decide +kernel
theorem dX7_sizesTilting_85 : decode cX7_sizesTilting 85 = .ok (.iload 5, 2) := by decide +kernel
theorem dX7_sizesTilting_87 : decode cX7_sizesTilting 87 = .ok (.ireturn, 1) := by decide +kernel
theorem dX7_wayOf_0 : decode cX7_wayOf 0 = .ok (.iload_n 0, 1) := by decide +kernel
theorem dX7_wayOf_1 : decode cX7_wayOf 1 = .ok (.ifCond .ne 5, 3) := by decide +kernel
theorem dX7_wayOf_4 : decode cX7_wayOf 4 = .ok (.iconst 1, 1) := by decide +kernel
theorem dX7_wayOf_5 : decode cX7_wayOf 5 = .ok (.ireturn, 1) := by decide +kernel
theorem dX7_wayOf_6 : decode cX7_wayOf 6 = .ok (.iload_n 0, 1) := by decide +kernel
theorem dX7_wayOf_7 : decode cX7_wayOf 7 = .ok (.ifCond .ge 7, 3) := by decide +kernel
theorem dX7_wayOf_10 : decode cX7_wayOf 10 = .ok (.iconst 0, 1) := by decide +kernel
theorem dX7_wayOf_11 : decode cX7_wayOf 11 = .ok (.goto 4, 3) := by decide +kernel
theorem dX7_wayOf_14 : decode cX7_wayOf 14 = .ok (.iconst 2, 1) := by decide +kernel
theorem dX7_wayOf_15 : decode cX7_wayOf 15 = .ok (.ireturn, 1) := by decide +kernel
theorem dX8_init_0 : decode cX8_init 0 = .ok (.aload_n 0, 1) := by decide +kernel
theorem dX8_init_1 : decode cX8_init 1 = .ok (.invokespecial 3, 3) := by decide +kernel
theorem dX8_init_4 : decode cX8_init 4 = .ok (.aload_n 0, 1) := by decide +kernel
theorem dX8_init_5 : decode cX8_init 5 = .ok (.new 9, 3) := by decide +kernel
theorem dX8_init_8 : decode cX8_init 8 = .ok (.dup, 1) := by decide +kernel
theorem dX8_init_9 : decode cX8_init 9 = .ok (.invokespecial 11, 3) := by decide +kernel
theorem dX8_init_12 : decode cX8_init 12 = .ok (.putfield 12, 3) := by decide +kernel
theorem dX8_init_15 : decode cX8_init 15 = .ok (.aload_n 0, 1) := by decide +kernel
theorem dX8_init_16 : decode cX8_init 16 = .ok (.new 16, 3) := by decide +kernel
theorem dX8_init_19 : decode cX8_init 19 = .ok (.dup, 1) := by decide +kernel
theorem dX8_init_20 : decode cX8_init 20 = .ok (.invokespecial 18, 3) := by decide +kernel
theorem dX8_init_23 : decode cX8_init 23 = .ok (.putfield 19, 3) := by decide +kernel
theorem dX8_init_26 : decode cX8_init 26 = .ok (.aload_n 0, 1) := by decide +kernel
theorem dX8_init_27 : decode cX8_init 27 = .ok (.new 23, 3) := by decide +kernel
theorem dX8_init_30 : decode cX8_init 30 = .ok (.dup, 1) := by decide +kernel
theorem dX8_init_31 : decode cX8_init 31 = .ok (.invokespecial 25, 3) := by decide +kernel
theorem dX8_init_34 : decode cX8_init 34 = .ok (.putfield 26, 3) := by decide +kernel
theorem dX8_init_37 : decode cX8_init 37 = .ok (.aload_n 0, 1) := by decide +kernel
theorem dX8_init_38 : decode cX8_init 38 = .ok (.new 23, 3) := by decide +kernel
theorem dX8_init_41 : decode cX8_init 41 = .ok (.dup, 1) := by decide +kernel
theorem dX8_init_42 : decode cX8_init 42 = .ok (.invokespecial 25, 3) := by decide +kernel
theorem dX8_init_45 : decode cX8_init 45 = .ok (.putfield 30, 3) := by decide +kernel
theorem dX8_init_48 : decode cX8_init 48 = .ok (.aload_n 0, 1) := by decide +kernel
theorem dX8_init_49 : decode cX8_init 49 = .ok (.new 33, 3) := by decide +kernel
theorem dX8_init_52 : decode cX8_init 52 = .ok (.dup, 1) := by decide +kernel
theorem dX8_init_53 : decode cX8_init 53 = .ok (.invokespecial 35, 3) := by decide +kernel
theorem dX8_init_56 : decode cX8_init 56 = .ok (.putfield 36, 3) := by decide +kernel
theorem dX8_init_59 : decode cX8_init 59 = .ok (.aload_n 0, 1) := by decide +kernel
theorem dX8_init_60 : decode cX8_init 60 = .ok (.new 40, 3) := by decide +kernel
theorem dX8_init_63 : decode cX8_init 63 = .ok (.dup, 1) := by decide +kernel
theorem dX8_init_64 : decode cX8_init 64 = .ok (.invokespecial 42, 3) := by decide +kernel
theorem dX8_init_67 : decode cX8_init 67 = .ok (.putfield 43, 3) := by decide +kernel
theorem dX8_init_70 : decode cX8_init 70 = .ok (.aload_n 0, 1) := by decide +kernel
theorem dX8_init_71 : decode cX8_init 71 = .ok (.new 47, 3) := by decide +kernel
theorem dX8_init_74 : decode cX8_init 74 = .ok (.dup, 1) := by decide +kernel
theorem dX8_init_75 : decode cX8_init 75 = .ok (.invokespecial 49, 3) := by decide +kernel
theorem dX8_init_78 : decode cX8_init 78 = .ok (.putfield 50, 3) := by decide +kernel
theorem dX8_init_81 : decode cX8_init 81 = .ok (.return_, 1) := by decide +kernel
theorem dX8_letter_0 : decode cX8_letter 0 = .ok (.iload_n 1, 1) := by decide +kernel
theorem dX8_letter_1 : decode cX8_letter 1 = .ok (.iconst 1, 1) := by decide +kernel
theorem dX8_letter_2 : decode cX8_letter 2 = .ok (.if_icmp .lt 9, 3) := by decide +kernel
theorem dX8_letter_5 : decode cX8_letter 5 = .ok (.iload_n 1, 1) := by decide +kernel
theorem dX8_letter_6 : decode cX8_letter 6 = .ok (.bipush 126, 2) := by decide +kernel
theorem dX8_letter_8 : decode cX8_letter 8 = .ok (.if_icmp .le 6, 3) := by decide +kernel
theorem dX8_letter_11 : decode cX8_letter 11 = .ok (.bipush (-102), 2) := by decide +kernel
theorem dX8_letter_13 : decode cX8_letter 13 = .ok (.ireturn, 1) := by decide +kernel
theorem dX8_letter_14 : decode cX8_letter 14 = .ok (.aload_n 0, 1) := by decide +kernel
theorem dX8_letter_15 : decode cX8_letter 15 = .ok (.getfield 12, 3) := by decide +kernel
theorem dX8_letter_18 : decode cX8_letter 18 = .ok (.getfield 54, 3) := by decide +kernel
theorem dX8_letter_21 : decode cX8_letter 21 = .ok (.bipush 46, 2) := by decide +kernel
theorem dX8_letter_23 : decode cX8_letter 23 = .ok (.if_icmp .lt 6, 3) := by decide +kernel
theorem dX8_letter_26 : decode cX8_letter 26 = .ok (.bipush (-104), 2) := by decide +kernel
theorem dX8_letter_28 : decode cX8_letter 28 = .ok (.ireturn, 1) := by decide +kernel
theorem dX8_letter_29 : decode cX8_letter 29 = .ok (.aload_n 0, 1) := by decide +kernel
theorem dX8_letter_30 : decode cX8_letter 30 = .ok (.getfield 12, 3) := by decide +kernel
theorem dX8_letter_33 : decode cX8_letter 33 = .ok (.getfield 58, 3) := by decide +kernel
theorem dX8_letter_36 : decode cX8_letter 36 = .ok (.aload_n 0, 1) := by decide +kernel
theorem dX8_letter_37 : decode cX8_letter 37 = .ok (.getfield 12, 3) := by decide +kernel
theorem dX8_letter_40 : decode cX8_letter 40 = .ok (.getfield 54, 3) := by decide +kernel
theorem dX8_letter_43 : decode cX8_letter 43 = .ok (.iload_n 1, 1) := by decide +kernel
theorem dX8_letter_44 : decode cX8_letter 44 = .ok (.iastore, 1) := by decide +kernel
theorem dX8_letter_45 : decode cX8_letter 45 = .ok (.aload_n 0, 1) := by decide +kernel
theorem dX8_letter_46 : decode cX8_letter 46 = .ok (.getfield 12, 3) := by decide +kernel
theorem dX8_letter_49 : decode cX8_letter 49 = .ok (.dup, 1) := by decide +kernel
theorem dX8_letter_50 : decode cX8_letter 50 = .ok (.getfield 54, 3) := by decide +kernel
theorem dX8_letter_53 : decode cX8_letter 53 = .ok (.iconst 1, 1) := by decide +kernel
theorem dX8_letter_54 : decode cX8_letter 54 = .ok (.iadd, 1) := by decide +kernel
theorem dX8_letter_55 : decode cX8_letter 55 = .ok (.putfield 54, 3) := by decide +kernel
theorem dX8_letter_58 : decode cX8_letter 58 = .ok (.aload_n 0, 1) := by decide +kernel
theorem dX8_letter_59 : decode cX8_letter 59 = .ok (.getfield 12, 3) := by decide +kernel
theorem dX8_letter_62 : decode cX8_letter 62 = .ok (.getfield 54, 3) := by decide +kernel
theorem dX8_letter_65 : decode cX8_letter 65 = .ok (.ireturn, 1) := by decide +kernel
theorem dX8_blank_0 : decode cX8_blank 0 = .ok (.aload_n 0, 1) := by decide +kernel
theorem dX8_blank_1 : decode cX8_blank 1 = .ok (.getfield 12, 3) := by decide +kernel
theorem dX8_blank_4 : decode cX8_blank 4 = .ok (.getfield 54, 3) := by decide +kernel
theorem dX8_blank_7 : decode cX8_blank 7 = .ok (.istore_n 1, 1) := by decide +kernel
theorem dX8_blank_8 : decode cX8_blank 8 = .ok (.aload_n 0, 1) := by decide +kernel
theorem dX8_blank_9 : decode cX8_blank 9 = .ok (.getfield 12, 3) := by decide +kernel
theorem dX8_blank_12 : decode cX8_blank 12 = .ok (.iconst 0, 1) := by decide +kernel
theorem dX8_blank_13 : decode cX8_blank 13 = .ok (.putfield 54, 3) := by decide +kernel
theorem dX8_blank_16 : decode cX8_blank 16 = .ok (.iload_n 1, 1) := by decide +kernel
theorem dX8_blank_17 : decode cX8_blank 17 = .ok (.ireturn, 1) := by decide +kernel
theorem dX8_fault_0 : decode cX8_fault 0 = .ok (.aload_n 0, 1) := by decide +kernel
theorem dX8_fault_1 : decode cX8_fault 1 = .ok (.getfield 19, 3) := by decide +kernel
theorem dX8_fault_4 : decode cX8_fault 4 = .ok (.aload_n 0, 1) := by decide +kernel
theorem dX8_fault_5 : decode cX8_fault 5 = .ok (.getfield 12, 3) := by decide +kernel
theorem dX8_fault_8 : decode cX8_fault 8 = .ok (.invokevirtual 62, 3) := by decide +kernel
theorem dX8_fault_11 : decode cX8_fault 11 = .ok (.ireturn, 1) := by decide +kernel
theorem dX8_mobile_0 : decode cX8_mobile 0 = .ok (.aload_n 0, 1) := by decide +kernel
theorem dX8_mobile_1 : decode cX8_mobile 1 = .ok (.getfield 19, 3) := by decide +kernel
theorem dX8_mobile_4 : decode cX8_mobile 4 = .ok (.aload_n 0, 1) := by decide +kernel
theorem dX8_mobile_5 : decode cX8_mobile 5 = .ok (.getfield 12, 3) := by decide +kernel
theorem dX8_mobile_8 : decode cX8_mobile 8 = .ok (.invokevirtual 62, 3) := by decide +kernel
theorem dX8_mobile_11 : decode cX8_mobile 11 = .ok (.aload_n 0, 1) := by decide +kernel
theorem dX8_mobile_12 : decode cX8_mobile 12 = .ok (.getfield 12, 3) := by decide +kernel
theorem dX8_mobile_15 : decode cX8_mobile 15 = .ok (.getfield 54, 3) := by decide +kernel
theorem dX8_mobile_18 : decode cX8_mobile 18 = .ok (.if_icmp .lt 13, 3) := by decide +kernel
theorem dX8_mobile_21 : decode cX8_mobile 21 = .ok (.aload_n 0, 1) := by decide +kernel
theorem dX8_mobile_22 : decode cX8_mobile 22 = .ok (.getfield 19, 3) := by decide +kernel
theorem dX8_mobile_25 : decode cX8_mobile 25 = .ok (.invokevirtual 66, 3) := by decide +kernel
theorem dX8_mobile_28 : decode cX8_mobile 28 = .ok (.ifCond .ne 6, 3) := by decide +kernel
theorem dX8_mobile_31 : decode cX8_mobile 31 = .ok (.bipush (-103), 2) := by decide +kernel
theorem dX8_mobile_33 : decode cX8_mobile 33 = .ok (.ireturn, 1) := by decide +kernel
theorem dX8_mobile_34 : decode cX8_mobile 34 = .ok (.aload_n 0, 1) := by decide +kernel
theorem dX8_mobile_35 : decode cX8_mobile 35 = .ok (.getfield 26, 3) := by decide +kernel
theorem dX8_mobile_38 : decode cX8_mobile 38 = .ok (.aload_n 0, 1) := by decide +kernel
theorem dX8_mobile_39 : decode cX8_mobile 39 = .ok (.getfield 19, 3) := by decide +kernel
theorem dX8_mobile_42 : decode cX8_mobile 42 = .ok (.invokevirtual 70, 3) := by decide +kernel
theorem dX8_mobile_45 : decode cX8_mobile 45 = .ok (.aload_n 0, 1) := by decide +kernel
theorem dX8_mobile_46 : decode cX8_mobile 46 = .ok (.getfield 12, 3) := by decide +kernel
theorem dX8_mobile_49 : decode cX8_mobile 49 = .ok (.iconst 0, 1) := by decide +kernel
theorem dX8_mobile_50 : decode cX8_mobile 50 = .ok (.putfield 54, 3) := by decide +kernel
theorem dX8_mobile_53 : decode cX8_mobile 53 = .ok (.aload_n 0, 1) := by decide +kernel
theorem dX8_mobile_54 : decode cX8_mobile 54 = .ok (.iconst 0, 1) := by decide +kernel
theorem dX8_mobile_55 : decode cX8_mobile 55 = .ok (.putfield 74, 3) := by decide +kernel
theorem dX8_mobile_58 : decode cX8_mobile 58 = .ok (.aload_n 0, 1) := by decide +kernel
theorem dX8_mobile_59 : decode cX8_mobile 59 = .ok (.dup, 1) := by decide +kernel
theorem dX8_mobile_60 : decode cX8_mobile 60 = .ok (.getfield 78, 3) := by decide +kernel
theorem dX8_mobile_63 : decode cX8_mobile 63 = .ok (.iconst 1, 1) := by decide +kernel
theorem dX8_mobile_64 : decode cX8_mobile 64 = .ok (.iadd, 1) := by decide +kernel
theorem dX8_mobile_65 : decode cX8_mobile 65 = .ok (.putfield 78, 3) := by decide +kernel
theorem dX8_mobile_68 : decode cX8_mobile 68 = .ok (.aload_n 0, 1) := by decide +kernel
theorem dX8_mobile_69 : decode cX8_mobile 69 = .ok (.getfield 26, 3) := by decide +kernel
theorem dX8_mobile_72 : decode cX8_mobile 72 = .ok (.getfield 81, 3) := by decide +kernel
theorem dX8_mobile_75 : decode cX8_mobile 75 = .ok (.ireturn, 1) := by decide +kernel
theorem dX8_rod_0 : decode cX8_rod 0 = .ok (.aload_n 0, 1) := by decide +kernel
theorem dX8_rod_1 : decode cX8_rod 1 = .ok (.iload_n 1, 1) := by decide +kernel
theorem dX8_rod_2 : decode cX8_rod 2 = .ok (.invokevirtual 84, 3) := by decide +kernel
theorem dX8_rod_5 : decode cX8_rod 5 = .ok (.ifCond .ne 6, 3) := by decide +kernel
theorem dX8_rod_8 : decode cX8_rod 8 = .ok (.bipush (-101), 2) := by decide +kernel
theorem dX8_rod_10 : decode cX8_rod 10 = .ok (.ireturn, 1) := by decide +kernel
theorem dX8_rod_11 : decode cX8_rod 11 = .ok (.iload_n 2, 1) := by decide +kernel
theorem dX8_rod_12 : decode cX8_rod 12 = .ok (.ifCond .lt 9, 3) := by decide +kernel
theorem dX8_rod_15 : decode cX8_rod 15 = .ok (.iload_n 2, 1) := by decide +kernel
theorem dX8_rod_16 : decode cX8_rod 16 = .ok (.bipush 11, 2) := by decide +kernel
theorem dX8_rod_18 : decode cX8_rod 18 = .ok (.if_icmp .lt 6, 3) := by decide +kernel
theorem dX8_rod_21 : decode cX8_rod 21 = .ok (.bipush (-102), 2) := by decide +kernel
theorem dX8_rod_23 : decode cX8_rod 23 = .ok (.ireturn, 1) := by decide +kernel
theorem dX8_rod_24 : decode cX8_rod 24 = .ok (.aload_n 0, 1) := by decide +kernel
theorem dX8_rod_25 : decode cX8_rod 25 = .ok (.getfield 36, 3) := by decide +kernel
theorem dX8_rod_28 : decode cX8_rod 28 = .ok (.aload_n 0, 1) := by decide +kernel
theorem dX8_rod_29 : decode cX8_rod 29 = .ok (.getfield 26, 3) := by decide +kernel
theorem dX8_rod_32 : decode cX8_rod 32 = .ok (.invokevirtual 88, 3) := by decide +kernel
theorem dX8_rod_35 : decode cX8_rod 35 = .ok (.aload_n 0, 1) := by decide +kernel
theorem dX8_rod_36 : decode cX8_rod 36 = .ok (.iload_n 1, 1) := by decide +kernel
theorem dX8_rod_37 : decode cX8_rod 37 = .ok (.iload_n 2, 1) := by decide +kernel
theorem dX8_rod_38 : decode cX8_rod 38 = .ok (.invokevirtual 92, 3) := by decide +kernel
theorem dX8_rod_41 : decode cX8_rod 41 = .ok (.ireturn, 1) := by decide +kernel
theorem dX8_thing_0 : decode cX8_thing 0 = .ok (.aload_n 0, 1) := by decide +kernel
theorem dX8_thing_1 : decode cX8_thing 1 = .ok (.iload_n 1, 1) := by decide +kernel
theorem dX8_thing_2 : decode cX8_thing 2 = .ok (.invokevirtual 96, 3) := by decide +kernel
theorem dX8_thing_5 : decode cX8_thing 5 = .ok (.ifCond .ne 6, 3) := by decide +kernel
theorem dX8_thing_8 : decode cX8_thing 8 = .ok (.bipush (-101), 2) := by decide +kernel
theorem dX8_thing_10 : decode cX8_thing 10 = .ok (.ireturn, 1) := by decide +kernel
theorem dX8_thing_11 : decode cX8_thing 11 = .ok (.iload_n 2, 1) := by decide +kernel
theorem dX8_thing_12 : decode cX8_thing 12 = .ok (.ifCond .lt 9, 3) := by decide +kernel
theorem dX8_thing_15 : decode cX8_thing 15 = .ok (.iload_n 2, 1) := by decide +kernel
theorem dX8_thing_16 : decode cX8_thing 16 = .ok (.bipush 7, 2) := by decide +kernel
theorem dX8_thing_18 : decode cX8_thing 18 = .ok (.if_icmp .lt 6, 3) := by decide +kernel
theorem dX8_thing_21 : decode cX8_thing 21 = .ok (.bipush (-102), 2) := by decide +kernel
theorem dX8_thing_23 : decode cX8_thing 23 = .ok (.ireturn, 1) := by decide +kernel
theorem dX8_thing_24 : decode cX8_thing 24 = .ok (.aload_n 0, 1) := by decide +kernel
theorem dX8_thing_25 : decode cX8_thing 25 = .ok (.iload_n 1, 1) := by decide +kernel
theorem dX8_thing_26 : decode cX8_thing 26 = .ok (.iload_n 2, 1) := by decide +kernel
theorem dX8_thing_27 : decode cX8_thing 27 = .ok (.invokevirtual 99, 3) := by decide +kernel
theorem dX8_thing_30 : decode cX8_thing 30 = .ok (.ireturn, 1) := by decide +kernel
theorem dX8_as_0 : decode cX8_as 0 = .ok (.aload_n 0, 1) := by decide +kernel
theorem dX8_as_1 : decode cX8_as 1 = .ok (.iload_n 1, 1) := by decide +kernel
theorem dX8_as_2 : decode cX8_as 2 = .ok (.invokevirtual 96, 3) := by decide +kernel
theorem dX8_as_5 : decode cX8_as 5 = .ok (.ifCond .ne 6, 3) := by decide +kernel
theorem dX8_as_8 : decode cX8_as 8 = .ok (.bipush (-101), 2) := by decide +kernel
theorem dX8_as_10 : decode cX8_as 10 = .ok (.ireturn, 1) := by decide +kernel
theorem dX8_as_11 : decode cX8_as 11 = .ok (.iload_n 2, 1) := by decide +kernel
theorem dX8_as_12 : decode cX8_as 12 = .ok (.invokestatic 102, 3) := by decide +kernel
theorem dX8_as_15 : decode cX8_as 15 = .ok (.ifCond .ne 6, 3) := by decide +kernel
theorem dX8_as_18 : decode cX8_as 18 = .ok (.bipush (-102), 2) := by decide +kernel
theorem dX8_as_20 : decode cX8_as 20 = .ok (.ireturn, 1) := by decide +kernel
theorem dX8_as_21 : decode cX8_as 21 = .ok (.aload_n 0, 1) := by decide +kernel
theorem dX8_as_22 : decode cX8_as 22 = .ok (.getfield 26, 3) := by decide +kernel
theorem dX8_as_25 : decode cX8_as 25 = .ok (.getfield 107, 3) := by decide +kernel
theorem dX8_as_28 : decode cX8_as 28 = .ok (.iload_n 1, 1) := by decide +kernel
theorem dX8_as_29 : decode cX8_as 29 = .ok (.iaload, 1) := by decide +kernel
theorem dX8_as_30 : decode cX8_as 30 = .ok (.iload_n 2, 1) := by decide +kernel
theorem dX8_as_31 : decode cX8_as 31 = .ok (.invokestatic 110, 3) := by decide +kernel
theorem dX8_as_34 : decode cX8_as 34 = .ok (.ifCond .eq 7, 3) := by decide +kernel
theorem dX8_as_37 : decode cX8_as 37 = .ok (.iload_n 1, 1) := by decide +kernel
theorem dX8_as_38 : decode cX8_as 38 = .ok (.goto 4, 3) := by decide +kernel
theorem dX8_as_41 : decode cX8_as 41 = .ok (.iconst (-1), 1) := by decide +kernel
theorem dX8_as_42 : decode cX8_as 42 = .ok (.ireturn, 1) := by decide +kernel
theorem dX8_hour_0 : decode cX8_hour 0 = .ok (.aload_n 0, 1) := by decide +kernel
theorem dX8_hour_1 : decode cX8_hour 1 = .ok (.invokevirtual 114, 3) := by decide +kernel
theorem dX8_hour_4 : decode cX8_hour 4 = .ok (.ifCond .ne 6, 3) := by decide +kernel
theorem dX8_hour_7 : decode cX8_hour 7 = .ok (.bipush (-103), 2) := by decide +kernel
theorem dX8_hour_9 : decode cX8_hour 9 = .ok (.ireturn, 1) := by decide +kernel
theorem dX8_hour_10 : decode cX8_hour 10 = .ok (.aload_n 0, 1) := by decide +kernel
theorem dX8_hour_11 : decode cX8_hour 11 = .ok (.getfield 26, 3) := by decide +kernel
theorem dX8_hour_14 : decode cX8_hour 14 = .ok (.getfield 117, 3) := by decide +kernel
theorem dX8_hour_17 : decode cX8_hour 17 = .ok (.sipush 999, 3) := by decide +kernel
theorem dX8_hour_20 : decode cX8_hour 20 = .ok (.if_icmp .lt 6, 3) := by decide +kernel
theorem dX8_hour_23 : decode cX8_hour 23 = .ok (.bipush (-104), 2) := by decide +kernel
theorem dX8_hour_25 : decode cX8_hour 25 = .ok (.ireturn, 1) := by decide +kernel
theorem dX8_hour_26 : decode cX8_hour 26 = .ok (.aload_n 0, 1) := by decide +kernel
theorem dX8_hour_27 : decode cX8_hour 27 = .ok (.getfield 26, 3) := by decide +kernel
theorem dX8_hour_30 : decode cX8_hour 30 = .ok (.dup, 1) := by decide +kernel
theorem dX8_hour_31 : decode cX8_hour 31 = .ok (.getfield 117, 3) := by decide +kernel
theorem dX8_hour_34 : decode cX8_hour 34 = .ok (.iconst 1, 1) := by decide +kernel
theorem dX8_hour_35 : decode cX8_hour 35 = .ok (.iadd, 1) := by decide +kernel
theorem dX8_hour_36 : decode cX8_hour 36 = .ok (.putfield 117, 3) := by decide +kernel
theorem dX8_hour_39 : decode cX8_hour 39 = .ok (.aload_n 0, 1) := by decide +kernel
theorem dX8_hour_40 : decode cX8_hour 40 = .ok (.getfield 26, 3) := by decide +kernel
theorem dX8_hour_43 : decode cX8_hour 43 = .ok (.getfield 117, 3) := by decide +kernel
theorem dX8_hour_46 : decode cX8_hour 46 = .ok (.ireturn, 1) := by decide +kernel
theorem dX8_exchange_0 : decode cX8_exchange 0 = .ok (.aload_n 0, 1) := by decide +kernel
theorem dX8_exchange_1 : decode cX8_exchange 1 = .ok (.iload_n 1, 1) := by decide +kernel
theorem dX8_exchange_2 : decode cX8_exchange 2 = .ok (.invokevirtual 96, 3) := by decide +kernel
theorem dX8_exchange_5 : decode cX8_exchange 5 = .ok (.ifCond .eq 16, 3) := by decide +kernel
theorem dX8_exchange_8 : decode cX8_exchange 8 = .ok (.aload_n 0, 1) := by decide +kernel
theorem dX8_exchange_9 : decode cX8_exchange 9 = .ok (.iload_n 2, 1) := by decide +kernel
theorem dX8_exchange_10 : decode cX8_exchange 10 = .ok (.invokevirtual 96, 3) := by decide +kernel
theorem dX8_exchange_13 : decode cX8_exchange 13 = .ok (.ifCond .eq 8, 3) := by decide +kernel
theorem dX8_exchange_16 : decode cX8_exchange 16 = .ok (.iload_n 1, 1) := by decide +kernel
theorem dX8_exchange_17 : decode cX8_exchange 17 = .ok (.iload_n 2, 1) := by decide +kernel
theorem dX8_exchange_18 : decode cX8_exchange 18 = .ok (.if_icmp .ne 6, 3) := by decide +kernel
theorem dX8_exchange_21 : decode cX8_exchange 21 = .ok (.bipush (-101), 2) := by decide +kernel
theorem dX8_exchange_23 : decode cX8_exchange 23 = .ok (.ireturn, 1) := by decide +kernel
theorem dX8_exchange_24 : decode cX8_exchange 24 = .ok (.aload_n 0, 1) := by decide +kernel
theorem dX8_exchange_25 : decode cX8_exchange 25 = .ok (.getfield 26, 3) := by decide +kernel
theorem dX8_exchange_28 : decode cX8_exchange 28 = .ok (.getfield 120, 3) := by decide +kernel
theorem dX8_exchange_31 : decode cX8_exchange 31 = .ok (.iload_n 1, 1) := by decide +kernel
theorem dX8_exchange_32 : decode cX8_exchange 32 = .ok (.baload, 1) := by decide +kernel
theorem dX8_exchange_33 : decode cX8_exchange 33 = .ok (.ifCond .ne 15, 3) := by decide +kernel
theorem dX8_exchange_36 : decode cX8_exchange 36 = .ok (.aload_n 0, 1) := by decide +kernel
theorem dX8_exchange_37 : decode cX8_exchange 37 = .ok (.getfield 26, 3) := by decide +kernel
theorem dX8_exchange_40 : decode cX8_exchange 40 = .ok (.getfield 120, 3) := by decide +kernel
theorem dX8_exchange_43 : decode cX8_exchange 43 = .ok (.iload_n 2, 1) := by decide +kernel
theorem dX8_exchange_44 : decode cX8_exchange 44 = .ok (.baload, 1) := by decide +kernel
theorem dX8_exchange_45 : decode cX8_exchange 45 = .ok (.ifCond .eq 6, 3) := by decide +kernel
theorem dX8_exchange_48 : decode cX8_exchange 48 = .ok (.bipush (-103), 2) := by decide +kernel
theorem dX8_exchange_50 : decode cX8_exchange 50 = .ok (.ireturn, 1) := by decide +kernel
theorem dX8_exchange_51 : decode cX8_exchange 51 = .ok (.aload_n 0, 1) := by decide +kernel
theorem dX8_exchange_52 : decode cX8_exchange 52 = .ok (.getfield 26, 3) := by decide +kernel
theorem dX8_exchange_55 : decode cX8_exchange 55 = .ok (.getfield 124, 3) := by decide +kernel
theorem dX8_exchange_58 : decode cX8_exchange 58 = .ok (.iload_n 1, 1) := by decide +kernel
theorem dX8_exchange_59 : decode cX8_exchange 59 = .ok (.iload_n 2, 1) := by decide +kernel
theorem dX8_exchange_60 : decode cX8_exchange 60 = .ok (.invokestatic 127, 3) := by decide +kernel
theorem dX8_exchange_63 : decode cX8_exchange 63 = .ok (.aload_n 0, 1) := by decide +kernel
theorem dX8_exchange_64 : decode cX8_exchange 64 = .ok (.invokevirtual 131, 3) := by decide +kernel
theorem dX8_exchange_67 : decode cX8_exchange 67 = .ok (.ireturn, 1) := by decide +kernel
theorem dX8_move_0 : decode cX8_move 0 = .ok (.aload_n 0, 1) := by decide +kernel
theorem dX8_move_1 : decode cX8_move 1 = .ok (.iload_n 1, 1) := by decide +kernel
theorem dX8_move_2 : decode cX8_move 2 = .ok (.invokevirtual 84, 3) := by decide +kernel
theorem dX8_move_5 : decode cX8_move 5 = .ok (.ifCond .ne 6, 3) := by decide +kernel
theorem dX8_move_8 : decode cX8_move 8 = .ok (.bipush (-101), 2) := by decide +kernel
theorem dX8_move_10 : decode cX8_move 10 = .ok (.ireturn, 1) := by decide +kernel
theorem dX8_move_11 : decode cX8_move 11 = .ok (.aload_n 0, 1) := by decide +kernel
theorem dX8_move_12 : decode cX8_move 12 = .ok (.getfield 26, 3) := by decide +kernel
theorem dX8_move_15 : decode cX8_move 15 = .ok (.getfield 135, 3) := by decide +kernel
theorem dX8_move_18 : decode cX8_move 18 = .ok (.iconst 2, 1) := by decide +kernel
theorem dX8_move_19 : decode cX8_move 19 = .ok (.iload_n 1, 1) := by decide +kernel
theorem dX8_move_20 : decode cX8_move 20 = .ok (.imul, 1) := by decide +kernel
theorem dX8_move_21 : decode cX8_move 21 = .ok (.iaload, 1) := by decide +kernel
theorem dX8_move_22 : decode cX8_move 22 = .ok (.istore_n 3, 1) := by decide +kernel
theorem dX8_move_23 : decode cX8_move 23 = .ok (.iload_n 3, 1) := by decide +kernel
theorem dX8_move_24 : decode cX8_move 24 = .ok (.aload_n 0, 1) := by decide +kernel
theorem dX8_move_25 : decode cX8_move 25 = .ok (.getfield 26, 3) := by decide +kernel
theorem dX8_move_28 : decode cX8_move 28 = .ok (.getfield 135, 3) := by decide +kernel
theorem dX8_move_31 : decode cX8_move 31 = .ok (.iconst 2, 1) := by decide +kernel
theorem dX8_move_32 : decode cX8_move 32 = .ok (.iload_n 1, 1) := by decide +kernel
theorem dX8_move_33 : decode cX8_move 33 = .ok (.imul, 1) := by decide +kernel
theorem dX8_move_34 : decode cX8_move 34 = .ok (.iconst 1, 1) := by decide +kernel
theorem dX8_move_35 : decode cX8_move 35 = .ok (.iadd, 1) := by decide +kernel
theorem dX8_move_36 : decode cX8_move 36 = .ok (.iaload, 1) := by decide +kernel
theorem dX8_move_37 : decode cX8_move 37 = .ok (.iadd, 1) := by decide +kernel
theorem dX8_move_38 : decode cX8_move 38 = .ok (.istore 4, 2) := by decide +kernel
theorem dX8_move_40 : decode cX8_move 40 = .ok (.iload_n 2, 1) := by decide +kernel
theorem dX8_move_41 : decode cX8_move 41 = .ok (.iconst 1, 1) := by decide +kernel
theorem dX8_move_42 : decode cX8_move 42 = .ok (.if_icmp .lt 9, 3) := by decide +kernel
theorem dX8_move_45 : decode cX8_move 45 = .ok (.iload_n 2, 1) := by decide +kernel
theorem dX8_move_46 : decode cX8_move 46 = .ok (.iload 4, 2) := by decide +kernel
theorem dX8_move_48 : decode cX8_move 48 = .ok (.if_icmp .lt 6, 3) := by decide +kernel
theorem dX8_move_51 : decode cX8_move 51 = .ok (.bipush (-102), 2) := by decide +kernel
theorem dX8_move_53 : decode cX8_move 53 = .ok (.ireturn, 1) := by decide +kernel
theorem dX8_move_54 : decode cX8_move 54 = .ok (.aload_n 0, 1) := by decide +kernel
theorem dX8_move_55 : decode cX8_move 55 = .ok (.getfield 26, 3) := by decide +kernel
theorem dX8_move_58 : decode cX8_move 58 = .ok (.getfield 135, 3) := by decide +kernel
theorem dX8_move_61 : decode cX8_move 61 = .ok (.iconst 2, 1) := by decide +kernel
theorem dX8_move_62 : decode cX8_move 62 = .ok (.iload_n 1, 1) := by decide +kernel
theorem dX8_move_63 : decode cX8_move 63 = .ok (.imul, 1) := by decide +kernel
theorem dX8_move_64 : decode cX8_move 64 = .ok (.iload_n 2, 1) := by decide +kernel
theorem dX8_move_65 : decode cX8_move 65 = .ok (.iastore, 1) := by decide +kernel
theorem dX8_move_66 : decode cX8_move 66 = .ok (.aload_n 0, 1) := by decide +kernel
theorem dX8_move_67 : decode cX8_move 67 = .ok (.getfield 26, 3) := by decide +kernel
theorem dX8_move_70 : decode cX8_move 70 = .ok (.getfield 135, 3) := by decide +kernel
theorem dX8_move_73 : decode cX8_move 73 = .ok (.iconst 2, 1) := by decide +kernel
theorem dX8_move_74 : decode cX8_move 74 = .ok (.iload_n 1, 1) := by decide +kernel
theorem dX8_move_75 : decode cX8_move 75 = .ok (.imul, 1) := by decide +kernel
theorem dX8_move_76 : decode cX8_move 76 = .ok (.iconst 1, 1) := by decide +kernel
theorem dX8_move_77 : decode cX8_move 77 = .ok (.iadd, 1) := by decide +kernel
theorem dX8_move_78 : decode cX8_move 78 = .ok (.iload 4, 2) := by decide +kernel
theorem dX8_move_80 : decode cX8_move 80 = .ok (.iload_n 2, 1) := by decide +kernel
theorem dX8_move_81 : decode cX8_move 81 = .ok (.isub, 1) := by decide +kernel
theorem dX8_move_82 : decode cX8_move 82 = .ok (.iastore, 1) := by decide +kernel
theorem dX8_move_83 : decode cX8_move 83 = .ok (.iload_n 3, 1) := by decide +kernel
theorem dX8_move_84 : decode cX8_move 84 = .ok (.ireturn, 1) := by decide +kernel
theorem dX8_cut_0 : decode cX8_cut 0 = .ok (.aload_n 0, 1) := by decide +kernel
theorem dX8_cut_1 : decode cX8_cut 1 = .ok (.iload_n 1, 1) := by decide +kernel
theorem dX8_cut_2 : decode cX8_cut 2 = .ok (.invokevirtual 96, 3) := by decide +kernel
theorem dX8_cut_5 : decode cX8_cut 5 = .ok (.ifCond .ne 6, 3) := by decide +kernel
theorem dX8_cut_8 : decode cX8_cut 8 = .ok (.bipush (-101), 2) := by decide +kernel
theorem dX8_cut_10 : decode cX8_cut 10 = .ok (.ireturn, 1) := by decide +kernel
theorem dX8_cut_11 : decode cX8_cut 11 = .ok (.aload_n 0, 1) := by decide +kernel
theorem dX8_cut_12 : decode cX8_cut 12 = .ok (.getfield 26, 3) := by decide +kernel
theorem dX8_cut_15 : decode cX8_cut 15 = .ok (.getfield 120, 3) := by decide +kernel
theorem dX8_cut_18 : decode cX8_cut 18 = .ok (.iload_n 1, 1) := by decide +kernel
theorem dX8_cut_19 : decode cX8_cut 19 = .ok (.baload, 1) := by decide +kernel
theorem dX8_cut_20 : decode cX8_cut 20 = .ok (.ifCond .eq 6, 3) := by decide +kernel
theorem dX8_cut_23 : decode cX8_cut 23 = .ok (.bipush (-103), 2) := by decide +kernel
theorem dX8_cut_25 : decode cX8_cut 25 = .ok (.ireturn, 1) := by decide +kernel
theorem dX8_cut_26 : decode cX8_cut 26 = .ok (.aload_n 0, 1) := by decide +kernel
theorem dX8_cut_27 : decode cX8_cut 27 = .ok (.getfield 26, 3) := by decide +kernel
theorem dX8_cut_30 : decode cX8_cut 30 = .ok (.getfield 120, 3) := by decide +kernel
theorem dX8_cut_33 : decode cX8_cut 33 = .ok (.iload_n 1, 1) := by decide +kernel
theorem dX8_cut_34 : decode cX8_cut 34 = .ok (.iconst 1, 1) := by decide +kernel
theorem dX8_cut_35 : decode cX8_cut 35 = .ok (.bastore, 1) := by decide +kernel
theorem dX8_cut_36 : decode cX8_cut 36 = .ok (.aload_n 0, 1) := by decide +kernel
theorem dX8_cut_37 : decode cX8_cut 37 = .ok (.invokevirtual 131, 3) := by decide +kernel
theorem dX8_cut_40 : decode cX8_cut 40 = .ok (.ireturn, 1) := by decide +kernel
theorem dX8_drop_0 : decode cX8_drop 0 = .ok (.aload_n 0, 1) := by decide +kernel
theorem dX8_drop_1 : decode cX8_drop 1 = .ok (.iload_n 1, 1) := by decide +kernel
theorem dX8_drop_2 : decode cX8_drop 2 = .ok (.invokevirtual 84, 3) := by decide +kernel
theorem dX8_drop_5 : decode cX8_drop 5 = .ok (.ifCond .eq 7, 3) := by decide +kernel
theorem dX8_drop_8 : decode cX8_drop 8 = .ok (.iload_n 1, 1) := by decide +kernel
theorem dX8_drop_9 : decode cX8_drop 9 = .ok (.ifCond .ne 6, 3) := by decide +kernel
theorem dX8_drop_12 : decode cX8_drop 12 = .ok (.bipush (-101), 2) := by decide +kernel
theorem dX8_drop_14 : decode cX8_drop 14 = .ok (.ireturn, 1) := by decide +kernel
theorem dX8_drop_15 : decode cX8_drop 15 = .ok (.aload_n 0, 1) := by decide +kernel
theorem dX8_drop_16 : decode cX8_drop 16 = .ok (.getfield 26, 3) := by decide +kernel
theorem dX8_drop_19 : decode cX8_drop 19 = .ok (.getfield 138, 3) := by decide +kernel
theorem dX8_drop_22 : decode cX8_drop 22 = .ok (.iload_n 1, 1) := by decide +kernel
theorem dX8_drop_23 : decode cX8_drop 23 = .ok (.baload, 1) := by decide +kernel
theorem dX8_drop_24 : decode cX8_drop 24 = .ok (.ifCond .eq 6, 3) := by decide +kernel
theorem dX8_drop_27 : decode cX8_drop 27 = .ok (.bipush (-103), 2) := by decide +kernel
theorem dX8_drop_29 : decode cX8_drop 29 = .ok (.ireturn, 1) := by decide +kernel
theorem dX8_drop_30 : decode cX8_drop 30 = .ok (.aload_n 0, 1) := by decide +kernel
theorem dX8_drop_31 : decode cX8_drop 31 = .ok (.getfield 26, 3) := by decide +kernel
theorem dX8_drop_34 : decode cX8_drop 34 = .ok (.getfield 138, 3) := by decide +kernel
theorem dX8_drop_37 : decode cX8_drop 37 = .ok (.iload_n 1, 1) := by decide +kernel
theorem dX8_drop_38 : decode cX8_drop 38 = .ok (.iconst 1, 1) := by decide +kernel
theorem dX8_drop_39 : decode cX8_drop 39 = .ok (.bastore, 1) := by decide +kernel
theorem dX8_drop_40 : decode cX8_drop 40 = .ok (.aload_n 0, 1) := by decide +kernel
theorem dX8_drop_41 : decode cX8_drop 41 = .ok (.getfield 36, 3) := by decide +kernel
theorem dX8_drop_44 : decode cX8_drop 44 = .ok (.aload_n 0, 1) := by decide +kernel
theorem dX8_drop_45 : decode cX8_drop 45 = .ok (.getfield 26, 3) := by decide +kernel
theorem dX8_drop_48 : decode cX8_drop 48 = .ok (.invokevirtual 88, 3) := by decide +kernel
theorem dX8_drop_51 : decode cX8_drop 51 = .ok (.aload_n 0, 1) := by decide +kernel
theorem dX8_drop_52 : decode cX8_drop 52 = .ok (.getfield 36, 3) := by decide +kernel
theorem dX8_drop_55 : decode cX8_drop 55 = .ok (.aload_n 0, 1) := by decide +kernel
theorem dX8_drop_56 : decode cX8_drop 56 = .ok (.getfield 26, 3) := by decide +kernel
theorem dX8_drop_59 : decode cX8_drop 59 = .ok (.invokevirtual 141, 3) := by decide +kernel
theorem dX8_drop_62 : decode cX8_drop 62 = .ok (.ireturn, 1) := by decide +kernel
theorem dX8_mend_0 : decode cX8_mend 0 = .ok (.aload_n 0, 1) := by decide +kernel
theorem dX8_mend_1 : decode cX8_mend 1 = .ok (.getfield 26, 3) := by decide +kernel
theorem dX8_mend_4 : decode cX8_mend 4 = .ok (.invokevirtual 145, 3) := by decide +kernel
theorem dX8_mend_7 : decode cX8_mend 7 = .ok (.ireturn, 1) := by decide +kernel
theorem dX8_change_0 : decode cX8_change 0 = .ok (.aload_n 0, 1) := by decide +kernel
theorem dX8_change_1 : decode cX8_change 1 = .ok (.iload_n 1, 1) := by decide +kernel
theorem dX8_change_2 : decode cX8_change 2 = .ok (.invokevirtual 96, 3) := by decide +kernel
theorem dX8_change_5 : decode cX8_change 5 = .ok (.ifCond .ne 6, 3) := by decide +kernel
theorem dX8_change_8 : decode cX8_change 8 = .ok (.bipush (-101), 2) := by decide +kernel
theorem dX8_change_10 : decode cX8_change 10 = .ok (.ireturn, 1) := by decide +kernel
theorem dX8_change_11 : decode cX8_change 11 = .ok (.iload_n 2, 1) := by decide +kernel
theorem dX8_change_12 : decode cX8_change 12 = .ok (.invokestatic 102, 3) := by decide +kernel
theorem dX8_change_15 : decode cX8_change 15 = .ok (.ifCond .eq 10, 3) := by decide +kernel
theorem dX8_change_18 : decode cX8_change 18 = .ok (.iload_n 3, 1) := by decide +kernel
theorem dX8_change_19 : decode cX8_change 19 = .ok (.invokestatic 148, 3) := by decide +kernel
theorem dX8_change_22 : decode cX8_change 22 = .ok (.ifCond .ne 6, 3) := by decide +kernel
theorem dX8_change_25 : decode cX8_change 25 = .ok (.bipush (-102), 2) := by decide +kernel
theorem dX8_change_27 : decode cX8_change 27 = .ok (.ireturn, 1) := by decide +kernel
theorem dX8_change_28 : decode cX8_change 28 = .ok (.aload_n 0, 1) := by decide +kernel
theorem dX8_change_29 : decode cX8_change 29 = .ok (.getfield 26, 3) := by decide +kernel
theorem dX8_change_32 : decode cX8_change 32 = .ok (.getfield 107, 3) := by decide +kernel
theorem dX8_change_35 : decode cX8_change 35 = .ok (.iload_n 1, 1) := by decide +kernel
theorem dX8_change_36 : decode cX8_change 36 = .ok (.iaload, 1) := by decide +kernel
theorem dX8_change_37 : decode cX8_change 37 = .ok (.istore 4, 2) := by decide +kernel
theorem dX8_change_39 : decode cX8_change 39 = .ok (.aload_n 0, 1) := by decide +kernel
theorem dX8_change_40 : decode cX8_change 40 = .ok (.getfield 26, 3) := by decide +kernel
theorem dX8_change_43 : decode cX8_change 43 = .ok (.getfield 107, 3) := by decide +kernel
theorem dX8_change_46 : decode cX8_change 46 = .ok (.iload_n 1, 1) := by decide +kernel
theorem dX8_change_47 : decode cX8_change 47 = .ok (.iload_n 2, 1) := by decide +kernel
theorem dX8_change_48 : decode cX8_change 48 = .ok (.iastore, 1) := by decide +kernel
theorem dX8_change_49 : decode cX8_change 49 = .ok (.aload_n 0, 1) := by decide +kernel
theorem dX8_change_50 : decode cX8_change 50 = .ok (.getfield 26, 3) := by decide +kernel
theorem dX8_change_53 : decode cX8_change 53 = .ok (.getfield 151, 3) := by decide +kernel
theorem dX8_change_56 : decode cX8_change 56 = .ok (.iload_n 1, 1) := by decide +kernel
theorem dX8_change_57 : decode cX8_change 57 = .ok (.iload_n 3, 1) := by decide +kernel
theorem dX8_change_58 : decode cX8_change 58 = .ok (.iastore, 1) := by decide +kernel
theorem dX8_change_59 : decode cX8_change 59 = .ok (.iload 4, 2) := by decide +kernel
theorem dX8_change_61 : decode cX8_change 61 = .ok (.ireturn, 1) := by decide +kernel
theorem dX8_best_0 : decode cX8_best 0 = .ok (.aload_n 0, 1) := by decide +kernel
theorem dX8_best_1 : decode cX8_best 1 = .ok (.invokevirtual 114, 3) := by decide +kernel
theorem dX8_best_4 : decode cX8_best 4 = .ok (.ifCond .eq 17, 3) := by decide +kernel
theorem dX8_best_7 : decode cX8_best 7 = .ok (.aload_n 0, 1) := by decide +kernel
theorem dX8_best_8 : decode cX8_best 8 = .ok (.getfield 43, 3) := by decide +kernel
theorem dX8_best_11 : decode cX8_best 11 = .ok (.aload_n 0, 1) := by decide +kernel
theorem dX8_best_12 : decode cX8_best 12 = .ok (.getfield 26, 3) := by decide +kernel
theorem dX8_best_15 : decode cX8_best 15 = .ok (.invokevirtual 154, 3) := by decide +kernel
theorem dX8_best_18 : decode cX8_best 18 = .ok (.goto 5, 3) := by decide +kernel
theorem dX8_best_21 : decode cX8_best 21 = .ok (.bipush (-103), 2) := by decide +kernel
theorem dX8_best_23 : decode cX8_best 23 = .ok (.ireturn, 1) := by decide +kernel
theorem dX8_lay_0 : decode cX8_lay 0 = .ok (.iload_n 1, 1) := by decide +kernel
theorem dX8_lay_1 : decode cX8_lay 1 = .ok (.bipush 10, 2) := by decide +kernel
theorem dX8_lay_3 : decode cX8_lay 3 = .ok (.if_icmp .lt 13, 3) := by decide +kernel
theorem dX8_lay_6 : decode cX8_lay 6 = .ok (.iload_n 1, 1) := by decide +kernel
theorem dX8_lay_7 : decode cX8_lay 7 = .ok (.bipush 16, 2) := by decide +kernel
theorem dX8_lay_9 : decode cX8_lay 9 = .ok (.if_icmp .ge 7, 3) := by decide +kernel
theorem dX8_lay_12 : decode cX8_lay 12 = .ok (.iconst 1, 1) := by decide +kernel
theorem dX8_lay_13 : decode cX8_lay 13 = .ok (.goto 4, 3) := by decide +kernel
theorem dX8_lay_16 : decode cX8_lay 16 = .ok (.iconst 0, 1) := by decide +kernel
theorem dX8_lay_17 : decode cX8_lay 17 = .ok (.istore_n 2, 1) := by decide +kernel
theorem dX8_lay_18 : decode cX8_lay 18 = .ok (.iload_n 1, 1) := by decide +kernel
theorem dX8_lay_19 : decode cX8_lay 19 = .ok (.ifCond .eq 15, 3) := by decide +kernel
theorem dX8_lay_22 : decode cX8_lay 22 = .ok (.iload_n 1, 1) := by decide +kernel
theorem dX8_lay_23 : decode cX8_lay 23 = .ok (.iconst 1, 1) := by decide +kernel
theorem dX8_lay_24 : decode cX8_lay 24 = .ok (.if_icmp .eq 10, 3) := by decide +kernel
theorem dX8_lay_27 : decode cX8_lay 27 = .ok (.iload_n 2, 1) := by decide +kernel
theorem dX8_lay_28 : decode cX8_lay 28 = .ok (.ifCond .ne 6, 3) := by decide +kernel
theorem dX8_lay_31 : decode cX8_lay 31 = .ok (.bipush (-102), 2) := by decide +kernel
theorem dX8_lay_33 : decode cX8_lay 33 = .ok (.ireturn, 1) := by decide +kernel
theorem dX8_lay_34 : decode cX8_lay 34 = .ok (.aload_n 0, 1) := by decide +kernel
theorem dX8_lay_35 : decode cX8_lay 35 = .ok (.invokevirtual 114, 3) := by decide +kernel
theorem dX8_lay_38 : decode cX8_lay 38 = .ok (.ifCond .eq 12, 3) := by decide +kernel
theorem dX8_lay_41 : decode cX8_lay 41 = .ok (.aload_n 0, 1) := by decide +kernel
theorem dX8_lay_42 : decode cX8_lay 42 = .ok (.getfield 157, 3) := by decide +kernel
theorem dX8_lay_45 : decode cX8_lay 45 = .ok (.bipush 20, 2) := by decide +kernel
theorem dX8_lay_47 : decode cX8_lay 47 = .ok (.if_icmp .lt 6, 3) := by decide +kernel
theorem dX8_lay_50 : decode cX8_lay 50 = .ok (.bipush (-103), 2) := by decide +kernel
theorem dX8_lay_52 : decode cX8_lay 52 = .ok (.ireturn, 1) := by decide +kernel
theorem dX8_lay_53 : decode cX8_lay 53 = .ok (.aload_n 0, 1) := by decide +kernel
theorem dX8_lay_54 : decode cX8_lay 54 = .ok (.dup, 1) := by decide +kernel
theorem dX8_lay_55 : decode cX8_lay 55 = .ok (.getfield 157, 3) := by decide +kernel
theorem dX8_lay_58 : decode cX8_lay 58 = .ok (.iconst 1, 1) := by decide +kernel
theorem dX8_lay_59 : decode cX8_lay 59 = .ok (.iadd, 1) := by decide +kernel
theorem dX8_lay_60 : decode cX8_lay 60 = .ok (.putfield 157, 3) := by decide +kernel
theorem dX8_lay_63 : decode cX8_lay 63 = .ok (.aload_n 0, 1) := by decide +kernel
theorem dX8_lay_64 : decode cX8_lay 64 = .ok (.getfield 43, 3) := by decide +kernel
theorem dX8_lay_67 : decode cX8_lay 67 = .ok (.aload_n 0, 1) := by decide +kernel
theorem dX8_lay_68 : decode cX8_lay 68 = .ok (.getfield 26, 3) := by decide +kernel
theorem dX8_lay_71 : decode cX8_lay 71 = .ok (.invokevirtual 160, 3) := by decide +kernel
theorem dX8_lay_74 : decode cX8_lay 74 = .ok (.iload_n 2, 1) := by decide +kernel
theorem dX8_lay_75 : decode cX8_lay 75 = .ok (.ifCond .eq 16, 3) := by decide +kernel
theorem dX8_lay_78 : decode cX8_lay 78 = .ok (.aload_n 0, 1) := by decide +kernel
theorem dX8_lay_79 : decode cX8_lay 79 = .ok (.getfield 43, 3) := by decide +kernel
theorem dX8_lay_82 : decode cX8_lay 82 = .ok (.getfield 163, 3) := by decide +kernel
theorem dX8_lay_85 : decode cX8_lay 85 = .ok (.iload_n 1, 1) := by decide +kernel
theorem dX8_lay_86 : decode cX8_lay 86 = .ok (.bipush 10, 2) := by decide +kernel
theorem dX8_lay_88 : decode cX8_lay 88 = .ok (.isub, 1) := by decide +kernel
theorem dX8_lay_89 : decode cX8_lay 89 = .ok (.iaload, 1) := by decide +kernel
theorem dX8_lay_90 : decode cX8_lay 90 = .ok (.ireturn, 1) := by decide +kernel
theorem dX8_lay_91 : decode cX8_lay 91 = .ok (.iload_n 1, 1) := by decide +kernel
theorem dX8_lay_92 : decode cX8_lay 92 = .ok (.ifCond .ne 13, 3) := by decide +kernel
theorem dX8_lay_95 : decode cX8_lay 95 = .ok (.aload_n 0, 1) := by decide +kernel
theorem dX8_lay_96 : decode cX8_lay 96 = .ok (.getfield 43, 3) := by decide +kernel
theorem dX8_lay_99 : decode cX8_lay 99 = .ok (.getfield 166, 3) := by decide +kernel
theorem dX8_lay_102 : decode cX8_lay 102 = .ok (.goto 10, 3) := by decide +kernel
theorem dX8_lay_105 : decode cX8_lay 105 = .ok (.aload_n 0, 1) := by decide +kernel
theorem dX8_lay_106 : decode cX8_lay 106 = .ok (.getfield 43, 3) := by decide +kernel
theorem dX8_lay_109 : decode cX8_lay 109 = .ok (.getfield 169, 3) := by decide +kernel
theorem dX8_lay_112 : decode cX8_lay 112 = .ok (.ireturn, 1) := by decide +kernel
theorem dX8_even_0 : decode cX8_even 0 = .ok (.aload_n 0, 1) := by decide +kernel
theorem dX8_even_1 : decode cX8_even 1 = .ok (.invokevirtual 114, 3) := by decide +kernel
theorem dX8_even_4 : decode cX8_even 4 = .ok (.ifCond .eq 17, 3) := by decide +kernel
theorem dX8_even_7 : decode cX8_even 7 = .ok (.aload_n 0, 1) := by decide +kernel
theorem dX8_even_8 : decode cX8_even 8 = .ok (.getfield 50, 3) := by decide +kernel
theorem dX8_even_11 : decode cX8_even 11 = .ok (.aload_n 0, 1) := by decide +kernel
theorem dX8_even_12 : decode cX8_even 12 = .ok (.getfield 26, 3) := by decide +kernel
theorem dX8_even_15 : decode cX8_even 15 = .ok (.invokevirtual 172, 3) := by decide +kernel
theorem dX8_even_18 : decode cX8_even 18 = .ok (.goto 5, 3) := by decide +kernel
theorem dX8_even_21 : decode cX8_even 21 = .ok (.bipush (-103), 2) := by decide +kernel
theorem dX8_even_23 : decode cX8_even 23 = .ok (.ireturn, 1) := by decide +kernel
theorem dX8_odds_0 : decode cX8_odds 0 = .ok (.iload_n 1, 1) := by decide +kernel
theorem dX8_odds_1 : decode cX8_odds 1 = .ok (.ifCond .eq 11, 3) := by decide +kernel
theorem dX8_odds_4 : decode cX8_odds 4 = .ok (.iload_n 1, 1) := by decide +kernel
theorem dX8_odds_5 : decode cX8_odds 5 = .ok (.iconst 1, 1) := by decide +kernel
theorem dX8_odds_6 : decode cX8_odds 6 = .ok (.if_icmp .eq 6, 3) := by decide +kernel
theorem dX8_odds_9 : decode cX8_odds 9 = .ok (.bipush (-102), 2) := by decide +kernel
theorem dX8_odds_11 : decode cX8_odds 11 = .ok (.ireturn, 1) := by decide +kernel
theorem dX8_odds_12 : decode cX8_odds 12 = .ok (.aload_n 0, 1) := by decide +kernel
theorem dX8_odds_13 : decode cX8_odds 13 = .ok (.invokevirtual 114, 3) := by decide +kernel
theorem dX8_odds_16 : decode cX8_odds 16 = .ok (.ifCond .ne 6, 3) := by decide +kernel
theorem dX8_odds_19 : decode cX8_odds 19 = .ok (.bipush (-103), 2) := by decide +kernel
theorem dX8_odds_21 : decode cX8_odds 21 = .ok (.ireturn, 1) := by decide +kernel
theorem dX8_odds_22 : decode cX8_odds 22 = .ok (.aload_n 0, 1) := by decide +kernel
theorem dX8_odds_23 : decode cX8_odds 23 = .ok (.getfield 43, 3) := by decide +kernel
theorem dX8_odds_26 : decode cX8_odds 26 = .ok (.aload_n 0, 1) := by decide +kernel
theorem dX8_odds_27 : decode cX8_odds 27 = .ok (.getfield 26, 3) := by decide +kernel
theorem dX8_odds_30 : decode cX8_odds 30 = .ok (.invokevirtual 175, 3) := by decide +kernel
theorem dX8_odds_33 : decode cX8_odds 33 = .ok (.iload_n 1, 1) := by decide +kernel
theorem dX8_odds_34 : decode cX8_odds 34 = .ok (.ifCond .ne 13, 3) := by decide +kernel
theorem dX8_odds_37 : decode cX8_odds 37 = .ok (.aload_n 0, 1) := by decide +kernel
theorem dX8_odds_38 : decode cX8_odds 38 = .ok (.getfield 43, 3) := by decide +kernel
theorem dX8_odds_41 : decode cX8_odds 41 = .ok (.getfield 178, 3) := by decide +kernel
theorem dX8_odds_44 : decode cX8_odds 44 = .ok (.goto 10, 3) := by decide +kernel
theorem dX8_odds_47 : decode cX8_odds 47 = .ok (.aload_n 0, 1) := by decide +kernel
theorem dX8_odds_48 : decode cX8_odds 48 = .ok (.getfield 43, 3) := by decide +kernel
theorem dX8_odds_51 : decode cX8_odds 51 = .ok (.getfield 181, 3) := by decide +kernel
theorem dX8_odds_54 : decode cX8_odds 54 = .ok (.ireturn, 1) := by decide +kernel
theorem dX8_see_0 : decode cX8_see 0 = .ok (.aload_n 0, 1) := by decide +kernel
theorem dX8_see_1 : decode cX8_see 1 = .ok (.iload_n 1, 1) := by decide +kernel
theorem dX8_see_2 : decode cX8_see 2 = .ok (.invokevirtual 96, 3) := by decide +kernel
theorem dX8_see_5 : decode cX8_see 5 = .ok (.ifCond .eq 11, 3) := by decide +kernel
theorem dX8_see_8 : decode cX8_see 8 = .ok (.aload_n 0, 1) := by decide +kernel
theorem dX8_see_9 : decode cX8_see 9 = .ok (.iload_n 2, 1) := by decide +kernel
theorem dX8_see_10 : decode cX8_see 10 = .ok (.invokevirtual 84, 3) := by decide +kernel
theorem dX8_see_13 : decode cX8_see 13 = .ok (.ifCond .ne 6, 3) := by decide +kernel
theorem dX8_see_16 : decode cX8_see 16 = .ok (.bipush (-101), 2) := by decide +kernel
theorem dX8_see_18 : decode cX8_see 18 = .ok (.ireturn, 1) := by decide +kernel
theorem dX8_see_19 : decode cX8_see 19 = .ok (.iload_n 3, 1) := by decide +kernel
theorem dX8_see_20 : decode cX8_see 20 = .ok (.invokestatic 148, 3) := by decide +kernel
theorem dX8_see_23 : decode cX8_see 23 = .ok (.ifCond .eq 14, 3) := by decide +kernel
theorem dX8_see_26 : decode cX8_see 26 = .ok (.iload 4, 2) := by decide +kernel
theorem dX8_see_28 : decode cX8_see 28 = .ok (.ifCond .lt 9, 3) := by decide +kernel
theorem dX8_see_31 : decode cX8_see 31 = .ok (.iload 4, 2) := by decide +kernel
theorem dX8_see_33 : decode cX8_see 33 = .ok (.iconst 2, 1) := by decide +kernel
theorem dX8_see_34 : decode cX8_see 34 = .ok (.if_icmp .le 6, 3) := by decide +kernel
theorem dX8_see_37 : decode cX8_see 37 = .ok (.bipush (-102), 2) := by decide +kernel
theorem dX8_see_39 : decode cX8_see 39 = .ok (.ireturn, 1) := by decide +kernel
theorem dX8_see_40 : decode cX8_see 40 = .ok (.aload_n 0, 1) := by decide +kernel
theorem dX8_see_41 : decode cX8_see 41 = .ok (.getfield 26, 3) := by decide +kernel
theorem dX8_see_44 : decode cX8_see 44 = .ok (.getfield 186, 3) := by decide +kernel
theorem dX8_see_47 : decode cX8_see 47 = .ok (.getfield 190, 3) := by decide +kernel
theorem dX8_see_50 : decode cX8_see 50 = .ok (.bipush 6, 2) := by decide +kernel
theorem dX8_see_52 : decode cX8_see 52 = .ok (.if_icmp .lt 6, 3) := by decide +kernel
theorem dX8_see_55 : decode cX8_see 55 = .ok (.bipush (-104), 2) := by decide +kernel
theorem dX8_see_57 : decode cX8_see 57 = .ok (.ireturn, 1) := by decide +kernel
theorem dX8_see_58 : decode cX8_see 58 = .ok (.aload_n 0, 1) := by decide +kernel
theorem dX8_see_59 : decode cX8_see 59 = .ok (.getfield 26, 3) := by decide +kernel
theorem dX8_see_62 : decode cX8_see 62 = .ok (.getfield 186, 3) := by decide +kernel
theorem dX8_see_65 : decode cX8_see 65 = .ok (.iload_n 1, 1) := by decide +kernel
theorem dX8_see_66 : decode cX8_see 66 = .ok (.iload_n 2, 1) := by decide +kernel
theorem dX8_see_67 : decode cX8_see 67 = .ok (.iload_n 3, 1) := by decide +kernel
theorem dX8_see_68 : decode cX8_see 68 = .ok (.iload 4, 2) := by decide +kernel
theorem dX8_see_70 : decode cX8_see 70 = .ok (.invokevirtual 193, 3) := by decide +kernel
theorem dX8_see_73 : decode cX8_see 73 = .ok (.aload_n 0, 1) := by decide +kernel
theorem dX8_see_74 : decode cX8_see 74 = .ok (.getfield 26, 3) := by decide +kernel
theorem dX8_see_77 : decode cX8_see 77 = .ok (.getfield 186, 3) := by decide +kernel
theorem dX8_see_80 : decode cX8_see 80 = .ok (.getfield 190, 3) := by decide +kernel
theorem dX8_see_83 : decode cX8_see 83 = .ok (.ireturn, 1) := by decide +kernel
theorem dX8_forget_0 : decode cX8_forget 0 = .ok (.aload_n 0, 1) := by decide +kernel
theorem dX8_forget_1 : decode cX8_forget 1 = .ok (.getfield 26, 3) := by decide +kernel
theorem dX8_forget_4 : decode cX8_forget 4 = .ok (.getfield 186, 3) := by decide +kernel
theorem dX8_forget_7 : decode cX8_forget 7 = .ok (.getfield 190, 3) := by decide +kernel
theorem dX8_forget_10 : decode cX8_forget 10 = .ok (.istore_n 1, 1) := by decide +kernel
theorem dX8_forget_11 : decode cX8_forget 11 = .ok (.aload_n 0, 1) := by decide +kernel
theorem dX8_forget_12 : decode cX8_forget 12 = .ok (.getfield 26, 3) := by decide +kernel
theorem dX8_forget_15 : decode cX8_forget 15 = .ok (.getfield 186, 3) := by decide +kernel
theorem dX8_forget_18 : decode cX8_forget 18 = .ok (.iconst 0, 1) := by decide +kernel
theorem dX8_forget_19 : decode cX8_forget 19 = .ok (.putfield 190, 3) := by decide +kernel
theorem dX8_forget_22 : decode cX8_forget 22 = .ok (.iload_n 1, 1) := by decide +kernel
theorem dX8_forget_23 : decode cX8_forget 23 = .ok (.ireturn, 1) := by decide +kernel
theorem dX8_trial_0 : decode cX8_trial 0 = .ok (.aload_n 0, 1) := by decide +kernel
theorem dX8_trial_1 : decode cX8_trial 1 = .ok (.iload_n 1, 1) := by decide +kernel
theorem dX8_trial_2 : decode cX8_trial 2 = .ok (.invokevirtual 96, 3) := by decide +kernel
theorem dX8_trial_5 : decode cX8_trial 5 = .ok (.ifCond .eq 11, 3) := by decide +kernel
theorem dX8_trial_8 : decode cX8_trial 8 = .ok (.aload_n 0, 1) := by decide +kernel
theorem dX8_trial_9 : decode cX8_trial 9 = .ok (.iload_n 2, 1) := by decide +kernel
theorem dX8_trial_10 : decode cX8_trial 10 = .ok (.invokevirtual 84, 3) := by decide +kernel
theorem dX8_trial_13 : decode cX8_trial 13 = .ok (.ifCond .ne 6, 3) := by decide +kernel
theorem dX8_trial_16 : decode cX8_trial 16 = .ok (.bipush (-101), 2) := by decide +kernel
theorem dX8_trial_18 : decode cX8_trial 18 = .ok (.ireturn, 1) := by decide +kernel
theorem dX8_trial_19 : decode cX8_trial 19 = .ok (.aload_n 0, 1) := by decide +kernel
theorem dX8_trial_20 : decode cX8_trial 20 = .ok (.getfield 26, 3) := by decide +kernel
theorem dX8_trial_23 : decode cX8_trial 23 = .ok (.getfield 186, 3) := by decide +kernel
theorem dX8_trial_26 : decode cX8_trial 26 = .ok (.aload_n 0, 1) := by decide +kernel
theorem dX8_trial_27 : decode cX8_trial 27 = .ok (.getfield 26, 3) := by decide +kernel
theorem dX8_trial_30 : decode cX8_trial 30 = .ok (.iload_n 1, 1) := by decide +kernel
theorem dX8_trial_31 : decode cX8_trial 31 = .ok (.iload_n 2, 1) := by decide +kernel
theorem dX8_trial_32 : decode cX8_trial 32 = .ok (.invokevirtual 197, 3) := by decide +kernel
theorem dX8_trial_35 : decode cX8_trial 35 = .ok (.ireturn, 1) := by decide +kernel
theorem dX8_evenings_0 : decode cX8_evenings 0 = .ok (.iload_n 1, 1) := by decide +kernel
theorem dX8_evenings_1 : decode cX8_evenings 1 = .ok (.iconst 1, 1) := by decide +kernel
theorem dX8_evenings_2 : decode cX8_evenings 2 = .ok (.if_icmp .lt 22, 3) := by decide +kernel
theorem dX8_evenings_5 : decode cX8_evenings 5 = .ok (.iload_n 1, 1) := by decide +kernel
theorem dX8_evenings_6 : decode cX8_evenings 6 = .ok (.bipush 60, 2) := by decide +kernel
theorem dX8_evenings_8 : decode cX8_evenings 8 = .ok (.if_icmp .gt 16, 3) := by decide +kernel
theorem dX8_evenings_11 : decode cX8_evenings 11 = .ok (.iload_n 2, 1) := by decide +kernel
theorem dX8_evenings_12 : decode cX8_evenings 12 = .ok (.ifCond .lt 12, 3) := by decide +kernel
theorem dX8_evenings_15 : decode cX8_evenings 15 = .ok (.iload_n 3, 1) := by decide +kernel
theorem dX8_evenings_16 : decode cX8_evenings 16 = .ok (.ifCond .lt 8, 3) := by decide +kernel
theorem dX8_evenings_19 : decode cX8_evenings 19 = .ok (.iload_n 3, 1) := by decide +kernel
theorem dX8_evenings_20 : decode cX8_evenings 20 = .ok (.iconst 2, 1) := by decide +kernel
theorem dX8_evenings_21 : decode cX8_evenings 21 = .ok (.if_icmp .le 6, 3) := by decide +kernel
theorem dX8_evenings_24 : decode cX8_evenings 24 = .ok (.bipush (-102), 2) := by decide +kernel
theorem dX8_evenings_26 : decode cX8_evenings 26 = .ok (.ireturn, 1) := by decide +kernel
theorem dX8_evenings_27 : decode cX8_evenings 27 = .ok (.aload_n 0, 1) := by decide +kernel
theorem dX8_evenings_28 : decode cX8_evenings 28 = .ok (.invokevirtual 114, 3) := by decide +kernel
theorem dX8_evenings_31 : decode cX8_evenings 31 = .ok (.ifCond .ne 6, 3) := by decide +kernel
theorem dX8_evenings_34 : decode cX8_evenings 34 = .ok (.bipush (-103), 2) := by decide +kernel
theorem dX8_evenings_36 : decode cX8_evenings 36 = .ok (.ireturn, 1) := by decide +kernel
theorem dX8_evenings_37 : decode cX8_evenings 37 = .ok (.aload_n 0, 1) := by decide +kernel
theorem dX8_evenings_38 : decode cX8_evenings 38 = .ok (.getfield 50, 3) := by decide +kernel
theorem dX8_evenings_41 : decode cX8_evenings 41 = .ok (.aload_n 0, 1) := by decide +kernel
theorem dX8_evenings_42 : decode cX8_evenings 42 = .ok (.getfield 26, 3) := by decide +kernel
theorem dX8_evenings_45 : decode cX8_evenings 45 = .ok (.iload_n 1, 1) := by decide +kernel
theorem dX8_evenings_46 : decode cX8_evenings 46 = .ok (.iload_n 2, 1) := by decide +kernel
theorem dX8_evenings_47 : decode cX8_evenings 47 = .ok (.invokevirtual 201, 3) := by decide +kernel
theorem dX8_evenings_50 : decode cX8_evenings 50 = .ok (.iload_n 3, 1) := by decide +kernel
theorem dX8_evenings_51 : decode cX8_evenings 51 = .ok (.ifCond .ne 11, 3) := by decide +kernel
theorem dX8_evenings_54 : decode cX8_evenings 54 = .ok (.aload_n 0, 1) := by decide +kernel
theorem dX8_evenings_55 : decode cX8_evenings 55 = .ok (.getfield 50, 3) := by decide +kernel
theorem dX8_evenings_58 : decode cX8_evenings 58 = .ok (.getfield 205, 3) := by decide +kernel
theorem dX8_evenings_61 : decode cX8_evenings 61 = .ok (.ireturn, 1) := by decide +kernel
theorem dX8_evenings_62 : decode cX8_evenings 62 = .ok (.iload_n 3, 1) := by decide +kernel
theorem dX8_evenings_63 : decode cX8_evenings 63 = .ok (.iconst 1, 1) := by decide +kernel
theorem dX8_evenings_64 : decode cX8_evenings 64 = .ok (.if_icmp .ne 17, 3) := by decide +kernel
theorem dX8_evenings_67 : decode cX8_evenings 67 = .ok (.aload_n 0, 1) := by decide +kernel
theorem dX8_evenings_68 : decode cX8_evenings 68 = .ok (.getfield 50, 3) := by decide +kernel
theorem dX8_evenings_71 : decode cX8_evenings 71 = .ok (.getfield 208, 3) := by decide +kernel
theorem dX8_evenings_74 : decode cX8_evenings 74 = .ok (.sipush 10000, 3) := by decide +kernel
theorem dX8_evenings_77 : decode cX8_evenings 77 = .ok (.iadd, 1) := by decide +kernel
theorem dX8_evenings_78 : decode cX8_evenings 78 = .ok (.goto 10, 3) := by decide +kernel
theorem dX8_evenings_81 : decode cX8_evenings 81 = .ok (.aload_n 0, 1) := by decide +kernel
theorem dX8_evenings_82 : decode cX8_evenings 82 = .ok (.getfield 50, 3) := by decide +kernel
theorem dX8_evenings_85 : decode cX8_evenings 85 = .ok (.getfield 211, 3) := by decide +kernel
theorem dX8_evenings_88 : decode cX8_evenings 88 = .ok (.ireturn, 1) := by decide +kernel
theorem dX8_image_0 : decode cX8_image 0 = .ok (.aload_n 0, 1) := by decide +kernel
theorem dX8_image_1 : decode cX8_image 1 = .ok (.invokevirtual 114, 3) := by decide +kernel
theorem dX8_image_4 : decode cX8_image 4 = .ok (.ifCond .ne 6, 3) := by decide +kernel
theorem dX8_image_7 : decode cX8_image 7 = .ok (.bipush (-103), 2) := by decide +kernel
theorem dX8_image_9 : decode cX8_image 9 = .ok (.ireturn, 1) := by decide +kernel
theorem dX8_image_10 : decode cX8_image 10 = .ok (.aload_n 0, 1) := by decide +kernel
theorem dX8_image_11 : decode cX8_image 11 = .ok (.getfield 30, 3) := by decide +kernel
theorem dX8_image_14 : decode cX8_image 14 = .ok (.aload_n 0, 1) := by decide +kernel
theorem dX8_image_15 : decode cX8_image 15 = .ok (.getfield 26, 3) := by decide +kernel
theorem dX8_image_18 : decode cX8_image 18 = .ok (.invokevirtual 214, 3) := by decide +kernel
theorem dX8_image_21 : decode cX8_image 21 = .ok (.aload_n 0, 1) := by decide +kernel
theorem dX8_image_22 : decode cX8_image 22 = .ok (.iconst 1, 1) := by decide +kernel
theorem dX8_image_23 : decode cX8_image 23 = .ok (.putfield 74, 3) := by decide +kernel
theorem dX8_image_26 : decode cX8_image 26 = .ok (.aload_n 0, 1) := by decide +kernel
theorem dX8_image_27 : decode cX8_image 27 = .ok (.getfield 26, 3) := by decide +kernel
theorem dX8_image_30 : decode cX8_image 30 = .ok (.getfield 117, 3) := by decide +kernel
theorem dX8_image_33 : decode cX8_image 33 = .ok (.ireturn, 1) := by decide +kernel
theorem dX8_restore_0 : decode cX8_restore 0 = .ok (.aload_n 0, 1) := by decide +kernel
theorem dX8_restore_1 : decode cX8_restore 1 = .ok (.getfield 74, 3) := by decide +kernel
theorem dX8_restore_4 : decode cX8_restore 4 = .ok (.ifCond .ne 6, 3) := by decide +kernel
theorem dX8_restore_7 : decode cX8_restore 7 = .ok (.bipush (-103), 2) := by decide +kernel
theorem dX8_restore_9 : decode cX8_restore 9 = .ok (.ireturn, 1) := by decide +kernel
theorem dX8_restore_10 : decode cX8_restore 10 = .ok (.aload_n 0, 1) := by decide +kernel
theorem dX8_restore_11 : decode cX8_restore 11 = .ok (.getfield 26, 3) := by decide +kernel
theorem dX8_restore_14 : decode cX8_restore 14 = .ok (.aload_n 0, 1) := by decide +kernel
theorem dX8_restore_15 : decode cX8_restore 15 = .ok (.getfield 30, 3) := by decide +kernel
theorem dX8_restore_18 : decode cX8_restore 18 = .ok (.invokevirtual 214, 3) := by decide +kernel
theorem dX8_restore_21 : decode cX8_restore 21 = .ok (.aload_n 0, 1) := by decide +kernel
theorem dX8_restore_22 : decode cX8_restore 22 = .ok (.getfield 26, 3) := by decide +kernel
theorem dX8_restore_25 : decode cX8_restore 25 = .ok (.getfield 117, 3) := by decide +kernel
theorem dX8_restore_28 : decode cX8_restore 28 = .ok (.ireturn, 1) := by decide +kernel
theorem dX8_count_0 : decode cX8_count 0 = .ok (.iload_n 1, 1) := by decide +kernel
theorem dX8_count_1 : decode cX8_count 1 = .ok (.ifCond .lt 9, 3) := by decide +kernel
theorem dX8_count_4 : decode cX8_count 4 = .ok (.iload_n 1, 1) := by decide +kernel
theorem dX8_count_5 : decode cX8_count 5 = .ok (.bipush 11, 2) := by decide +kernel
theorem dX8_count_7 : decode cX8_count 7 = .ok (.if_icmp .lt 6, 3) := by decide +kernel
theorem dX8_count_10 : decode cX8_count 10 = .ok (.bipush (-102), 2) := by decide +kernel
theorem dX8_count_12 : decode cX8_count 12 = .ok (.ireturn, 1) := by decide +kernel
theorem dX8_count_13 : decode cX8_count 13 = .ok (.aload_n 0, 1) := by decide +kernel
theorem dX8_count_14 : decode cX8_count 14 = .ok (.getfield 36, 3) := by decide +kernel
theorem dX8_count_17 : decode cX8_count 17 = .ok (.aload_n 0, 1) := by decide +kernel
theorem dX8_count_18 : decode cX8_count 18 = .ok (.getfield 26, 3) := by decide +kernel
theorem dX8_count_21 : decode cX8_count 21 = .ok (.invokevirtual 88, 3) := by decide +kernel
theorem dX8_count_24 : decode cX8_count 24 = .ok (.aload_n 0, 1) := by decide +kernel
theorem dX8_count_25 : decode cX8_count 25 = .ok (.iload_n 1, 1) := by decide +kernel
theorem dX8_count_26 : decode cX8_count 26 = .ok (.invokevirtual 217, 3) := by decide +kernel
theorem dX8_count_29 : decode cX8_count 29 = .ok (.ireturn, 1) := by decide +kernel
theorem dX8_digest_0 : decode cX8_digest 0 = .ok (.ldc2_w 221, 3) := by decide +kernel
theorem dX8_digest_3 : decode cX8_digest 3 = .ok (.lstore_n 1, 1) := by decide +kernel
theorem dX8_digest_4 : decode cX8_digest 4 = .ok (.aload_n 0, 1) := by decide +kernel
theorem dX8_digest_5 : decode cX8_digest 5 = .ok (.getfield 36, 3) := by decide +kernel
theorem dX8_digest_8 : decode cX8_digest 8 = .ok (.aload_n 0, 1) := by decide +kernel
theorem dX8_digest_9 : decode cX8_digest 9 = .ok (.getfield 26, 3) := by decide +kernel
theorem dX8_digest_12 : decode cX8_digest 12 = .ok (.invokevirtual 88, 3) := by decide +kernel
theorem dX8_digest_15 : decode cX8_digest 15 = .ok (.iconst 0, 1) := by decide +kernel
theorem dX8_digest_16 : decode cX8_digest 16 = .ok (.istore_n 3, 1) := by decide +kernel
theorem dX8_digest_17 : decode cX8_digest 17 = .ok (.iload_n 3, 1) := by decide +kernel
theorem dX8_digest_18 : decode cX8_digest 18 = .ok (.aload_n 0, 1) := by decide +kernel
theorem dX8_digest_19 : decode cX8_digest 19 = .ok (.getfield 26, 3) := by decide +kernel
theorem dX8_digest_22 : decode cX8_digest 22 = .ok (.getfield 223, 3) := by decide +kernel
theorem dX8_digest_25 : decode cX8_digest 25 = .ok (.if_icmp .ge 40, 3) := by decide +kernel
theorem dX8_digest_28 : decode cX8_digest 28 = .ok (.iconst 0, 1) := by decide +kernel
theorem dX8_digest_29 : decode cX8_digest 29 = .ok (.istore 4, 2) := by decide +kernel
theorem dX8_digest_31 : decode cX8_digest 31 = .ok (.iload 4, 2) := by decide +kernel
theorem dX8_digest_33 : decode cX8_digest 33 = .ok (.bipush 11, 2) := by decide +kernel
theorem dX8_digest_35 : decode cX8_digest 35 = .ok (.if_icmp .ge 24, 3) := by decide +kernel
theorem dX8_digest_38 : decode cX8_digest 38 = .ok (.ldc2_w 226, 3) := by decide +kernel
theorem dX8_digest_41 : decode cX8_digest 41 = .ok (.lload_n 1, 1) := by decide +kernel
theorem dX8_digest_42 : decode cX8_digest 42 = .ok (.lmul, 1) := by decide +kernel
theorem dX8_digest_43 : decode cX8_digest 43 = .ok (.aload_n 0, 1) := by decide +kernel
theorem dX8_digest_44 : decode cX8_digest 44 = .ok (.iload_n 3, 1) := by decide +kernel
theorem dX8_digest_45 : decode cX8_digest 45 = .ok (.iload 4, 2) := by decide +kernel
theorem dX8_digest_47 : decode cX8_digest 47 = .ok (.invokevirtual 92, 3) := by decide +kernel
theorem dX8_digest_50 : decode cX8_digest 50 = .ok (.i2l, 1) := by decide +kernel
theorem dX8_digest_51 : decode cX8_digest 51 = .ok (.ladd, 1) := by decide +kernel
theorem dX8_digest_52 : decode cX8_digest 52 = .ok (.lstore_n 1, 1) := by decide +kernel
theorem dX8_digest_53 : decode cX8_digest 53 = .ok (.iinc 4 1, 3) := by decide +kernel
theorem dX8_digest_56 : decode cX8_digest 56 = .ok (.goto (-25), 3) := by decide +kernel
theorem dX8_digest_59 : decode cX8_digest 59 = .ok (.iinc 3 1, 3) := by decide +kernel
theorem dX8_digest_62 : decode cX8_digest 62 = .ok (.goto (-45), 3) := by decide +kernel
theorem dX8_digest_65 : decode cX8_digest 65 = .ok (.iconst 0, 1) := by decide +kernel
theorem dX8_digest_66 : decode cX8_digest 66 = .ok (.istore_n 3, 1) := by decide +kernel
theorem dX8_digest_67 : decode cX8_digest 67 = .ok (.iload_n 3, 1) := by decide +kernel
theorem dX8_digest_68 : decode cX8_digest 68 = .ok (.aload_n 0, 1) := by decide +kernel
theorem dX8_digest_69 : decode cX8_digest 69 = .ok (.getfield 26, 3) := by decide +kernel
theorem dX8_digest_72 : decode cX8_digest 72 = .ok (.getfield 81, 3) := by decide +kernel
theorem dX8_digest_75 : decode cX8_digest 75 = .ok (.if_icmp .ge 64, 3) := by decide +kernel
theorem dX8_digest_78 : decode cX8_digest 78 = .ok (.iconst 0, 1) := by decide +kernel
theorem dX8_digest_79 : decode cX8_digest 79 = .ok (.istore 4, 2) := by decide +kernel
theorem dX8_digest_81 : decode cX8_digest 81 = .ok (.iload 4, 2) := by decide +kernel
theorem dX8_digest_83 : decode cX8_digest 83 = .ok (.bipush 7, 2) := by decide +kernel
theorem dX8_digest_85 : decode cX8_digest 85 = .ok (.if_icmp .ge 24, 3) := by decide +kernel
theorem dX8_digest_88 : decode cX8_digest 88 = .ok (.ldc2_w 226, 3) := by decide +kernel
theorem dX8_digest_91 : decode cX8_digest 91 = .ok (.lload_n 1, 1) := by decide +kernel
theorem dX8_digest_92 : decode cX8_digest 92 = .ok (.lmul, 1) := by decide +kernel
theorem dX8_digest_93 : decode cX8_digest 93 = .ok (.aload_n 0, 1) := by decide +kernel
theorem dX8_digest_94 : decode cX8_digest 94 = .ok (.iload_n 3, 1) := by decide +kernel
theorem dX8_digest_95 : decode cX8_digest 95 = .ok (.iload 4, 2) := by decide +kernel
theorem dX8_digest_97 : decode cX8_digest 97 = .ok (.invokevirtual 99, 3) := by decide +kernel
theorem dX8_digest_100 : decode cX8_digest 100 = .ok (.i2l, 1) := by decide +kernel
theorem dX8_digest_101 : decode cX8_digest 101 = .ok (.ladd, 1) := by decide +kernel
theorem dX8_digest_102 : decode cX8_digest 102 = .ok (.lstore_n 1, 1) := by decide +kernel
theorem dX8_digest_103 : decode cX8_digest 103 = .ok (.iinc 4 1, 3) := by decide +kernel
theorem dX8_digest_106 : decode cX8_digest 106 = .ok (.goto (-25), 3) := by decide +kernel
theorem dX8_digest_109 : decode cX8_digest 109 = .ok (.ldc2_w 226, 3) := by decide +kernel
theorem dX8_digest_112 : decode cX8_digest 112 = .ok (.lload_n 1, 1) := by decide +kernel
theorem dX8_digest_113 : decode cX8_digest 113 = .ok (.lmul, 1) := by decide +kernel
theorem dX8_digest_114 : decode cX8_digest 114 = .ok (.aload_n 0, 1) := by decide +kernel
theorem dX8_digest_115 : decode cX8_digest 115 = .ok (.getfield 26, 3) := by decide +kernel
theorem dX8_digest_118 : decode cX8_digest 118 = .ok (.getfield 186, 3) := by decide +kernel
theorem dX8_digest_121 : decode cX8_digest 121 = .ok (.aload_n 0, 1) := by decide +kernel
theorem dX8_digest_122 : decode cX8_digest 122 = .ok (.getfield 26, 3) := by decide +kernel
theorem dX8_digest_125 : decode cX8_digest 125 = .ok (.iload_n 3, 1) := by decide +kernel
theorem dX8_digest_126 : decode cX8_digest 126 = .ok (.iconst 0, 1) := by decide +kernel
theorem dX8_digest_127 : decode cX8_digest 127 = .ok (.invokevirtual 197, 3) := by decide +kernel
theorem dX8_digest_130 : decode cX8_digest 130 = .ok (.i2l, 1) := by decide +kernel
theorem dX8_digest_131 : decode cX8_digest 131 = .ok (.ladd, 1) := by decide +kernel
theorem dX8_digest_132 : decode cX8_digest 132 = .ok (.lstore_n 1, 1) := by decide +kernel
theorem dX8_digest_133 : decode cX8_digest 133 = .ok (.iinc 3 1, 3) := by decide +kernel
theorem dX8_digest_136 : decode cX8_digest 136 = .ok (.goto (-69), 3) := by decide +kernel
theorem dX8_digest_139 : decode cX8_digest 139 = .ok (.aload_n 0, 1) := by decide +kernel
theorem dX8_digest_140 : decode cX8_digest 140 = .ok (.invokevirtual 114, 3) := by decide +kernel
theorem dX8_digest_143 : decode cX8_digest 143 = .ok (.ifCond .eq 68, 3) := by decide +kernel
theorem dX8_digest_146 : decode cX8_digest 146 = .ok (.ldc2_w 226, 3) := by decide +kernel
theorem dX8_digest_149 : decode cX8_digest 149 = .ok (.lload_n 1, 1) := by decide +kernel
theorem dX8_digest_150 : decode cX8_digest 150 = .ok (.lmul, 1) := by decide +kernel
theorem dX8_digest_151 : decode cX8_digest 151 = .ok (.aload_n 0, 1) := by decide +kernel
theorem dX8_digest_152 : decode cX8_digest 152 = .ok (.invokevirtual 228, 3) := by decide +kernel
theorem dX8_digest_155 : decode cX8_digest 155 = .ok (.i2l, 1) := by decide +kernel
theorem dX8_digest_156 : decode cX8_digest 156 = .ok (.ladd, 1) := by decide +kernel
theorem dX8_digest_157 : decode cX8_digest 157 = .ok (.lstore_n 1, 1) := by decide +kernel
theorem dX8_digest_158 : decode cX8_digest 158 = .ok (.ldc2_w 226, 3) := by decide +kernel
theorem dX8_digest_161 : decode cX8_digest 161 = .ok (.lload_n 1, 1) := by decide +kernel
theorem dX8_digest_162 : decode cX8_digest 162 = .ok (.lmul, 1) := by decide +kernel
theorem dX8_digest_163 : decode cX8_digest 163 = .ok (.aload_n 0, 1) := by decide +kernel
theorem dX8_digest_164 : decode cX8_digest 164 = .ok (.invokevirtual 231, 3) := by decide +kernel
theorem dX8_digest_167 : decode cX8_digest 167 = .ok (.i2l, 1) := by decide +kernel
theorem dX8_digest_168 : decode cX8_digest 168 = .ok (.ladd, 1) := by decide +kernel
theorem dX8_digest_169 : decode cX8_digest 169 = .ok (.lstore_n 1, 1) := by decide +kernel
theorem dX8_digest_170 : decode cX8_digest 170 = .ok (.aload_n 0, 1) := by decide +kernel
theorem dX8_digest_171 : decode cX8_digest 171 = .ok (.getfield 43, 3) := by decide +kernel
theorem dX8_digest_174 : decode cX8_digest 174 = .ok (.aload_n 0, 1) := by decide +kernel
theorem dX8_digest_175 : decode cX8_digest 175 = .ok (.getfield 26, 3) := by decide +kernel
theorem dX8_digest_178 : decode cX8_digest 178 = .ok (.invokevirtual 175, 3) := by decide +kernel
theorem dX8_digest_181 : decode cX8_digest 181 = .ok (.ldc2_w 226, 3) := by decide +kernel
theorem dX8_digest_184 : decode cX8_digest 184 = .ok (.lload_n 1, 1) := by decide +kernel
theorem dX8_digest_185 : decode cX8_digest 185 = .ok (.lmul, 1) := by decide +kernel
theorem dX8_digest_186 : decode cX8_digest 186 = .ok (.aload_n 0, 1) := by decide +kernel
theorem dX8_digest_187 : decode cX8_digest 187 = .ok (.getfield 43, 3) := by decide +kernel
theorem dX8_digest_190 : decode cX8_digest 190 = .ok (.getfield 178, 3) := by decide +kernel
theorem dX8_digest_193 : decode cX8_digest 193 = .ok (.i2l, 1) := by decide +kernel
theorem dX8_digest_194 : decode cX8_digest 194 = .ok (.ladd, 1) := by decide +kernel
theorem dX8_digest_195 : decode cX8_digest 195 = .ok (.lstore_n 1, 1) := by decide +kernel
theorem dX8_digest_196 : decode cX8_digest 196 = .ok (.ldc2_w 226, 3) := by decide +kernel
theorem dX8_digest_199 : decode cX8_digest 199 = .ok (.lload_n 1, 1) := by decide +kernel
theorem dX8_digest_200 : decode cX8_digest 200 = .ok (.lmul, 1) := by decide +kernel
theorem dX8_digest_201 : decode cX8_digest 201 = .ok (.aload_n 0, 1) := by decide +kernel
theorem dX8_digest_202 : decode cX8_digest 202 = .ok (.getfield 43, 3) := by decide +kernel
theorem dX8_digest_205 : decode cX8_digest 205 = .ok (.getfield 181, 3) := by decide +kernel
theorem dX8_digest_208 : decode cX8_digest 208 = .ok (.i2l, 1) := by decide +kernel
theorem dX8_digest_209 : decode cX8_digest 209 = .ok (.ladd, 1) := by decide +kernel
theorem dX8_digest_210 : decode cX8_digest 210 = .ok (.lstore_n 1, 1) := by decide +kernel
theorem dX8_digest_211 : decode cX8_digest 211 = .ok (.iconst 0, 1) := by decide +kernel
theorem dX8_digest_212 : decode cX8_digest 212 = .ok (.istore_n 3, 1) := by decide +kernel
theorem dX8_digest_213 : decode cX8_digest 213 = .ok (.iload_n 3, 1) := by decide +kernel
theorem dX8_digest_214 : decode cX8_digest 214 = .ok (.aload_n 0, 1) := by decide +kernel
theorem dX8_digest_215 : decode cX8_digest 215 = .ok (.getfield 12, 3) := by decide +kernel
theorem dX8_digest_218 : decode cX8_digest 218 = .ok (.getfield 54, 3) := by decide +kernel
theorem dX8_digest_221 : decode cX8_digest 221 = .ok (.if_icmp .ge 26, 3) := by decide +kernel
theorem dX8_digest_224 : decode cX8_digest 224 = .ok (.ldc2_w 226, 3) := by decide +kernel
theorem dX8_digest_227 : decode cX8_digest 227 = .ok (.lload_n 1, 1) := by decide +kernel
theorem dX8_digest_228 : decode cX8_digest 228 = .ok (.lmul, 1) := by decide +kernel
theorem dX8_digest_229 : decode cX8_digest 229 = .ok (.aload_n 0, 1) := by decide +kernel
theorem dX8_digest_230 : decode cX8_digest 230 = .ok (.getfield 12, 3) := by decide +kernel
theorem dX8_digest_233 : decode cX8_digest 233 = .ok (.getfield 58, 3) := by decide +kernel
theorem dX8_digest_236 : decode cX8_digest 236 = .ok (.iload_n 3, 1) := by decide +kernel
theorem dX8_digest_237 : decode cX8_digest 237 = .ok (.iaload, 1) := by decide +kernel
theorem dX8_digest_238 : decode cX8_digest 238 = .ok (.i2l, 1) := by decide +kernel
theorem dX8_digest_239 : decode cX8_digest 239 = .ok (.ladd, 1) := by decide +kernel
theorem dX8_digest_240 : decode cX8_digest 240 = .ok (.lstore_n 1, 1) := by decide +kernel
theorem dX8_digest_241 : decode cX8_digest 241 = .ok (.iinc 3 1, 3) := by decide +kernel
theorem dX8_digest_244 : decode cX8_digest 244 = .ok (.goto (-31), 3) := by decide +kernel
theorem dX8_digest_247 : decode cX8_digest 247 = .ok (.iconst 0, 1) := by decide +kernel
theorem dX8_digest_248 : decode cX8_digest 248 = .ok (.istore_n 3, 1) := by decide +kernel
theorem dX8_digest_249 : decode cX8_digest 249 = .ok (.iload_n 3, 1) := by decide +kernel
theorem dX8_digest_250 : decode cX8_digest 250 = .ok (.bipush 11, 2) := by decide +kernel
theorem dX8_digest_252 : decode cX8_digest 252 = .ok (.if_icmp .ge 22, 3) := by decide +kernel
theorem dX8_digest_255 : decode cX8_digest 255 = .ok (.ldc2_w 226, 3) := by decide +kernel
theorem dX8_digest_258 : decode cX8_digest 258 = .ok (.lload_n 1, 1) := by decide +kernel
theorem dX8_digest_259 : decode cX8_digest 259 = .ok (.lmul, 1) := by decide +kernel
theorem dX8_digest_260 : decode cX8_digest 260 = .ok (.aload_n 0, 1) := by decide +kernel
theorem dX8_digest_261 : decode cX8_digest 261 = .ok (.iload_n 3, 1) := by decide +kernel
theorem dX8_digest_262 : decode cX8_digest 262 = .ok (.invokevirtual 217, 3) := by decide +kernel
theorem dX8_digest_265 : decode cX8_digest 265 = .ok (.i2l, 1) := by decide +kernel
theorem dX8_digest_266 : decode cX8_digest 266 = .ok (.ladd, 1) := by decide +kernel
theorem dX8_digest_267 : decode cX8_digest 267 = .ok (.lstore_n 1, 1) := by decide +kernel
theorem dX8_digest_268 : decode cX8_digest 268 = .ok (.iinc 3 1, 3) := by decide +kernel
theorem dX8_digest_271 : decode cX8_digest 271 = .ok (.goto (-22), 3) := by decide +kernel
theorem dX8_digest_274 : decode cX8_digest 274 = .ok (.lload_n 1, 1) := by decide +kernel
theorem dX8_digest_275 : decode cX8_digest 275 = .ok (.lreturn, 1) := by decide +kernel
theorem dX8_hasMobile_0 : decode cX8_hasMobile 0 = .ok (.aload_n 0, 1) := by decide +kernel
theorem dX8_hasMobile_1 : decode cX8_hasMobile 1 = .ok (.getfield 26, 3) := by decide +kernel
theorem dX8_hasMobile_4 : decode cX8_hasMobile 4 = .ok (.getfield 223, 3) := by decide +kernel
theorem dX8_hasMobile_7 : decode cX8_hasMobile 7 = .ok (.ifCond .le 7, 3) := by decide +kernel
theorem dX8_hasMobile_10 : decode cX8_hasMobile 10 = .ok (.iconst 1, 1) := by decide +kernel
theorem dX8_hasMobile_11 : decode cX8_hasMobile 11 = .ok (.goto 4, 3) := by decide +kernel
theorem dX8_hasMobile_14 : decode cX8_hasMobile 14 = .ok (.iconst 0, 1) := by decide +kernel
theorem dX8_hasMobile_15 : decode cX8_hasMobile 15 = .ok (.ireturn, 1) := by decide +kernel
theorem dX8_isRod_0 : decode cX8_isRod 0 = .ok (.iload_n 1, 1) := by decide +kernel
theorem dX8_isRod_1 : decode cX8_isRod 1 = .ok (.ifCond .lt 18, 3) := by decide +kernel
theorem dX8_isRod_4 : decode cX8_isRod 4 = .ok (.iload_n 1, 1) := by decide +kernel
theorem dX8_isRod_5 : decode cX8_isRod 5 = .ok (.aload_n 0, 1) := by decide +kernel
theorem dX8_isRod_6 : decode cX8_isRod 6 = .ok (.getfield 26, 3) := by decide +kernel
theorem dX8_isRod_9 : decode cX8_isRod 9 = .ok (.getfield 223, 3) := by decide +kernel
theorem dX8_isRod_12 : decode cX8_isRod 12 = .ok (.if_icmp .ge 7, 3) := by decide +kernel
theorem dX8_isRod_15 : decode cX8_isRod 15 = .ok (.iconst 1, 1) := by decide +kernel
theorem dX8_isRod_16 : decode cX8_isRod 16 = .ok (.goto 4, 3) := by decide +kernel
theorem dX8_isRod_19 : decode cX8_isRod 19 = .ok (.iconst 0, 1) := by decide +kernel
theorem dX8_isRod_20 : decode cX8_isRod 20 = .ok (.ireturn, 1) := by decide +kernel
theorem dX8_isThing_0 : decode cX8_isThing 0 = .ok (.iload_n 1, 1) := by decide +kernel
theorem dX8_isThing_1 : decode cX8_isThing 1 = .ok (.ifCond .lt 18, 3) := by decide +kernel
theorem dX8_isThing_4 : decode cX8_isThing 4 = .ok (.iload_n 1, 1) := by decide +kernel
theorem dX8_isThing_5 : decode cX8_isThing 5 = .ok (.aload_n 0, 1) := by decide +kernel
theorem dX8_isThing_6 : decode cX8_isThing 6 = .ok (.getfield 26, 3) := by decide +kernel
theorem dX8_isThing_9 : decode cX8_isThing 9 = .ok (.getfield 81, 3) := by decide +kernel
theorem dX8_isThing_12 : decode cX8_isThing 12 = .ok (.if_icmp .ge 7, 3) := by decide +kernel
theorem dX8_isThing_15 : decode cX8_isThing 15 = .ok (.iconst 1, 1) := by decide +kernel
theorem dX8_isThing_16 : decode cX8_isThing 16 = .ok (.goto 4, 3) := by decide +kernel
theorem dX8_isThing_19 : decode cX8_isThing 19 = .ok (.iconst 0, 1) := by decide +kernel
theorem dX8_isThing_20 : decode cX8_isThing 20 = .ok (.ireturn, 1) := by decide +kernel
theorem dX8_isSize_0 : decode cX8_isSize 0 = .ok (.iload_n 0, 1) := by decide +kernel
theorem dX8_isSize_1 : decode cX8_isSize 1 = .ok (.ifCond .lt 13, 3) := by decide +kernel
theorem dX8_isSize_4 : decode cX8_isSize 4 = .ok (.iload_n 0, 1) := by decide +kernel
theorem dX8_isSize_5 : decode cX8_isSize 5 = .ok (.bipush 10, 2) := by decide +kernel
theorem dX8_isSize_7 : decode cX8_isSize 7 = .ok (.if_icmp .ge 7, 3) := by decide +kernel
theorem dX8_isSize_10 : decode cX8_isSize 10 = .ok (.iconst 1, 1) := by decide +kernel
theorem dX8_isSize_11 : decode cX8_isSize 11 = .ok (.goto 4, 3) := by decide +kernel
theorem dX8_isSize_14 : decode cX8_isSize 14 = .ok (.iconst 0, 1) := by decide +kernel
theorem dX8_isSize_15 : decode cX8_isSize 15 = .ok (.ireturn, 1) := by decide +kernel
theorem dX8_levelNow_0 : decode cX8_levelNow 0 = .ok (.aload_n 0, 1) := by decide +kernel
theorem dX8_levelNow_1 : decode cX8_levelNow 1 = .ok (.getfield 36, 3) := by decide +kernel
theorem dX8_levelNow_4 : decode cX8_levelNow 4 = .ok (.aload_n 0, 1) := by decide +kernel
theorem dX8_levelNow_5 : decode cX8_levelNow 5 = .ok (.getfield 26, 3) := by decide +kernel
theorem dX8_levelNow_8 : decode cX8_levelNow 8 = .ok (.invokevirtual 88, 3) := by decide +kernel
theorem dX8_levelNow_11 : decode cX8_levelNow 11 = .ok (.aload_n 0, 1) := by decide +kernel
theorem dX8_levelNow_12 : decode cX8_levelNow 12 = .ok (.getfield 36, 3) := by decide +kernel
theorem dX8_levelNow_15 : decode cX8_levelNow 15 = .ok (.aload_n 0, 1) := by decide +kernel
theorem dX8_levelNow_16 : decode cX8_levelNow 16 = .ok (.getfield 26, 3) := by decide +kernel
theorem dX8_levelNow_19 : decode cX8_levelNow 19 = .ok (.invokevirtual 234, 3) := by decide +kernel
theorem dX8_levelNow_22 : decode cX8_levelNow 22 = .ok (.ireturn, 1) := by decide +kernel
theorem dX8_aboutRod_0 : decode cX8_aboutRod 0 = .ok (.iload_n 2, 1) := by decide +kernel
theorem dX8_aboutRod_1 : decode cX8_aboutRod 1 = .ok (.tableswitch 202 0 9 #[55, 67, 81, 92, 105, 121, 139, 153, 171, 189], 55) := by decide +kernel
theorem dX8_aboutRod_56 : decode cX8_aboutRod 56 = .ok (.aload_n 0, 1) := by decide +kernel
theorem dX8_aboutRod_57 : decode cX8_aboutRod 57 = .ok (.getfield 26, 3) := by decide +kernel
theorem dX8_aboutRod_60 : decode cX8_aboutRod 60 = .ok (.getfield 135, 3) := by decide +kernel
theorem dX8_aboutRod_63 : decode cX8_aboutRod 63 = .ok (.iconst 2, 1) := by decide +kernel
theorem dX8_aboutRod_64 : decode cX8_aboutRod 64 = .ok (.iload_n 1, 1) := by decide +kernel
theorem dX8_aboutRod_65 : decode cX8_aboutRod 65 = .ok (.imul, 1) := by decide +kernel
theorem dX8_aboutRod_66 : decode cX8_aboutRod 66 = .ok (.iaload, 1) := by decide +kernel
theorem dX8_aboutRod_67 : decode cX8_aboutRod 67 = .ok (.ireturn, 1) := by decide +kernel
theorem dX8_aboutRod_68 : decode cX8_aboutRod 68 = .ok (.aload_n 0, 1) := by decide +kernel
theorem dX8_aboutRod_69 : decode cX8_aboutRod 69 = .ok (.getfield 26, 3) := by decide +kernel
theorem dX8_aboutRod_72 : decode cX8_aboutRod 72 = .ok (.getfield 135, 3) := by decide +kernel
theorem dX8_aboutRod_75 : decode cX8_aboutRod 75 = .ok (.iconst 2, 1) := by decide +kernel
theorem dX8_aboutRod_76 : decode cX8_aboutRod 76 = .ok (.iload_n 1, 1) := by decide +kernel
theorem dX8_aboutRod_77 : decode cX8_aboutRod 77 = .ok (.imul, 1) := by decide +kernel
theorem dX8_aboutRod_78 : decode cX8_aboutRod 78 = .ok (.iconst 1, 1) := by decide +kernel
theorem dX8_aboutRod_79 : decode cX8_aboutRod 79 = .ok (.iadd, 1) := by decide +kernel
theorem dX8_aboutRod_80 : decode cX8_aboutRod 80 = .ok (.iaload, 1) := by decide +kernel
theorem dX8_aboutRod_81 : decode cX8_aboutRod 81 = .ok (.ireturn, 1) := by decide +kernel
theorem dX8_aboutRod_82 : decode cX8_aboutRod 82 = .ok (.aload_n 0, 1) := by decide +kernel
theorem dX8_aboutRod_83 : decode cX8_aboutRod 83 = .ok (.getfield 26, 3) := by decide +kernel
theorem dX8_aboutRod_86 : decode cX8_aboutRod 86 = .ok (.iconst 2, 1) := by decide +kernel
theorem dX8_aboutRod_87 : decode cX8_aboutRod 87 = .ok (.iload_n 1, 1) := by decide +kernel
theorem dX8_aboutRod_88 : decode cX8_aboutRod 88 = .ok (.imul, 1) := by decide +kernel
theorem dX8_aboutRod_89 : decode cX8_aboutRod 89 = .ok (.invokevirtual 237, 3) := by decide +kernel
theorem dX8_aboutRod_92 : decode cX8_aboutRod 92 = .ok (.ireturn, 1) := by decide +kernel
theorem dX8_aboutRod_93 : decode cX8_aboutRod 93 = .ok (.aload_n 0, 1) := by decide +kernel
theorem dX8_aboutRod_94 : decode cX8_aboutRod 94 = .ok (.getfield 26, 3) := by decide +kernel
theorem dX8_aboutRod_97 : decode cX8_aboutRod 97 = .ok (.iconst 2, 1) := by decide +kernel
theorem dX8_aboutRod_98 : decode cX8_aboutRod 98 = .ok (.iload_n 1, 1) := by decide +kernel
theorem dX8_aboutRod_99 : decode cX8_aboutRod 99 = .ok (.imul, 1) := by decide +kernel
theorem dX8_aboutRod_100 : decode cX8_aboutRod 100 = .ok (.iconst 1, 1) := by decide +kernel
theorem dX8_aboutRod_101 : decode cX8_aboutRod 101 = .ok (.iadd, 1) := by decide +kernel
theorem dX8_aboutRod_102 : decode cX8_aboutRod 102 = .ok (.invokevirtual 237, 3) := by decide +kernel
theorem dX8_aboutRod_105 : decode cX8_aboutRod 105 = .ok (.ireturn, 1) := by decide +kernel
theorem dX8_aboutRod_106 : decode cX8_aboutRod 106 = .ok (.aload_n 0, 1) := by decide +kernel
theorem dX8_aboutRod_107 : decode cX8_aboutRod 107 = .ok (.getfield 36, 3) := by decide +kernel
theorem dX8_aboutRod_110 : decode cX8_aboutRod 110 = .ok (.getfield 240, 3) := by decide +kernel
theorem dX8_aboutRod_113 : decode cX8_aboutRod 113 = .ok (.iconst 2, 1) := by decide +kernel
theorem dX8_aboutRod_114 : decode cX8_aboutRod 114 = .ok (.iload_n 1, 1) := by decide +kernel
theorem dX8_aboutRod_115 : decode cX8_aboutRod 115 = .ok (.imul, 1) := by decide +kernel
theorem dX8_aboutRod_116 : decode cX8_aboutRod 116 = .ok (.iaload, 1) := by decide +kernel
theorem dX8_aboutRod_117 : decode cX8_aboutRod 117 = .ok (.sipush 10000, 3) := by decide +kernel
theorem dX8_aboutRod_120 : decode cX8_aboutRod 120 = .ok (.iadd, 1) := by decide +kernel
theorem dX8_aboutRod_121 : decode cX8_aboutRod 121 = .ok (.ireturn, 1) := by decide +kernel
theorem dX8_aboutRod_122 : decode cX8_aboutRod 122 = .ok (.aload_n 0, 1) := by decide +kernel
theorem dX8_aboutRod_123 : decode cX8_aboutRod 123 = .ok (.getfield 36, 3) := by decide +kernel
theorem dX8_aboutRod_126 : decode cX8_aboutRod 126 = .ok (.getfield 240, 3) := by decide +kernel
theorem dX8_aboutRod_129 : decode cX8_aboutRod 129 = .ok (.iconst 2, 1) := by decide +kernel
theorem dX8_aboutRod_130 : decode cX8_aboutRod 130 = .ok (.iload_n 1, 1) := by decide +kernel
theorem dX8_aboutRod_131 : decode cX8_aboutRod 131 = .ok (.imul, 1) := by decide +kernel
theorem dX8_aboutRod_132 : decode cX8_aboutRod 132 = .ok (.iconst 1, 1) := by decide +kernel
theorem dX8_aboutRod_133 : decode cX8_aboutRod 133 = .ok (.iadd, 1) := by decide +kernel
theorem dX8_aboutRod_134 : decode cX8_aboutRod 134 = .ok (.iaload, 1) := by decide +kernel
theorem dX8_aboutRod_135 : decode cX8_aboutRod 135 = .ok (.sipush 10000, 3) := by decide +kernel
theorem dX8_aboutRod_138 : decode cX8_aboutRod 138 = .ok (.iadd, 1) := by decide +kernel
theorem dX8_aboutRod_139 : decode cX8_aboutRod 139 = .ok (.ireturn, 1) := by decide +kernel
theorem dX8_aboutRod_140 : decode cX8_aboutRod 140 = .ok (.aload_n 0, 1) := by decide +kernel
theorem dX8_aboutRod_141 : decode cX8_aboutRod 141 = .ok (.getfield 36, 3) := by decide +kernel
theorem dX8_aboutRod_144 : decode cX8_aboutRod 144 = .ok (.getfield 243, 3) := by decide +kernel
theorem dX8_aboutRod_147 : decode cX8_aboutRod 147 = .ok (.iload_n 1, 1) := by decide +kernel
theorem dX8_aboutRod_148 : decode cX8_aboutRod 148 = .ok (.iaload, 1) := by decide +kernel
theorem dX8_aboutRod_149 : decode cX8_aboutRod 149 = .ok (.sipush 10000, 3) := by decide +kernel
theorem dX8_aboutRod_152 : decode cX8_aboutRod 152 = .ok (.iadd, 1) := by decide +kernel
theorem dX8_aboutRod_153 : decode cX8_aboutRod 153 = .ok (.ireturn, 1) := by decide +kernel
theorem dX8_aboutRod_154 : decode cX8_aboutRod 154 = .ok (.aload_n 0, 1) := by decide +kernel
theorem dX8_aboutRod_155 : decode cX8_aboutRod 155 = .ok (.getfield 36, 3) := by decide +kernel
theorem dX8_aboutRod_158 : decode cX8_aboutRod 158 = .ok (.getfield 243, 3) := by decide +kernel
theorem dX8_aboutRod_161 : decode cX8_aboutRod 161 = .ok (.iload_n 1, 1) := by decide +kernel
theorem dX8_aboutRod_162 : decode cX8_aboutRod 162 = .ok (.iaload, 1) := by decide +kernel
theorem dX8_aboutRod_163 : decode cX8_aboutRod 163 = .ok (.ifCond .ne 7, 3) := by decide +kernel
theorem dX8_aboutRod_166 : decode cX8_aboutRod 166 = .ok (.iconst 1, 1) := by decide +kernel
theorem dX8_aboutRod_167 : decode cX8_aboutRod 167 = .ok (.goto 4, 3) := by decide +kernel
theorem dX8_aboutRod_170 : decode cX8_aboutRod 170 = .ok (.iconst 0, 1) := by decide +kernel
theorem dX8_aboutRod_171 : decode cX8_aboutRod 171 = .ok (.ireturn, 1) := by decide +kernel
theorem dX8_aboutRod_172 : decode cX8_aboutRod 172 = .ok (.aload_n 0, 1) := by decide +kernel
theorem dX8_aboutRod_173 : decode cX8_aboutRod 173 = .ok (.getfield 36, 3) := by decide +kernel
theorem dX8_aboutRod_176 : decode cX8_aboutRod 176 = .ok (.getfield 246, 3) := by decide +kernel
theorem dX8_aboutRod_179 : decode cX8_aboutRod 179 = .ok (.iload_n 1, 1) := by decide +kernel
theorem dX8_aboutRod_180 : decode cX8_aboutRod 180 = .ok (.baload, 1) := by decide +kernel
theorem dX8_aboutRod_181 : decode cX8_aboutRod 181 = .ok (.ifCond .eq 7, 3) := by decide +kernel
theorem dX8_aboutRod_184 : decode cX8_aboutRod 184 = .ok (.iconst 1, 1) := by decide +kernel
theorem dX8_aboutRod_185 : decode cX8_aboutRod 185 = .ok (.goto 4, 3) := by decide +kernel
theorem dX8_aboutRod_188 : decode cX8_aboutRod 188 = .ok (.iconst 0, 1) := by decide +kernel
theorem dX8_aboutRod_189 : decode cX8_aboutRod 189 = .ok (.ireturn, 1) := by decide +kernel
theorem dX8_aboutRod_190 : decode cX8_aboutRod 190 = .ok (.aload_n 0, 1) := by decide +kernel
theorem dX8_aboutRod_191 : decode cX8_aboutRod 191 = .ok (.getfield 36, 3) := by decide +kernel
theorem dX8_aboutRod_194 : decode cX8_aboutRod 194 = .ok (.aload_n 0, 1) := by decide +kernel
theorem dX8_aboutRod_195 : decode cX8_aboutRod 195 = .ok (.getfield 26, 3) := by decide +kernel
theorem dX8_aboutRod_198 : decode cX8_aboutRod 198 = .ok (.iload_n 1, 1) := by decide +kernel
theorem dX8_aboutRod_199 : decode cX8_aboutRod 199 = .ok (.invokevirtual 249, 3) := by decide +kernel
theorem dX8_aboutRod_202 : decode cX8_aboutRod 202 = .ok (.ireturn, 1) := by decide +kernel
theorem dX8_aboutRod_203 : decode cX8_aboutRod 203 = .ok (.aload_n 0, 1) := by decide +kernel
theorem dX8_aboutRod_204 : decode cX8_aboutRod 204 = .ok (.getfield 36, 3) := by decide +kernel
theorem dX8_aboutRod_207 : decode cX8_aboutRod 207 = .ok (.aload_n 0, 1) := by decide +kernel
theorem dX8_aboutRod_208 : decode cX8_aboutRod 208 = .ok (.getfield 26, 3) := by decide +kernel
theorem dX8_aboutRod_211 : decode cX8_aboutRod 211 = .ok (.iload_n 1, 1) := by decide +kernel
theorem dX8_aboutRod_212 : decode cX8_aboutRod 212 = .ok (.invokevirtual 253, 3) := by decide +kernel
theorem dX8_aboutRod_215 : decode cX8_aboutRod 215 = .ok (.ireturn, 1) := by decide +kernel
theorem dX8_aboutThing_0 : decode cX8_aboutThing 0 = .ok (.iload_n 2, 1) := by decide +kernel
theorem dX8_aboutThing_1 : decode cX8_aboutThing 1 = .ok (.tableswitch 132 0 5 #[39, 49, 59, 92, 110, 121], 39) := by decide +kernel
theorem dX8_aboutThing_40 : decode cX8_aboutThing 40 = .ok (.aload_n 0, 1) := by decide +kernel
theorem dX8_aboutThing_41 : decode cX8_aboutThing 41 = .ok (.getfield 26, 3) := by decide +kernel
theorem dX8_aboutThing_44 : decode cX8_aboutThing 44 = .ok (.getfield 107, 3) := by decide +kernel
theorem dX8_aboutThing_47 : decode cX8_aboutThing 47 = .ok (.iload_n 1, 1) := by decide +kernel
theorem dX8_aboutThing_48 : decode cX8_aboutThing 48 = .ok (.iaload, 1) := by decide +kernel
theorem dX8_aboutThing_49 : decode cX8_aboutThing 49 = .ok (.ireturn, 1) := by decide +kernel
theorem dX8_aboutThing_50 : decode cX8_aboutThing 50 = .ok (.aload_n 0, 1) := by decide +kernel
theorem dX8_aboutThing_51 : decode cX8_aboutThing 51 = .ok (.getfield 26, 3) := by decide +kernel
theorem dX8_aboutThing_54 : decode cX8_aboutThing 54 = .ok (.getfield 151, 3) := by decide +kernel
theorem dX8_aboutThing_57 : decode cX8_aboutThing 57 = .ok (.iload_n 1, 1) := by decide +kernel
theorem dX8_aboutThing_58 : decode cX8_aboutThing 58 = .ok (.iaload, 1) := by decide +kernel
theorem dX8_aboutThing_59 : decode cX8_aboutThing 59 = .ok (.ireturn, 1) := by decide +kernel
theorem dX8_aboutThing_60 : decode cX8_aboutThing 60 = .ok (.aload_n 0, 1) := by decide +kernel
theorem dX8_aboutThing_61 : decode cX8_aboutThing 61 = .ok (.getfield 26, 3) := by decide +kernel
theorem dX8_aboutThing_64 : decode cX8_aboutThing 64 = .ok (.getfield 107, 3) := by decide +kernel
theorem dX8_aboutThing_67 : decode cX8_aboutThing 67 = .ok (.iload_n 1, 1) := by decide +kernel
theorem dX8_aboutThing_68 : decode cX8_aboutThing 68 = .ok (.iaload, 1) := by decide +kernel
theorem dX8_aboutThing_69 : decode cX8_aboutThing 69 = .ok (.aload_n 0, 1) := by decide +kernel
theorem dX8_aboutThing_70 : decode cX8_aboutThing 70 = .ok (.getfield 26, 3) := by decide +kernel
theorem dX8_aboutThing_73 : decode cX8_aboutThing 73 = .ok (.getfield 151, 3) := by decide +kernel
theorem dX8_aboutThing_76 : decode cX8_aboutThing 76 = .ok (.iload_n 1, 1) := by decide +kernel
theorem dX8_aboutThing_77 : decode cX8_aboutThing 77 = .ok (.iaload, 1) := by decide +kernel
theorem dX8_aboutThing_78 : decode cX8_aboutThing 78 = .ok (.aload_n 0, 1) := by decide +kernel
theorem dX8_aboutThing_79 : decode cX8_aboutThing 79 = .ok (.getfield 26, 3) := by decide +kernel
theorem dX8_aboutThing_82 : decode cX8_aboutThing 82 = .ok (.getfield 117, 3) := by decide +kernel
theorem dX8_aboutThing_85 : decode cX8_aboutThing 85 = .ok (.invokestatic 256, 3) := by decide +kernel
theorem dX8_aboutThing_88 : decode cX8_aboutThing 88 = .ok (.sipush 10000, 3) := by decide +kernel
theorem dX8_aboutThing_91 : decode cX8_aboutThing 91 = .ok (.iadd, 1) := by decide +kernel
theorem dX8_aboutThing_92 : decode cX8_aboutThing 92 = .ok (.ireturn, 1) := by decide +kernel
theorem dX8_aboutThing_93 : decode cX8_aboutThing 93 = .ok (.aload_n 0, 1) := by decide +kernel
theorem dX8_aboutThing_94 : decode cX8_aboutThing 94 = .ok (.getfield 26, 3) := by decide +kernel
theorem dX8_aboutThing_97 : decode cX8_aboutThing 97 = .ok (.getfield 120, 3) := by decide +kernel
theorem dX8_aboutThing_100 : decode cX8_aboutThing 100 = .ok (.iload_n 1, 1) := by decide +kernel
theorem dX8_aboutThing_101 : decode cX8_aboutThing 101 = .ok (.baload, 1) := by decide +kernel
theorem dX8_aboutThing_102 : decode cX8_aboutThing 102 = .ok (.ifCond .eq 7, 3) := by decide +kernel
theorem dX8_aboutThing_105 : decode cX8_aboutThing 105 = .ok (.iconst 1, 1) := by decide +kernel
theorem dX8_aboutThing_106 : decode cX8_aboutThing 106 = .ok (.goto 4, 3) := by decide +kernel
theorem dX8_aboutThing_109 : decode cX8_aboutThing 109 = .ok (.iconst 0, 1) := by decide +kernel
theorem dX8_aboutThing_110 : decode cX8_aboutThing 110 = .ok (.ireturn, 1) := by decide +kernel
theorem dX8_aboutThing_111 : decode cX8_aboutThing 111 = .ok (.aload_n 0, 1) := by decide +kernel
theorem dX8_aboutThing_112 : decode cX8_aboutThing 112 = .ok (.getfield 26, 3) := by decide +kernel
theorem dX8_aboutThing_115 : decode cX8_aboutThing 115 = .ok (.iload_n 1, 1) := by decide +kernel
theorem dX8_aboutThing_116 : decode cX8_aboutThing 116 = .ok (.invokevirtual 260, 3) := by decide +kernel
theorem dX8_aboutThing_119 : decode cX8_aboutThing 119 = .ok (.iconst 2, 1) := by decide +kernel
theorem dX8_aboutThing_120 : decode cX8_aboutThing 120 = .ok (.idiv, 1) := by decide +kernel
theorem dX8_aboutThing_121 : decode cX8_aboutThing 121 = .ok (.ireturn, 1) := by decide +kernel
theorem dX8_aboutThing_122 : decode cX8_aboutThing 122 = .ok (.aload_n 0, 1) := by decide +kernel
theorem dX8_aboutThing_123 : decode cX8_aboutThing 123 = .ok (.getfield 26, 3) := by decide +kernel
theorem dX8_aboutThing_126 : decode cX8_aboutThing 126 = .ok (.iload_n 1, 1) := by decide +kernel
theorem dX8_aboutThing_127 : decode cX8_aboutThing 127 = .ok (.invokevirtual 260, 3) := by decide +kernel
theorem dX8_aboutThing_130 : decode cX8_aboutThing 130 = .ok (.iconst 2, 1) := by decide +kernel
theorem dX8_aboutThing_131 : decode cX8_aboutThing 131 = .ok (.irem, 1) := by decide +kernel
theorem dX8_aboutThing_132 : decode cX8_aboutThing 132 = .ok (.ireturn, 1) := by decide +kernel
theorem dX8_aboutThing_133 : decode cX8_aboutThing 133 = .ok (.aload_n 0, 1) := by decide +kernel
theorem dX8_aboutThing_134 : decode cX8_aboutThing 134 = .ok (.getfield 26, 3) := by decide +kernel
theorem dX8_aboutThing_137 : decode cX8_aboutThing 137 = .ok (.getfield 186, 3) := by decide +kernel
theorem dX8_aboutThing_140 : decode cX8_aboutThing 140 = .ok (.aload_n 0, 1) := by decide +kernel
theorem dX8_aboutThing_141 : decode cX8_aboutThing 141 = .ok (.getfield 26, 3) := by decide +kernel
theorem dX8_aboutThing_144 : decode cX8_aboutThing 144 = .ok (.iload_n 1, 1) := by decide +kernel
theorem dX8_aboutThing_145 : decode cX8_aboutThing 145 = .ok (.invokevirtual 263, 3) := by decide +kernel
theorem dX8_aboutThing_148 : decode cX8_aboutThing 148 = .ok (.ireturn, 1) := by decide +kernel
theorem dX8_countOf_0 : decode cX8_countOf 0 = .ok (.iload_n 1, 1) := by decide +kernel
theorem dX8_countOf_1 : decode cX8_countOf 1 = .ok (.tableswitch 176 0 9 #[55, 63, 71, 83, 95, 107, 115, 152, 163, 171], 55) := by decide +kernel
theorem dX8_countOf_56 : decode cX8_countOf 56 = .ok (.aload_n 0, 1) := by decide +kernel
theorem dX8_countOf_57 : decode cX8_countOf 57 = .ok (.getfield 26, 3) := by decide +kernel
theorem dX8_countOf_60 : decode cX8_countOf 60 = .ok (.getfield 223, 3) := by decide +kernel
theorem dX8_countOf_63 : decode cX8_countOf 63 = .ok (.ireturn, 1) := by decide +kernel
theorem dX8_countOf_64 : decode cX8_countOf 64 = .ok (.aload_n 0, 1) := by decide +kernel
theorem dX8_countOf_65 : decode cX8_countOf 65 = .ok (.getfield 26, 3) := by decide +kernel
theorem dX8_countOf_68 : decode cX8_countOf 68 = .ok (.getfield 81, 3) := by decide +kernel
theorem dX8_countOf_71 : decode cX8_countOf 71 = .ok (.ireturn, 1) := by decide +kernel
theorem dX8_countOf_72 : decode cX8_countOf 72 = .ok (.aload_n 0, 1) := by decide +kernel
theorem dX8_countOf_73 : decode cX8_countOf 73 = .ok (.getfield 36, 3) := by decide +kernel
theorem dX8_countOf_76 : decode cX8_countOf 76 = .ok (.aload_n 0, 1) := by decide +kernel
theorem dX8_countOf_77 : decode cX8_countOf 77 = .ok (.getfield 26, 3) := by decide +kernel
theorem dX8_countOf_80 : decode cX8_countOf 80 = .ok (.invokevirtual 141, 3) := by decide +kernel
theorem dX8_countOf_83 : decode cX8_countOf 83 = .ok (.ireturn, 1) := by decide +kernel
theorem dX8_countOf_84 : decode cX8_countOf 84 = .ok (.aload_n 0, 1) := by decide +kernel
theorem dX8_countOf_85 : decode cX8_countOf 85 = .ok (.getfield 36, 3) := by decide +kernel
theorem dX8_countOf_88 : decode cX8_countOf 88 = .ok (.aload_n 0, 1) := by decide +kernel
theorem dX8_countOf_89 : decode cX8_countOf 89 = .ok (.getfield 26, 3) := by decide +kernel
theorem dX8_countOf_92 : decode cX8_countOf 92 = .ok (.invokevirtual 234, 3) := by decide +kernel
theorem dX8_countOf_95 : decode cX8_countOf 95 = .ok (.ireturn, 1) := by decide +kernel
theorem dX8_countOf_96 : decode cX8_countOf 96 = .ok (.aload_n 0, 1) := by decide +kernel
theorem dX8_countOf_97 : decode cX8_countOf 97 = .ok (.getfield 36, 3) := by decide +kernel
theorem dX8_countOf_100 : decode cX8_countOf 100 = .ok (.aload_n 0, 1) := by decide +kernel
theorem dX8_countOf_101 : decode cX8_countOf 101 = .ok (.getfield 26, 3) := by decide +kernel
theorem dX8_countOf_104 : decode cX8_countOf 104 = .ok (.invokevirtual 266, 3) := by decide +kernel
theorem dX8_countOf_107 : decode cX8_countOf 107 = .ok (.ireturn, 1) := by decide +kernel
theorem dX8_countOf_108 : decode cX8_countOf 108 = .ok (.aload_n 0, 1) := by decide +kernel
theorem dX8_countOf_109 : decode cX8_countOf 109 = .ok (.getfield 26, 3) := by decide +kernel
theorem dX8_countOf_112 : decode cX8_countOf 112 = .ok (.getfield 117, 3) := by decide +kernel
theorem dX8_countOf_115 : decode cX8_countOf 115 = .ok (.ireturn, 1) := by decide +kernel
theorem dX8_countOf_116 : decode cX8_countOf 116 = .ok (.aload_n 0, 1) := by decide +kernel
theorem dX8_countOf_117 : decode cX8_countOf 117 = .ok (.invokevirtual 114, 3) := by decide +kernel
theorem dX8_countOf_120 : decode cX8_countOf 120 = .ok (.ifCond .eq 29, 3) := by decide +kernel
theorem dX8_countOf_123 : decode cX8_countOf 123 = .ok (.aload_n 0, 1) := by decide +kernel
theorem dX8_countOf_124 : decode cX8_countOf 124 = .ok (.getfield 36, 3) := by decide +kernel
theorem dX8_countOf_127 : decode cX8_countOf 127 = .ok (.getfield 240, 3) := by decide +kernel
theorem dX8_countOf_130 : decode cX8_countOf 130 = .ok (.iconst 0, 1) := by decide +kernel
theorem dX8_countOf_131 : decode cX8_countOf 131 = .ok (.iaload, 1) := by decide +kernel
theorem dX8_countOf_132 : decode cX8_countOf 132 = .ok (.aload_n 0, 1) := by decide +kernel
theorem dX8_countOf_133 : decode cX8_countOf 133 = .ok (.getfield 36, 3) := by decide +kernel
theorem dX8_countOf_136 : decode cX8_countOf 136 = .ok (.getfield 240, 3) := by decide +kernel
theorem dX8_countOf_139 : decode cX8_countOf 139 = .ok (.iconst 1, 1) := by decide +kernel
theorem dX8_countOf_140 : decode cX8_countOf 140 = .ok (.iaload, 1) := by decide +kernel
theorem dX8_countOf_141 : decode cX8_countOf 141 = .ok (.iadd, 1) := by decide +kernel
theorem dX8_countOf_142 : decode cX8_countOf 142 = .ok (.sipush 10000, 3) := by decide +kernel
theorem dX8_countOf_145 : decode cX8_countOf 145 = .ok (.iadd, 1) := by decide +kernel
theorem dX8_countOf_146 : decode cX8_countOf 146 = .ok (.goto 6, 3) := by decide +kernel
theorem dX8_countOf_149 : decode cX8_countOf 149 = .ok (.sipush 10000, 3) := by decide +kernel
theorem dX8_countOf_152 : decode cX8_countOf 152 = .ok (.ireturn, 1) := by decide +kernel
theorem dX8_countOf_153 : decode cX8_countOf 153 = .ok (.aload_n 0, 1) := by decide +kernel
theorem dX8_countOf_154 : decode cX8_countOf 154 = .ok (.getfield 26, 3) := by decide +kernel
theorem dX8_countOf_157 : decode cX8_countOf 157 = .ok (.getfield 186, 3) := by decide +kernel
theorem dX8_countOf_160 : decode cX8_countOf 160 = .ok (.getfield 190, 3) := by decide +kernel
theorem dX8_countOf_163 : decode cX8_countOf 163 = .ok (.ireturn, 1) := by decide +kernel
theorem dX8_countOf_164 : decode cX8_countOf 164 = .ok (.aload_n 0, 1) := by decide +kernel
theorem dX8_countOf_165 : decode cX8_countOf 165 = .ok (.getfield 12, 3) := by decide +kernel
theorem dX8_countOf_168 : decode cX8_countOf 168 = .ok (.getfield 54, 3) := by decide +kernel
theorem dX8_countOf_171 : decode cX8_countOf 171 = .ok (.ireturn, 1) := by decide +kernel
theorem dX8_countOf_172 : decode cX8_countOf 172 = .ok (.aload_n 0, 1) := by decide +kernel
theorem dX8_countOf_173 : decode cX8_countOf 173 = .ok (.getfield 78, 3) := by decide +kernel
theorem dX8_countOf_176 : decode cX8_countOf 176 = .ok (.ireturn, 1) := by decide +kernel
theorem dX8_countOf_177 : decode cX8_countOf 177 = .ok (.aload_n 0, 1) := by decide +kernel
theorem dX8_countOf_178 : decode cX8_countOf 178 = .ok (.getfield 157, 3) := by decide +kernel
theorem dX8_countOf_181 : decode cX8_countOf 181 = .ok (.ireturn, 1) := by decide +kernel
theorem dX8_swapThings_0 : decode cX8_swapThings 0 = .ok (.iconst 0, 1) := by decide +kernel
theorem dX8_swapThings_1 : decode cX8_swapThings 1 = .ok (.istore_n 3, 1) := by decide +kernel
theorem dX8_swapThings_2 : decode cX8_swapThings 2 = .ok (.iload_n 3, 1) := by decide +kernel
theorem dX8_swapThings_3 : decode cX8_swapThings 3 = .ok (.aload_n 0, 1) := by decide +kernel
theorem dX8_swapThings_4 : decode cX8_swapThings 4 = .ok (.arraylength, 1) := by decide +kernel
theorem dX8_swapThings_5 : decode cX8_swapThings 5 = .ok (.if_icmp .ge 34, 3) := by decide +kernel
theorem dX8_swapThings_8 : decode cX8_swapThings 8 = .ok (.aload_n 0, 1) := by decide +kernel
theorem dX8_swapThings_9 : decode cX8_swapThings 9 = .ok (.iload_n 3, 1) := by decide +kernel
theorem dX8_swapThings_10 : decode cX8_swapThings 10 = .ok (.iaload, 1) := by decide +kernel
theorem dX8_swapThings_11 : decode cX8_swapThings 11 = .ok (.iload_n 1, 1) := by decide +kernel
theorem dX8_swapThings_12 : decode cX8_swapThings 12 = .ok (.if_icmp .ne 10, 3) := by decide +kernel
theorem dX8_swapThings_15 : decode cX8_swapThings 15 = .ok (.aload_n 0, 1) := by decide +kernel
theorem dX8_swapThings_16 : decode cX8_swapThings 16 = .ok (.iload_n 3, 1) := by decide +kernel
theorem dX8_swapThings_17 : decode cX8_swapThings 17 = .ok (.iload_n 2, 1) := by decide +kernel
theorem dX8_swapThings_18 : decode cX8_swapThings 18 = .ok (.iastore, 1) := by decide +kernel
theorem dX8_swapThings_19 : decode cX8_swapThings 19 = .ok (.goto 14, 3) := by decide +kernel
theorem dX8_swapThings_22 : decode cX8_swapThings 22 = .ok (.aload_n 0, 1) := by decide +kernel
theorem dX8_swapThings_23 : decode cX8_swapThings 23 = .ok (.iload_n 3, 1) := by decide +kernel
theorem dX8_swapThings_24 : decode cX8_swapThings 24 = .ok (.iaload, 1) := by decide +kernel
theorem dX8_swapThings_25 : decode cX8_swapThings 25 = .ok (.iload_n 2, 1) := by decide +kernel
theorem dX8_swapThings_26 : decode cX8_swapThings 26 = .ok (.if_icmp .ne 7, 3) := by decide +kernel
theorem dX8_swapThings_29 : decode cX8_swapThings 29 = .ok (.aload_n 0, 1) := by decide +kernel
theorem dX8_swapThings_30 : decode cX8_swapThings 30 = .ok (.iload_n 3, 1) := by decide +kernel
theorem dX8_swapThings_31 : decode cX8_swapThings 31 = .ok (.iload_n 1, 1) := by decide +kernel
theorem dX8_swapThings_32 : decode cX8_swapThings 32 = .ok (.iastore, 1) := by decide +kernel
theorem dX8_swapThings_33 : decode cX8_swapThings 33 = .ok (.iinc 3 1, 3) := by decide +kernel
theorem dX8_swapThings_36 : decode cX8_swapThings 36 = .ok (.goto (-34), 3) := by decide +kernel
theorem dX8_swapThings_39 : decode cX8_swapThings 39 = .ok (.return_, 1) := by decide +kernel
end
section
theorem dX9_init_0 : decode cX9_init 0 = .ok (.aload_n 0, 1) := by decide +kernel
theorem dX9_init_1 : decode cX9_init 1 = .ok (.invokespecial 1, 3) := by decide +kernel
theorem dX9_init_4 : decode cX9_init 4 = .ok (.aload_n 0, 1) := by decide +kernel
theorem dX9_init_5 : decode cX9_init 5 = .ok (.bipush 46, 2) := by decide +kernel
theorem dX9_init_7 : decode cX9_init 7 = .ok (.newarray .int, 2) := by decide +kernel
theorem dX9_init_9 : decode cX9_init 9 = .ok (.putfield 7, 3) := by decide +kernel
theorem dX9_init_12 : decode cX9_init 12 = .ok (.aload_n 0, 1) := by decide +kernel
theorem dX9_init_13 : decode cX9_init 13 = .ok (.bipush 10, 2) := by decide +kernel
theorem dX9_init_15 : decode cX9_init 15 = .ok (.newarray .int, 2) := by decide +kernel
theorem dX9_init_17 : decode cX9_init 17 = .ok (.putfield 13, 3) := by decide +kernel
theorem dX9_init_20 : decode cX9_init 20 = .ok (.aload_n 0, 1) := by decide +kernel
theorem dX9_init_21 : decode cX9_init 21 = .ok (.bipush 10, 2) := by decide +kernel
theorem dX9_init_23 : decode cX9_init 23 = .ok (.newarray .int, 2) := by decide +kernel
theorem dX9_init_25 : decode cX9_init 25 = .ok (.putfield 16, 3) := by decide +kernel
theorem dX9_init_28 : decode cX9_init 28 = .ok (.aload_n 0, 1) := by decide +kernel
theorem dX9_init_29 : decode cX9_init 29 = .ok (.bipush 6, 2) := by decide +kernel
theorem dX9_init_31 : decode cX9_init 31 = .ok (.newarray .int, 2) := by decide +kernel
theorem dX9_init_33 : decode cX9_init 33 = .ok (.putfield 19, 3) := by decide +kernel
theorem dX9_init_36 : decode cX9_init 36 = .ok (.aload_n 0, 1) := by decide +kernel
theorem dX9_init_37 : decode cX9_init 37 = .ok (.bipush 6, 2) := by decide +kernel
theorem dX9_init_39 : decode cX9_init 39 = .ok (.newarray .int, 2) := by decide +kernel
theorem dX9_init_41 : decode cX9_init 41 = .ok (.putfield 22, 3) := by decide +kernel
theorem dX9_init_44 : decode cX9_init 44 = .ok (.aload_n 0, 1) := by decide +kernel
theorem dX9_init_45 : decode cX9_init 45 = .ok (.bipush 6, 2) := by decide +kernel
theorem dX9_init_47 : decode cX9_init 47 = .ok (.newarray .int, 2) := by decide +kernel
theorem dX9_init_49 : decode cX9_init 49 = .ok (.putfield 25, 3) := by decide +kernel
theorem dX9_init_52 : decode cX9_init 52 = .ok (.aload_n 0, 1) := by decide +kernel
theorem dX9_init_53 : decode cX9_init 53 = .ok (.bipush 6, 2) := by decide +kernel
theorem dX9_init_55 : decode cX9_init 55 = .ok (.newarray .int, 2) := by decide +kernel
theorem dX9_init_57 : decode cX9_init 57 = .ok (.putfield 28, 3) := by decide +kernel
theorem dX9_init_60 : decode cX9_init 60 = .ok (.aload_n 0, 1) := by decide +kernel
theorem dX9_init_61 : decode cX9_init 61 = .ok (.bipush 6, 2) := by decide +kernel
theorem dX9_init_63 : decode cX9_init 63 = .ok (.newarray .int, 2) := by decide +kernel
theorem dX9_init_65 : decode cX9_init 65 = .ok (.putfield 31, 3) := by decide +kernel
theorem dX9_init_68 : decode cX9_init 68 = .ok (.aload_n 0, 1) := by decide +kernel
theorem dX9_init_69 : decode cX9_init 69 = .ok (.iconst 5, 1) := by decide +kernel
theorem dX9_init_70 : decode cX9_init 70 = .ok (.newarray .int, 2) := by decide +kernel
theorem dX9_init_72 : decode cX9_init 72 = .ok (.putfield 34, 3) := by decide +kernel
theorem dX9_init_75 : decode cX9_init 75 = .ok (.aload_n 0, 1) := by decide +kernel
theorem dX9_init_76 : decode cX9_init 76 = .ok (.iconst 5, 1) := by decide +kernel
theorem dX9_init_77 : decode cX9_init 77 = .ok (.newarray .int, 2) := by decide +kernel
theorem dX9_init_79 : decode cX9_init 79 = .ok (.putfield 37, 3) := by decide +kernel
theorem dX9_init_82 : decode cX9_init 82 = .ok (.aload_n 0, 1) := by decide +kernel
theorem dX9_init_83 : decode cX9_init 83 = .ok (.bipush 24, 2) := by decide +kernel
theorem dX9_init_85 : decode cX9_init 85 = .ok (.newarray .int, 2) := by decide +kernel
theorem dX9_init_87 : decode cX9_init 87 = .ok (.putfield 40, 3) := by decide +kernel
theorem dX9_init_90 : decode cX9_init 90 = .ok (.aload_n 0, 1) := by decide +kernel
theorem dX9_init_91 : decode cX9_init 91 = .ok (.bipush 10, 2) := by decide +kernel
theorem dX9_init_93 : decode cX9_init 93 = .ok (.newarray .int, 2) := by decide +kernel
theorem dX9_init_95 : decode cX9_init 95 = .ok (.putfield 43, 3) := by decide +kernel
theorem dX9_init_98 : decode cX9_init 98 = .ok (.aload_n 0, 1) := by decide +kernel
theorem dX9_init_99 : decode cX9_init 99 = .ok (.bipush 6, 2) := by decide +kernel
theorem dX9_init_101 : decode cX9_init 101 = .ok (.newarray .int, 2) := by decide +kernel
theorem dX9_init_103 : decode cX9_init 103 = .ok (.putfield 46, 3) := by decide +kernel
theorem dX9_init_106 : decode cX9_init 106 = .ok (.aload_n 0, 1) := by decide +kernel
theorem dX9_init_107 : decode cX9_init 107 = .ok (.bipush 6, 2) := by decide +kernel
theorem dX9_init_109 : decode cX9_init 109 = .ok (.newarray .int, 2) := by decide +kernel
theorem dX9_init_111 : decode cX9_init 111 = .ok (.putfield 49, 3) := by decide +kernel
theorem dX9_init_114 : decode cX9_init 114 = .ok (.aload_n 0, 1) := by decide +kernel
theorem dX9_init_115 : decode cX9_init 115 = .ok (.bipush 6, 2) := by decide +kernel
theorem dX9_init_117 : decode cX9_init 117 = .ok (.newarray .int, 2) := by decide +kernel
theorem dX9_init_119 : decode cX9_init 119 = .ok (.putfield 52, 3) := by decide +kernel
theorem dX9_init_122 : decode cX9_init 122 = .ok (.aload_n 0, 1) := by decide +kernel
theorem dX9_init_123 : decode cX9_init 123 = .ok (.bipush 24, 2) := by decide +kernel
theorem dX9_init_125 : decode cX9_init 125 = .ok (.newarray .int, 2) := by decide +kernel
theorem dX9_init_127 : decode cX9_init 127 = .ok (.putfield 55, 3) := by decide +kernel
theorem dX9_init_130 : decode cX9_init 130 = .ok (.aload_n 0, 1) := by decide +kernel
theorem dX9_init_131 : decode cX9_init 131 = .ok (.iconst (-1), 1) := by decide +kernel
theorem dX9_init_132 : decode cX9_init 132 = .ok (.putfield 58, 3) := by decide +kernel
theorem dX9_init_135 : decode cX9_init 135 = .ok (.return_, 1) := by decide +kernel
theorem dX9_in_0 : decode cX9_in 0 = .ok (.lload_n 0, 1) := by decide +kernel
theorem dX9_in_1 : decode cX9_in 1 = .ok (.lload_n 2, 1) := by decide +kernel
theorem dX9_in_2 : decode cX9_in 2 = .ok (.lcmp, 1) := by decide +kernel
theorem dX9_in_3 : decode cX9_in 3 = .ok (.ifCond .lt 14, 3) := by decide +kernel
theorem dX9_in_6 : decode cX9_in 6 = .ok (.lload_n 0, 1) := by decide +kernel
theorem dX9_in_7 : decode cX9_in 7 = .ok (.lload 4, 2) := by decide +kernel
theorem dX9_in_9 : decode cX9_in 9 = .ok (.lcmp, 1) := by decide +kernel
theorem dX9_in_10 : decode cX9_in 10 = .ok (.ifCond .gt 7, 3) := by decide +kernel
theorem dX9_in_13 : decode cX9_in 13 = .ok (.iconst 1, 1) := by decide +kernel
theorem dX9_in_14 : decode cX9_in 14 = .ok (.goto 4, 3) := by decide +kernel
theorem dX9_in_17 : decode cX9_in 17 = .ok (.iconst 0, 1) := by decide +kernel
theorem dX9_in_18 : decode cX9_in 18 = .ok (.ireturn, 1) := by decide +kernel
theorem dX9_copy_0 : decode cX9_copy 0 = .ok (.iconst 0, 1) := by decide +kernel
theorem dX9_copy_1 : decode cX9_copy 1 = .ok (.istore_n 2, 1) := by decide +kernel
theorem dX9_copy_2 : decode cX9_copy 2 = .ok (.iload_n 2, 1) := by decide +kernel
theorem dX9_copy_3 : decode cX9_copy 3 = .ok (.aload_n 0, 1) := by decide +kernel
theorem dX9_copy_4 : decode cX9_copy 4 = .ok (.arraylength, 1) := by decide +kernel
theorem dX9_copy_5 : decode cX9_copy 5 = .ok (.if_icmp .ge 15, 3) := by decide +kernel
theorem dX9_copy_8 : decode cX9_copy 8 = .ok (.aload_n 1, 1) := by decide +kernel
theorem dX9_copy_9 : decode cX9_copy 9 = .ok (.iload_n 2, 1) := by decide +kernel
theorem dX9_copy_10 : decode cX9_copy 10 = .ok (.aload_n 0, 1) := by decide +kernel
theorem dX9_copy_11 : decode cX9_copy 11 = .ok (.iload_n 2, 1) := by decide +kernel
theorem dX9_copy_12 : decode cX9_copy 12 = .ok (.iaload, 1) := by decide +kernel
theorem dX9_copy_13 : decode cX9_copy 13 = .ok (.iastore, 1) := by decide +kernel
theorem dX9_copy_14 : decode cX9_copy 14 = .ok (.iinc 2 1, 3) := by decide +kernel
theorem dX9_copy_17 : decode cX9_copy 17 = .ok (.goto (-15), 3) := by decide +kernel
theorem dX9_copy_20 : decode cX9_copy 20 = .ok (.return_, 1) := by decide +kernel
theorem dX9_letter_0 : decode cX9_letter 0 = .ok (.iload_n 1, 1) := by decide +kernel
theorem dX9_letter_1 : decode cX9_letter 1 = .ok (.i2l, 1) := by decide +kernel
theorem dX9_letter_2 : decode cX9_letter 2 = .ok (.lconst 1, 1) := by decide +kernel
theorem dX9_letter_3 : decode cX9_letter 3 = .ok (.ldc2_w 62, 3) := by decide +kernel
theorem dX9_letter_6 : decode cX9_letter 6 = .ok (.invokestatic 64, 3) := by decide +kernel
theorem dX9_letter_9 : decode cX9_letter 9 = .ok (.ifCond .ne 6, 3) := by decide +kernel
theorem dX9_letter_12 : decode cX9_letter 12 = .ok (.bipush (-102), 2) := by decide +kernel
theorem dX9_letter_14 : decode cX9_letter 14 = .ok (.ireturn, 1) := by decide +kernel
theorem dX9_letter_15 : decode cX9_letter 15 = .ok (.aload_n 0, 1) := by decide +kernel
theorem dX9_letter_16 : decode cX9_letter 16 = .ok (.getfield 68, 3) := by decide +kernel
theorem dX9_letter_19 : decode cX9_letter 19 = .ok (.bipush 46, 2) := by decide +kernel
theorem dX9_letter_21 : decode cX9_letter 21 = .ok (.if_icmp .ne 6, 3) := by decide +kernel
theorem dX9_letter_24 : decode cX9_letter 24 = .ok (.bipush (-104), 2) := by decide +kernel
theorem dX9_letter_26 : decode cX9_letter 26 = .ok (.ireturn, 1) := by decide +kernel
theorem dX9_letter_27 : decode cX9_letter 27 = .ok (.aload_n 0, 1) := by decide +kernel
theorem dX9_letter_28 : decode cX9_letter 28 = .ok (.getfield 7, 3) := by decide +kernel
theorem dX9_letter_31 : decode cX9_letter 31 = .ok (.aload_n 0, 1) := by decide +kernel
theorem dX9_letter_32 : decode cX9_letter 32 = .ok (.getfield 68, 3) := by decide +kernel
theorem dX9_letter_35 : decode cX9_letter 35 = .ok (.iload_n 1, 1) := by decide +kernel
theorem dX9_letter_36 : decode cX9_letter 36 = .ok (.iastore, 1) := by decide +kernel
theorem dX9_letter_37 : decode cX9_letter 37 = .ok (.aload_n 0, 1) := by decide +kernel
theorem dX9_letter_38 : decode cX9_letter 38 = .ok (.dup, 1) := by decide +kernel
theorem dX9_letter_39 : decode cX9_letter 39 = .ok (.getfield 68, 3) := by decide +kernel
theorem dX9_letter_42 : decode cX9_letter 42 = .ok (.iconst 1, 1) := by decide +kernel
theorem dX9_letter_43 : decode cX9_letter 43 = .ok (.iadd, 1) := by decide +kernel
theorem dX9_letter_44 : decode cX9_letter 44 = .ok (.putfield 68, 3) := by decide +kernel
theorem dX9_letter_47 : decode cX9_letter 47 = .ok (.aload_n 0, 1) := by decide +kernel
theorem dX9_letter_48 : decode cX9_letter 48 = .ok (.getfield 68, 3) := by decide +kernel
theorem dX9_letter_51 : decode cX9_letter 51 = .ok (.ireturn, 1) := by decide +kernel
theorem dX9_blank_0 : decode cX9_blank 0 = .ok (.aload_n 0, 1) := by decide +kernel
theorem dX9_blank_1 : decode cX9_blank 1 = .ok (.getfield 68, 3) := by decide +kernel
theorem dX9_blank_4 : decode cX9_blank 4 = .ok (.istore_n 1, 1) := by decide +kernel
theorem dX9_blank_5 : decode cX9_blank 5 = .ok (.aload_n 0, 1) := by decide +kernel
theorem dX9_blank_6 : decode cX9_blank 6 = .ok (.iconst 0, 1) := by decide +kernel
theorem dX9_blank_7 : decode cX9_blank 7 = .ok (.putfield 68, 3) := by decide +kernel
theorem dX9_blank_10 : decode cX9_blank 10 = .ok (.iload_n 1, 1) := by decide +kernel
theorem dX9_blank_11 : decode cX9_blank 11 = .ok (.ireturn, 1) := by decide +kernel
theorem dX9_kindBy_0 : decode cX9_kindBy 0 = .ok (.iload_n 0, 1) := by decide +kernel
theorem dX9_kindBy_1 : decode cX9_kindBy 1 = .ok (.tableswitch 81 98 111 #[71, 81, 79, 81, 75, 81, 81, 81, 81, 81, 73, 81, 81, 77], 71) := by decide +kernel
theorem dX9_kindBy_72 : decode cX9_kindBy 72 = .ok (.iconst 0, 1) := by decide +kernel
theorem dX9_kindBy_73 : decode cX9_kindBy 73 = .ok (.ireturn, 1) := by decide +kernel
theorem dX9_kindBy_74 : decode cX9_kindBy 74 = .ok (.iconst 1, 1) := by decide +kernel
theorem dX9_kindBy_75 : decode cX9_kindBy 75 = .ok (.ireturn, 1) := by decide +kernel
theorem dX9_kindBy_76 : decode cX9_kindBy 76 = .ok (.iconst 2, 1) := by decide +kernel
theorem dX9_kindBy_77 : decode cX9_kindBy 77 = .ok (.ireturn, 1) := by decide +kernel
theorem dX9_kindBy_78 : decode cX9_kindBy 78 = .ok (.iconst 3, 1) := by decide +kernel
theorem dX9_kindBy_79 : decode cX9_kindBy 79 = .ok (.ireturn, 1) := by decide +kernel
theorem dX9_kindBy_80 : decode cX9_kindBy 80 = .ok (.iconst 4, 1) := by decide +kernel
theorem dX9_kindBy_81 : decode cX9_kindBy 81 = .ok (.ireturn, 1) := by decide +kernel
theorem dX9_kindBy_82 : decode cX9_kindBy 82 = .ok (.iconst (-1), 1) := by decide +kernel
theorem dX9_kindBy_83 : decode cX9_kindBy 83 = .ok (.ireturn, 1) := by decide +kernel
theorem dX9_isHanging_0 : decode cX9_isHanging 0 = .ok (.iload_n 1, 1) := by decide +kernel
theorem dX9_isHanging_1 : decode cX9_isHanging 1 = .ok (.bipush 42, 2) := by decide +kernel
theorem dX9_isHanging_3 : decode cX9_isHanging 3 = .ok (.if_icmp .eq 53, 3) := by decide +kernel
theorem dX9_isHanging_6 : decode cX9_isHanging 6 = .ok (.iload_n 1, 1) := by decide +kernel
theorem dX9_isHanging_7 : decode cX9_isHanging 7 = .ok (.bipush 48, 2) := by decide +kernel
theorem dX9_isHanging_9 : decode cX9_isHanging 9 = .ok (.isub, 1) := by decide +kernel
theorem dX9_isHanging_10 : decode cX9_isHanging 10 = .ok (.istore 4, 2) := by decide +kernel
theorem dX9_isHanging_12 : decode cX9_isHanging 12 = .ok (.iload 4, 2) := by decide +kernel
theorem dX9_isHanging_14 : decode cX9_isHanging 14 = .ok (.i2l, 1) := by decide +kernel
theorem dX9_isHanging_15 : decode cX9_isHanging 15 = .ok (.iload_n 2, 1) := by decide +kernel
theorem dX9_isHanging_16 : decode cX9_isHanging 16 = .ok (.iconst 1, 1) := by decide +kernel
theorem dX9_isHanging_17 : decode cX9_isHanging 17 = .ok (.iadd, 1) := by decide +kernel
theorem dX9_isHanging_18 : decode cX9_isHanging 18 = .ok (.i2l, 1) := by decide +kernel
theorem dX9_isHanging_19 : decode cX9_isHanging 19 = .ok (.ldc2_w 71, 3) := by decide +kernel
theorem dX9_isHanging_22 : decode cX9_isHanging 22 = .ok (.invokestatic 64, 3) := by decide +kernel
theorem dX9_isHanging_25 : decode cX9_isHanging 25 = .ok (.ifCond .eq 16, 3) := by decide +kernel
theorem dX9_isHanging_28 : decode cX9_isHanging 28 = .ok (.aload_n 0, 1) := by decide +kernel
theorem dX9_isHanging_29 : decode cX9_isHanging 29 = .ok (.getfield 73, 3) := by decide +kernel
theorem dX9_isHanging_32 : decode cX9_isHanging 32 = .ok (.iload 4, 2) := by decide +kernel
theorem dX9_isHanging_34 : decode cX9_isHanging 34 = .ok (.ishr, 1) := by decide +kernel
theorem dX9_isHanging_35 : decode cX9_isHanging 35 = .ok (.iconst 1, 1) := by decide +kernel
theorem dX9_isHanging_36 : decode cX9_isHanging 36 = .ok (.iand, 1) := by decide +kernel
theorem dX9_isHanging_37 : decode cX9_isHanging 37 = .ok (.iconst 1, 1) := by decide +kernel
theorem dX9_isHanging_38 : decode cX9_isHanging 38 = .ok (.if_icmp .ne 5, 3) := by decide +kernel
theorem dX9_isHanging_41 : decode cX9_isHanging 41 = .ok (.iconst 0, 1) := by decide +kernel
theorem dX9_isHanging_42 : decode cX9_isHanging 42 = .ok (.ireturn, 1) := by decide +kernel
theorem dX9_isHanging_43 : decode cX9_isHanging 43 = .ok (.aload_n 0, 1) := by decide +kernel
theorem dX9_isHanging_44 : decode cX9_isHanging 44 = .ok (.dup, 1) := by decide +kernel
theorem dX9_isHanging_45 : decode cX9_isHanging 45 = .ok (.getfield 73, 3) := by decide +kernel
theorem dX9_isHanging_48 : decode cX9_isHanging 48 = .ok (.iconst 1, 1) := by decide +kernel
theorem dX9_isHanging_49 : decode cX9_isHanging 49 = .ok (.iload 4, 2) := by decide +kernel
theorem dX9_isHanging_51 : decode cX9_isHanging 51 = .ok (.ishl, 1) := by decide +kernel
theorem dX9_isHanging_52 : decode cX9_isHanging 52 = .ok (.ior, 1) := by decide +kernel
theorem dX9_isHanging_53 : decode cX9_isHanging 53 = .ok (.putfield 73, 3) := by decide +kernel
theorem dX9_isHanging_56 : decode cX9_isHanging 56 = .ok (.aload_n 0, 1) := by decide +kernel
theorem dX9_isHanging_57 : decode cX9_isHanging 57 = .ok (.getfield 73, 3) := by decide +kernel
theorem dX9_isHanging_60 : decode cX9_isHanging 60 = .ok (.iload_n 2, 1) := by decide +kernel
theorem dX9_isHanging_61 : decode cX9_isHanging 61 = .ok (.iconst 1, 1) := by decide +kernel
theorem dX9_isHanging_62 : decode cX9_isHanging 62 = .ok (.iadd, 1) := by decide +kernel
theorem dX9_isHanging_63 : decode cX9_isHanging 63 = .ok (.ishr, 1) := by decide +kernel
theorem dX9_isHanging_64 : decode cX9_isHanging 64 = .ok (.ifCond .le 7, 3) := by decide +kernel
theorem dX9_isHanging_67 : decode cX9_isHanging 67 = .ok (.iconst 1, 1) := by decide +kernel
theorem dX9_isHanging_68 : decode cX9_isHanging 68 = .ok (.goto 4, 3) := by decide +kernel
theorem dX9_isHanging_71 : decode cX9_isHanging 71 = .ok (.iconst 0, 1) := by decide +kernel
theorem dX9_isHanging_72 : decode cX9_isHanging 72 = .ok (.istore 4, 2) := by decide +kernel
theorem dX9_isHanging_74 : decode cX9_isHanging 74 = .ok (.iload_n 3, 1) := by decide +kernel
theorem dX9_isHanging_75 : decode cX9_isHanging 75 = .ok (.ifCond .eq 22, 3) := by decide +kernel
theorem dX9_isHanging_78 : decode cX9_isHanging 78 = .ok (.iload 4, 2) := by decide +kernel
theorem dX9_isHanging_80 : decode cX9_isHanging 80 = .ok (.ifCond .eq 17, 3) := by decide +kernel
theorem dX9_isHanging_83 : decode cX9_isHanging 83 = .ok (.aload_n 0, 1) := by decide +kernel
theorem dX9_isHanging_84 : decode cX9_isHanging 84 = .ok (.getfield 73, 3) := by decide +kernel
theorem dX9_isHanging_87 : decode cX9_isHanging 87 = .ok (.iload_n 2, 1) := by decide +kernel
theorem dX9_isHanging_88 : decode cX9_isHanging 88 = .ok (.iconst 1, 1) := by decide +kernel
theorem dX9_isHanging_89 : decode cX9_isHanging 89 = .ok (.iadd, 1) := by decide +kernel
theorem dX9_isHanging_90 : decode cX9_isHanging 90 = .ok (.ishr, 1) := by decide +kernel
theorem dX9_isHanging_91 : decode cX9_isHanging 91 = .ok (.iconst 1, 1) := by decide +kernel
theorem dX9_isHanging_92 : decode cX9_isHanging 92 = .ok (.iand, 1) := by decide +kernel
theorem dX9_isHanging_93 : decode cX9_isHanging 93 = .ok (.iconst 1, 1) := by decide +kernel
theorem dX9_isHanging_94 : decode cX9_isHanging 94 = .ok (.if_icmp .ne 7, 3) := by decide +kernel
theorem dX9_isHanging_97 : decode cX9_isHanging 97 = .ok (.iconst 1, 1) := by decide +kernel
theorem dX9_isHanging_98 : decode cX9_isHanging 98 = .ok (.goto 4, 3) := by decide +kernel
theorem dX9_isHanging_101 : decode cX9_isHanging 101 = .ok (.iconst 0, 1) := by decide +kernel
theorem dX9_isHanging_102 : decode cX9_isHanging 102 = .ok (.ireturn, 1) := by decide +kernel
theorem dX9_isRodLetter_0 : decode cX9_isRodLetter 0 = .ok (.aload_n 0, 1) := by decide +kernel
theorem dX9_isRodLetter_1 : decode cX9_isRodLetter 1 = .ok (.getfield 7, 3) := by decide +kernel
theorem dX9_isRodLetter_4 : decode cX9_isRodLetter 4 = .ok (.iload_n 1, 1) := by decide +kernel
theorem dX9_isRodLetter_5 : decode cX9_isRodLetter 5 = .ok (.iaload, 1) := by decide +kernel
theorem dX9_isRodLetter_6 : decode cX9_isRodLetter 6 = .ok (.istore_n 2, 1) := by decide +kernel
theorem dX9_isRodLetter_7 : decode cX9_isRodLetter 7 = .ok (.iload_n 1, 1) := by decide +kernel
theorem dX9_isRodLetter_8 : decode cX9_isRodLetter 8 = .ok (.iconst 5, 1) := by decide +kernel
theorem dX9_isRodLetter_9 : decode cX9_isRodLetter 9 = .ok (.idiv, 1) := by decide +kernel
theorem dX9_isRodLetter_10 : decode cX9_isRodLetter 10 = .ok (.istore_n 3, 1) := by decide +kernel
theorem dX9_isRodLetter_11 : decode cX9_isRodLetter 11 = .ok (.iload_n 1, 1) := by decide +kernel
theorem dX9_isRodLetter_12 : decode cX9_isRodLetter 12 = .ok (.iconst 5, 1) := by decide +kernel
theorem dX9_isRodLetter_13 : decode cX9_isRodLetter 13 = .ok (.irem, 1) := by decide +kernel
theorem dX9_isRodLetter_14 : decode cX9_isRodLetter 14 = .ok (.tableswitch 58 0 3 #[30, 42, 30, 50], 30) := by decide +kernel
theorem dX9_isRodLetter_44 : decode cX9_isRodLetter 44 = .ok (.iload_n 2, 1) := by decide +kernel
theorem dX9_isRodLetter_45 : decode cX9_isRodLetter 45 = .ok (.i2l, 1) := by decide +kernel
theorem dX9_isRodLetter_46 : decode cX9_isRodLetter 46 = .ok (.ldc2_w 76, 3) := by decide +kernel
theorem dX9_isRodLetter_49 : decode cX9_isRodLetter 49 = .ok (.ldc2_w 78, 3) := by decide +kernel
theorem dX9_isRodLetter_52 : decode cX9_isRodLetter 52 = .ok (.invokestatic 64, 3) := by decide +kernel
theorem dX9_isRodLetter_55 : decode cX9_isRodLetter 55 = .ok (.ireturn, 1) := by decide +kernel
theorem dX9_isRodLetter_56 : decode cX9_isRodLetter 56 = .ok (.aload_n 0, 1) := by decide +kernel
theorem dX9_isRodLetter_57 : decode cX9_isRodLetter 57 = .ok (.iload_n 2, 1) := by decide +kernel
theorem dX9_isRodLetter_58 : decode cX9_isRodLetter 58 = .ok (.iload_n 3, 1) := by decide +kernel
theorem dX9_isRodLetter_59 : decode cX9_isRodLetter 59 = .ok (.iconst 0, 1) := by decide +kernel
theorem dX9_isRodLetter_60 : decode cX9_isRodLetter 60 = .ok (.invokevirtual 80, 3) := by decide +kernel
theorem dX9_isRodLetter_63 : decode cX9_isRodLetter 63 = .ok (.ireturn, 1) := by decide +kernel
theorem dX9_isRodLetter_64 : decode cX9_isRodLetter 64 = .ok (.aload_n 0, 1) := by decide +kernel
theorem dX9_isRodLetter_65 : decode cX9_isRodLetter 65 = .ok (.iload_n 2, 1) := by decide +kernel
theorem dX9_isRodLetter_66 : decode cX9_isRodLetter 66 = .ok (.iload_n 3, 1) := by decide +kernel
theorem dX9_isRodLetter_67 : decode cX9_isRodLetter 67 = .ok (.iconst 1, 1) := by decide +kernel
theorem dX9_isRodLetter_68 : decode cX9_isRodLetter 68 = .ok (.invokevirtual 80, 3) := by decide +kernel
theorem dX9_isRodLetter_71 : decode cX9_isRodLetter 71 = .ok (.ireturn, 1) := by decide +kernel
theorem dX9_isRodLetter_72 : decode cX9_isRodLetter 72 = .ok (.aload_n 0, 1) := by decide +kernel
theorem dX9_isRodLetter_73 : decode cX9_isRodLetter 73 = .ok (.getfield 73, 3) := by decide +kernel
theorem dX9_isRodLetter_76 : decode cX9_isRodLetter 76 = .ok (.iload_n 3, 1) := by decide +kernel
theorem dX9_isRodLetter_77 : decode cX9_isRodLetter 77 = .ok (.iconst 1, 1) := by decide +kernel
theorem dX9_isRodLetter_78 : decode cX9_isRodLetter 78 = .ok (.iadd, 1) := by decide +kernel
theorem dX9_isRodLetter_79 : decode cX9_isRodLetter 79 = .ok (.ishr, 1) := by decide +kernel
theorem dX9_isRodLetter_80 : decode cX9_isRodLetter 80 = .ok (.ifCond .le 15, 3) := by decide +kernel
theorem dX9_isRodLetter_83 : decode cX9_isRodLetter 83 = .ok (.iload_n 2, 1) := by decide +kernel
theorem dX9_isRodLetter_84 : decode cX9_isRodLetter 84 = .ok (.bipush 44, 2) := by decide +kernel
theorem dX9_isRodLetter_86 : decode cX9_isRodLetter 86 = .ok (.if_icmp .ne 7, 3) := by decide +kernel
theorem dX9_isRodLetter_89 : decode cX9_isRodLetter 89 = .ok (.iconst 1, 1) := by decide +kernel
theorem dX9_isRodLetter_90 : decode cX9_isRodLetter 90 = .ok (.goto 4, 3) := by decide +kernel
theorem dX9_isRodLetter_93 : decode cX9_isRodLetter 93 = .ok (.iconst 0, 1) := by decide +kernel
theorem dX9_isRodLetter_94 : decode cX9_isRodLetter 94 = .ok (.ireturn, 1) := by decide +kernel
theorem dX9_isRodLetter_95 : decode cX9_isRodLetter 95 = .ok (.aload_n 0, 1) := by decide +kernel
theorem dX9_isRodLetter_96 : decode cX9_isRodLetter 96 = .ok (.iload_n 1, 1) := by decide +kernel
theorem dX9_isRodLetter_97 : decode cX9_isRodLetter 97 = .ok (.putfield 84, 3) := by decide +kernel
theorem dX9_isRodLetter_100 : decode cX9_isRodLetter 100 = .ok (.iload_n 2, 1) := by decide +kernel
theorem dX9_isRodLetter_101 : decode cX9_isRodLetter 101 = .ok (.bipush 59, 2) := by decide +kernel
theorem dX9_isRodLetter_103 : decode cX9_isRodLetter 103 = .ok (.if_icmp .ne 7, 3) := by decide +kernel
theorem dX9_isRodLetter_106 : decode cX9_isRodLetter 106 = .ok (.iconst 1, 1) := by decide +kernel
theorem dX9_isRodLetter_107 : decode cX9_isRodLetter 107 = .ok (.goto 4, 3) := by decide +kernel
theorem dX9_isRodLetter_110 : decode cX9_isRodLetter 110 = .ok (.iconst 0, 1) := by decide +kernel
theorem dX9_isRodLetter_111 : decode cX9_isRodLetter 111 = .ok (.ireturn, 1) := by decide +kernel
theorem dX9_isThingLetter_0 : decode cX9_isThingLetter 0 = .ok (.aload_n 0, 1) := by decide +kernel
theorem dX9_isThingLetter_1 : decode cX9_isThingLetter 1 = .ok (.getfield 7, 3) := by decide +kernel
theorem dX9_isThingLetter_4 : decode cX9_isThingLetter 4 = .ok (.iload_n 1, 1) := by decide +kernel
theorem dX9_isThingLetter_5 : decode cX9_isThingLetter 5 = .ok (.iaload, 1) := by decide +kernel
theorem dX9_isThingLetter_6 : decode cX9_isThingLetter 6 = .ok (.istore_n 2, 1) := by decide +kernel
theorem dX9_isThingLetter_7 : decode cX9_isThingLetter 7 = .ok (.iload_n 1, 1) := by decide +kernel
theorem dX9_isThingLetter_8 : decode cX9_isThingLetter 8 = .ok (.aload_n 0, 1) := by decide +kernel
theorem dX9_isThingLetter_9 : decode cX9_isThingLetter 9 = .ok (.getfield 84, 3) := by decide +kernel
theorem dX9_isThingLetter_12 : decode cX9_isThingLetter 12 = .ok (.isub, 1) := by decide +kernel
theorem dX9_isThingLetter_13 : decode cX9_isThingLetter 13 = .ok (.iconst 1, 1) := by decide +kernel
theorem dX9_isThingLetter_14 : decode cX9_isThingLetter 14 = .ok (.isub, 1) := by decide +kernel
theorem dX9_isThingLetter_15 : decode cX9_isThingLetter 15 = .ok (.istore_n 3, 1) := by decide +kernel
theorem dX9_isThingLetter_16 : decode cX9_isThingLetter 16 = .ok (.aload_n 0, 1) := by decide +kernel
theorem dX9_isThingLetter_17 : decode cX9_isThingLetter 17 = .ok (.getfield 84, 3) := by decide +kernel
theorem dX9_isThingLetter_20 : decode cX9_isThingLetter 20 = .ok (.iconst 1, 1) := by decide +kernel
theorem dX9_isThingLetter_21 : decode cX9_isThingLetter 21 = .ok (.iadd, 1) := by decide +kernel
theorem dX9_isThingLetter_22 : decode cX9_isThingLetter 22 = .ok (.iconst 5, 1) := by decide +kernel
theorem dX9_isThingLetter_23 : decode cX9_isThingLetter 23 = .ok (.idiv, 1) := by decide +kernel
theorem dX9_isThingLetter_24 : decode cX9_isThingLetter 24 = .ok (.iconst 1, 1) := by decide +kernel
theorem dX9_isThingLetter_25 : decode cX9_isThingLetter 25 = .ok (.iadd, 1) := by decide +kernel
theorem dX9_isThingLetter_26 : decode cX9_isThingLetter 26 = .ok (.istore 4, 2) := by decide +kernel
theorem dX9_isThingLetter_28 : decode cX9_isThingLetter 28 = .ok (.iload_n 3, 1) := by decide +kernel
theorem dX9_isThingLetter_29 : decode cX9_isThingLetter 29 = .ok (.iconst 3, 1) := by decide +kernel
theorem dX9_isThingLetter_30 : decode cX9_isThingLetter 30 = .ok (.irem, 1) := by decide +kernel
theorem dX9_isThingLetter_31 : decode cX9_isThingLetter 31 = .ok (.lookupswitch 51 #[(0, 25), (1, 39)], 25) := by decide +kernel
theorem dX9_isThingLetter_56 : decode cX9_isThingLetter 56 = .ok (.iload_n 2, 1) := by decide +kernel
theorem dX9_isThingLetter_57 : decode cX9_isThingLetter 57 = .ok (.invokestatic 87, 3) := by decide +kernel
theorem dX9_isThingLetter_60 : decode cX9_isThingLetter 60 = .ok (.iconst (-1), 1) := by decide +kernel
theorem dX9_isThingLetter_61 : decode cX9_isThingLetter 61 = .ok (.if_icmp .eq 7, 3) := by decide +kernel
theorem dX9_isThingLetter_64 : decode cX9_isThingLetter 64 = .ok (.iconst 1, 1) := by decide +kernel
theorem dX9_isThingLetter_65 : decode cX9_isThingLetter 65 = .ok (.goto 4, 3) := by decide +kernel
theorem dX9_isThingLetter_68 : decode cX9_isThingLetter 68 = .ok (.iconst 0, 1) := by decide +kernel
theorem dX9_isThingLetter_69 : decode cX9_isThingLetter 69 = .ok (.ireturn, 1) := by decide +kernel
theorem dX9_isThingLetter_70 : decode cX9_isThingLetter 70 = .ok (.iload_n 2, 1) := by decide +kernel
theorem dX9_isThingLetter_71 : decode cX9_isThingLetter 71 = .ok (.i2l, 1) := by decide +kernel
theorem dX9_isThingLetter_72 : decode cX9_isThingLetter 72 = .ok (.ldc2_w 91, 3) := by decide +kernel
theorem dX9_isThingLetter_75 : decode cX9_isThingLetter 75 = .ok (.ldc2_w 78, 3) := by decide +kernel
theorem dX9_isThingLetter_78 : decode cX9_isThingLetter 78 = .ok (.invokestatic 64, 3) := by decide +kernel
theorem dX9_isThingLetter_81 : decode cX9_isThingLetter 81 = .ok (.ireturn, 1) := by decide +kernel
theorem dX9_isThingLetter_82 : decode cX9_isThingLetter 82 = .ok (.iload_n 2, 1) := by decide +kernel
theorem dX9_isThingLetter_83 : decode cX9_isThingLetter 83 = .ok (.bipush 44, 2) := by decide +kernel
theorem dX9_isThingLetter_85 : decode cX9_isThingLetter 85 = .ok (.if_icmp .ne 17, 3) := by decide +kernel
theorem dX9_isThingLetter_88 : decode cX9_isThingLetter 88 = .ok (.iload_n 3, 1) := by decide +kernel
theorem dX9_isThingLetter_89 : decode cX9_isThingLetter 89 = .ok (.iconst 3, 1) := by decide +kernel
theorem dX9_isThingLetter_90 : decode cX9_isThingLetter 90 = .ok (.iload 4, 2) := by decide +kernel
theorem dX9_isThingLetter_92 : decode cX9_isThingLetter 92 = .ok (.imul, 1) := by decide +kernel
theorem dX9_isThingLetter_93 : decode cX9_isThingLetter 93 = .ok (.iconst 1, 1) := by decide +kernel
theorem dX9_isThingLetter_94 : decode cX9_isThingLetter 94 = .ok (.isub, 1) := by decide +kernel
theorem dX9_isThingLetter_95 : decode cX9_isThingLetter 95 = .ok (.if_icmp .ge 7, 3) := by decide +kernel
theorem dX9_isThingLetter_98 : decode cX9_isThingLetter 98 = .ok (.iconst 1, 1) := by decide +kernel
theorem dX9_isThingLetter_99 : decode cX9_isThingLetter 99 = .ok (.goto 4, 3) := by decide +kernel
theorem dX9_isThingLetter_102 : decode cX9_isThingLetter 102 = .ok (.iconst 0, 1) := by decide +kernel
theorem dX9_isThingLetter_103 : decode cX9_isThingLetter 103 = .ok (.ireturn, 1) := by decide +kernel
theorem dX9_faultOf_0 : decode cX9_faultOf 0 = .ok (.aload_n 0, 1) := by decide +kernel
theorem dX9_faultOf_1 : decode cX9_faultOf 1 = .ok (.iconst 0, 1) := by decide +kernel
theorem dX9_faultOf_2 : decode cX9_faultOf 2 = .ok (.putfield 84, 3) := by decide +kernel
theorem dX9_faultOf_5 : decode cX9_faultOf 5 = .ok (.aload_n 0, 1) := by decide +kernel
theorem dX9_faultOf_6 : decode cX9_faultOf 6 = .ok (.iconst 0, 1) := by decide +kernel
theorem dX9_faultOf_7 : decode cX9_faultOf 7 = .ok (.putfield 73, 3) := by decide +kernel
theorem dX9_faultOf_10 : decode cX9_faultOf 10 = .ok (.iconst 0, 1) := by decide +kernel
theorem dX9_faultOf_11 : decode cX9_faultOf 11 = .ok (.istore_n 1, 1) := by decide +kernel
theorem dX9_faultOf_12 : decode cX9_faultOf 12 = .ok (.iload_n 1, 1) := by decide +kernel
theorem dX9_faultOf_13 : decode cX9_faultOf 13 = .ok (.aload_n 0, 1) := by decide +kernel
theorem dX9_faultOf_14 : decode cX9_faultOf 14 = .ok (.getfield 68, 3) := by decide +kernel
theorem dX9_faultOf_17 : decode cX9_faultOf 17 = .ok (.if_icmp .ge 35, 3) := by decide +kernel
theorem dX9_faultOf_20 : decode cX9_faultOf 20 = .ok (.aload_n 0, 1) := by decide +kernel
theorem dX9_faultOf_21 : decode cX9_faultOf 21 = .ok (.getfield 84, 3) := by decide +kernel
theorem dX9_faultOf_24 : decode cX9_faultOf 24 = .ok (.ifCond .ne 14, 3) := by decide +kernel
theorem dX9_faultOf_27 : decode cX9_faultOf 27 = .ok (.aload_n 0, 1) := by decide +kernel
theorem dX9_faultOf_28 : decode cX9_faultOf 28 = .ok (.iload_n 1, 1) := by decide +kernel
theorem dX9_faultOf_29 : decode cX9_faultOf 29 = .ok (.invokevirtual 93, 3) := by decide +kernel
theorem dX9_faultOf_32 : decode cX9_faultOf 32 = .ok (.ifCond .eq 20, 3) := by decide +kernel
theorem dX9_faultOf_35 : decode cX9_faultOf 35 = .ok (.goto 11, 3) := by decide +kernel
theorem dX9_faultOf_38 : decode cX9_faultOf 38 = .ok (.aload_n 0, 1) := by decide +kernel
theorem dX9_faultOf_39 : decode cX9_faultOf 39 = .ok (.iload_n 1, 1) := by decide +kernel
theorem dX9_faultOf_40 : decode cX9_faultOf 40 = .ok (.invokevirtual 97, 3) := by decide +kernel
theorem dX9_faultOf_43 : decode cX9_faultOf 43 = .ok (.ifCond .eq 9, 3) := by decide +kernel
theorem dX9_faultOf_46 : decode cX9_faultOf 46 = .ok (.iinc 1 1, 3) := by decide +kernel
theorem dX9_faultOf_49 : decode cX9_faultOf 49 = .ok (.goto (-37), 3) := by decide +kernel
theorem dX9_faultOf_52 : decode cX9_faultOf 52 = .ok (.iload_n 1, 1) := by decide +kernel
theorem dX9_faultOf_53 : decode cX9_faultOf 53 = .ok (.ireturn, 1) := by decide +kernel
theorem dX9_fault_0 : decode cX9_fault 0 = .ok (.aload_n 0, 1) := by decide +kernel
theorem dX9_fault_1 : decode cX9_fault 1 = .ok (.invokevirtual 100, 3) := by decide +kernel
theorem dX9_fault_4 : decode cX9_fault 4 = .ok (.ireturn, 1) := by decide +kernel
theorem dX9_mobile_0 : decode cX9_mobile 0 = .ok (.aload_n 0, 1) := by decide +kernel
theorem dX9_mobile_1 : decode cX9_mobile 1 = .ok (.invokevirtual 100, 3) := by decide +kernel
theorem dX9_mobile_4 : decode cX9_mobile 4 = .ok (.istore_n 1, 1) := by decide +kernel
theorem dX9_mobile_5 : decode cX9_mobile 5 = .ok (.iload_n 1, 1) := by decide +kernel
theorem dX9_mobile_6 : decode cX9_mobile 6 = .ok (.aload_n 0, 1) := by decide +kernel
theorem dX9_mobile_7 : decode cX9_mobile 7 = .ok (.getfield 68, 3) := by decide +kernel
theorem dX9_mobile_10 : decode cX9_mobile 10 = .ok (.if_icmp .lt 34, 3) := by decide +kernel
theorem dX9_mobile_13 : decode cX9_mobile 13 = .ok (.aload_n 0, 1) := by decide +kernel
theorem dX9_mobile_14 : decode cX9_mobile 14 = .ok (.getfield 84, 3) := by decide +kernel
theorem dX9_mobile_17 : decode cX9_mobile 17 = .ok (.ifCond .eq 27, 3) := by decide +kernel
theorem dX9_mobile_20 : decode cX9_mobile 20 = .ok (.aload_n 0, 1) := by decide +kernel
theorem dX9_mobile_21 : decode cX9_mobile 21 = .ok (.getfield 68, 3) := by decide +kernel
theorem dX9_mobile_24 : decode cX9_mobile 24 = .ok (.aload_n 0, 1) := by decide +kernel
theorem dX9_mobile_25 : decode cX9_mobile 25 = .ok (.getfield 84, 3) := by decide +kernel
theorem dX9_mobile_28 : decode cX9_mobile 28 = .ok (.isub, 1) := by decide +kernel
theorem dX9_mobile_29 : decode cX9_mobile 29 = .ok (.iconst 3, 1) := by decide +kernel
theorem dX9_mobile_30 : decode cX9_mobile 30 = .ok (.aload_n 0, 1) := by decide +kernel
theorem dX9_mobile_31 : decode cX9_mobile 31 = .ok (.getfield 84, 3) := by decide +kernel
theorem dX9_mobile_34 : decode cX9_mobile 34 = .ok (.iconst 1, 1) := by decide +kernel
theorem dX9_mobile_35 : decode cX9_mobile 35 = .ok (.iadd, 1) := by decide +kernel
theorem dX9_mobile_36 : decode cX9_mobile 36 = .ok (.iconst 5, 1) := by decide +kernel
theorem dX9_mobile_37 : decode cX9_mobile 37 = .ok (.idiv, 1) := by decide +kernel
theorem dX9_mobile_38 : decode cX9_mobile 38 = .ok (.iconst 1, 1) := by decide +kernel
theorem dX9_mobile_39 : decode cX9_mobile 39 = .ok (.iadd, 1) := by decide +kernel
theorem dX9_mobile_40 : decode cX9_mobile 40 = .ok (.imul, 1) := by decide +kernel
theorem dX9_mobile_41 : decode cX9_mobile 41 = .ok (.if_icmp .eq 6, 3) := by decide +kernel
theorem dX9_mobile_44 : decode cX9_mobile 44 = .ok (.bipush (-103), 2) := by decide +kernel
theorem dX9_mobile_46 : decode cX9_mobile 46 = .ok (.ireturn, 1) := by decide +kernel
theorem dX9_mobile_47 : decode cX9_mobile 47 = .ok (.aload_n 0, 1) := by decide +kernel
theorem dX9_mobile_48 : decode cX9_mobile 48 = .ok (.aload_n 0, 1) := by decide +kernel
theorem dX9_mobile_49 : decode cX9_mobile 49 = .ok (.getfield 84, 3) := by decide +kernel
theorem dX9_mobile_52 : decode cX9_mobile 52 = .ok (.iconst 1, 1) := by decide +kernel
theorem dX9_mobile_53 : decode cX9_mobile 53 = .ok (.iadd, 1) := by decide +kernel
theorem dX9_mobile_54 : decode cX9_mobile 54 = .ok (.iconst 5, 1) := by decide +kernel
theorem dX9_mobile_55 : decode cX9_mobile 55 = .ok (.idiv, 1) := by decide +kernel
theorem dX9_mobile_56 : decode cX9_mobile 56 = .ok (.putfield 104, 3) := by decide +kernel
theorem dX9_mobile_59 : decode cX9_mobile 59 = .ok (.aload_n 0, 1) := by decide +kernel
theorem dX9_mobile_60 : decode cX9_mobile 60 = .ok (.aload_n 0, 1) := by decide +kernel
theorem dX9_mobile_61 : decode cX9_mobile 61 = .ok (.getfield 104, 3) := by decide +kernel
theorem dX9_mobile_64 : decode cX9_mobile 64 = .ok (.iconst 1, 1) := by decide +kernel
theorem dX9_mobile_65 : decode cX9_mobile 65 = .ok (.iadd, 1) := by decide +kernel
theorem dX9_mobile_66 : decode cX9_mobile 66 = .ok (.putfield 107, 3) := by decide +kernel
theorem dX9_mobile_69 : decode cX9_mobile 69 = .ok (.iconst 0, 1) := by decide +kernel
theorem dX9_mobile_70 : decode cX9_mobile 70 = .ok (.istore_n 2, 1) := by decide +kernel
theorem dX9_mobile_71 : decode cX9_mobile 71 = .ok (.iconst 0, 1) := by decide +kernel
theorem dX9_mobile_72 : decode cX9_mobile 72 = .ok (.istore_n 3, 1) := by decide +kernel
theorem dX9_mobile_73 : decode cX9_mobile 73 = .ok (.iload_n 3, 1) := by decide +kernel
theorem dX9_mobile_74 : decode cX9_mobile 74 = .ok (.iconst 2, 1) := by decide +kernel
theorem dX9_mobile_75 : decode cX9_mobile 75 = .ok (.aload_n 0, 1) := by decide +kernel
theorem dX9_mobile_76 : decode cX9_mobile 76 = .ok (.getfield 104, 3) := by decide +kernel
theorem dX9_mobile_79 : decode cX9_mobile 79 = .ok (.imul, 1) := by decide +kernel
theorem dX9_mobile_80 : decode cX9_mobile 80 = .ok (.if_icmp .ge 101, 3) := by decide +kernel
theorem dX9_mobile_83 : decode cX9_mobile 83 = .ok (.iconst 5, 1) := by decide +kernel
theorem dX9_mobile_84 : decode cX9_mobile 84 = .ok (.iload_n 3, 1) := by decide +kernel
theorem dX9_mobile_85 : decode cX9_mobile 85 = .ok (.iconst 2, 1) := by decide +kernel
theorem dX9_mobile_86 : decode cX9_mobile 86 = .ok (.idiv, 1) := by decide +kernel
theorem dX9_mobile_87 : decode cX9_mobile 87 = .ok (.imul, 1) := by decide +kernel
theorem dX9_mobile_88 : decode cX9_mobile 88 = .ok (.iconst 2, 1) := by decide +kernel
theorem dX9_mobile_89 : decode cX9_mobile 89 = .ok (.iload_n 3, 1) := by decide +kernel
theorem dX9_mobile_90 : decode cX9_mobile 90 = .ok (.iconst 2, 1) := by decide +kernel
theorem dX9_mobile_91 : decode cX9_mobile 91 = .ok (.irem, 1) := by decide +kernel
theorem dX9_mobile_92 : decode cX9_mobile 92 = .ok (.imul, 1) := by decide +kernel
theorem dX9_mobile_93 : decode cX9_mobile 93 = .ok (.iadd, 1) := by decide +kernel
theorem dX9_mobile_94 : decode cX9_mobile 94 = .ok (.istore 4, 2) := by decide +kernel
theorem dX9_mobile_96 : decode cX9_mobile 96 = .ok (.aload_n 0, 1) := by decide +kernel
theorem dX9_mobile_97 : decode cX9_mobile 97 = .ok (.getfield 13, 3) := by decide +kernel
theorem dX9_mobile_100 : decode cX9_mobile 100 = .ok (.iload_n 3, 1) := by decide +kernel
theorem dX9_mobile_101 : decode cX9_mobile 101 = .ok (.aload_n 0, 1) := by decide +kernel
theorem dX9_mobile_102 : decode cX9_mobile 102 = .ok (.getfield 7, 3) := by decide +kernel
theorem dX9_mobile_105 : decode cX9_mobile 105 = .ok (.iload 4, 2) := by decide +kernel
theorem dX9_mobile_107 : decode cX9_mobile 107 = .ok (.iaload, 1) := by decide +kernel
theorem dX9_mobile_108 : decode cX9_mobile 108 = .ok (.bipush 48, 2) := by decide +kernel
theorem dX9_mobile_110 : decode cX9_mobile 110 = .ok (.isub, 1) := by decide +kernel
theorem dX9_mobile_111 : decode cX9_mobile 111 = .ok (.iastore, 1) := by decide +kernel
theorem dX9_mobile_112 : decode cX9_mobile 112 = .ok (.aload_n 0, 1) := by decide +kernel
theorem dX9_mobile_113 : decode cX9_mobile 113 = .ok (.getfield 16, 3) := by decide +kernel
theorem dX9_mobile_116 : decode cX9_mobile 116 = .ok (.iload_n 3, 1) := by decide +kernel
theorem dX9_mobile_117 : decode cX9_mobile 117 = .ok (.aload_n 0, 1) := by decide +kernel
theorem dX9_mobile_118 : decode cX9_mobile 118 = .ok (.getfield 7, 3) := by decide +kernel
theorem dX9_mobile_121 : decode cX9_mobile 121 = .ok (.iload 4, 2) := by decide +kernel
theorem dX9_mobile_123 : decode cX9_mobile 123 = .ok (.iconst 1, 1) := by decide +kernel
theorem dX9_mobile_124 : decode cX9_mobile 124 = .ok (.iadd, 1) := by decide +kernel
theorem dX9_mobile_125 : decode cX9_mobile 125 = .ok (.iaload, 1) := by decide +kernel
theorem dX9_mobile_126 : decode cX9_mobile 126 = .ok (.bipush 42, 2) := by decide +kernel
theorem dX9_mobile_128 : decode cX9_mobile 128 = .ok (.if_icmp .ne 10, 3) := by decide +kernel
theorem dX9_mobile_131 : decode cX9_mobile 131 = .ok (.bipush 10, 2) := by decide +kernel
theorem dX9_mobile_133 : decode cX9_mobile 133 = .ok (.iload_n 2, 1) := by decide +kernel
theorem dX9_mobile_134 : decode cX9_mobile 134 = .ok (.iadd, 1) := by decide +kernel
theorem dX9_mobile_135 : decode cX9_mobile 135 = .ok (.goto 15, 3) := by decide +kernel
theorem dX9_mobile_138 : decode cX9_mobile 138 = .ok (.aload_n 0, 1) := by decide +kernel
theorem dX9_mobile_139 : decode cX9_mobile 139 = .ok (.getfield 7, 3) := by decide +kernel
theorem dX9_mobile_142 : decode cX9_mobile 142 = .ok (.iload 4, 2) := by decide +kernel
theorem dX9_mobile_144 : decode cX9_mobile 144 = .ok (.iconst 1, 1) := by decide +kernel
theorem dX9_mobile_145 : decode cX9_mobile 145 = .ok (.iadd, 1) := by decide +kernel
theorem dX9_mobile_146 : decode cX9_mobile 146 = .ok (.iaload, 1) := by decide +kernel
theorem dX9_mobile_147 : decode cX9_mobile 147 = .ok (.bipush 48, 2) := by decide +kernel
theorem dX9_mobile_149 : decode cX9_mobile 149 = .ok (.isub, 1) := by decide +kernel
theorem dX9_mobile_150 : decode cX9_mobile 150 = .ok (.iastore, 1) := by decide +kernel
theorem dX9_mobile_151 : decode cX9_mobile 151 = .ok (.aload_n 0, 1) := by decide +kernel
theorem dX9_mobile_152 : decode cX9_mobile 152 = .ok (.getfield 7, 3) := by decide +kernel
theorem dX9_mobile_155 : decode cX9_mobile 155 = .ok (.iload 4, 2) := by decide +kernel
theorem dX9_mobile_157 : decode cX9_mobile 157 = .ok (.iconst 1, 1) := by decide +kernel
theorem dX9_mobile_158 : decode cX9_mobile 158 = .ok (.iadd, 1) := by decide +kernel
theorem dX9_mobile_159 : decode cX9_mobile 159 = .ok (.iaload, 1) := by decide +kernel
theorem dX9_mobile_160 : decode cX9_mobile 160 = .ok (.bipush 42, 2) := by decide +kernel
theorem dX9_mobile_162 : decode cX9_mobile 162 = .ok (.if_icmp .ne 13, 3) := by decide +kernel
theorem dX9_mobile_165 : decode cX9_mobile 165 = .ok (.aload_n 0, 1) := by decide +kernel
theorem dX9_mobile_166 : decode cX9_mobile 166 = .ok (.getfield 19, 3) := by decide +kernel
theorem dX9_mobile_169 : decode cX9_mobile 169 = .ok (.iload_n 2, 1) := by decide +kernel
theorem dX9_mobile_170 : decode cX9_mobile 170 = .ok (.iload_n 3, 1) := by decide +kernel
theorem dX9_mobile_171 : decode cX9_mobile 171 = .ok (.iastore, 1) := by decide +kernel
theorem dX9_mobile_172 : decode cX9_mobile 172 = .ok (.iinc 2 1, 3) := by decide +kernel
theorem dX9_mobile_175 : decode cX9_mobile 175 = .ok (.iinc 3 1, 3) := by decide +kernel
theorem dX9_mobile_178 : decode cX9_mobile 178 = .ok (.goto (-105), 3) := by decide +kernel
theorem dX9_mobile_181 : decode cX9_mobile 181 = .ok (.iconst 0, 1) := by decide +kernel
theorem dX9_mobile_182 : decode cX9_mobile 182 = .ok (.istore_n 3, 1) := by decide +kernel
theorem dX9_mobile_183 : decode cX9_mobile 183 = .ok (.iload_n 3, 1) := by decide +kernel
theorem dX9_mobile_184 : decode cX9_mobile 184 = .ok (.aload_n 0, 1) := by decide +kernel
theorem dX9_mobile_185 : decode cX9_mobile 185 = .ok (.getfield 107, 3) := by decide +kernel
theorem dX9_mobile_188 : decode cX9_mobile 188 = .ok (.if_icmp .ge 64, 3) := by decide +kernel
theorem dX9_mobile_191 : decode cX9_mobile 191 = .ok (.aload_n 0, 1) := by decide +kernel
theorem dX9_mobile_192 : decode cX9_mobile 192 = .ok (.getfield 22, 3) := by decide +kernel
theorem dX9_mobile_195 : decode cX9_mobile 195 = .ok (.iload_n 3, 1) := by decide +kernel
theorem dX9_mobile_196 : decode cX9_mobile 196 = .ok (.aload_n 0, 1) := by decide +kernel
theorem dX9_mobile_197 : decode cX9_mobile 197 = .ok (.getfield 7, 3) := by decide +kernel
theorem dX9_mobile_200 : decode cX9_mobile 200 = .ok (.aload_n 0, 1) := by decide +kernel
theorem dX9_mobile_201 : decode cX9_mobile 201 = .ok (.getfield 84, 3) := by decide +kernel
theorem dX9_mobile_204 : decode cX9_mobile 204 = .ok (.iconst 1, 1) := by decide +kernel
theorem dX9_mobile_205 : decode cX9_mobile 205 = .ok (.iadd, 1) := by decide +kernel
theorem dX9_mobile_206 : decode cX9_mobile 206 = .ok (.iconst 3, 1) := by decide +kernel
theorem dX9_mobile_207 : decode cX9_mobile 207 = .ok (.iload_n 3, 1) := by decide +kernel
theorem dX9_mobile_208 : decode cX9_mobile 208 = .ok (.imul, 1) := by decide +kernel
theorem dX9_mobile_209 : decode cX9_mobile 209 = .ok (.iadd, 1) := by decide +kernel
theorem dX9_mobile_210 : decode cX9_mobile 210 = .ok (.iaload, 1) := by decide +kernel
theorem dX9_mobile_211 : decode cX9_mobile 211 = .ok (.invokestatic 87, 3) := by decide +kernel
theorem dX9_mobile_214 : decode cX9_mobile 214 = .ok (.iastore, 1) := by decide +kernel
theorem dX9_mobile_215 : decode cX9_mobile 215 = .ok (.aload_n 0, 1) := by decide +kernel
theorem dX9_mobile_216 : decode cX9_mobile 216 = .ok (.getfield 25, 3) := by decide +kernel
theorem dX9_mobile_219 : decode cX9_mobile 219 = .ok (.iload_n 3, 1) := by decide +kernel
theorem dX9_mobile_220 : decode cX9_mobile 220 = .ok (.aload_n 0, 1) := by decide +kernel
theorem dX9_mobile_221 : decode cX9_mobile 221 = .ok (.getfield 7, 3) := by decide +kernel
theorem dX9_mobile_224 : decode cX9_mobile 224 = .ok (.aload_n 0, 1) := by decide +kernel
theorem dX9_mobile_225 : decode cX9_mobile 225 = .ok (.getfield 84, 3) := by decide +kernel
theorem dX9_mobile_228 : decode cX9_mobile 228 = .ok (.iconst 2, 1) := by decide +kernel
theorem dX9_mobile_229 : decode cX9_mobile 229 = .ok (.iadd, 1) := by decide +kernel
theorem dX9_mobile_230 : decode cX9_mobile 230 = .ok (.iconst 3, 1) := by decide +kernel
theorem dX9_mobile_231 : decode cX9_mobile 231 = .ok (.iload_n 3, 1) := by decide +kernel
theorem dX9_mobile_232 : decode cX9_mobile 232 = .ok (.imul, 1) := by decide +kernel
theorem dX9_mobile_233 : decode cX9_mobile 233 = .ok (.iadd, 1) := by decide +kernel
theorem dX9_mobile_234 : decode cX9_mobile 234 = .ok (.iaload, 1) := by decide +kernel
theorem dX9_mobile_235 : decode cX9_mobile 235 = .ok (.bipush 48, 2) := by decide +kernel
theorem dX9_mobile_237 : decode cX9_mobile 237 = .ok (.isub, 1) := by decide +kernel
theorem dX9_mobile_238 : decode cX9_mobile 238 = .ok (.iastore, 1) := by decide +kernel
theorem dX9_mobile_239 : decode cX9_mobile 239 = .ok (.aload_n 0, 1) := by decide +kernel
theorem dX9_mobile_240 : decode cX9_mobile 240 = .ok (.getfield 28, 3) := by decide +kernel
theorem dX9_mobile_243 : decode cX9_mobile 243 = .ok (.iload_n 3, 1) := by decide +kernel
theorem dX9_mobile_244 : decode cX9_mobile 244 = .ok (.iload_n 3, 1) := by decide +kernel
theorem dX9_mobile_245 : decode cX9_mobile 245 = .ok (.iastore, 1) := by decide +kernel
theorem dX9_mobile_246 : decode cX9_mobile 246 = .ok (.iinc 3 1, 3) := by decide +kernel
theorem dX9_mobile_249 : decode cX9_mobile 249 = .ok (.goto (-66), 3) := by decide +kernel
theorem dX9_mobile_252 : decode cX9_mobile 252 = .ok (.aload_n 0, 1) := by decide +kernel
theorem dX9_mobile_253 : decode cX9_mobile 253 = .ok (.iconst 0, 1) := by decide +kernel
theorem dX9_mobile_254 : decode cX9_mobile 254 = .ok (.putfield 110, 3) := by decide +kernel
theorem dX9_mobile_257 : decode cX9_mobile 257 = .ok (.aload_n 0, 1) := by decide +kernel
theorem dX9_mobile_258 : decode cX9_mobile 258 = .ok (.iconst 0, 1) := by decide +kernel
theorem dX9_mobile_259 : decode cX9_mobile 259 = .ok (.putfield 113, 3) := by decide +kernel
theorem dX9_mobile_262 : decode cX9_mobile 262 = .ok (.aload_n 0, 1) := by decide +kernel
theorem dX9_mobile_263 : decode cX9_mobile 263 = .ok (.iconst 0, 1) := by decide +kernel
theorem dX9_mobile_264 : decode cX9_mobile 264 = .ok (.putfield 116, 3) := by decide +kernel
theorem dX9_mobile_267 : decode cX9_mobile 267 = .ok (.aload_n 0, 1) := by decide +kernel
theorem dX9_mobile_268 : decode cX9_mobile 268 = .ok (.iconst 0, 1) := by decide +kernel
theorem dX9_mobile_269 : decode cX9_mobile 269 = .ok (.putfield 119, 3) := by decide +kernel
theorem dX9_mobile_272 : decode cX9_mobile 272 = .ok (.aload_n 0, 1) := by decide +kernel
theorem dX9_mobile_273 : decode cX9_mobile 273 = .ok (.dup, 1) := by decide +kernel
theorem dX9_mobile_274 : decode cX9_mobile 274 = .ok (.getfield 122, 3) := by decide +kernel
theorem dX9_mobile_277 : decode cX9_mobile 277 = .ok (.iconst 1, 1) := by decide +kernel
theorem dX9_mobile_278 : decode cX9_mobile 278 = .ok (.iadd, 1) := by decide +kernel
theorem dX9_mobile_279 : decode cX9_mobile 279 = .ok (.putfield 122, 3) := by decide +kernel
theorem dX9_mobile_282 : decode cX9_mobile 282 = .ok (.aload_n 0, 1) := by decide +kernel
theorem dX9_mobile_283 : decode cX9_mobile 283 = .ok (.iconst 0, 1) := by decide +kernel
theorem dX9_mobile_284 : decode cX9_mobile 284 = .ok (.putfield 68, 3) := by decide +kernel
theorem dX9_mobile_287 : decode cX9_mobile 287 = .ok (.aload_n 0, 1) := by decide +kernel
theorem dX9_mobile_288 : decode cX9_mobile 288 = .ok (.getfield 107, 3) := by decide +kernel
theorem dX9_mobile_291 : decode cX9_mobile 291 = .ok (.ireturn, 1) := by decide +kernel
theorem dX9_lacks_0 : decode cX9_lacks 0 = .ok (.aload_n 0, 1) := by decide +kernel
theorem dX9_lacks_1 : decode cX9_lacks 1 = .ok (.getfield 104, 3) := by decide +kernel
theorem dX9_lacks_4 : decode cX9_lacks 4 = .ok (.ifCond .ne 7, 3) := by decide +kernel
theorem dX9_lacks_7 : decode cX9_lacks 7 = .ok (.iconst 1, 1) := by decide +kernel
theorem dX9_lacks_8 : decode cX9_lacks 8 = .ok (.goto 4, 3) := by decide +kernel
theorem dX9_lacks_11 : decode cX9_lacks 11 = .ok (.iconst 0, 1) := by decide +kernel
theorem dX9_lacks_12 : decode cX9_lacks 12 = .ok (.ireturn, 1) := by decide +kernel
theorem dX9_isRod_0 : decode cX9_isRod 0 = .ok (.iload_n 1, 1) := by decide +kernel
theorem dX9_isRod_1 : decode cX9_isRod 1 = .ok (.i2l, 1) := by decide +kernel
theorem dX9_isRod_2 : decode cX9_isRod 2 = .ok (.lconst 0, 1) := by decide +kernel
theorem dX9_isRod_3 : decode cX9_isRod 3 = .ok (.aload_n 0, 1) := by decide +kernel
theorem dX9_isRod_4 : decode cX9_isRod 4 = .ok (.getfield 104, 3) := by decide +kernel
theorem dX9_isRod_7 : decode cX9_isRod 7 = .ok (.iconst 1, 1) := by decide +kernel
theorem dX9_isRod_8 : decode cX9_isRod 8 = .ok (.isub, 1) := by decide +kernel
theorem dX9_isRod_9 : decode cX9_isRod 9 = .ok (.i2l, 1) := by decide +kernel
theorem dX9_isRod_10 : decode cX9_isRod 10 = .ok (.invokestatic 64, 3) := by decide +kernel
theorem dX9_isRod_13 : decode cX9_isRod 13 = .ok (.ireturn, 1) := by decide +kernel
theorem dX9_isThing_0 : decode cX9_isThing 0 = .ok (.iload_n 1, 1) := by decide +kernel
theorem dX9_isThing_1 : decode cX9_isThing 1 = .ok (.i2l, 1) := by decide +kernel
theorem dX9_isThing_2 : decode cX9_isThing 2 = .ok (.lconst 0, 1) := by decide +kernel
theorem dX9_isThing_3 : decode cX9_isThing 3 = .ok (.aload_n 0, 1) := by decide +kernel
theorem dX9_isThing_4 : decode cX9_isThing 4 = .ok (.getfield 107, 3) := by decide +kernel
theorem dX9_isThing_7 : decode cX9_isThing 7 = .ok (.iconst 1, 1) := by decide +kernel
theorem dX9_isThing_8 : decode cX9_isThing 8 = .ok (.isub, 1) := by decide +kernel
theorem dX9_isThing_9 : decode cX9_isThing 9 = .ok (.i2l, 1) := by decide +kernel
theorem dX9_isThing_10 : decode cX9_isThing 10 = .ok (.invokestatic 64, 3) := by decide +kernel
theorem dX9_isThing_13 : decode cX9_isThing 13 = .ok (.ireturn, 1) := by decide +kernel
theorem dX9_weighsBy_0 : decode cX9_weighsBy 0 = .ok (.iload_n 0, 1) := by decide +kernel
theorem dX9_weighsBy_1 : decode cX9_weighsBy 1 = .ok (.tableswitch 58 1 4 #[31, 35, 37, 41], 31) := by decide +kernel
theorem dX9_weighsBy_32 : decode cX9_weighsBy 32 = .ok (.iconst 2, 1) := by decide +kernel
theorem dX9_weighsBy_33 : decode cX9_weighsBy 33 = .ok (.iload_n 1, 1) := by decide +kernel
theorem dX9_weighsBy_34 : decode cX9_weighsBy 34 = .ok (.imul, 1) := by decide +kernel
theorem dX9_weighsBy_35 : decode cX9_weighsBy 35 = .ok (.ireturn, 1) := by decide +kernel
theorem dX9_weighsBy_36 : decode cX9_weighsBy 36 = .ok (.iconst 0, 1) := by decide +kernel
theorem dX9_weighsBy_37 : decode cX9_weighsBy 37 = .ok (.ireturn, 1) := by decide +kernel
theorem dX9_weighsBy_38 : decode cX9_weighsBy 38 = .ok (.iconst 0, 1) := by decide +kernel
theorem dX9_weighsBy_39 : decode cX9_weighsBy 39 = .ok (.iload_n 1, 1) := by decide +kernel
theorem dX9_weighsBy_40 : decode cX9_weighsBy 40 = .ok (.isub, 1) := by decide +kernel
theorem dX9_weighsBy_41 : decode cX9_weighsBy 41 = .ok (.ireturn, 1) := by decide +kernel
theorem dX9_weighsBy_42 : decode cX9_weighsBy 42 = .ok (.iconst 2, 1) := by decide +kernel
theorem dX9_weighsBy_43 : decode cX9_weighsBy 43 = .ok (.iload_n 1, 1) := by decide +kernel
theorem dX9_weighsBy_44 : decode cX9_weighsBy 44 = .ok (.imul, 1) := by decide +kernel
theorem dX9_weighsBy_45 : decode cX9_weighsBy 45 = .ok (.iload_n 2, 1) := by decide +kernel
theorem dX9_weighsBy_46 : decode cX9_weighsBy 46 = .ok (.if_icmp .le 11, 3) := by decide +kernel
theorem dX9_weighsBy_49 : decode cX9_weighsBy 49 = .ok (.iconst 2, 1) := by decide +kernel
theorem dX9_weighsBy_50 : decode cX9_weighsBy 50 = .ok (.iload_n 1, 1) := by decide +kernel
theorem dX9_weighsBy_51 : decode cX9_weighsBy 51 = .ok (.imul, 1) := by decide +kernel
theorem dX9_weighsBy_52 : decode cX9_weighsBy 52 = .ok (.iload_n 2, 1) := by decide +kernel
theorem dX9_weighsBy_53 : decode cX9_weighsBy 53 = .ok (.isub, 1) := by decide +kernel
theorem dX9_weighsBy_54 : decode cX9_weighsBy 54 = .ok (.goto 4, 3) := by decide +kernel
theorem dX9_weighsBy_57 : decode cX9_weighsBy 57 = .ok (.iconst 0, 1) := by decide +kernel
theorem dX9_weighsBy_58 : decode cX9_weighsBy 58 = .ok (.ireturn, 1) := by decide +kernel
theorem dX9_weighsBy_59 : decode cX9_weighsBy 59 = .ok (.iload_n 1, 1) := by decide +kernel
theorem dX9_weighsBy_60 : decode cX9_weighsBy 60 = .ok (.ireturn, 1) := by decide +kernel
theorem dX9_begin_0 : decode cX9_begin 0 = .ok (.aload_n 0, 1) := by decide +kernel
theorem dX9_begin_1 : decode cX9_begin 1 = .ok (.getfield 28, 3) := by decide +kernel
theorem dX9_begin_4 : decode cX9_begin 4 = .ok (.aload_n 0, 1) := by decide +kernel
theorem dX9_begin_5 : decode cX9_begin 5 = .ok (.getfield 31, 3) := by decide +kernel
theorem dX9_begin_8 : decode cX9_begin 8 = .ok (.invokestatic 125, 3) := by decide +kernel
theorem dX9_begin_11 : decode cX9_begin 11 = .ok (.aload_n 0, 1) := by decide +kernel
theorem dX9_begin_12 : decode cX9_begin 12 = .ok (.aload_n 0, 1) := by decide +kernel
theorem dX9_begin_13 : decode cX9_begin 13 = .ok (.getfield 110, 3) := by decide +kernel
theorem dX9_begin_16 : decode cX9_begin 16 = .ok (.putfield 129, 3) := by decide +kernel
theorem dX9_begin_19 : decode cX9_begin 19 = .ok (.return_, 1) := by decide +kernel
theorem dX9_thingThen_0 : decode cX9_thingThen 0 = .ok (.aload_n 0, 1) := by decide +kernel
theorem dX9_thingThen_1 : decode cX9_thingThen 1 = .ok (.getfield 116, 3) := by decide +kernel
theorem dX9_thingThen_4 : decode cX9_thingThen 4 = .ok (.iload_n 1, 1) := by decide +kernel
theorem dX9_thingThen_5 : decode cX9_thingThen 5 = .ok (.ishr, 1) := by decide +kernel
theorem dX9_thingThen_6 : decode cX9_thingThen 6 = .ok (.iconst 1, 1) := by decide +kernel
theorem dX9_thingThen_7 : decode cX9_thingThen 7 = .ok (.iand, 1) := by decide +kernel
theorem dX9_thingThen_8 : decode cX9_thingThen 8 = .ok (.iconst 1, 1) := by decide +kernel
theorem dX9_thingThen_9 : decode cX9_thingThen 9 = .ok (.if_icmp .ne 7, 3) := by decide +kernel
theorem dX9_thingThen_12 : decode cX9_thingThen 12 = .ok (.iconst 0, 1) := by decide +kernel
theorem dX9_thingThen_13 : decode cX9_thingThen 13 = .ok (.goto 22, 3) := by decide +kernel
theorem dX9_thingThen_16 : decode cX9_thingThen 16 = .ok (.aload_n 0, 1) := by decide +kernel
theorem dX9_thingThen_17 : decode cX9_thingThen 17 = .ok (.getfield 22, 3) := by decide +kernel
theorem dX9_thingThen_20 : decode cX9_thingThen 20 = .ok (.iload_n 1, 1) := by decide +kernel
theorem dX9_thingThen_21 : decode cX9_thingThen 21 = .ok (.iaload, 1) := by decide +kernel
theorem dX9_thingThen_22 : decode cX9_thingThen 22 = .ok (.aload_n 0, 1) := by decide +kernel
theorem dX9_thingThen_23 : decode cX9_thingThen 23 = .ok (.getfield 25, 3) := by decide +kernel
theorem dX9_thingThen_26 : decode cX9_thingThen 26 = .ok (.iload_n 1, 1) := by decide +kernel
theorem dX9_thingThen_27 : decode cX9_thingThen 27 = .ok (.iaload, 1) := by decide +kernel
theorem dX9_thingThen_28 : decode cX9_thingThen 28 = .ok (.aload_n 0, 1) := by decide +kernel
theorem dX9_thingThen_29 : decode cX9_thingThen 29 = .ok (.getfield 129, 3) := by decide +kernel
theorem dX9_thingThen_32 : decode cX9_thingThen 32 = .ok (.invokestatic 132, 3) := by decide +kernel
theorem dX9_thingThen_35 : decode cX9_thingThen 35 = .ok (.ireturn, 1) := by decide +kernel
theorem dX9_hungThen_0 : decode cX9_hungThen 0 = .ok (.aload_n 0, 1) := by decide +kernel
theorem dX9_hungThen_1 : decode cX9_hungThen 1 = .ok (.getfield 16, 3) := by decide +kernel
theorem dX9_hungThen_4 : decode cX9_hungThen 4 = .ok (.iload_n 1, 1) := by decide +kernel
theorem dX9_hungThen_5 : decode cX9_hungThen 5 = .ok (.iaload, 1) := by decide +kernel
theorem dX9_hungThen_6 : decode cX9_hungThen 6 = .ok (.istore_n 2, 1) := by decide +kernel
theorem dX9_hungThen_7 : decode cX9_hungThen 7 = .ok (.iload_n 2, 1) := by decide +kernel
theorem dX9_hungThen_8 : decode cX9_hungThen 8 = .ok (.bipush 10, 2) := by decide +kernel
theorem dX9_hungThen_10 : decode cX9_hungThen 10 = .ok (.if_icmp .lt 17, 3) := by decide +kernel
theorem dX9_hungThen_13 : decode cX9_hungThen 13 = .ok (.aload_n 0, 1) := by decide +kernel
theorem dX9_hungThen_14 : decode cX9_hungThen 14 = .ok (.aload_n 0, 1) := by decide +kernel
theorem dX9_hungThen_15 : decode cX9_hungThen 15 = .ok (.getfield 31, 3) := by decide +kernel
theorem dX9_hungThen_18 : decode cX9_hungThen 18 = .ok (.iload_n 2, 1) := by decide +kernel
theorem dX9_hungThen_19 : decode cX9_hungThen 19 = .ok (.bipush 10, 2) := by decide +kernel
theorem dX9_hungThen_21 : decode cX9_hungThen 21 = .ok (.isub, 1) := by decide +kernel
theorem dX9_hungThen_22 : decode cX9_hungThen 22 = .ok (.iaload, 1) := by decide +kernel
theorem dX9_hungThen_23 : decode cX9_hungThen 23 = .ok (.invokevirtual 136, 3) := by decide +kernel
theorem dX9_hungThen_26 : decode cX9_hungThen 26 = .ok (.ireturn, 1) := by decide +kernel
theorem dX9_hungThen_27 : decode cX9_hungThen 27 = .ok (.aload_n 0, 1) := by decide +kernel
theorem dX9_hungThen_28 : decode cX9_hungThen 28 = .ok (.getfield 113, 3) := by decide +kernel
theorem dX9_hungThen_31 : decode cX9_hungThen 31 = .ok (.iload_n 2, 1) := by decide +kernel
theorem dX9_hungThen_32 : decode cX9_hungThen 32 = .ok (.ishr, 1) := by decide +kernel
theorem dX9_hungThen_33 : decode cX9_hungThen 33 = .ok (.iconst 1, 1) := by decide +kernel
theorem dX9_hungThen_34 : decode cX9_hungThen 34 = .ok (.iand, 1) := by decide +kernel
theorem dX9_hungThen_35 : decode cX9_hungThen 35 = .ok (.iconst 1, 1) := by decide +kernel
theorem dX9_hungThen_36 : decode cX9_hungThen 36 = .ok (.if_icmp .ne 7, 3) := by decide +kernel
theorem dX9_hungThen_39 : decode cX9_hungThen 39 = .ok (.iconst 0, 1) := by decide +kernel
theorem dX9_hungThen_40 : decode cX9_hungThen 40 = .ok (.goto 9, 3) := by decide +kernel
theorem dX9_hungThen_43 : decode cX9_hungThen 43 = .ok (.aload_n 0, 1) := by decide +kernel
theorem dX9_hungThen_44 : decode cX9_hungThen 44 = .ok (.getfield 34, 3) := by decide +kernel
theorem dX9_hungThen_47 : decode cX9_hungThen 47 = .ok (.iload_n 2, 1) := by decide +kernel
theorem dX9_hungThen_48 : decode cX9_hungThen 48 = .ok (.iaload, 1) := by decide +kernel
theorem dX9_hungThen_49 : decode cX9_hungThen 49 = .ok (.ireturn, 1) := by decide +kernel
theorem dX9_layTilts_0 : decode cX9_layTilts 0 = .ok (.aload_n 0, 1) := by decide +kernel
theorem dX9_layTilts_1 : decode cX9_layTilts 1 = .ok (.getfield 104, 3) := by decide +kernel
theorem dX9_layTilts_4 : decode cX9_layTilts 4 = .ok (.iconst 1, 1) := by decide +kernel
theorem dX9_layTilts_5 : decode cX9_layTilts 5 = .ok (.isub, 1) := by decide +kernel
theorem dX9_layTilts_6 : decode cX9_layTilts 6 = .ok (.istore_n 1, 1) := by decide +kernel
theorem dX9_layTilts_7 : decode cX9_layTilts 7 = .ok (.iload_n 1, 1) := by decide +kernel
theorem dX9_layTilts_8 : decode cX9_layTilts 8 = .ok (.ifCond .lt 65, 3) := by decide +kernel
theorem dX9_layTilts_11 : decode cX9_layTilts 11 = .ok (.aload_n 0, 1) := by decide +kernel
theorem dX9_layTilts_12 : decode cX9_layTilts 12 = .ok (.iconst 2, 1) := by decide +kernel
theorem dX9_layTilts_13 : decode cX9_layTilts 13 = .ok (.iload_n 1, 1) := by decide +kernel
theorem dX9_layTilts_14 : decode cX9_layTilts 14 = .ok (.imul, 1) := by decide +kernel
theorem dX9_layTilts_15 : decode cX9_layTilts 15 = .ok (.invokevirtual 139, 3) := by decide +kernel
theorem dX9_layTilts_18 : decode cX9_layTilts 18 = .ok (.istore_n 2, 1) := by decide +kernel
theorem dX9_layTilts_19 : decode cX9_layTilts 19 = .ok (.aload_n 0, 1) := by decide +kernel
theorem dX9_layTilts_20 : decode cX9_layTilts 20 = .ok (.iconst 2, 1) := by decide +kernel
theorem dX9_layTilts_21 : decode cX9_layTilts 21 = .ok (.iload_n 1, 1) := by decide +kernel
theorem dX9_layTilts_22 : decode cX9_layTilts 22 = .ok (.imul, 1) := by decide +kernel
theorem dX9_layTilts_23 : decode cX9_layTilts 23 = .ok (.iconst 1, 1) := by decide +kernel
theorem dX9_layTilts_24 : decode cX9_layTilts 24 = .ok (.iadd, 1) := by decide +kernel
theorem dX9_layTilts_25 : decode cX9_layTilts 25 = .ok (.invokevirtual 139, 3) := by decide +kernel
theorem dX9_layTilts_28 : decode cX9_layTilts 28 = .ok (.istore_n 3, 1) := by decide +kernel
theorem dX9_layTilts_29 : decode cX9_layTilts 29 = .ok (.aload_n 0, 1) := by decide +kernel
theorem dX9_layTilts_30 : decode cX9_layTilts 30 = .ok (.getfield 34, 3) := by decide +kernel
theorem dX9_layTilts_33 : decode cX9_layTilts 33 = .ok (.iload_n 1, 1) := by decide +kernel
theorem dX9_layTilts_34 : decode cX9_layTilts 34 = .ok (.iload_n 2, 1) := by decide +kernel
theorem dX9_layTilts_35 : decode cX9_layTilts 35 = .ok (.iload_n 3, 1) := by decide +kernel
theorem dX9_layTilts_36 : decode cX9_layTilts 36 = .ok (.iadd, 1) := by decide +kernel
theorem dX9_layTilts_37 : decode cX9_layTilts 37 = .ok (.iastore, 1) := by decide +kernel
theorem dX9_layTilts_38 : decode cX9_layTilts 38 = .ok (.aload_n 0, 1) := by decide +kernel
theorem dX9_layTilts_39 : decode cX9_layTilts 39 = .ok (.getfield 37, 3) := by decide +kernel
theorem dX9_layTilts_42 : decode cX9_layTilts 42 = .ok (.iload_n 1, 1) := by decide +kernel
theorem dX9_layTilts_43 : decode cX9_layTilts 43 = .ok (.iload_n 3, 1) := by decide +kernel
theorem dX9_layTilts_44 : decode cX9_layTilts 44 = .ok (.aload_n 0, 1) := by decide +kernel
theorem dX9_layTilts_45 : decode cX9_layTilts 45 = .ok (.getfield 13, 3) := by decide +kernel
theorem dX9_layTilts_48 : decode cX9_layTilts 48 = .ok (.iconst 2, 1) := by decide +kernel
theorem dX9_layTilts_49 : decode cX9_layTilts 49 = .ok (.iload_n 1, 1) := by decide +kernel
theorem dX9_layTilts_50 : decode cX9_layTilts 50 = .ok (.imul, 1) := by decide +kernel
theorem dX9_layTilts_51 : decode cX9_layTilts 51 = .ok (.iconst 1, 1) := by decide +kernel
theorem dX9_layTilts_52 : decode cX9_layTilts 52 = .ok (.iadd, 1) := by decide +kernel
theorem dX9_layTilts_53 : decode cX9_layTilts 53 = .ok (.iaload, 1) := by decide +kernel
theorem dX9_layTilts_54 : decode cX9_layTilts 54 = .ok (.imul, 1) := by decide +kernel
theorem dX9_layTilts_55 : decode cX9_layTilts 55 = .ok (.iload_n 2, 1) := by decide +kernel
theorem dX9_layTilts_56 : decode cX9_layTilts 56 = .ok (.aload_n 0, 1) := by decide +kernel
theorem dX9_layTilts_57 : decode cX9_layTilts 57 = .ok (.getfield 13, 3) := by decide +kernel
theorem dX9_layTilts_60 : decode cX9_layTilts 60 = .ok (.iconst 2, 1) := by decide +kernel
theorem dX9_layTilts_61 : decode cX9_layTilts 61 = .ok (.iload_n 1, 1) := by decide +kernel
theorem dX9_layTilts_62 : decode cX9_layTilts 62 = .ok (.imul, 1) := by decide +kernel
theorem dX9_layTilts_63 : decode cX9_layTilts 63 = .ok (.iaload, 1) := by decide +kernel
theorem dX9_layTilts_64 : decode cX9_layTilts 64 = .ok (.imul, 1) := by decide +kernel
theorem dX9_layTilts_65 : decode cX9_layTilts 65 = .ok (.isub, 1) := by decide +kernel
theorem dX9_layTilts_66 : decode cX9_layTilts 66 = .ok (.iastore, 1) := by decide +kernel
theorem dX9_layTilts_67 : decode cX9_layTilts 67 = .ok (.iinc 1 (-1), 3) := by decide +kernel
theorem dX9_layTilts_70 : decode cX9_layTilts 70 = .ok (.goto (-63), 3) := by decide +kernel
theorem dX9_layTilts_73 : decode cX9_layTilts 73 = .ok (.return_, 1) := by decide +kernel
theorem dX9_there_0 : decode cX9_there 0 = .ok (.aload_n 0, 1) := by decide +kernel
theorem dX9_there_1 : decode cX9_there 1 = .ok (.getfield 104, 3) := by decide +kernel
theorem dX9_there_4 : decode cX9_there 4 = .ok (.ifCond .le 7, 3) := by decide +kernel
theorem dX9_there_7 : decode cX9_there 7 = .ok (.iconst 1, 1) := by decide +kernel
theorem dX9_there_8 : decode cX9_there 8 = .ok (.goto 4, 3) := by decide +kernel
theorem dX9_there_11 : decode cX9_there 11 = .ok (.iconst 0, 1) := by decide +kernel
theorem dX9_there_12 : decode cX9_there 12 = .ok (.istore_n 1, 1) := by decide +kernel
theorem dX9_there_13 : decode cX9_there 13 = .ok (.iconst 0, 1) := by decide +kernel
theorem dX9_there_14 : decode cX9_there 14 = .ok (.istore_n 2, 1) := by decide +kernel
theorem dX9_there_15 : decode cX9_there 15 = .ok (.iload_n 2, 1) := by decide +kernel
theorem dX9_there_16 : decode cX9_there 16 = .ok (.iconst 2, 1) := by decide +kernel
theorem dX9_there_17 : decode cX9_there 17 = .ok (.aload_n 0, 1) := by decide +kernel
theorem dX9_there_18 : decode cX9_there 18 = .ok (.getfield 104, 3) := by decide +kernel
theorem dX9_there_21 : decode cX9_there 21 = .ok (.imul, 1) := by decide +kernel
theorem dX9_there_22 : decode cX9_there 22 = .ok (.if_icmp .ge 66, 3) := by decide +kernel
theorem dX9_there_25 : decode cX9_there 25 = .ok (.aload_n 0, 1) := by decide +kernel
theorem dX9_there_26 : decode cX9_there 26 = .ok (.getfield 16, 3) := by decide +kernel
theorem dX9_there_29 : decode cX9_there 29 = .ok (.iload_n 2, 1) := by decide +kernel
theorem dX9_there_30 : decode cX9_there 30 = .ok (.iaload, 1) := by decide +kernel
theorem dX9_there_31 : decode cX9_there 31 = .ok (.istore_n 3, 1) := by decide +kernel
theorem dX9_there_32 : decode cX9_there 32 = .ok (.iload_n 3, 1) := by decide +kernel
theorem dX9_there_33 : decode cX9_there 33 = .ok (.bipush 10, 2) := by decide +kernel
theorem dX9_there_35 : decode cX9_there 35 = .ok (.if_icmp .ge 29, 3) := by decide +kernel
theorem dX9_there_38 : decode cX9_there 38 = .ok (.iload_n 1, 1) := by decide +kernel
theorem dX9_there_39 : decode cX9_there 39 = .ok (.iload_n 2, 1) := by decide +kernel
theorem dX9_there_40 : decode cX9_there 40 = .ok (.iconst 2, 1) := by decide +kernel
theorem dX9_there_41 : decode cX9_there 41 = .ok (.idiv, 1) := by decide +kernel
theorem dX9_there_42 : decode cX9_there 42 = .ok (.ishr, 1) := by decide +kernel
theorem dX9_there_43 : decode cX9_there 43 = .ok (.iconst 1, 1) := by decide +kernel
theorem dX9_there_44 : decode cX9_there 44 = .ok (.iand, 1) := by decide +kernel
theorem dX9_there_45 : decode cX9_there 45 = .ok (.iconst 1, 1) := by decide +kernel
theorem dX9_there_46 : decode cX9_there 46 = .ok (.if_icmp .ne 18, 3) := by decide +kernel
theorem dX9_there_49 : decode cX9_there 49 = .ok (.aload_n 0, 1) := by decide +kernel
theorem dX9_there_50 : decode cX9_there 50 = .ok (.getfield 113, 3) := by decide +kernel
theorem dX9_there_53 : decode cX9_there 53 = .ok (.iload_n 3, 1) := by decide +kernel
theorem dX9_there_54 : decode cX9_there 54 = .ok (.ishr, 1) := by decide +kernel
theorem dX9_there_55 : decode cX9_there 55 = .ok (.iconst 1, 1) := by decide +kernel
theorem dX9_there_56 : decode cX9_there 56 = .ok (.iand, 1) := by decide +kernel
theorem dX9_there_57 : decode cX9_there 57 = .ok (.ifCond .ne 7, 3) := by decide +kernel
theorem dX9_there_60 : decode cX9_there 60 = .ok (.iconst 1, 1) := by decide +kernel
theorem dX9_there_61 : decode cX9_there 61 = .ok (.goto 4, 3) := by decide +kernel
theorem dX9_there_64 : decode cX9_there 64 = .ok (.iconst 0, 1) := by decide +kernel
theorem dX9_there_65 : decode cX9_there 65 = .ok (.istore 4, 2) := by decide +kernel
theorem dX9_there_67 : decode cX9_there 67 = .ok (.iload_n 1, 1) := by decide +kernel
theorem dX9_there_68 : decode cX9_there 68 = .ok (.iload 4, 2) := by decide +kernel
theorem dX9_there_70 : decode cX9_there 70 = .ok (.ifCond .eq 9, 3) := by decide +kernel
theorem dX9_there_73 : decode cX9_there 73 = .ok (.iconst 1, 1) := by decide +kernel
theorem dX9_there_74 : decode cX9_there 74 = .ok (.iload_n 3, 1) := by decide +kernel
theorem dX9_there_75 : decode cX9_there 75 = .ok (.ishl, 1) := by decide +kernel
theorem dX9_there_76 : decode cX9_there 76 = .ok (.goto 4, 3) := by decide +kernel
theorem dX9_there_79 : decode cX9_there 79 = .ok (.iconst 0, 1) := by decide +kernel
theorem dX9_there_80 : decode cX9_there 80 = .ok (.ior, 1) := by decide +kernel
theorem dX9_there_81 : decode cX9_there 81 = .ok (.istore_n 1, 1) := by decide +kernel
theorem dX9_there_82 : decode cX9_there 82 = .ok (.iinc 2 1, 3) := by decide +kernel
theorem dX9_there_85 : decode cX9_there 85 = .ok (.goto (-70), 3) := by decide +kernel
theorem dX9_there_88 : decode cX9_there 88 = .ok (.iload_n 1, 1) := by decide +kernel
theorem dX9_there_89 : decode cX9_there 89 = .ok (.ireturn, 1) := by decide +kernel
theorem dX9_levelThen_0 : decode cX9_levelThen 0 = .ok (.aload_n 0, 1) := by decide +kernel
theorem dX9_levelThen_1 : decode cX9_levelThen 1 = .ok (.invokevirtual 142, 3) := by decide +kernel
theorem dX9_levelThen_4 : decode cX9_levelThen 4 = .ok (.aload_n 0, 1) := by decide +kernel
theorem dX9_levelThen_5 : decode cX9_levelThen 5 = .ok (.invokevirtual 145, 3) := by decide +kernel
theorem dX9_levelThen_8 : decode cX9_levelThen 8 = .ok (.istore_n 1, 1) := by decide +kernel
theorem dX9_levelThen_9 : decode cX9_levelThen 9 = .ok (.iconst 0, 1) := by decide +kernel
theorem dX9_levelThen_10 : decode cX9_levelThen 10 = .ok (.istore_n 2, 1) := by decide +kernel
theorem dX9_levelThen_11 : decode cX9_levelThen 11 = .ok (.iconst 0, 1) := by decide +kernel
theorem dX9_levelThen_12 : decode cX9_levelThen 12 = .ok (.istore_n 3, 1) := by decide +kernel
theorem dX9_levelThen_13 : decode cX9_levelThen 13 = .ok (.iload_n 3, 1) := by decide +kernel
theorem dX9_levelThen_14 : decode cX9_levelThen 14 = .ok (.aload_n 0, 1) := by decide +kernel
theorem dX9_levelThen_15 : decode cX9_levelThen 15 = .ok (.getfield 104, 3) := by decide +kernel
theorem dX9_levelThen_18 : decode cX9_levelThen 18 = .ok (.if_icmp .ge 35, 3) := by decide +kernel
theorem dX9_levelThen_21 : decode cX9_levelThen 21 = .ok (.iload_n 2, 1) := by decide +kernel
theorem dX9_levelThen_22 : decode cX9_levelThen 22 = .ok (.iload_n 1, 1) := by decide +kernel
theorem dX9_levelThen_23 : decode cX9_levelThen 23 = .ok (.iload_n 3, 1) := by decide +kernel
theorem dX9_levelThen_24 : decode cX9_levelThen 24 = .ok (.ishr, 1) := by decide +kernel
theorem dX9_levelThen_25 : decode cX9_levelThen 25 = .ok (.iconst 1, 1) := by decide +kernel
theorem dX9_levelThen_26 : decode cX9_levelThen 26 = .ok (.iand, 1) := by decide +kernel
theorem dX9_levelThen_27 : decode cX9_levelThen 27 = .ok (.iconst 1, 1) := by decide +kernel
theorem dX9_levelThen_28 : decode cX9_levelThen 28 = .ok (.if_icmp .ne 16, 3) := by decide +kernel
theorem dX9_levelThen_31 : decode cX9_levelThen 31 = .ok (.aload_n 0, 1) := by decide +kernel
theorem dX9_levelThen_32 : decode cX9_levelThen 32 = .ok (.getfield 37, 3) := by decide +kernel
theorem dX9_levelThen_35 : decode cX9_levelThen 35 = .ok (.iload_n 3, 1) := by decide +kernel
theorem dX9_levelThen_36 : decode cX9_levelThen 36 = .ok (.iaload, 1) := by decide +kernel
theorem dX9_levelThen_37 : decode cX9_levelThen 37 = .ok (.ifCond .ne 7, 3) := by decide +kernel
theorem dX9_levelThen_40 : decode cX9_levelThen 40 = .ok (.iconst 1, 1) := by decide +kernel
theorem dX9_levelThen_41 : decode cX9_levelThen 41 = .ok (.goto 4, 3) := by decide +kernel
theorem dX9_levelThen_44 : decode cX9_levelThen 44 = .ok (.iconst 0, 1) := by decide +kernel
theorem dX9_levelThen_45 : decode cX9_levelThen 45 = .ok (.iadd, 1) := by decide +kernel
theorem dX9_levelThen_46 : decode cX9_levelThen 46 = .ok (.istore_n 2, 1) := by decide +kernel
theorem dX9_levelThen_47 : decode cX9_levelThen 47 = .ok (.iinc 3 1, 3) := by decide +kernel
theorem dX9_levelThen_50 : decode cX9_levelThen 50 = .ok (.goto (-37), 3) := by decide +kernel
theorem dX9_levelThen_53 : decode cX9_levelThen 53 = .ok (.iload_n 2, 1) := by decide +kernel
theorem dX9_levelThen_54 : decode cX9_levelThen 54 = .ok (.ireturn, 1) := by decide +kernel
theorem dX9_levelNow_0 : decode cX9_levelNow 0 = .ok (.aload_n 0, 1) := by decide +kernel
theorem dX9_levelNow_1 : decode cX9_levelNow 1 = .ok (.invokevirtual 148, 3) := by decide +kernel
theorem dX9_levelNow_4 : decode cX9_levelNow 4 = .ok (.aload_n 0, 1) := by decide +kernel
theorem dX9_levelNow_5 : decode cX9_levelNow 5 = .ok (.invokevirtual 151, 3) := by decide +kernel
theorem dX9_levelNow_8 : decode cX9_levelNow 8 = .ok (.ireturn, 1) := by decide +kernel
theorem dX9_ones_0 : decode cX9_ones 0 = .ok (.iconst 0, 1) := by decide +kernel
theorem dX9_ones_1 : decode cX9_ones 1 = .ok (.istore_n 1, 1) := by decide +kernel
theorem dX9_ones_2 : decode cX9_ones 2 = .ok (.iconst 0, 1) := by decide +kernel
theorem dX9_ones_3 : decode cX9_ones 3 = .ok (.istore_n 2, 1) := by decide +kernel
theorem dX9_ones_4 : decode cX9_ones 4 = .ok (.iload_n 2, 1) := by decide +kernel
theorem dX9_ones_5 : decode cX9_ones 5 = .ok (.bipush 10, 2) := by decide +kernel
theorem dX9_ones_7 : decode cX9_ones 7 = .ok (.if_icmp .ge 17, 3) := by decide +kernel
theorem dX9_ones_10 : decode cX9_ones 10 = .ok (.iload_n 1, 1) := by decide +kernel
theorem dX9_ones_11 : decode cX9_ones 11 = .ok (.iload_n 0, 1) := by decide +kernel
theorem dX9_ones_12 : decode cX9_ones 12 = .ok (.iload_n 2, 1) := by decide +kernel
theorem dX9_ones_13 : decode cX9_ones 13 = .ok (.ishr, 1) := by decide +kernel
theorem dX9_ones_14 : decode cX9_ones 14 = .ok (.iconst 1, 1) := by decide +kernel
theorem dX9_ones_15 : decode cX9_ones 15 = .ok (.iand, 1) := by decide +kernel
theorem dX9_ones_16 : decode cX9_ones 16 = .ok (.iadd, 1) := by decide +kernel
theorem dX9_ones_17 : decode cX9_ones 17 = .ok (.istore_n 1, 1) := by decide +kernel
theorem dX9_ones_18 : decode cX9_ones 18 = .ok (.iinc 2 1, 3) := by decide +kernel
theorem dX9_ones_21 : decode cX9_ones 21 = .ok (.goto (-17), 3) := by decide +kernel
theorem dX9_ones_24 : decode cX9_ones 24 = .ok (.iload_n 1, 1) := by decide +kernel
theorem dX9_ones_25 : decode cX9_ones 25 = .ok (.ireturn, 1) := by decide +kernel
theorem dX9_hookOf_0 : decode cX9_hookOf 0 = .ok (.aload_n 0, 1) := by decide +kernel
theorem dX9_hookOf_1 : decode cX9_hookOf 1 = .ok (.getfield 13, 3) := by decide +kernel
theorem dX9_hookOf_4 : decode cX9_hookOf 4 = .ok (.iconst 2, 1) := by decide +kernel
theorem dX9_hookOf_5 : decode cX9_hookOf 5 = .ok (.iload_n 1, 1) := by decide +kernel
theorem dX9_hookOf_6 : decode cX9_hookOf 6 = .ok (.imul, 1) := by decide +kernel
theorem dX9_hookOf_7 : decode cX9_hookOf 7 = .ok (.iaload, 1) := by decide +kernel
theorem dX9_hookOf_8 : decode cX9_hookOf 8 = .ok (.aload_n 0, 1) := by decide +kernel
theorem dX9_hookOf_9 : decode cX9_hookOf 9 = .ok (.getfield 13, 3) := by decide +kernel
theorem dX9_hookOf_12 : decode cX9_hookOf 12 = .ok (.iconst 2, 1) := by decide +kernel
theorem dX9_hookOf_13 : decode cX9_hookOf 13 = .ok (.iload_n 1, 1) := by decide +kernel
theorem dX9_hookOf_14 : decode cX9_hookOf 14 = .ok (.imul, 1) := by decide +kernel
theorem dX9_hookOf_15 : decode cX9_hookOf 15 = .ok (.iconst 1, 1) := by decide +kernel
theorem dX9_hookOf_16 : decode cX9_hookOf 16 = .ok (.iadd, 1) := by decide +kernel
theorem dX9_hookOf_17 : decode cX9_hookOf 17 = .ok (.iaload, 1) := by decide +kernel
theorem dX9_hookOf_18 : decode cX9_hookOf 18 = .ok (.iadd, 1) := by decide +kernel
theorem dX9_hookOf_19 : decode cX9_hookOf 19 = .ok (.istore_n 2, 1) := by decide +kernel
theorem dX9_hookOf_20 : decode cX9_hookOf 20 = .ok (.aload_n 0, 1) := by decide +kernel
theorem dX9_hookOf_21 : decode cX9_hookOf 21 = .ok (.iconst 2, 1) := by decide +kernel
theorem dX9_hookOf_22 : decode cX9_hookOf 22 = .ok (.iload_n 1, 1) := by decide +kernel
theorem dX9_hookOf_23 : decode cX9_hookOf 23 = .ok (.imul, 1) := by decide +kernel
theorem dX9_hookOf_24 : decode cX9_hookOf 24 = .ok (.invokevirtual 139, 3) := by decide +kernel
theorem dX9_hookOf_27 : decode cX9_hookOf 27 = .ok (.istore_n 3, 1) := by decide +kernel
theorem dX9_hookOf_28 : decode cX9_hookOf 28 = .ok (.aload_n 0, 1) := by decide +kernel
theorem dX9_hookOf_29 : decode cX9_hookOf 29 = .ok (.iconst 2, 1) := by decide +kernel
theorem dX9_hookOf_30 : decode cX9_hookOf 30 = .ok (.iload_n 1, 1) := by decide +kernel
theorem dX9_hookOf_31 : decode cX9_hookOf 31 = .ok (.imul, 1) := by decide +kernel
theorem dX9_hookOf_32 : decode cX9_hookOf 32 = .ok (.iconst 1, 1) := by decide +kernel
theorem dX9_hookOf_33 : decode cX9_hookOf 33 = .ok (.iadd, 1) := by decide +kernel
theorem dX9_hookOf_34 : decode cX9_hookOf 34 = .ok (.invokevirtual 139, 3) := by decide +kernel
theorem dX9_hookOf_37 : decode cX9_hookOf 37 = .ok (.istore 4, 2) := by decide +kernel
theorem dX9_hookOf_39 : decode cX9_hookOf 39 = .ok (.iconst 1, 1) := by decide +kernel
theorem dX9_hookOf_40 : decode cX9_hookOf 40 = .ok (.istore 5, 2) := by decide +kernel
theorem dX9_hookOf_42 : decode cX9_hookOf 42 = .ok (.iload 5, 2) := by decide +kernel
theorem dX9_hookOf_44 : decode cX9_hookOf 44 = .ok (.iload_n 2, 1) := by decide +kernel
theorem dX9_hookOf_45 : decode cX9_hookOf 45 = .ok (.if_icmp .ge 26, 3) := by decide +kernel
theorem dX9_hookOf_48 : decode cX9_hookOf 48 = .ok (.iload 4, 2) := by decide +kernel
theorem dX9_hookOf_50 : decode cX9_hookOf 50 = .ok (.iload_n 2, 1) := by decide +kernel
theorem dX9_hookOf_51 : decode cX9_hookOf 51 = .ok (.iload 5, 2) := by decide +kernel
theorem dX9_hookOf_53 : decode cX9_hookOf 53 = .ok (.isub, 1) := by decide +kernel
theorem dX9_hookOf_54 : decode cX9_hookOf 54 = .ok (.imul, 1) := by decide +kernel
theorem dX9_hookOf_55 : decode cX9_hookOf 55 = .ok (.iload_n 3, 1) := by decide +kernel
theorem dX9_hookOf_56 : decode cX9_hookOf 56 = .ok (.iload 5, 2) := by decide +kernel
theorem dX9_hookOf_58 : decode cX9_hookOf 58 = .ok (.imul, 1) := by decide +kernel
theorem dX9_hookOf_59 : decode cX9_hookOf 59 = .ok (.if_icmp .ne 6, 3) := by decide +kernel
theorem dX9_hookOf_62 : decode cX9_hookOf 62 = .ok (.iload 5, 2) := by decide +kernel
theorem dX9_hookOf_64 : decode cX9_hookOf 64 = .ok (.ireturn, 1) := by decide +kernel
theorem dX9_hookOf_65 : decode cX9_hookOf 65 = .ok (.iinc 5 1, 3) := by decide +kernel
theorem dX9_hookOf_68 : decode cX9_hookOf 68 = .ok (.goto (-26), 3) := by decide +kernel
theorem dX9_hookOf_71 : decode cX9_hookOf 71 = .ok (.iconst (-1), 1) := by decide +kernel
theorem dX9_hookOf_72 : decode cX9_hookOf 72 = .ok (.ireturn, 1) := by decide +kernel
theorem dX9_addOf_0 : decode cX9_addOf 0 = .ok (.iconst 0, 1) := by decide +kernel
theorem dX9_addOf_1 : decode cX9_addOf 1 = .ok (.istore_n 2, 1) := by decide +kernel
theorem dX9_addOf_2 : decode cX9_addOf 2 = .ok (.iload_n 2, 1) := by decide +kernel
theorem dX9_addOf_3 : decode cX9_addOf 3 = .ok (.bipush 31, 2) := by decide +kernel
theorem dX9_addOf_5 : decode cX9_addOf 5 = .ok (.if_icmp .ge 57, 3) := by decide +kernel
theorem dX9_addOf_8 : decode cX9_addOf 8 = .ok (.aload_n 0, 1) := by decide +kernel
theorem dX9_addOf_9 : decode cX9_addOf 9 = .ok (.getfield 37, 3) := by decide +kernel
theorem dX9_addOf_12 : decode cX9_addOf 12 = .ok (.iload_n 1, 1) := by decide +kernel
theorem dX9_addOf_13 : decode cX9_addOf 13 = .ok (.iaload, 1) := by decide +kernel
theorem dX9_addOf_14 : decode cX9_addOf 14 = .ok (.iload_n 2, 1) := by decide +kernel
theorem dX9_addOf_15 : decode cX9_addOf 15 = .ok (.aload_n 0, 1) := by decide +kernel
theorem dX9_addOf_16 : decode cX9_addOf 16 = .ok (.getfield 13, 3) := by decide +kernel
theorem dX9_addOf_19 : decode cX9_addOf 19 = .ok (.iconst 2, 1) := by decide +kernel
theorem dX9_addOf_20 : decode cX9_addOf 20 = .ok (.iload_n 1, 1) := by decide +kernel
theorem dX9_addOf_21 : decode cX9_addOf 21 = .ok (.imul, 1) := by decide +kernel
theorem dX9_addOf_22 : decode cX9_addOf 22 = .ok (.iconst 1, 1) := by decide +kernel
theorem dX9_addOf_23 : decode cX9_addOf 23 = .ok (.iadd, 1) := by decide +kernel
theorem dX9_addOf_24 : decode cX9_addOf 24 = .ok (.iaload, 1) := by decide +kernel
theorem dX9_addOf_25 : decode cX9_addOf 25 = .ok (.imul, 1) := by decide +kernel
theorem dX9_addOf_26 : decode cX9_addOf 26 = .ok (.iadd, 1) := by decide +kernel
theorem dX9_addOf_27 : decode cX9_addOf 27 = .ok (.ifCond .ne 5, 3) := by decide +kernel
theorem dX9_addOf_30 : decode cX9_addOf 30 = .ok (.iload_n 2, 1) := by decide +kernel
theorem dX9_addOf_31 : decode cX9_addOf 31 = .ok (.ireturn, 1) := by decide +kernel
theorem dX9_addOf_32 : decode cX9_addOf 32 = .ok (.aload_n 0, 1) := by decide +kernel
theorem dX9_addOf_33 : decode cX9_addOf 33 = .ok (.getfield 37, 3) := by decide +kernel
theorem dX9_addOf_36 : decode cX9_addOf 36 = .ok (.iload_n 1, 1) := by decide +kernel
theorem dX9_addOf_37 : decode cX9_addOf 37 = .ok (.iaload, 1) := by decide +kernel
theorem dX9_addOf_38 : decode cX9_addOf 38 = .ok (.iload_n 2, 1) := by decide +kernel
theorem dX9_addOf_39 : decode cX9_addOf 39 = .ok (.aload_n 0, 1) := by decide +kernel
theorem dX9_addOf_40 : decode cX9_addOf 40 = .ok (.getfield 13, 3) := by decide +kernel
theorem dX9_addOf_43 : decode cX9_addOf 43 = .ok (.iconst 2, 1) := by decide +kernel
theorem dX9_addOf_44 : decode cX9_addOf 44 = .ok (.iload_n 1, 1) := by decide +kernel
theorem dX9_addOf_45 : decode cX9_addOf 45 = .ok (.imul, 1) := by decide +kernel
theorem dX9_addOf_46 : decode cX9_addOf 46 = .ok (.iaload, 1) := by decide +kernel
theorem dX9_addOf_47 : decode cX9_addOf 47 = .ok (.imul, 1) := by decide +kernel
theorem dX9_addOf_48 : decode cX9_addOf 48 = .ok (.isub, 1) := by decide +kernel
theorem dX9_addOf_49 : decode cX9_addOf 49 = .ok (.ifCond .ne 7, 3) := by decide +kernel
theorem dX9_addOf_52 : decode cX9_addOf 52 = .ok (.iconst 0, 1) := by decide +kernel
theorem dX9_addOf_53 : decode cX9_addOf 53 = .ok (.iload_n 2, 1) := by decide +kernel
theorem dX9_addOf_54 : decode cX9_addOf 54 = .ok (.isub, 1) := by decide +kernel
theorem dX9_addOf_55 : decode cX9_addOf 55 = .ok (.ireturn, 1) := by decide +kernel
theorem dX9_addOf_56 : decode cX9_addOf 56 = .ok (.iinc 2 1, 3) := by decide +kernel
theorem dX9_addOf_59 : decode cX9_addOf 59 = .ok (.goto (-57), 3) := by decide +kernel
theorem dX9_addOf_62 : decode cX9_addOf 62 = .ok (.bipush 99, 2) := by decide +kernel
theorem dX9_addOf_64 : decode cX9_addOf 64 = .ok (.ireturn, 1) := by decide +kernel
theorem dX9_hangsOf_0 : decode cX9_hangsOf 0 = .ok (.aload_n 0, 1) := by decide +kernel
theorem dX9_hangsOf_1 : decode cX9_hangsOf 1 = .ok (.getfield 16, 3) := by decide +kernel
theorem dX9_hangsOf_4 : decode cX9_hangsOf 4 = .ok (.iload_n 1, 1) := by decide +kernel
theorem dX9_hangsOf_5 : decode cX9_hangsOf 5 = .ok (.iaload, 1) := by decide +kernel
theorem dX9_hangsOf_6 : decode cX9_hangsOf 6 = .ok (.bipush 10, 2) := by decide +kernel
theorem dX9_hangsOf_8 : decode cX9_hangsOf 8 = .ok (.if_icmp .ge 12, 3) := by decide +kernel
theorem dX9_hangsOf_11 : decode cX9_hangsOf 11 = .ok (.aload_n 0, 1) := by decide +kernel
theorem dX9_hangsOf_12 : decode cX9_hangsOf 12 = .ok (.getfield 16, 3) := by decide +kernel
theorem dX9_hangsOf_15 : decode cX9_hangsOf 15 = .ok (.iload_n 1, 1) := by decide +kernel
theorem dX9_hangsOf_16 : decode cX9_hangsOf 16 = .ok (.iaload, 1) := by decide +kernel
theorem dX9_hangsOf_17 : decode cX9_hangsOf 17 = .ok (.goto 20, 3) := by decide +kernel
theorem dX9_hangsOf_20 : decode cX9_hangsOf 20 = .ok (.bipush 10, 2) := by decide +kernel
theorem dX9_hangsOf_22 : decode cX9_hangsOf 22 = .ok (.aload_n 0, 1) := by decide +kernel
theorem dX9_hangsOf_23 : decode cX9_hangsOf 23 = .ok (.getfield 28, 3) := by decide +kernel
theorem dX9_hangsOf_26 : decode cX9_hangsOf 26 = .ok (.aload_n 0, 1) := by decide +kernel
theorem dX9_hangsOf_27 : decode cX9_hangsOf 27 = .ok (.getfield 16, 3) := by decide +kernel
theorem dX9_hangsOf_30 : decode cX9_hangsOf 30 = .ok (.iload_n 1, 1) := by decide +kernel
theorem dX9_hangsOf_31 : decode cX9_hangsOf 31 = .ok (.iaload, 1) := by decide +kernel
theorem dX9_hangsOf_32 : decode cX9_hangsOf 32 = .ok (.bipush 10, 2) := by decide +kernel
theorem dX9_hangsOf_34 : decode cX9_hangsOf 34 = .ok (.isub, 1) := by decide +kernel
theorem dX9_hangsOf_35 : decode cX9_hangsOf 35 = .ok (.iaload, 1) := by decide +kernel
theorem dX9_hangsOf_36 : decode cX9_hangsOf 36 = .ok (.iadd, 1) := by decide +kernel
theorem dX9_hangsOf_37 : decode cX9_hangsOf 37 = .ok (.ireturn, 1) := by decide +kernel
theorem dX9_tellRod_0 : decode cX9_tellRod 0 = .ok (.aload_n 0, 1) := by decide +kernel
theorem dX9_tellRod_1 : decode cX9_tellRod 1 = .ok (.invokevirtual 148, 3) := by decide +kernel
theorem dX9_tellRod_4 : decode cX9_tellRod 4 = .ok (.aload_n 0, 1) := by decide +kernel
theorem dX9_tellRod_5 : decode cX9_tellRod 5 = .ok (.invokevirtual 142, 3) := by decide +kernel
theorem dX9_tellRod_8 : decode cX9_tellRod 8 = .ok (.iload_n 2, 1) := by decide +kernel
theorem dX9_tellRod_9 : decode cX9_tellRod 9 = .ok (.tableswitch 145 0 10 #[59, 59, 70, 70, 82, 82, 98, 109, 124, 133, 139], 59) := by decide +kernel
theorem dX9_tellRod_68 : decode cX9_tellRod 68 = .ok (.aload_n 0, 1) := by decide +kernel
theorem dX9_tellRod_69 : decode cX9_tellRod 69 = .ok (.getfield 13, 3) := by decide +kernel
theorem dX9_tellRod_72 : decode cX9_tellRod 72 = .ok (.iconst 2, 1) := by decide +kernel
theorem dX9_tellRod_73 : decode cX9_tellRod 73 = .ok (.iload_n 1, 1) := by decide +kernel
theorem dX9_tellRod_74 : decode cX9_tellRod 74 = .ok (.imul, 1) := by decide +kernel
theorem dX9_tellRod_75 : decode cX9_tellRod 75 = .ok (.iload_n 2, 1) := by decide +kernel
theorem dX9_tellRod_76 : decode cX9_tellRod 76 = .ok (.iadd, 1) := by decide +kernel
theorem dX9_tellRod_77 : decode cX9_tellRod 77 = .ok (.iaload, 1) := by decide +kernel
theorem dX9_tellRod_78 : decode cX9_tellRod 78 = .ok (.ireturn, 1) := by decide +kernel
theorem dX9_tellRod_79 : decode cX9_tellRod 79 = .ok (.aload_n 0, 1) := by decide +kernel
theorem dX9_tellRod_80 : decode cX9_tellRod 80 = .ok (.iconst 2, 1) := by decide +kernel
theorem dX9_tellRod_81 : decode cX9_tellRod 81 = .ok (.iload_n 1, 1) := by decide +kernel
theorem dX9_tellRod_82 : decode cX9_tellRod 82 = .ok (.imul, 1) := by decide +kernel
theorem dX9_tellRod_83 : decode cX9_tellRod 83 = .ok (.iload_n 2, 1) := by decide +kernel
theorem dX9_tellRod_84 : decode cX9_tellRod 84 = .ok (.iadd, 1) := by decide +kernel
theorem dX9_tellRod_85 : decode cX9_tellRod 85 = .ok (.iconst 2, 1) := by decide +kernel
theorem dX9_tellRod_86 : decode cX9_tellRod 86 = .ok (.isub, 1) := by decide +kernel
theorem dX9_tellRod_87 : decode cX9_tellRod 87 = .ok (.invokevirtual 154, 3) := by decide +kernel
theorem dX9_tellRod_90 : decode cX9_tellRod 90 = .ok (.ireturn, 1) := by decide +kernel
theorem dX9_tellRod_91 : decode cX9_tellRod 91 = .ok (.sipush 10000, 3) := by decide +kernel
theorem dX9_tellRod_94 : decode cX9_tellRod 94 = .ok (.aload_n 0, 1) := by decide +kernel
theorem dX9_tellRod_95 : decode cX9_tellRod 95 = .ok (.iconst 2, 1) := by decide +kernel
theorem dX9_tellRod_96 : decode cX9_tellRod 96 = .ok (.iload_n 1, 1) := by decide +kernel
theorem dX9_tellRod_97 : decode cX9_tellRod 97 = .ok (.imul, 1) := by decide +kernel
theorem dX9_tellRod_98 : decode cX9_tellRod 98 = .ok (.iload_n 2, 1) := by decide +kernel
theorem dX9_tellRod_99 : decode cX9_tellRod 99 = .ok (.iadd, 1) := by decide +kernel
theorem dX9_tellRod_100 : decode cX9_tellRod 100 = .ok (.iconst 4, 1) := by decide +kernel
theorem dX9_tellRod_101 : decode cX9_tellRod 101 = .ok (.isub, 1) := by decide +kernel
theorem dX9_tellRod_102 : decode cX9_tellRod 102 = .ok (.invokevirtual 139, 3) := by decide +kernel
theorem dX9_tellRod_105 : decode cX9_tellRod 105 = .ok (.iadd, 1) := by decide +kernel
theorem dX9_tellRod_106 : decode cX9_tellRod 106 = .ok (.ireturn, 1) := by decide +kernel
theorem dX9_tellRod_107 : decode cX9_tellRod 107 = .ok (.sipush 10000, 3) := by decide +kernel
theorem dX9_tellRod_110 : decode cX9_tellRod 110 = .ok (.aload_n 0, 1) := by decide +kernel
theorem dX9_tellRod_111 : decode cX9_tellRod 111 = .ok (.getfield 37, 3) := by decide +kernel
theorem dX9_tellRod_114 : decode cX9_tellRod 114 = .ok (.iload_n 1, 1) := by decide +kernel
theorem dX9_tellRod_115 : decode cX9_tellRod 115 = .ok (.iaload, 1) := by decide +kernel
theorem dX9_tellRod_116 : decode cX9_tellRod 116 = .ok (.iadd, 1) := by decide +kernel
theorem dX9_tellRod_117 : decode cX9_tellRod 117 = .ok (.ireturn, 1) := by decide +kernel
theorem dX9_tellRod_118 : decode cX9_tellRod 118 = .ok (.aload_n 0, 1) := by decide +kernel
theorem dX9_tellRod_119 : decode cX9_tellRod 119 = .ok (.getfield 37, 3) := by decide +kernel
theorem dX9_tellRod_122 : decode cX9_tellRod 122 = .ok (.iload_n 1, 1) := by decide +kernel
theorem dX9_tellRod_123 : decode cX9_tellRod 123 = .ok (.iaload, 1) := by decide +kernel
theorem dX9_tellRod_124 : decode cX9_tellRod 124 = .ok (.ifCond .ne 7, 3) := by decide +kernel
theorem dX9_tellRod_127 : decode cX9_tellRod 127 = .ok (.iconst 1, 1) := by decide +kernel
theorem dX9_tellRod_128 : decode cX9_tellRod 128 = .ok (.goto 4, 3) := by decide +kernel
theorem dX9_tellRod_131 : decode cX9_tellRod 131 = .ok (.iconst 0, 1) := by decide +kernel
theorem dX9_tellRod_132 : decode cX9_tellRod 132 = .ok (.ireturn, 1) := by decide +kernel
theorem dX9_tellRod_133 : decode cX9_tellRod 133 = .ok (.aload_n 0, 1) := by decide +kernel
theorem dX9_tellRod_134 : decode cX9_tellRod 134 = .ok (.invokevirtual 145, 3) := by decide +kernel
theorem dX9_tellRod_137 : decode cX9_tellRod 137 = .ok (.iload_n 1, 1) := by decide +kernel
theorem dX9_tellRod_138 : decode cX9_tellRod 138 = .ok (.ishr, 1) := by decide +kernel
theorem dX9_tellRod_139 : decode cX9_tellRod 139 = .ok (.iconst 1, 1) := by decide +kernel
theorem dX9_tellRod_140 : decode cX9_tellRod 140 = .ok (.iand, 1) := by decide +kernel
theorem dX9_tellRod_141 : decode cX9_tellRod 141 = .ok (.ireturn, 1) := by decide +kernel
theorem dX9_tellRod_142 : decode cX9_tellRod 142 = .ok (.aload_n 0, 1) := by decide +kernel
theorem dX9_tellRod_143 : decode cX9_tellRod 143 = .ok (.iload_n 1, 1) := by decide +kernel
theorem dX9_tellRod_144 : decode cX9_tellRod 144 = .ok (.invokevirtual 157, 3) := by decide +kernel
theorem dX9_tellRod_147 : decode cX9_tellRod 147 = .ok (.ireturn, 1) := by decide +kernel
theorem dX9_tellRod_148 : decode cX9_tellRod 148 = .ok (.aload_n 0, 1) := by decide +kernel
theorem dX9_tellRod_149 : decode cX9_tellRod 149 = .ok (.iload_n 1, 1) := by decide +kernel
theorem dX9_tellRod_150 : decode cX9_tellRod 150 = .ok (.invokevirtual 160, 3) := by decide +kernel
theorem dX9_tellRod_153 : decode cX9_tellRod 153 = .ok (.ireturn, 1) := by decide +kernel
theorem dX9_tellRod_154 : decode cX9_tellRod 154 = .ok (.bipush (-102), 2) := by decide +kernel
theorem dX9_tellRod_156 : decode cX9_tellRod 156 = .ok (.ireturn, 1) := by decide +kernel
theorem dX9_rod_0 : decode cX9_rod 0 = .ok (.aload_n 0, 1) := by decide +kernel
theorem dX9_rod_1 : decode cX9_rod 1 = .ok (.iload_n 1, 1) := by decide +kernel
theorem dX9_rod_2 : decode cX9_rod 2 = .ok (.invokevirtual 163, 3) := by decide +kernel
theorem dX9_rod_5 : decode cX9_rod 5 = .ok (.ifCond .eq 12, 3) := by decide +kernel
theorem dX9_rod_8 : decode cX9_rod 8 = .ok (.aload_n 0, 1) := by decide +kernel
theorem dX9_rod_9 : decode cX9_rod 9 = .ok (.iload_n 1, 1) := by decide +kernel
theorem dX9_rod_10 : decode cX9_rod 10 = .ok (.iload_n 2, 1) := by decide +kernel
theorem dX9_rod_11 : decode cX9_rod 11 = .ok (.invokevirtual 166, 3) := by decide +kernel
theorem dX9_rod_14 : decode cX9_rod 14 = .ok (.goto 5, 3) := by decide +kernel
theorem dX9_rod_17 : decode cX9_rod 17 = .ok (.bipush (-101), 2) := by decide +kernel
theorem dX9_rod_19 : decode cX9_rod 19 = .ok (.ireturn, 1) := by decide +kernel
theorem dX9_armOf_0 : decode cX9_armOf 0 = .ok (.iconst 0, 1) := by decide +kernel
theorem dX9_armOf_1 : decode cX9_armOf 1 = .ok (.istore_n 2, 1) := by decide +kernel
theorem dX9_armOf_2 : decode cX9_armOf 2 = .ok (.aload_n 0, 1) := by decide +kernel
theorem dX9_armOf_3 : decode cX9_armOf 3 = .ok (.getfield 28, 3) := by decide +kernel
theorem dX9_armOf_6 : decode cX9_armOf 6 = .ok (.iload_n 2, 1) := by decide +kernel
theorem dX9_armOf_7 : decode cX9_armOf 7 = .ok (.iaload, 1) := by decide +kernel
theorem dX9_armOf_8 : decode cX9_armOf 8 = .ok (.iload_n 1, 1) := by decide +kernel
theorem dX9_armOf_9 : decode cX9_armOf 9 = .ok (.if_icmp .eq 9, 3) := by decide +kernel
theorem dX9_armOf_12 : decode cX9_armOf 12 = .ok (.iinc 2 1, 3) := by decide +kernel
theorem dX9_armOf_15 : decode cX9_armOf 15 = .ok (.goto (-13), 3) := by decide +kernel
theorem dX9_armOf_18 : decode cX9_armOf 18 = .ok (.aload_n 0, 1) := by decide +kernel
theorem dX9_armOf_19 : decode cX9_armOf 19 = .ok (.getfield 19, 3) := by decide +kernel
theorem dX9_armOf_22 : decode cX9_armOf 22 = .ok (.iload_n 2, 1) := by decide +kernel
theorem dX9_armOf_23 : decode cX9_armOf 23 = .ok (.iaload, 1) := by decide +kernel
theorem dX9_armOf_24 : decode cX9_armOf 24 = .ok (.ireturn, 1) := by decide +kernel
theorem dX9_tellThing_0 : decode cX9_tellThing 0 = .ok (.iload_n 2, 1) := by decide +kernel
theorem dX9_tellThing_1 : decode cX9_tellThing 1 = .ok (.tableswitch 112 0 6 #[43, 50, 57, 81, 90, 98, 106], 43) := by decide +kernel
theorem dX9_tellThing_44 : decode cX9_tellThing 44 = .ok (.aload_n 0, 1) := by decide +kernel
theorem dX9_tellThing_45 : decode cX9_tellThing 45 = .ok (.getfield 22, 3) := by decide +kernel
theorem dX9_tellThing_48 : decode cX9_tellThing 48 = .ok (.iload_n 1, 1) := by decide +kernel
theorem dX9_tellThing_49 : decode cX9_tellThing 49 = .ok (.iaload, 1) := by decide +kernel
theorem dX9_tellThing_50 : decode cX9_tellThing 50 = .ok (.ireturn, 1) := by decide +kernel
theorem dX9_tellThing_51 : decode cX9_tellThing 51 = .ok (.aload_n 0, 1) := by decide +kernel
theorem dX9_tellThing_52 : decode cX9_tellThing 52 = .ok (.getfield 25, 3) := by decide +kernel
theorem dX9_tellThing_55 : decode cX9_tellThing 55 = .ok (.iload_n 1, 1) := by decide +kernel
theorem dX9_tellThing_56 : decode cX9_tellThing 56 = .ok (.iaload, 1) := by decide +kernel
theorem dX9_tellThing_57 : decode cX9_tellThing 57 = .ok (.ireturn, 1) := by decide +kernel
theorem dX9_tellThing_58 : decode cX9_tellThing 58 = .ok (.sipush 10000, 3) := by decide +kernel
theorem dX9_tellThing_61 : decode cX9_tellThing 61 = .ok (.aload_n 0, 1) := by decide +kernel
theorem dX9_tellThing_62 : decode cX9_tellThing 62 = .ok (.getfield 22, 3) := by decide +kernel
theorem dX9_tellThing_65 : decode cX9_tellThing 65 = .ok (.iload_n 1, 1) := by decide +kernel
theorem dX9_tellThing_66 : decode cX9_tellThing 66 = .ok (.iaload, 1) := by decide +kernel
theorem dX9_tellThing_67 : decode cX9_tellThing 67 = .ok (.aload_n 0, 1) := by decide +kernel
theorem dX9_tellThing_68 : decode cX9_tellThing 68 = .ok (.getfield 25, 3) := by decide +kernel
theorem dX9_tellThing_71 : decode cX9_tellThing 71 = .ok (.iload_n 1, 1) := by decide +kernel
theorem dX9_tellThing_72 : decode cX9_tellThing 72 = .ok (.iaload, 1) := by decide +kernel
theorem dX9_tellThing_73 : decode cX9_tellThing 73 = .ok (.aload_n 0, 1) := by decide +kernel
theorem dX9_tellThing_74 : decode cX9_tellThing 74 = .ok (.getfield 110, 3) := by decide +kernel
theorem dX9_tellThing_77 : decode cX9_tellThing 77 = .ok (.invokestatic 132, 3) := by decide +kernel
theorem dX9_tellThing_80 : decode cX9_tellThing 80 = .ok (.iadd, 1) := by decide +kernel
theorem dX9_tellThing_81 : decode cX9_tellThing 81 = .ok (.ireturn, 1) := by decide +kernel
theorem dX9_tellThing_82 : decode cX9_tellThing 82 = .ok (.aload_n 0, 1) := by decide +kernel
theorem dX9_tellThing_83 : decode cX9_tellThing 83 = .ok (.getfield 116, 3) := by decide +kernel
theorem dX9_tellThing_86 : decode cX9_tellThing 86 = .ok (.iload_n 1, 1) := by decide +kernel
theorem dX9_tellThing_87 : decode cX9_tellThing 87 = .ok (.ishr, 1) := by decide +kernel
theorem dX9_tellThing_88 : decode cX9_tellThing 88 = .ok (.iconst 1, 1) := by decide +kernel
theorem dX9_tellThing_89 : decode cX9_tellThing 89 = .ok (.iand, 1) := by decide +kernel
theorem dX9_tellThing_90 : decode cX9_tellThing 90 = .ok (.ireturn, 1) := by decide +kernel
theorem dX9_tellThing_91 : decode cX9_tellThing 91 = .ok (.aload_n 0, 1) := by decide +kernel
theorem dX9_tellThing_92 : decode cX9_tellThing 92 = .ok (.iload_n 1, 1) := by decide +kernel
theorem dX9_tellThing_93 : decode cX9_tellThing 93 = .ok (.invokevirtual 170, 3) := by decide +kernel
theorem dX9_tellThing_96 : decode cX9_tellThing 96 = .ok (.iconst 2, 1) := by decide +kernel
theorem dX9_tellThing_97 : decode cX9_tellThing 97 = .ok (.idiv, 1) := by decide +kernel
theorem dX9_tellThing_98 : decode cX9_tellThing 98 = .ok (.ireturn, 1) := by decide +kernel
theorem dX9_tellThing_99 : decode cX9_tellThing 99 = .ok (.aload_n 0, 1) := by decide +kernel
theorem dX9_tellThing_100 : decode cX9_tellThing 100 = .ok (.iload_n 1, 1) := by decide +kernel
theorem dX9_tellThing_101 : decode cX9_tellThing 101 = .ok (.invokevirtual 170, 3) := by decide +kernel
theorem dX9_tellThing_104 : decode cX9_tellThing 104 = .ok (.iconst 2, 1) := by decide +kernel
theorem dX9_tellThing_105 : decode cX9_tellThing 105 = .ok (.irem, 1) := by decide +kernel
theorem dX9_tellThing_106 : decode cX9_tellThing 106 = .ok (.ireturn, 1) := by decide +kernel
theorem dX9_tellThing_107 : decode cX9_tellThing 107 = .ok (.aload_n 0, 1) := by decide +kernel
theorem dX9_tellThing_108 : decode cX9_tellThing 108 = .ok (.iload_n 1, 1) := by decide +kernel
theorem dX9_tellThing_109 : decode cX9_tellThing 109 = .ok (.invokevirtual 173, 3) := by decide +kernel
theorem dX9_tellThing_112 : decode cX9_tellThing 112 = .ok (.ireturn, 1) := by decide +kernel
theorem dX9_tellThing_113 : decode cX9_tellThing 113 = .ok (.bipush (-102), 2) := by decide +kernel
theorem dX9_tellThing_115 : decode cX9_tellThing 115 = .ok (.ireturn, 1) := by decide +kernel
theorem dX9_thing_0 : decode cX9_thing 0 = .ok (.aload_n 0, 1) := by decide +kernel
theorem dX9_thing_1 : decode cX9_thing 1 = .ok (.iload_n 1, 1) := by decide +kernel
theorem dX9_thing_2 : decode cX9_thing 2 = .ok (.invokevirtual 176, 3) := by decide +kernel
theorem dX9_thing_5 : decode cX9_thing 5 = .ok (.ifCond .eq 12, 3) := by decide +kernel
theorem dX9_thing_8 : decode cX9_thing 8 = .ok (.aload_n 0, 1) := by decide +kernel
theorem dX9_thing_9 : decode cX9_thing 9 = .ok (.iload_n 1, 1) := by decide +kernel
theorem dX9_thing_10 : decode cX9_thing 10 = .ok (.iload_n 2, 1) := by decide +kernel
theorem dX9_thing_11 : decode cX9_thing 11 = .ok (.invokevirtual 179, 3) := by decide +kernel
theorem dX9_thing_14 : decode cX9_thing 14 = .ok (.goto 5, 3) := by decide +kernel
theorem dX9_thing_17 : decode cX9_thing 17 = .ok (.bipush (-101), 2) := by decide +kernel
theorem dX9_thing_19 : decode cX9_thing 19 = .ok (.ireturn, 1) := by decide +kernel
theorem dX9_as_0 : decode cX9_as 0 = .ok (.aload_n 0, 1) := by decide +kernel
theorem dX9_as_1 : decode cX9_as 1 = .ok (.iload_n 1, 1) := by decide +kernel
theorem dX9_as_2 : decode cX9_as 2 = .ok (.invokevirtual 176, 3) := by decide +kernel
theorem dX9_as_5 : decode cX9_as 5 = .ok (.ifCond .ne 6, 3) := by decide +kernel
theorem dX9_as_8 : decode cX9_as 8 = .ok (.bipush (-101), 2) := by decide +kernel
theorem dX9_as_10 : decode cX9_as 10 = .ok (.ireturn, 1) := by decide +kernel
theorem dX9_as_11 : decode cX9_as 11 = .ok (.iload_n 2, 1) := by decide +kernel
theorem dX9_as_12 : decode cX9_as 12 = .ok (.i2l, 1) := by decide +kernel
theorem dX9_as_13 : decode cX9_as 13 = .ok (.lconst 0, 1) := by decide +kernel
theorem dX9_as_14 : decode cX9_as 14 = .ok (.ldc2_w 71, 3) := by decide +kernel
theorem dX9_as_17 : decode cX9_as 17 = .ok (.invokestatic 64, 3) := by decide +kernel
theorem dX9_as_20 : decode cX9_as 20 = .ok (.ifCond .ne 6, 3) := by decide +kernel
theorem dX9_as_23 : decode cX9_as 23 = .ok (.bipush (-102), 2) := by decide +kernel
theorem dX9_as_25 : decode cX9_as 25 = .ok (.ireturn, 1) := by decide +kernel
theorem dX9_as_26 : decode cX9_as 26 = .ok (.iload_n 2, 1) := by decide +kernel
theorem dX9_as_27 : decode cX9_as 27 = .ok (.ifCond .eq 28, 3) := by decide +kernel
theorem dX9_as_30 : decode cX9_as 30 = .ok (.iload_n 2, 1) := by decide +kernel
theorem dX9_as_31 : decode cX9_as 31 = .ok (.aload_n 0, 1) := by decide +kernel
theorem dX9_as_32 : decode cX9_as 32 = .ok (.getfield 22, 3) := by decide +kernel
theorem dX9_as_35 : decode cX9_as 35 = .ok (.iload_n 1, 1) := by decide +kernel
theorem dX9_as_36 : decode cX9_as 36 = .ok (.iaload, 1) := by decide +kernel
theorem dX9_as_37 : decode cX9_as 37 = .ok (.if_icmp .eq 18, 3) := by decide +kernel
theorem dX9_as_40 : decode cX9_as 40 = .ok (.iload_n 2, 1) := by decide +kernel
theorem dX9_as_41 : decode cX9_as 41 = .ok (.iconst 1, 1) := by decide +kernel
theorem dX9_as_42 : decode cX9_as 42 = .ok (.if_icmp .ne 17, 3) := by decide +kernel
theorem dX9_as_45 : decode cX9_as 45 = .ok (.aload_n 0, 1) := by decide +kernel
theorem dX9_as_46 : decode cX9_as 46 = .ok (.getfield 22, 3) := by decide +kernel
theorem dX9_as_49 : decode cX9_as 49 = .ok (.iload_n 1, 1) := by decide +kernel
theorem dX9_as_50 : decode cX9_as 50 = .ok (.iaload, 1) := by decide +kernel
theorem dX9_as_51 : decode cX9_as 51 = .ok (.iconst 4, 1) := by decide +kernel
theorem dX9_as_52 : decode cX9_as 52 = .ok (.if_icmp .ne 7, 3) := by decide +kernel
theorem dX9_as_55 : decode cX9_as 55 = .ok (.iconst 1, 1) := by decide +kernel
theorem dX9_as_56 : decode cX9_as 56 = .ok (.goto 4, 3) := by decide +kernel
theorem dX9_as_59 : decode cX9_as 59 = .ok (.iconst 0, 1) := by decide +kernel
theorem dX9_as_60 : decode cX9_as 60 = .ok (.istore_n 3, 1) := by decide +kernel
theorem dX9_as_61 : decode cX9_as 61 = .ok (.iload_n 3, 1) := by decide +kernel
theorem dX9_as_62 : decode cX9_as 62 = .ok (.ifCond .eq 7, 3) := by decide +kernel
theorem dX9_as_65 : decode cX9_as 65 = .ok (.iload_n 1, 1) := by decide +kernel
theorem dX9_as_66 : decode cX9_as 66 = .ok (.goto 4, 3) := by decide +kernel
theorem dX9_as_69 : decode cX9_as 69 = .ok (.iconst (-1), 1) := by decide +kernel
theorem dX9_as_70 : decode cX9_as 70 = .ok (.ireturn, 1) := by decide +kernel
theorem dX9_hour_0 : decode cX9_hour 0 = .ok (.aload_n 0, 1) := by decide +kernel
theorem dX9_hour_1 : decode cX9_hour 1 = .ok (.invokevirtual 182, 3) := by decide +kernel
theorem dX9_hour_4 : decode cX9_hour 4 = .ok (.ifCond .eq 6, 3) := by decide +kernel
theorem dX9_hour_7 : decode cX9_hour 7 = .ok (.bipush (-103), 2) := by decide +kernel
theorem dX9_hour_9 : decode cX9_hour 9 = .ok (.ireturn, 1) := by decide +kernel
theorem dX9_hour_10 : decode cX9_hour 10 = .ok (.aload_n 0, 1) := by decide +kernel
theorem dX9_hour_11 : decode cX9_hour 11 = .ok (.getfield 110, 3) := by decide +kernel
theorem dX9_hour_14 : decode cX9_hour 14 = .ok (.sipush 999, 3) := by decide +kernel
theorem dX9_hour_17 : decode cX9_hour 17 = .ok (.if_icmp .ne 6, 3) := by decide +kernel
theorem dX9_hour_20 : decode cX9_hour 20 = .ok (.bipush (-104), 2) := by decide +kernel
theorem dX9_hour_22 : decode cX9_hour 22 = .ok (.ireturn, 1) := by decide +kernel
theorem dX9_hour_23 : decode cX9_hour 23 = .ok (.aload_n 0, 1) := by decide +kernel
theorem dX9_hour_24 : decode cX9_hour 24 = .ok (.dup, 1) := by decide +kernel
theorem dX9_hour_25 : decode cX9_hour 25 = .ok (.getfield 110, 3) := by decide +kernel
theorem dX9_hour_28 : decode cX9_hour 28 = .ok (.iconst 1, 1) := by decide +kernel
theorem dX9_hour_29 : decode cX9_hour 29 = .ok (.iadd, 1) := by decide +kernel
theorem dX9_hour_30 : decode cX9_hour 30 = .ok (.putfield 110, 3) := by decide +kernel
theorem dX9_hour_33 : decode cX9_hour 33 = .ok (.aload_n 0, 1) := by decide +kernel
theorem dX9_hour_34 : decode cX9_hour 34 = .ok (.getfield 110, 3) := by decide +kernel
theorem dX9_hour_37 : decode cX9_hour 37 = .ok (.ireturn, 1) := by decide +kernel
theorem dX9_trade_0 : decode cX9_trade 0 = .ok (.iconst 0, 1) := by decide +kernel
theorem dX9_trade_1 : decode cX9_trade 1 = .ok (.istore_n 3, 1) := by decide +kernel
theorem dX9_trade_2 : decode cX9_trade 2 = .ok (.iload_n 3, 1) := by decide +kernel
theorem dX9_trade_3 : decode cX9_trade 3 = .ok (.bipush 6, 2) := by decide +kernel
theorem dX9_trade_5 : decode cX9_trade 5 = .ok (.if_icmp .ge 37, 3) := by decide +kernel
theorem dX9_trade_8 : decode cX9_trade 8 = .ok (.aload_n 0, 1) := by decide +kernel
theorem dX9_trade_9 : decode cX9_trade 9 = .ok (.iload_n 3, 1) := by decide +kernel
theorem dX9_trade_10 : decode cX9_trade 10 = .ok (.aload_n 0, 1) := by decide +kernel
theorem dX9_trade_11 : decode cX9_trade 11 = .ok (.iload_n 3, 1) := by decide +kernel
theorem dX9_trade_12 : decode cX9_trade 12 = .ok (.iaload, 1) := by decide +kernel
theorem dX9_trade_13 : decode cX9_trade 13 = .ok (.iload_n 1, 1) := by decide +kernel
theorem dX9_trade_14 : decode cX9_trade 14 = .ok (.if_icmp .ne 7, 3) := by decide +kernel
theorem dX9_trade_17 : decode cX9_trade 17 = .ok (.iload_n 2, 1) := by decide +kernel
theorem dX9_trade_18 : decode cX9_trade 18 = .ok (.goto 17, 3) := by decide +kernel
theorem dX9_trade_21 : decode cX9_trade 21 = .ok (.aload_n 0, 1) := by decide +kernel
theorem dX9_trade_22 : decode cX9_trade 22 = .ok (.iload_n 3, 1) := by decide +kernel
theorem dX9_trade_23 : decode cX9_trade 23 = .ok (.iaload, 1) := by decide +kernel
theorem dX9_trade_24 : decode cX9_trade 24 = .ok (.iload_n 2, 1) := by decide +kernel
theorem dX9_trade_25 : decode cX9_trade 25 = .ok (.if_icmp .ne 7, 3) := by decide +kernel
theorem dX9_trade_28 : decode cX9_trade 28 = .ok (.iload_n 1, 1) := by decide +kernel
theorem dX9_trade_29 : decode cX9_trade 29 = .ok (.goto 6, 3) := by decide +kernel
theorem dX9_trade_32 : decode cX9_trade 32 = .ok (.aload_n 0, 1) := by decide +kernel
theorem dX9_trade_33 : decode cX9_trade 33 = .ok (.iload_n 3, 1) := by decide +kernel
theorem dX9_trade_34 : decode cX9_trade 34 = .ok (.iaload, 1) := by decide +kernel
theorem dX9_trade_35 : decode cX9_trade 35 = .ok (.iastore, 1) := by decide +kernel
theorem dX9_trade_36 : decode cX9_trade 36 = .ok (.iinc 3 1, 3) := by decide +kernel
theorem dX9_trade_39 : decode cX9_trade 39 = .ok (.goto (-37), 3) := by decide +kernel
theorem dX9_trade_42 : decode cX9_trade 42 = .ok (.return_, 1) := by decide +kernel
theorem dX9_isCut_0 : decode cX9_isCut 0 = .ok (.aload_n 0, 1) := by decide +kernel
theorem dX9_isCut_1 : decode cX9_isCut 1 = .ok (.getfield 116, 3) := by decide +kernel
theorem dX9_isCut_4 : decode cX9_isCut 4 = .ok (.iload_n 1, 1) := by decide +kernel
theorem dX9_isCut_5 : decode cX9_isCut 5 = .ok (.ishr, 1) := by decide +kernel
theorem dX9_isCut_6 : decode cX9_isCut 6 = .ok (.iconst 1, 1) := by decide +kernel
theorem dX9_isCut_7 : decode cX9_isCut 7 = .ok (.iand, 1) := by decide +kernel
theorem dX9_isCut_8 : decode cX9_isCut 8 = .ok (.iconst 1, 1) := by decide +kernel
theorem dX9_isCut_9 : decode cX9_isCut 9 = .ok (.if_icmp .ne 7, 3) := by decide +kernel
theorem dX9_isCut_12 : decode cX9_isCut 12 = .ok (.iconst 1, 1) := by decide +kernel
theorem dX9_isCut_13 : decode cX9_isCut 13 = .ok (.goto 4, 3) := by decide +kernel
theorem dX9_isCut_16 : decode cX9_isCut 16 = .ok (.iconst 0, 1) := by decide +kernel
theorem dX9_isCut_17 : decode cX9_isCut 17 = .ok (.ireturn, 1) := by decide +kernel
theorem dX9_exchange_0 : decode cX9_exchange 0 = .ok (.aload_n 0, 1) := by decide +kernel
theorem dX9_exchange_1 : decode cX9_exchange 1 = .ok (.iload_n 1, 1) := by decide +kernel
theorem dX9_exchange_2 : decode cX9_exchange 2 = .ok (.invokevirtual 176, 3) := by decide +kernel
theorem dX9_exchange_5 : decode cX9_exchange 5 = .ok (.ifCond .eq 16, 3) := by decide +kernel
theorem dX9_exchange_8 : decode cX9_exchange 8 = .ok (.aload_n 0, 1) := by decide +kernel
theorem dX9_exchange_9 : decode cX9_exchange 9 = .ok (.iload_n 2, 1) := by decide +kernel
theorem dX9_exchange_10 : decode cX9_exchange 10 = .ok (.invokevirtual 176, 3) := by decide +kernel
theorem dX9_exchange_13 : decode cX9_exchange 13 = .ok (.ifCond .eq 8, 3) := by decide +kernel
theorem dX9_exchange_16 : decode cX9_exchange 16 = .ok (.iload_n 1, 1) := by decide +kernel
theorem dX9_exchange_17 : decode cX9_exchange 17 = .ok (.iload_n 2, 1) := by decide +kernel
theorem dX9_exchange_18 : decode cX9_exchange 18 = .ok (.if_icmp .ne 6, 3) := by decide +kernel
theorem dX9_exchange_21 : decode cX9_exchange 21 = .ok (.bipush (-101), 2) := by decide +kernel
theorem dX9_exchange_23 : decode cX9_exchange 23 = .ok (.ireturn, 1) := by decide +kernel
theorem dX9_exchange_24 : decode cX9_exchange 24 = .ok (.aload_n 0, 1) := by decide +kernel
theorem dX9_exchange_25 : decode cX9_exchange 25 = .ok (.iload_n 1, 1) := by decide +kernel
theorem dX9_exchange_26 : decode cX9_exchange 26 = .ok (.invokevirtual 186, 3) := by decide +kernel
theorem dX9_exchange_29 : decode cX9_exchange 29 = .ok (.ifCond .ne 11, 3) := by decide +kernel
theorem dX9_exchange_32 : decode cX9_exchange 32 = .ok (.aload_n 0, 1) := by decide +kernel
theorem dX9_exchange_33 : decode cX9_exchange 33 = .ok (.iload_n 2, 1) := by decide +kernel
theorem dX9_exchange_34 : decode cX9_exchange 34 = .ok (.invokevirtual 186, 3) := by decide +kernel
theorem dX9_exchange_37 : decode cX9_exchange 37 = .ok (.ifCond .eq 6, 3) := by decide +kernel
theorem dX9_exchange_40 : decode cX9_exchange 40 = .ok (.bipush (-103), 2) := by decide +kernel
theorem dX9_exchange_42 : decode cX9_exchange 42 = .ok (.ireturn, 1) := by decide +kernel
theorem dX9_exchange_43 : decode cX9_exchange 43 = .ok (.aload_n 0, 1) := by decide +kernel
theorem dX9_exchange_44 : decode cX9_exchange 44 = .ok (.getfield 28, 3) := by decide +kernel
theorem dX9_exchange_47 : decode cX9_exchange 47 = .ok (.iload_n 1, 1) := by decide +kernel
theorem dX9_exchange_48 : decode cX9_exchange 48 = .ok (.iload_n 2, 1) := by decide +kernel
theorem dX9_exchange_49 : decode cX9_exchange 49 = .ok (.invokestatic 189, 3) := by decide +kernel
theorem dX9_exchange_52 : decode cX9_exchange 52 = .ok (.aload_n 0, 1) := by decide +kernel
theorem dX9_exchange_53 : decode cX9_exchange 53 = .ok (.invokevirtual 193, 3) := by decide +kernel
theorem dX9_exchange_56 : decode cX9_exchange 56 = .ok (.ireturn, 1) := by decide +kernel
theorem dX9_move_0 : decode cX9_move 0 = .ok (.aload_n 0, 1) := by decide +kernel
theorem dX9_move_1 : decode cX9_move 1 = .ok (.iload_n 1, 1) := by decide +kernel
theorem dX9_move_2 : decode cX9_move 2 = .ok (.invokevirtual 163, 3) := by decide +kernel
theorem dX9_move_5 : decode cX9_move 5 = .ok (.ifCond .ne 6, 3) := by decide +kernel
theorem dX9_move_8 : decode cX9_move 8 = .ok (.bipush (-101), 2) := by decide +kernel
theorem dX9_move_10 : decode cX9_move 10 = .ok (.ireturn, 1) := by decide +kernel
theorem dX9_move_11 : decode cX9_move 11 = .ok (.aload_n 0, 1) := by decide +kernel
theorem dX9_move_12 : decode cX9_move 12 = .ok (.getfield 13, 3) := by decide +kernel
theorem dX9_move_15 : decode cX9_move 15 = .ok (.iconst 2, 1) := by decide +kernel
theorem dX9_move_16 : decode cX9_move 16 = .ok (.iload_n 1, 1) := by decide +kernel
theorem dX9_move_17 : decode cX9_move 17 = .ok (.imul, 1) := by decide +kernel
theorem dX9_move_18 : decode cX9_move 18 = .ok (.iaload, 1) := by decide +kernel
theorem dX9_move_19 : decode cX9_move 19 = .ok (.aload_n 0, 1) := by decide +kernel
theorem dX9_move_20 : decode cX9_move 20 = .ok (.getfield 13, 3) := by decide +kernel
theorem dX9_move_23 : decode cX9_move 23 = .ok (.iconst 2, 1) := by decide +kernel
theorem dX9_move_24 : decode cX9_move 24 = .ok (.iload_n 1, 1) := by decide +kernel
theorem dX9_move_25 : decode cX9_move 25 = .ok (.imul, 1) := by decide +kernel
theorem dX9_move_26 : decode cX9_move 26 = .ok (.iconst 1, 1) := by decide +kernel
theorem dX9_move_27 : decode cX9_move 27 = .ok (.iadd, 1) := by decide +kernel
theorem dX9_move_28 : decode cX9_move 28 = .ok (.iaload, 1) := by decide +kernel
theorem dX9_move_29 : decode cX9_move 29 = .ok (.iadd, 1) := by decide +kernel
theorem dX9_move_30 : decode cX9_move 30 = .ok (.istore_n 3, 1) := by decide +kernel
theorem dX9_move_31 : decode cX9_move 31 = .ok (.iload_n 2, 1) := by decide +kernel
theorem dX9_move_32 : decode cX9_move 32 = .ok (.i2l, 1) := by decide +kernel
theorem dX9_move_33 : decode cX9_move 33 = .ok (.lconst 1, 1) := by decide +kernel
theorem dX9_move_34 : decode cX9_move 34 = .ok (.iload_n 3, 1) := by decide +kernel
theorem dX9_move_35 : decode cX9_move 35 = .ok (.iconst 1, 1) := by decide +kernel
theorem dX9_move_36 : decode cX9_move 36 = .ok (.isub, 1) := by decide +kernel
theorem dX9_move_37 : decode cX9_move 37 = .ok (.i2l, 1) := by decide +kernel
theorem dX9_move_38 : decode cX9_move 38 = .ok (.invokestatic 64, 3) := by decide +kernel
theorem dX9_move_41 : decode cX9_move 41 = .ok (.ifCond .ne 6, 3) := by decide +kernel
theorem dX9_move_44 : decode cX9_move 44 = .ok (.bipush (-102), 2) := by decide +kernel
theorem dX9_move_46 : decode cX9_move 46 = .ok (.ireturn, 1) := by decide +kernel
theorem dX9_move_47 : decode cX9_move 47 = .ok (.aload_n 0, 1) := by decide +kernel
theorem dX9_move_48 : decode cX9_move 48 = .ok (.getfield 13, 3) := by decide +kernel
theorem dX9_move_51 : decode cX9_move 51 = .ok (.iconst 2, 1) := by decide +kernel
theorem dX9_move_52 : decode cX9_move 52 = .ok (.iload_n 1, 1) := by decide +kernel
theorem dX9_move_53 : decode cX9_move 53 = .ok (.imul, 1) := by decide +kernel
theorem dX9_move_54 : decode cX9_move 54 = .ok (.iaload, 1) := by decide +kernel
theorem dX9_move_55 : decode cX9_move 55 = .ok (.istore 4, 2) := by decide +kernel
theorem dX9_move_57 : decode cX9_move 57 = .ok (.aload_n 0, 1) := by decide +kernel
theorem dX9_move_58 : decode cX9_move 58 = .ok (.getfield 13, 3) := by decide +kernel
theorem dX9_move_61 : decode cX9_move 61 = .ok (.iconst 2, 1) := by decide +kernel
theorem dX9_move_62 : decode cX9_move 62 = .ok (.iload_n 1, 1) := by decide +kernel
theorem dX9_move_63 : decode cX9_move 63 = .ok (.imul, 1) := by decide +kernel
theorem dX9_move_64 : decode cX9_move 64 = .ok (.iload_n 2, 1) := by decide +kernel
theorem dX9_move_65 : decode cX9_move 65 = .ok (.iastore, 1) := by decide +kernel
theorem dX9_move_66 : decode cX9_move 66 = .ok (.aload_n 0, 1) := by decide +kernel
theorem dX9_move_67 : decode cX9_move 67 = .ok (.getfield 13, 3) := by decide +kernel
theorem dX9_move_70 : decode cX9_move 70 = .ok (.iconst 2, 1) := by decide +kernel
theorem dX9_move_71 : decode cX9_move 71 = .ok (.iload_n 1, 1) := by decide +kernel
theorem dX9_move_72 : decode cX9_move 72 = .ok (.imul, 1) := by decide +kernel
theorem dX9_move_73 : decode cX9_move 73 = .ok (.iconst 1, 1) := by decide +kernel
theorem dX9_move_74 : decode cX9_move 74 = .ok (.iadd, 1) := by decide +kernel
theorem dX9_move_75 : decode cX9_move 75 = .ok (.iload_n 3, 1) := by decide +kernel
theorem dX9_move_76 : decode cX9_move 76 = .ok (.iload_n 2, 1) := by decide +kernel
theorem dX9_move_77 : decode cX9_move 77 = .ok (.isub, 1) := by decide +kernel
theorem dX9_move_78 : decode cX9_move 78 = .ok (.iastore, 1) := by decide +kernel
theorem dX9_move_79 : decode cX9_move 79 = .ok (.iload 4, 2) := by decide +kernel
theorem dX9_move_81 : decode cX9_move 81 = .ok (.ireturn, 1) := by decide +kernel
theorem dX9_cut_0 : decode cX9_cut 0 = .ok (.aload_n 0, 1) := by decide +kernel
theorem dX9_cut_1 : decode cX9_cut 1 = .ok (.iload_n 1, 1) := by decide +kernel
theorem dX9_cut_2 : decode cX9_cut 2 = .ok (.invokevirtual 176, 3) := by decide +kernel
theorem dX9_cut_5 : decode cX9_cut 5 = .ok (.ifCond .ne 6, 3) := by decide +kernel
theorem dX9_cut_8 : decode cX9_cut 8 = .ok (.bipush (-101), 2) := by decide +kernel
theorem dX9_cut_10 : decode cX9_cut 10 = .ok (.ireturn, 1) := by decide +kernel
theorem dX9_cut_11 : decode cX9_cut 11 = .ok (.aload_n 0, 1) := by decide +kernel
theorem dX9_cut_12 : decode cX9_cut 12 = .ok (.iload_n 1, 1) := by decide +kernel
theorem dX9_cut_13 : decode cX9_cut 13 = .ok (.invokevirtual 186, 3) := by decide +kernel
theorem dX9_cut_16 : decode cX9_cut 16 = .ok (.ifCond .eq 6, 3) := by decide +kernel
theorem dX9_cut_19 : decode cX9_cut 19 = .ok (.bipush (-103), 2) := by decide +kernel
theorem dX9_cut_21 : decode cX9_cut 21 = .ok (.ireturn, 1) := by decide +kernel
theorem dX9_cut_22 : decode cX9_cut 22 = .ok (.aload_n 0, 1) := by decide +kernel
theorem dX9_cut_23 : decode cX9_cut 23 = .ok (.dup, 1) := by decide +kernel
theorem dX9_cut_24 : decode cX9_cut 24 = .ok (.getfield 116, 3) := by decide +kernel
theorem dX9_cut_27 : decode cX9_cut 27 = .ok (.iconst 1, 1) := by decide +kernel
theorem dX9_cut_28 : decode cX9_cut 28 = .ok (.iload_n 1, 1) := by decide +kernel
theorem dX9_cut_29 : decode cX9_cut 29 = .ok (.ishl, 1) := by decide +kernel
theorem dX9_cut_30 : decode cX9_cut 30 = .ok (.ior, 1) := by decide +kernel
theorem dX9_cut_31 : decode cX9_cut 31 = .ok (.putfield 116, 3) := by decide +kernel
theorem dX9_cut_34 : decode cX9_cut 34 = .ok (.aload_n 0, 1) := by decide +kernel
theorem dX9_cut_35 : decode cX9_cut 35 = .ok (.invokevirtual 193, 3) := by decide +kernel
theorem dX9_cut_38 : decode cX9_cut 38 = .ok (.ireturn, 1) := by decide +kernel
theorem dX9_drop_0 : decode cX9_drop 0 = .ok (.aload_n 0, 1) := by decide +kernel
theorem dX9_drop_1 : decode cX9_drop 1 = .ok (.iload_n 1, 1) := by decide +kernel
theorem dX9_drop_2 : decode cX9_drop 2 = .ok (.invokevirtual 163, 3) := by decide +kernel
theorem dX9_drop_5 : decode cX9_drop 5 = .ok (.ifCond .eq 7, 3) := by decide +kernel
theorem dX9_drop_8 : decode cX9_drop 8 = .ok (.iload_n 1, 1) := by decide +kernel
theorem dX9_drop_9 : decode cX9_drop 9 = .ok (.ifCond .ne 6, 3) := by decide +kernel
theorem dX9_drop_12 : decode cX9_drop 12 = .ok (.bipush (-101), 2) := by decide +kernel
theorem dX9_drop_14 : decode cX9_drop 14 = .ok (.ireturn, 1) := by decide +kernel
theorem dX9_drop_15 : decode cX9_drop 15 = .ok (.aload_n 0, 1) := by decide +kernel
theorem dX9_drop_16 : decode cX9_drop 16 = .ok (.getfield 113, 3) := by decide +kernel
theorem dX9_drop_19 : decode cX9_drop 19 = .ok (.iload_n 1, 1) := by decide +kernel
theorem dX9_drop_20 : decode cX9_drop 20 = .ok (.ishr, 1) := by decide +kernel
theorem dX9_drop_21 : decode cX9_drop 21 = .ok (.iconst 1, 1) := by decide +kernel
theorem dX9_drop_22 : decode cX9_drop 22 = .ok (.iand, 1) := by decide +kernel
theorem dX9_drop_23 : decode cX9_drop 23 = .ok (.iconst 1, 1) := by decide +kernel
theorem dX9_drop_24 : decode cX9_drop 24 = .ok (.if_icmp .ne 6, 3) := by decide +kernel
theorem dX9_drop_27 : decode cX9_drop 27 = .ok (.bipush (-103), 2) := by decide +kernel
theorem dX9_drop_29 : decode cX9_drop 29 = .ok (.ireturn, 1) := by decide +kernel
theorem dX9_drop_30 : decode cX9_drop 30 = .ok (.aload_n 0, 1) := by decide +kernel
theorem dX9_drop_31 : decode cX9_drop 31 = .ok (.dup, 1) := by decide +kernel
theorem dX9_drop_32 : decode cX9_drop 32 = .ok (.getfield 113, 3) := by decide +kernel
theorem dX9_drop_35 : decode cX9_drop 35 = .ok (.iconst 1, 1) := by decide +kernel
theorem dX9_drop_36 : decode cX9_drop 36 = .ok (.iload_n 1, 1) := by decide +kernel
theorem dX9_drop_37 : decode cX9_drop 37 = .ok (.ishl, 1) := by decide +kernel
theorem dX9_drop_38 : decode cX9_drop 38 = .ok (.ior, 1) := by decide +kernel
theorem dX9_drop_39 : decode cX9_drop 39 = .ok (.putfield 113, 3) := by decide +kernel
theorem dX9_drop_42 : decode cX9_drop 42 = .ok (.aload_n 0, 1) := by decide +kernel
theorem dX9_drop_43 : decode cX9_drop 43 = .ok (.invokevirtual 145, 3) := by decide +kernel
theorem dX9_drop_46 : decode cX9_drop 46 = .ok (.invokestatic 196, 3) := by decide +kernel
theorem dX9_drop_49 : decode cX9_drop 49 = .ok (.ireturn, 1) := by decide +kernel
theorem dX9_mend_0 : decode cX9_mend 0 = .ok (.aload_n 0, 1) := by decide +kernel
theorem dX9_mend_1 : decode cX9_mend 1 = .ok (.getfield 116, 3) := by decide +kernel
theorem dX9_mend_4 : decode cX9_mend 4 = .ok (.invokestatic 196, 3) := by decide +kernel
theorem dX9_mend_7 : decode cX9_mend 7 = .ok (.aload_n 0, 1) := by decide +kernel
theorem dX9_mend_8 : decode cX9_mend 8 = .ok (.getfield 113, 3) := by decide +kernel
theorem dX9_mend_11 : decode cX9_mend 11 = .ok (.invokestatic 196, 3) := by decide +kernel
theorem dX9_mend_14 : decode cX9_mend 14 = .ok (.iadd, 1) := by decide +kernel
theorem dX9_mend_15 : decode cX9_mend 15 = .ok (.istore_n 1, 1) := by decide +kernel
theorem dX9_mend_16 : decode cX9_mend 16 = .ok (.aload_n 0, 1) := by decide +kernel
theorem dX9_mend_17 : decode cX9_mend 17 = .ok (.iconst 0, 1) := by decide +kernel
theorem dX9_mend_18 : decode cX9_mend 18 = .ok (.putfield 116, 3) := by decide +kernel
theorem dX9_mend_21 : decode cX9_mend 21 = .ok (.aload_n 0, 1) := by decide +kernel
theorem dX9_mend_22 : decode cX9_mend 22 = .ok (.iconst 0, 1) := by decide +kernel
theorem dX9_mend_23 : decode cX9_mend 23 = .ok (.putfield 113, 3) := by decide +kernel
theorem dX9_mend_26 : decode cX9_mend 26 = .ok (.iload_n 1, 1) := by decide +kernel
theorem dX9_mend_27 : decode cX9_mend 27 = .ok (.ireturn, 1) := by decide +kernel
theorem dX9_change_0 : decode cX9_change 0 = .ok (.aload_n 0, 1) := by decide +kernel
theorem dX9_change_1 : decode cX9_change 1 = .ok (.iload_n 1, 1) := by decide +kernel
theorem dX9_change_2 : decode cX9_change 2 = .ok (.invokevirtual 176, 3) := by decide +kernel
theorem dX9_change_5 : decode cX9_change 5 = .ok (.ifCond .ne 6, 3) := by decide +kernel
theorem dX9_change_8 : decode cX9_change 8 = .ok (.bipush (-101), 2) := by decide +kernel
theorem dX9_change_10 : decode cX9_change 10 = .ok (.ireturn, 1) := by decide +kernel
theorem dX9_change_11 : decode cX9_change 11 = .ok (.iload_n 2, 1) := by decide +kernel
theorem dX9_change_12 : decode cX9_change 12 = .ok (.i2l, 1) := by decide +kernel
theorem dX9_change_13 : decode cX9_change 13 = .ok (.lconst 0, 1) := by decide +kernel
theorem dX9_change_14 : decode cX9_change 14 = .ok (.ldc2_w 71, 3) := by decide +kernel
theorem dX9_change_17 : decode cX9_change 17 = .ok (.invokestatic 64, 3) := by decide +kernel
theorem dX9_change_20 : decode cX9_change 20 = .ok (.ifCond .eq 15, 3) := by decide +kernel
theorem dX9_change_23 : decode cX9_change 23 = .ok (.iload_n 3, 1) := by decide +kernel
theorem dX9_change_24 : decode cX9_change 24 = .ok (.i2l, 1) := by decide +kernel
theorem dX9_change_25 : decode cX9_change 25 = .ok (.lconst 0, 1) := by decide +kernel
theorem dX9_change_26 : decode cX9_change 26 = .ok (.ldc2_w 199, 3) := by decide +kernel
theorem dX9_change_29 : decode cX9_change 29 = .ok (.invokestatic 64, 3) := by decide +kernel
theorem dX9_change_32 : decode cX9_change 32 = .ok (.ifCond .ne 6, 3) := by decide +kernel
theorem dX9_change_35 : decode cX9_change 35 = .ok (.bipush (-102), 2) := by decide +kernel
theorem dX9_change_37 : decode cX9_change 37 = .ok (.ireturn, 1) := by decide +kernel
theorem dX9_change_38 : decode cX9_change 38 = .ok (.aload_n 0, 1) := by decide +kernel
theorem dX9_change_39 : decode cX9_change 39 = .ok (.getfield 22, 3) := by decide +kernel
theorem dX9_change_42 : decode cX9_change 42 = .ok (.iload_n 1, 1) := by decide +kernel
theorem dX9_change_43 : decode cX9_change 43 = .ok (.iaload, 1) := by decide +kernel
theorem dX9_change_44 : decode cX9_change 44 = .ok (.istore 4, 2) := by decide +kernel
theorem dX9_change_46 : decode cX9_change 46 = .ok (.aload_n 0, 1) := by decide +kernel
theorem dX9_change_47 : decode cX9_change 47 = .ok (.getfield 22, 3) := by decide +kernel
theorem dX9_change_50 : decode cX9_change 50 = .ok (.iload_n 1, 1) := by decide +kernel
theorem dX9_change_51 : decode cX9_change 51 = .ok (.iload_n 2, 1) := by decide +kernel
theorem dX9_change_52 : decode cX9_change 52 = .ok (.iastore, 1) := by decide +kernel
theorem dX9_change_53 : decode cX9_change 53 = .ok (.aload_n 0, 1) := by decide +kernel
theorem dX9_change_54 : decode cX9_change 54 = .ok (.getfield 25, 3) := by decide +kernel
theorem dX9_change_57 : decode cX9_change 57 = .ok (.iload_n 1, 1) := by decide +kernel
theorem dX9_change_58 : decode cX9_change 58 = .ok (.iload_n 3, 1) := by decide +kernel
theorem dX9_change_59 : decode cX9_change 59 = .ok (.iastore, 1) := by decide +kernel
theorem dX9_change_60 : decode cX9_change 60 = .ok (.iload 4, 2) := by decide +kernel
theorem dX9_change_62 : decode cX9_change 62 = .ok (.ireturn, 1) := by decide +kernel
theorem dX9_bestOf_0 : decode cX9_bestOf 0 = .ok (.aload_n 0, 1) := by decide +kernel
theorem dX9_bestOf_1 : decode cX9_bestOf 1 = .ok (.invokevirtual 193, 3) := by decide +kernel
theorem dX9_bestOf_4 : decode cX9_bestOf 4 = .ok (.istore_n 1, 1) := by decide +kernel
theorem dX9_bestOf_5 : decode cX9_bestOf 5 = .ok (.iconst (-1), 1) := by decide +kernel
theorem dX9_bestOf_6 : decode cX9_bestOf 6 = .ok (.istore_n 2, 1) := by decide +kernel
theorem dX9_bestOf_7 : decode cX9_bestOf 7 = .ok (.iconst 0, 1) := by decide +kernel
theorem dX9_bestOf_8 : decode cX9_bestOf 8 = .ok (.istore_n 3, 1) := by decide +kernel
theorem dX9_bestOf_9 : decode cX9_bestOf 9 = .ok (.iload_n 3, 1) := by decide +kernel
theorem dX9_bestOf_10 : decode cX9_bestOf 10 = .ok (.aload_n 0, 1) := by decide +kernel
theorem dX9_bestOf_11 : decode cX9_bestOf 11 = .ok (.getfield 107, 3) := by decide +kernel
theorem dX9_bestOf_14 : decode cX9_bestOf 14 = .ok (.aload_n 0, 1) := by decide +kernel
theorem dX9_bestOf_15 : decode cX9_bestOf 15 = .ok (.getfield 107, 3) := by decide +kernel
theorem dX9_bestOf_18 : decode cX9_bestOf 18 = .ok (.imul, 1) := by decide +kernel
theorem dX9_bestOf_19 : decode cX9_bestOf 19 = .ok (.if_icmp .ge 103, 3) := by decide +kernel
theorem dX9_bestOf_22 : decode cX9_bestOf 22 = .ok (.iload_n 3, 1) := by decide +kernel
theorem dX9_bestOf_23 : decode cX9_bestOf 23 = .ok (.aload_n 0, 1) := by decide +kernel
theorem dX9_bestOf_24 : decode cX9_bestOf 24 = .ok (.getfield 107, 3) := by decide +kernel
theorem dX9_bestOf_27 : decode cX9_bestOf 27 = .ok (.idiv, 1) := by decide +kernel
theorem dX9_bestOf_28 : decode cX9_bestOf 28 = .ok (.istore 4, 2) := by decide +kernel
theorem dX9_bestOf_30 : decode cX9_bestOf 30 = .ok (.iload_n 3, 1) := by decide +kernel
theorem dX9_bestOf_31 : decode cX9_bestOf 31 = .ok (.aload_n 0, 1) := by decide +kernel
theorem dX9_bestOf_32 : decode cX9_bestOf 32 = .ok (.getfield 107, 3) := by decide +kernel
theorem dX9_bestOf_35 : decode cX9_bestOf 35 = .ok (.irem, 1) := by decide +kernel
theorem dX9_bestOf_36 : decode cX9_bestOf 36 = .ok (.istore 5, 2) := by decide +kernel
theorem dX9_bestOf_38 : decode cX9_bestOf 38 = .ok (.iload 4, 2) := by decide +kernel
theorem dX9_bestOf_40 : decode cX9_bestOf 40 = .ok (.iload 5, 2) := by decide +kernel
theorem dX9_bestOf_42 : decode cX9_bestOf 42 = .ok (.if_icmp .ge 74, 3) := by decide +kernel
theorem dX9_bestOf_45 : decode cX9_bestOf 45 = .ok (.aload_n 0, 1) := by decide +kernel
theorem dX9_bestOf_46 : decode cX9_bestOf 46 = .ok (.iload 4, 2) := by decide +kernel
theorem dX9_bestOf_48 : decode cX9_bestOf 48 = .ok (.invokevirtual 186, 3) := by decide +kernel
theorem dX9_bestOf_51 : decode cX9_bestOf 51 = .ok (.ifCond .ne 65, 3) := by decide +kernel
theorem dX9_bestOf_54 : decode cX9_bestOf 54 = .ok (.aload_n 0, 1) := by decide +kernel
theorem dX9_bestOf_55 : decode cX9_bestOf 55 = .ok (.iload 5, 2) := by decide +kernel
theorem dX9_bestOf_57 : decode cX9_bestOf 57 = .ok (.invokevirtual 186, 3) := by decide +kernel
theorem dX9_bestOf_60 : decode cX9_bestOf 60 = .ok (.ifCond .ne 56, 3) := by decide +kernel
theorem dX9_bestOf_63 : decode cX9_bestOf 63 = .ok (.aload_n 0, 1) := by decide +kernel
theorem dX9_bestOf_64 : decode cX9_bestOf 64 = .ok (.invokevirtual 148, 3) := by decide +kernel
theorem dX9_bestOf_67 : decode cX9_bestOf 67 = .ok (.aload_n 0, 1) := by decide +kernel
theorem dX9_bestOf_68 : decode cX9_bestOf 68 = .ok (.getfield 31, 3) := by decide +kernel
theorem dX9_bestOf_71 : decode cX9_bestOf 71 = .ok (.iload 4, 2) := by decide +kernel
theorem dX9_bestOf_73 : decode cX9_bestOf 73 = .ok (.iload 5, 2) := by decide +kernel
theorem dX9_bestOf_75 : decode cX9_bestOf 75 = .ok (.invokestatic 189, 3) := by decide +kernel
theorem dX9_bestOf_78 : decode cX9_bestOf 78 = .ok (.aload_n 0, 1) := by decide +kernel
theorem dX9_bestOf_79 : decode cX9_bestOf 79 = .ok (.invokevirtual 151, 3) := by decide +kernel
theorem dX9_bestOf_82 : decode cX9_bestOf 82 = .ok (.istore 6, 2) := by decide +kernel
theorem dX9_bestOf_84 : decode cX9_bestOf 84 = .ok (.iload 6, 2) := by decide +kernel
theorem dX9_bestOf_86 : decode cX9_bestOf 86 = .ok (.iload_n 1, 1) := by decide +kernel
theorem dX9_bestOf_87 : decode cX9_bestOf 87 = .ok (.if_icmp .le 14, 3) := by decide +kernel
theorem dX9_bestOf_90 : decode cX9_bestOf 90 = .ok (.bipush 10, 2) := by decide +kernel
theorem dX9_bestOf_92 : decode cX9_bestOf 92 = .ok (.iload 4, 2) := by decide +kernel
theorem dX9_bestOf_94 : decode cX9_bestOf 94 = .ok (.imul, 1) := by decide +kernel
theorem dX9_bestOf_95 : decode cX9_bestOf 95 = .ok (.iload 5, 2) := by decide +kernel
theorem dX9_bestOf_97 : decode cX9_bestOf 97 = .ok (.iadd, 1) := by decide +kernel
theorem dX9_bestOf_98 : decode cX9_bestOf 98 = .ok (.goto 4, 3) := by decide +kernel
theorem dX9_bestOf_101 : decode cX9_bestOf 101 = .ok (.iload_n 2, 1) := by decide +kernel
theorem dX9_bestOf_102 : decode cX9_bestOf 102 = .ok (.istore_n 2, 1) := by decide +kernel
theorem dX9_bestOf_103 : decode cX9_bestOf 103 = .ok (.iload 6, 2) := by decide +kernel
theorem dX9_bestOf_105 : decode cX9_bestOf 105 = .ok (.iload_n 1, 1) := by decide +kernel
theorem dX9_bestOf_106 : decode cX9_bestOf 106 = .ok (.if_icmp .le 8, 3) := by decide +kernel
theorem dX9_bestOf_109 : decode cX9_bestOf 109 = .ok (.iload 6, 2) := by decide +kernel
theorem dX9_bestOf_111 : decode cX9_bestOf 111 = .ok (.goto 4, 3) := by decide +kernel
theorem dX9_bestOf_114 : decode cX9_bestOf 114 = .ok (.iload_n 1, 1) := by decide +kernel
theorem dX9_bestOf_115 : decode cX9_bestOf 115 = .ok (.istore_n 1, 1) := by decide +kernel
theorem dX9_bestOf_116 : decode cX9_bestOf 116 = .ok (.iinc 3 1, 3) := by decide +kernel
theorem dX9_bestOf_119 : decode cX9_bestOf 119 = .ok (.goto (-110), 3) := by decide +kernel
theorem dX9_bestOf_122 : decode cX9_bestOf 122 = .ok (.iload_n 2, 1) := by decide +kernel
theorem dX9_bestOf_123 : decode cX9_bestOf 123 = .ok (.ireturn, 1) := by decide +kernel
theorem dX9_best_0 : decode cX9_best 0 = .ok (.aload_n 0, 1) := by decide +kernel
theorem dX9_best_1 : decode cX9_best 1 = .ok (.invokevirtual 182, 3) := by decide +kernel
theorem dX9_best_4 : decode cX9_best 4 = .ok (.ifCond .eq 8, 3) := by decide +kernel
theorem dX9_best_7 : decode cX9_best 7 = .ok (.bipush (-103), 2) := by decide +kernel
theorem dX9_best_9 : decode cX9_best 9 = .ok (.goto 7, 3) := by decide +kernel
theorem dX9_best_12 : decode cX9_best 12 = .ok (.aload_n 0, 1) := by decide +kernel
theorem dX9_best_13 : decode cX9_best 13 = .ok (.invokevirtual 201, 3) := by decide +kernel
theorem dX9_best_16 : decode cX9_best 16 = .ok (.ireturn, 1) := by decide +kernel
theorem dX9_looseMany_0 : decode cX9_looseMany 0 = .ok (.aload_n 0, 1) := by decide +kernel
theorem dX9_looseMany_1 : decode cX9_looseMany 1 = .ok (.getfield 107, 3) := by decide +kernel
theorem dX9_looseMany_4 : decode cX9_looseMany 4 = .ok (.aload_n 0, 1) := by decide +kernel
theorem dX9_looseMany_5 : decode cX9_looseMany 5 = .ok (.getfield 116, 3) := by decide +kernel
theorem dX9_looseMany_8 : decode cX9_looseMany 8 = .ok (.invokestatic 196, 3) := by decide +kernel
theorem dX9_looseMany_11 : decode cX9_looseMany 11 = .ok (.isub, 1) := by decide +kernel
theorem dX9_looseMany_12 : decode cX9_looseMany 12 = .ok (.ireturn, 1) := by decide +kernel
theorem dX9_factorial_0 : decode cX9_factorial 0 = .ok (.iconst 1, 1) := by decide +kernel
theorem dX9_factorial_1 : decode cX9_factorial 1 = .ok (.istore_n 1, 1) := by decide +kernel
theorem dX9_factorial_2 : decode cX9_factorial 2 = .ok (.iconst 2, 1) := by decide +kernel
theorem dX9_factorial_3 : decode cX9_factorial 3 = .ok (.istore_n 2, 1) := by decide +kernel
theorem dX9_factorial_4 : decode cX9_factorial 4 = .ok (.iload_n 2, 1) := by decide +kernel
theorem dX9_factorial_5 : decode cX9_factorial 5 = .ok (.iload_n 0, 1) := by decide +kernel
theorem dX9_factorial_6 : decode cX9_factorial 6 = .ok (.if_icmp .gt 13, 3) := by decide +kernel
theorem dX9_factorial_9 : decode cX9_factorial 9 = .ok (.iload_n 1, 1) := by decide +kernel
theorem dX9_factorial_10 : decode cX9_factorial 10 = .ok (.iload_n 2, 1) := by decide +kernel
theorem dX9_factorial_11 : decode cX9_factorial 11 = .ok (.imul, 1) := by decide +kernel
theorem dX9_factorial_12 : decode cX9_factorial 12 = .ok (.istore_n 1, 1) := by decide +kernel
theorem dX9_factorial_13 : decode cX9_factorial 13 = .ok (.iinc 2 1, 3) := by decide +kernel
theorem dX9_factorial_16 : decode cX9_factorial 16 = .ok (.goto (-12), 3) := by decide +kernel
theorem dX9_factorial_19 : decode cX9_factorial 19 = .ok (.iload_n 1, 1) := by decide +kernel
theorem dX9_factorial_20 : decode cX9_factorial 20 = .ok (.ireturn, 1) := by decide +kernel
theorem dX9_layOrder_0 : decode cX9_layOrder 0 = .ok (.aload_n 0, 1) := by decide +kernel
theorem dX9_layOrder_1 : decode cX9_layOrder 1 = .ok (.invokevirtual 148, 3) := by decide +kernel
theorem dX9_layOrder_4 : decode cX9_layOrder 4 = .ok (.iload_n 1, 1) := by decide +kernel
theorem dX9_layOrder_5 : decode cX9_layOrder 5 = .ok (.istore_n 2, 1) := by decide +kernel
theorem dX9_layOrder_6 : decode cX9_layOrder 6 = .ok (.aload_n 0, 1) := by decide +kernel
theorem dX9_layOrder_7 : decode cX9_layOrder 7 = .ok (.getfield 116, 3) := by decide +kernel
theorem dX9_layOrder_10 : decode cX9_layOrder 10 = .ok (.istore_n 3, 1) := by decide +kernel
theorem dX9_layOrder_11 : decode cX9_layOrder 11 = .ok (.aload_n 0, 1) := by decide +kernel
theorem dX9_layOrder_12 : decode cX9_layOrder 12 = .ok (.invokevirtual 204, 3) := by decide +kernel
theorem dX9_layOrder_15 : decode cX9_layOrder 15 = .ok (.istore 4, 2) := by decide +kernel
theorem dX9_layOrder_17 : decode cX9_layOrder 17 = .ok (.iconst 0, 1) := by decide +kernel
theorem dX9_layOrder_18 : decode cX9_layOrder 18 = .ok (.istore 5, 2) := by decide +kernel
theorem dX9_layOrder_20 : decode cX9_layOrder 20 = .ok (.iload 5, 2) := by decide +kernel
theorem dX9_layOrder_22 : decode cX9_layOrder 22 = .ok (.aload_n 0, 1) := by decide +kernel
theorem dX9_layOrder_23 : decode cX9_layOrder 23 = .ok (.getfield 107, 3) := by decide +kernel
theorem dX9_layOrder_26 : decode cX9_layOrder 26 = .ok (.if_icmp .ge 103, 3) := by decide +kernel
theorem dX9_layOrder_29 : decode cX9_layOrder 29 = .ok (.aload_n 0, 1) := by decide +kernel
theorem dX9_layOrder_30 : decode cX9_layOrder 30 = .ok (.aload_n 0, 1) := by decide +kernel
theorem dX9_layOrder_31 : decode cX9_layOrder 31 = .ok (.getfield 28, 3) := by decide +kernel
theorem dX9_layOrder_34 : decode cX9_layOrder 34 = .ok (.iload 5, 2) := by decide +kernel
theorem dX9_layOrder_36 : decode cX9_layOrder 36 = .ok (.iaload, 1) := by decide +kernel
theorem dX9_layOrder_37 : decode cX9_layOrder 37 = .ok (.invokevirtual 186, 3) := by decide +kernel
theorem dX9_layOrder_40 : decode cX9_layOrder 40 = .ok (.ifCond .ne 83, 3) := by decide +kernel
theorem dX9_layOrder_43 : decode cX9_layOrder 43 = .ok (.iinc 4 (-1), 3) := by decide +kernel
theorem dX9_layOrder_46 : decode cX9_layOrder 46 = .ok (.iload_n 2, 1) := by decide +kernel
theorem dX9_layOrder_47 : decode cX9_layOrder 47 = .ok (.iload 4, 2) := by decide +kernel
theorem dX9_layOrder_49 : decode cX9_layOrder 49 = .ok (.invokestatic 207, 3) := by decide +kernel
theorem dX9_layOrder_52 : decode cX9_layOrder 52 = .ok (.idiv, 1) := by decide +kernel
theorem dX9_layOrder_53 : decode cX9_layOrder 53 = .ok (.istore 6, 2) := by decide +kernel
theorem dX9_layOrder_55 : decode cX9_layOrder 55 = .ok (.iload_n 2, 1) := by decide +kernel
theorem dX9_layOrder_56 : decode cX9_layOrder 56 = .ok (.iload 4, 2) := by decide +kernel
theorem dX9_layOrder_58 : decode cX9_layOrder 58 = .ok (.invokestatic 207, 3) := by decide +kernel
theorem dX9_layOrder_61 : decode cX9_layOrder 61 = .ok (.irem, 1) := by decide +kernel
theorem dX9_layOrder_62 : decode cX9_layOrder 62 = .ok (.istore_n 2, 1) := by decide +kernel
theorem dX9_layOrder_63 : decode cX9_layOrder 63 = .ok (.iconst 0, 1) := by decide +kernel
theorem dX9_layOrder_64 : decode cX9_layOrder 64 = .ok (.istore 7, 2) := by decide +kernel
theorem dX9_layOrder_66 : decode cX9_layOrder 66 = .ok (.iload_n 3, 1) := by decide +kernel
theorem dX9_layOrder_67 : decode cX9_layOrder 67 = .ok (.iload 7, 2) := by decide +kernel
theorem dX9_layOrder_69 : decode cX9_layOrder 69 = .ok (.ishr, 1) := by decide +kernel
theorem dX9_layOrder_70 : decode cX9_layOrder 70 = .ok (.iconst 1, 1) := by decide +kernel
theorem dX9_layOrder_71 : decode cX9_layOrder 71 = .ok (.iand, 1) := by decide +kernel
theorem dX9_layOrder_72 : decode cX9_layOrder 72 = .ok (.iconst 1, 1) := by decide +kernel
theorem dX9_layOrder_73 : decode cX9_layOrder 73 = .ok (.if_icmp .eq 8, 3) := by decide +kernel
theorem dX9_layOrder_76 : decode cX9_layOrder 76 = .ok (.iload 6, 2) := by decide +kernel
theorem dX9_layOrder_78 : decode cX9_layOrder 78 = .ok (.ifCond .le 29, 3) := by decide +kernel
theorem dX9_layOrder_81 : decode cX9_layOrder 81 = .ok (.iload 6, 2) := by decide +kernel
theorem dX9_layOrder_83 : decode cX9_layOrder 83 = .ok (.iload_n 3, 1) := by decide +kernel
theorem dX9_layOrder_84 : decode cX9_layOrder 84 = .ok (.iload 7, 2) := by decide +kernel
theorem dX9_layOrder_86 : decode cX9_layOrder 86 = .ok (.ishr, 1) := by decide +kernel
theorem dX9_layOrder_87 : decode cX9_layOrder 87 = .ok (.iconst 1, 1) := by decide +kernel
theorem dX9_layOrder_88 : decode cX9_layOrder 88 = .ok (.iand, 1) := by decide +kernel
theorem dX9_layOrder_89 : decode cX9_layOrder 89 = .ok (.iconst 1, 1) := by decide +kernel
theorem dX9_layOrder_90 : decode cX9_layOrder 90 = .ok (.if_icmp .ne 7, 3) := by decide +kernel
theorem dX9_layOrder_93 : decode cX9_layOrder 93 = .ok (.iconst 0, 1) := by decide +kernel
theorem dX9_layOrder_94 : decode cX9_layOrder 94 = .ok (.goto 4, 3) := by decide +kernel
theorem dX9_layOrder_97 : decode cX9_layOrder 97 = .ok (.iconst 1, 1) := by decide +kernel
theorem dX9_layOrder_98 : decode cX9_layOrder 98 = .ok (.isub, 1) := by decide +kernel
theorem dX9_layOrder_99 : decode cX9_layOrder 99 = .ok (.istore 6, 2) := by decide +kernel
theorem dX9_layOrder_101 : decode cX9_layOrder 101 = .ok (.iinc 7 1, 3) := by decide +kernel
theorem dX9_layOrder_104 : decode cX9_layOrder 104 = .ok (.goto (-38), 3) := by decide +kernel
theorem dX9_layOrder_107 : decode cX9_layOrder 107 = .ok (.iload_n 3, 1) := by decide +kernel
theorem dX9_layOrder_108 : decode cX9_layOrder 108 = .ok (.iconst 1, 1) := by decide +kernel
theorem dX9_layOrder_109 : decode cX9_layOrder 109 = .ok (.iload 7, 2) := by decide +kernel
theorem dX9_layOrder_111 : decode cX9_layOrder 111 = .ok (.ishl, 1) := by decide +kernel
theorem dX9_layOrder_112 : decode cX9_layOrder 112 = .ok (.ior, 1) := by decide +kernel
theorem dX9_layOrder_113 : decode cX9_layOrder 113 = .ok (.istore_n 3, 1) := by decide +kernel
theorem dX9_layOrder_114 : decode cX9_layOrder 114 = .ok (.aload_n 0, 1) := by decide +kernel
theorem dX9_layOrder_115 : decode cX9_layOrder 115 = .ok (.getfield 31, 3) := by decide +kernel
theorem dX9_layOrder_118 : decode cX9_layOrder 118 = .ok (.iload 5, 2) := by decide +kernel
theorem dX9_layOrder_120 : decode cX9_layOrder 120 = .ok (.iload 7, 2) := by decide +kernel
theorem dX9_layOrder_122 : decode cX9_layOrder 122 = .ok (.iastore, 1) := by decide +kernel
theorem dX9_layOrder_123 : decode cX9_layOrder 123 = .ok (.iinc 5 1, 3) := by decide +kernel
theorem dX9_layOrder_126 : decode cX9_layOrder 126 = .ok (.goto (-106), 3) := by decide +kernel
theorem dX9_layOrder_129 : decode cX9_layOrder 129 = .ok (.return_, 1) := by decide +kernel
theorem dX9_tiltsAll_0 : decode cX9_tiltsAll 0 = .ok (.aload_n 0, 1) := by decide +kernel
theorem dX9_tiltsAll_1 : decode cX9_tiltsAll 1 = .ok (.invokevirtual 145, 3) := by decide +kernel
theorem dX9_tiltsAll_4 : decode cX9_tiltsAll 4 = .ok (.istore_n 1, 1) := by decide +kernel
theorem dX9_tiltsAll_5 : decode cX9_tiltsAll 5 = .ok (.iconst 0, 1) := by decide +kernel
theorem dX9_tiltsAll_6 : decode cX9_tiltsAll 6 = .ok (.istore_n 2, 1) := by decide +kernel
theorem dX9_tiltsAll_7 : decode cX9_tiltsAll 7 = .ok (.iconst 0, 1) := by decide +kernel
theorem dX9_tiltsAll_8 : decode cX9_tiltsAll 8 = .ok (.istore_n 3, 1) := by decide +kernel
theorem dX9_tiltsAll_9 : decode cX9_tiltsAll 9 = .ok (.iload_n 3, 1) := by decide +kernel
theorem dX9_tiltsAll_10 : decode cX9_tiltsAll 10 = .ok (.aload_n 0, 1) := by decide +kernel
theorem dX9_tiltsAll_11 : decode cX9_tiltsAll 11 = .ok (.getfield 104, 3) := by decide +kernel
theorem dX9_tiltsAll_14 : decode cX9_tiltsAll 14 = .ok (.if_icmp .ge 55, 3) := by decide +kernel
theorem dX9_tiltsAll_17 : decode cX9_tiltsAll 17 = .ok (.aload_n 0, 1) := by decide +kernel
theorem dX9_tiltsAll_18 : decode cX9_tiltsAll 18 = .ok (.getfield 37, 3) := by decide +kernel
theorem dX9_tiltsAll_21 : decode cX9_tiltsAll 21 = .ok (.iload_n 3, 1) := by decide +kernel
theorem dX9_tiltsAll_22 : decode cX9_tiltsAll 22 = .ok (.iaload, 1) := by decide +kernel
theorem dX9_tiltsAll_23 : decode cX9_tiltsAll 23 = .ok (.ifCond .ge 14, 3) := by decide +kernel
theorem dX9_tiltsAll_26 : decode cX9_tiltsAll 26 = .ok (.iconst 0, 1) := by decide +kernel
theorem dX9_tiltsAll_27 : decode cX9_tiltsAll 27 = .ok (.aload_n 0, 1) := by decide +kernel
theorem dX9_tiltsAll_28 : decode cX9_tiltsAll 28 = .ok (.getfield 37, 3) := by decide +kernel
theorem dX9_tiltsAll_31 : decode cX9_tiltsAll 31 = .ok (.iload_n 3, 1) := by decide +kernel
theorem dX9_tiltsAll_32 : decode cX9_tiltsAll 32 = .ok (.iaload, 1) := by decide +kernel
theorem dX9_tiltsAll_33 : decode cX9_tiltsAll 33 = .ok (.isub, 1) := by decide +kernel
theorem dX9_tiltsAll_34 : decode cX9_tiltsAll 34 = .ok (.goto 9, 3) := by decide +kernel
theorem dX9_tiltsAll_37 : decode cX9_tiltsAll 37 = .ok (.aload_n 0, 1) := by decide +kernel
theorem dX9_tiltsAll_38 : decode cX9_tiltsAll 38 = .ok (.getfield 37, 3) := by decide +kernel
theorem dX9_tiltsAll_41 : decode cX9_tiltsAll 41 = .ok (.iload_n 3, 1) := by decide +kernel
theorem dX9_tiltsAll_42 : decode cX9_tiltsAll 42 = .ok (.iaload, 1) := by decide +kernel
theorem dX9_tiltsAll_43 : decode cX9_tiltsAll 43 = .ok (.istore 4, 2) := by decide +kernel
theorem dX9_tiltsAll_45 : decode cX9_tiltsAll 45 = .ok (.iload_n 2, 1) := by decide +kernel
theorem dX9_tiltsAll_46 : decode cX9_tiltsAll 46 = .ok (.iload_n 1, 1) := by decide +kernel
theorem dX9_tiltsAll_47 : decode cX9_tiltsAll 47 = .ok (.iload_n 3, 1) := by decide +kernel
theorem dX9_tiltsAll_48 : decode cX9_tiltsAll 48 = .ok (.ishr, 1) := by decide +kernel
theorem dX9_tiltsAll_49 : decode cX9_tiltsAll 49 = .ok (.iconst 1, 1) := by decide +kernel
theorem dX9_tiltsAll_50 : decode cX9_tiltsAll 50 = .ok (.iand, 1) := by decide +kernel
theorem dX9_tiltsAll_51 : decode cX9_tiltsAll 51 = .ok (.iconst 1, 1) := by decide +kernel
theorem dX9_tiltsAll_52 : decode cX9_tiltsAll 52 = .ok (.if_icmp .ne 8, 3) := by decide +kernel
theorem dX9_tiltsAll_55 : decode cX9_tiltsAll 55 = .ok (.iload 4, 2) := by decide +kernel
theorem dX9_tiltsAll_57 : decode cX9_tiltsAll 57 = .ok (.goto 4, 3) := by decide +kernel
theorem dX9_tiltsAll_60 : decode cX9_tiltsAll 60 = .ok (.iconst 0, 1) := by decide +kernel
theorem dX9_tiltsAll_61 : decode cX9_tiltsAll 61 = .ok (.iadd, 1) := by decide +kernel
theorem dX9_tiltsAll_62 : decode cX9_tiltsAll 62 = .ok (.istore_n 2, 1) := by decide +kernel
theorem dX9_tiltsAll_63 : decode cX9_tiltsAll 63 = .ok (.iinc 3 1, 3) := by decide +kernel
theorem dX9_tiltsAll_66 : decode cX9_tiltsAll 66 = .ok (.goto (-57), 3) := by decide +kernel
theorem dX9_tiltsAll_69 : decode cX9_tiltsAll 69 = .ok (.iload_n 2, 1) := by decide +kernel
theorem dX9_tiltsAll_70 : decode cX9_tiltsAll 70 = .ok (.ireturn, 1) := by decide +kernel
theorem dX9_layOf_0 : decode cX9_layOf 0 = .ok (.iconst 0, 1) := by decide +kernel
theorem dX9_layOf_1 : decode cX9_layOf 1 = .ok (.istore_n 2, 1) := by decide +kernel
theorem dX9_layOf_2 : decode cX9_layOf 2 = .ok (.iconst (-1), 1) := by decide +kernel
theorem dX9_layOf_3 : decode cX9_layOf 3 = .ok (.istore_n 3, 1) := by decide +kernel
theorem dX9_layOf_4 : decode cX9_layOf 4 = .ok (.iconst 0, 1) := by decide +kernel
theorem dX9_layOf_5 : decode cX9_layOf 5 = .ok (.istore 4, 2) := by decide +kernel
theorem dX9_layOf_7 : decode cX9_layOf 7 = .ok (.iconst 0, 1) := by decide +kernel
theorem dX9_layOf_8 : decode cX9_layOf 8 = .ok (.istore 5, 2) := by decide +kernel
theorem dX9_layOf_10 : decode cX9_layOf 10 = .ok (.iload 5, 2) := by decide +kernel
theorem dX9_layOf_12 : decode cX9_layOf 12 = .ok (.aload_n 0, 1) := by decide +kernel
theorem dX9_layOf_13 : decode cX9_layOf 13 = .ok (.invokevirtual 204, 3) := by decide +kernel
theorem dX9_layOf_16 : decode cX9_layOf 16 = .ok (.invokestatic 207, 3) := by decide +kernel
theorem dX9_layOf_19 : decode cX9_layOf 19 = .ok (.if_icmp .ge 56, 3) := by decide +kernel
theorem dX9_layOf_22 : decode cX9_layOf 22 = .ok (.aload_n 0, 1) := by decide +kernel
theorem dX9_layOf_23 : decode cX9_layOf 23 = .ok (.iload 5, 2) := by decide +kernel
theorem dX9_layOf_25 : decode cX9_layOf 25 = .ok (.invokevirtual 210, 3) := by decide +kernel
theorem dX9_layOf_28 : decode cX9_layOf 28 = .ok (.aload_n 0, 1) := by decide +kernel
theorem dX9_layOf_29 : decode cX9_layOf 29 = .ok (.invokevirtual 151, 3) := by decide +kernel
theorem dX9_layOf_32 : decode cX9_layOf 32 = .ok (.istore 6, 2) := by decide +kernel
theorem dX9_layOf_34 : decode cX9_layOf 34 = .ok (.aload_n 0, 1) := by decide +kernel
theorem dX9_layOf_35 : decode cX9_layOf 35 = .ok (.invokevirtual 214, 3) := by decide +kernel
theorem dX9_layOf_38 : decode cX9_layOf 38 = .ok (.istore 7, 2) := by decide +kernel
theorem dX9_layOf_40 : decode cX9_layOf 40 = .ok (.iload 6, 2) := by decide +kernel
theorem dX9_layOf_42 : decode cX9_layOf 42 = .ok (.iload_n 3, 1) := by decide +kernel
theorem dX9_layOf_43 : decode cX9_layOf 43 = .ok (.if_icmp .gt 16, 3) := by decide +kernel
theorem dX9_layOf_46 : decode cX9_layOf 46 = .ok (.iload 6, 2) := by decide +kernel
theorem dX9_layOf_48 : decode cX9_layOf 48 = .ok (.iload_n 3, 1) := by decide +kernel
theorem dX9_layOf_49 : decode cX9_layOf 49 = .ok (.if_icmp .ne 20, 3) := by decide +kernel
theorem dX9_layOf_52 : decode cX9_layOf 52 = .ok (.iload 7, 2) := by decide +kernel
theorem dX9_layOf_54 : decode cX9_layOf 54 = .ok (.iload 4, 2) := by decide +kernel
theorem dX9_layOf_56 : decode cX9_layOf 56 = .ok (.if_icmp .ge 13, 3) := by decide +kernel
theorem dX9_layOf_59 : decode cX9_layOf 59 = .ok (.iload 5, 2) := by decide +kernel
theorem dX9_layOf_61 : decode cX9_layOf 61 = .ok (.istore_n 2, 1) := by decide +kernel
theorem dX9_layOf_62 : decode cX9_layOf 62 = .ok (.iload 6, 2) := by decide +kernel
theorem dX9_layOf_64 : decode cX9_layOf 64 = .ok (.istore_n 3, 1) := by decide +kernel
theorem dX9_layOf_65 : decode cX9_layOf 65 = .ok (.iload 7, 2) := by decide +kernel
theorem dX9_layOf_67 : decode cX9_layOf 67 = .ok (.istore 4, 2) := by decide +kernel
theorem dX9_layOf_69 : decode cX9_layOf 69 = .ok (.iinc 5 1, 3) := by decide +kernel
theorem dX9_layOf_72 : decode cX9_layOf 72 = .ok (.goto (-62), 3) := by decide +kernel
theorem dX9_layOf_75 : decode cX9_layOf 75 = .ok (.iload_n 1, 1) := by decide +kernel
theorem dX9_layOf_76 : decode cX9_layOf 76 = .ok (.iconst 2, 1) := by decide +kernel
theorem dX9_layOf_77 : decode cX9_layOf 77 = .ok (.if_icmp .ge 14, 3) := by decide +kernel
theorem dX9_layOf_80 : decode cX9_layOf 80 = .ok (.iload_n 1, 1) := by decide +kernel
theorem dX9_layOf_81 : decode cX9_layOf 81 = .ok (.ifCond .ne 7, 3) := by decide +kernel
theorem dX9_layOf_84 : decode cX9_layOf 84 = .ok (.iload_n 3, 1) := by decide +kernel
theorem dX9_layOf_85 : decode cX9_layOf 85 = .ok (.goto 5, 3) := by decide +kernel
theorem dX9_layOf_88 : decode cX9_layOf 88 = .ok (.iload 4, 2) := by decide +kernel
theorem dX9_layOf_90 : decode cX9_layOf 90 = .ok (.ireturn, 1) := by decide +kernel
theorem dX9_layOf_91 : decode cX9_layOf 91 = .ok (.aload_n 0, 1) := by decide +kernel
theorem dX9_layOf_92 : decode cX9_layOf 92 = .ok (.iload_n 2, 1) := by decide +kernel
theorem dX9_layOf_93 : decode cX9_layOf 93 = .ok (.invokevirtual 210, 3) := by decide +kernel
theorem dX9_layOf_96 : decode cX9_layOf 96 = .ok (.iload_n 1, 1) := by decide +kernel
theorem dX9_layOf_97 : decode cX9_layOf 97 = .ok (.bipush 10, 2) := by decide +kernel
theorem dX9_layOf_99 : decode cX9_layOf 99 = .ok (.isub, 1) := by decide +kernel
theorem dX9_layOf_100 : decode cX9_layOf 100 = .ok (.istore 5, 2) := by decide +kernel
theorem dX9_layOf_102 : decode cX9_layOf 102 = .ok (.iload 5, 2) := by decide +kernel
theorem dX9_layOf_104 : decode cX9_layOf 104 = .ok (.aload_n 0, 1) := by decide +kernel
theorem dX9_layOf_105 : decode cX9_layOf 105 = .ok (.getfield 107, 3) := by decide +kernel
theorem dX9_layOf_108 : decode cX9_layOf 108 = .ok (.if_icmp .ge 27, 3) := by decide +kernel
theorem dX9_layOf_111 : decode cX9_layOf 111 = .ok (.aload_n 0, 1) := by decide +kernel
theorem dX9_layOf_112 : decode cX9_layOf 112 = .ok (.aload_n 0, 1) := by decide +kernel
theorem dX9_layOf_113 : decode cX9_layOf 113 = .ok (.getfield 28, 3) := by decide +kernel
theorem dX9_layOf_116 : decode cX9_layOf 116 = .ok (.iload 5, 2) := by decide +kernel
theorem dX9_layOf_118 : decode cX9_layOf 118 = .ok (.iaload, 1) := by decide +kernel
theorem dX9_layOf_119 : decode cX9_layOf 119 = .ok (.invokevirtual 186, 3) := by decide +kernel
theorem dX9_layOf_122 : decode cX9_layOf 122 = .ok (.ifCond .ne 13, 3) := by decide +kernel
theorem dX9_layOf_125 : decode cX9_layOf 125 = .ok (.aload_n 0, 1) := by decide +kernel
theorem dX9_layOf_126 : decode cX9_layOf 126 = .ok (.getfield 31, 3) := by decide +kernel
theorem dX9_layOf_129 : decode cX9_layOf 129 = .ok (.iload 5, 2) := by decide +kernel
theorem dX9_layOf_131 : decode cX9_layOf 131 = .ok (.iaload, 1) := by decide +kernel
theorem dX9_layOf_132 : decode cX9_layOf 132 = .ok (.goto 4, 3) := by decide +kernel
theorem dX9_layOf_135 : decode cX9_layOf 135 = .ok (.iconst (-1), 1) := by decide +kernel
theorem dX9_layOf_136 : decode cX9_layOf 136 = .ok (.ireturn, 1) := by decide +kernel
theorem dX9_lay_0 : decode cX9_lay 0 = .ok (.iload_n 1, 1) := by decide +kernel
theorem dX9_lay_1 : decode cX9_lay 1 = .ok (.i2l, 1) := by decide +kernel
theorem dX9_lay_2 : decode cX9_lay 2 = .ok (.lconst 0, 1) := by decide +kernel
theorem dX9_lay_3 : decode cX9_lay 3 = .ok (.lconst 1, 1) := by decide +kernel
theorem dX9_lay_4 : decode cX9_lay 4 = .ok (.invokestatic 64, 3) := by decide +kernel
theorem dX9_lay_7 : decode cX9_lay 7 = .ok (.ifCond .ne 20, 3) := by decide +kernel
theorem dX9_lay_10 : decode cX9_lay 10 = .ok (.iload_n 1, 1) := by decide +kernel
theorem dX9_lay_11 : decode cX9_lay 11 = .ok (.i2l, 1) := by decide +kernel
theorem dX9_lay_12 : decode cX9_lay 12 = .ok (.ldc2_w 217, 3) := by decide +kernel
theorem dX9_lay_15 : decode cX9_lay 15 = .ok (.ldc2_w 219, 3) := by decide +kernel
theorem dX9_lay_18 : decode cX9_lay 18 = .ok (.invokestatic 64, 3) := by decide +kernel
theorem dX9_lay_21 : decode cX9_lay 21 = .ok (.ifCond .ne 6, 3) := by decide +kernel
theorem dX9_lay_24 : decode cX9_lay 24 = .ok (.bipush (-102), 2) := by decide +kernel
theorem dX9_lay_26 : decode cX9_lay 26 = .ok (.ireturn, 1) := by decide +kernel
theorem dX9_lay_27 : decode cX9_lay 27 = .ok (.aload_n 0, 1) := by decide +kernel
theorem dX9_lay_28 : decode cX9_lay 28 = .ok (.invokevirtual 182, 3) := by decide +kernel
theorem dX9_lay_31 : decode cX9_lay 31 = .ok (.ifCond .ne 12, 3) := by decide +kernel
theorem dX9_lay_34 : decode cX9_lay 34 = .ok (.aload_n 0, 1) := by decide +kernel
theorem dX9_lay_35 : decode cX9_lay 35 = .ok (.getfield 221, 3) := by decide +kernel
theorem dX9_lay_38 : decode cX9_lay 38 = .ok (.bipush 20, 2) := by decide +kernel
theorem dX9_lay_40 : decode cX9_lay 40 = .ok (.if_icmp .ne 6, 3) := by decide +kernel
theorem dX9_lay_43 : decode cX9_lay 43 = .ok (.bipush (-103), 2) := by decide +kernel
theorem dX9_lay_45 : decode cX9_lay 45 = .ok (.ireturn, 1) := by decide +kernel
theorem dX9_lay_46 : decode cX9_lay 46 = .ok (.aload_n 0, 1) := by decide +kernel
theorem dX9_lay_47 : decode cX9_lay 47 = .ok (.dup, 1) := by decide +kernel
theorem dX9_lay_48 : decode cX9_lay 48 = .ok (.getfield 221, 3) := by decide +kernel
theorem dX9_lay_51 : decode cX9_lay 51 = .ok (.iconst 1, 1) := by decide +kernel
theorem dX9_lay_52 : decode cX9_lay 52 = .ok (.iadd, 1) := by decide +kernel
theorem dX9_lay_53 : decode cX9_lay 53 = .ok (.putfield 221, 3) := by decide +kernel
theorem dX9_lay_56 : decode cX9_lay 56 = .ok (.aload_n 0, 1) := by decide +kernel
theorem dX9_lay_57 : decode cX9_lay 57 = .ok (.iload_n 1, 1) := by decide +kernel
theorem dX9_lay_58 : decode cX9_lay 58 = .ok (.invokevirtual 224, 3) := by decide +kernel
theorem dX9_lay_61 : decode cX9_lay 61 = .ok (.ireturn, 1) := by decide +kernel
theorem dX9_evenOf_0 : decode cX9_evenOf 0 = .ok (.aload_n 0, 1) := by decide +kernel
theorem dX9_evenOf_1 : decode cX9_evenOf 1 = .ok (.invokevirtual 145, 3) := by decide +kernel
theorem dX9_evenOf_4 : decode cX9_evenOf 4 = .ok (.invokestatic 196, 3) := by decide +kernel
theorem dX9_evenOf_7 : decode cX9_evenOf 7 = .ok (.istore_n 1, 1) := by decide +kernel
theorem dX9_evenOf_8 : decode cX9_evenOf 8 = .ok (.iconst 0, 1) := by decide +kernel
theorem dX9_evenOf_9 : decode cX9_evenOf 9 = .ok (.istore_n 2, 1) := by decide +kernel
theorem dX9_evenOf_10 : decode cX9_evenOf 10 = .ok (.iload_n 2, 1) := by decide +kernel
theorem dX9_evenOf_11 : decode cX9_evenOf 11 = .ok (.bipush 21, 2) := by decide +kernel
theorem dX9_evenOf_13 : decode cX9_evenOf 13 = .ok (.if_icmp .ge 33, 3) := by decide +kernel
theorem dX9_evenOf_16 : decode cX9_evenOf 16 = .ok (.aload_n 0, 1) := by decide +kernel
theorem dX9_evenOf_17 : decode cX9_evenOf 17 = .ok (.invokevirtual 148, 3) := by decide +kernel
theorem dX9_evenOf_20 : decode cX9_evenOf 20 = .ok (.aload_n 0, 1) := by decide +kernel
theorem dX9_evenOf_21 : decode cX9_evenOf 21 = .ok (.aload_n 0, 1) := by decide +kernel
theorem dX9_evenOf_22 : decode cX9_evenOf 22 = .ok (.getfield 110, 3) := by decide +kernel
theorem dX9_evenOf_25 : decode cX9_evenOf 25 = .ok (.iload_n 2, 1) := by decide +kernel
theorem dX9_evenOf_26 : decode cX9_evenOf 26 = .ok (.iadd, 1) := by decide +kernel
theorem dX9_evenOf_27 : decode cX9_evenOf 27 = .ok (.putfield 129, 3) := by decide +kernel
theorem dX9_evenOf_30 : decode cX9_evenOf 30 = .ok (.aload_n 0, 1) := by decide +kernel
theorem dX9_evenOf_31 : decode cX9_evenOf 31 = .ok (.invokevirtual 151, 3) := by decide +kernel
theorem dX9_evenOf_34 : decode cX9_evenOf 34 = .ok (.iload_n 1, 1) := by decide +kernel
theorem dX9_evenOf_35 : decode cX9_evenOf 35 = .ok (.if_icmp .ne 5, 3) := by decide +kernel
theorem dX9_evenOf_38 : decode cX9_evenOf 38 = .ok (.iload_n 2, 1) := by decide +kernel
theorem dX9_evenOf_39 : decode cX9_evenOf 39 = .ok (.ireturn, 1) := by decide +kernel
theorem dX9_evenOf_40 : decode cX9_evenOf 40 = .ok (.iinc 2 1, 3) := by decide +kernel
theorem dX9_evenOf_43 : decode cX9_evenOf 43 = .ok (.goto (-33), 3) := by decide +kernel
theorem dX9_evenOf_46 : decode cX9_evenOf 46 = .ok (.iconst (-1), 1) := by decide +kernel
theorem dX9_evenOf_47 : decode cX9_evenOf 47 = .ok (.ireturn, 1) := by decide +kernel
theorem dX9_even_0 : decode cX9_even 0 = .ok (.aload_n 0, 1) := by decide +kernel
theorem dX9_even_1 : decode cX9_even 1 = .ok (.invokevirtual 182, 3) := by decide +kernel
theorem dX9_even_4 : decode cX9_even 4 = .ok (.ifCond .eq 8, 3) := by decide +kernel
theorem dX9_even_7 : decode cX9_even 7 = .ok (.bipush (-103), 2) := by decide +kernel
theorem dX9_even_9 : decode cX9_even 9 = .ok (.goto 7, 3) := by decide +kernel
theorem dX9_even_12 : decode cX9_even 12 = .ok (.aload_n 0, 1) := by decide +kernel
theorem dX9_even_13 : decode cX9_even 13 = .ok (.invokevirtual 227, 3) := by decide +kernel
theorem dX9_even_16 : decode cX9_even 16 = .ok (.ireturn, 1) := by decide +kernel
theorem dX9_oddsOf_0 : decode cX9_oddsOf 0 = .ok (.aload_n 0, 1) := by decide +kernel
theorem dX9_oddsOf_1 : decode cX9_oddsOf 1 = .ok (.invokevirtual 145, 3) := by decide +kernel
theorem dX9_oddsOf_4 : decode cX9_oddsOf 4 = .ok (.invokestatic 196, 3) := by decide +kernel
theorem dX9_oddsOf_7 : decode cX9_oddsOf 7 = .ok (.istore_n 2, 1) := by decide +kernel
theorem dX9_oddsOf_8 : decode cX9_oddsOf 8 = .ok (.aload_n 0, 1) := by decide +kernel
theorem dX9_oddsOf_9 : decode cX9_oddsOf 9 = .ok (.invokevirtual 204, 3) := by decide +kernel
theorem dX9_oddsOf_12 : decode cX9_oddsOf 12 = .ok (.invokestatic 207, 3) := by decide +kernel
theorem dX9_oddsOf_15 : decode cX9_oddsOf 15 = .ok (.istore_n 3, 1) := by decide +kernel
theorem dX9_oddsOf_16 : decode cX9_oddsOf 16 = .ok (.iconst 0, 1) := by decide +kernel
theorem dX9_oddsOf_17 : decode cX9_oddsOf 17 = .ok (.istore 4, 2) := by decide +kernel
theorem dX9_oddsOf_19 : decode cX9_oddsOf 19 = .ok (.iconst 0, 1) := by decide +kernel
theorem dX9_oddsOf_20 : decode cX9_oddsOf 20 = .ok (.istore 5, 2) := by decide +kernel
theorem dX9_oddsOf_22 : decode cX9_oddsOf 22 = .ok (.iload 5, 2) := by decide +kernel
theorem dX9_oddsOf_24 : decode cX9_oddsOf 24 = .ok (.iload_n 3, 1) := by decide +kernel
theorem dX9_oddsOf_25 : decode cX9_oddsOf 25 = .ok (.if_icmp .ge 33, 3) := by decide +kernel
theorem dX9_oddsOf_28 : decode cX9_oddsOf 28 = .ok (.aload_n 0, 1) := by decide +kernel
theorem dX9_oddsOf_29 : decode cX9_oddsOf 29 = .ok (.iload 5, 2) := by decide +kernel
theorem dX9_oddsOf_31 : decode cX9_oddsOf 31 = .ok (.invokevirtual 210, 3) := by decide +kernel
theorem dX9_oddsOf_34 : decode cX9_oddsOf 34 = .ok (.iload 4, 2) := by decide +kernel
theorem dX9_oddsOf_36 : decode cX9_oddsOf 36 = .ok (.aload_n 0, 1) := by decide +kernel
theorem dX9_oddsOf_37 : decode cX9_oddsOf 37 = .ok (.invokevirtual 151, 3) := by decide +kernel
theorem dX9_oddsOf_40 : decode cX9_oddsOf 40 = .ok (.iload_n 2, 1) := by decide +kernel
theorem dX9_oddsOf_41 : decode cX9_oddsOf 41 = .ok (.if_icmp .ne 7, 3) := by decide +kernel
theorem dX9_oddsOf_44 : decode cX9_oddsOf 44 = .ok (.iconst 1, 1) := by decide +kernel
theorem dX9_oddsOf_45 : decode cX9_oddsOf 45 = .ok (.goto 4, 3) := by decide +kernel
theorem dX9_oddsOf_48 : decode cX9_oddsOf 48 = .ok (.iconst 0, 1) := by decide +kernel
theorem dX9_oddsOf_49 : decode cX9_oddsOf 49 = .ok (.iadd, 1) := by decide +kernel
theorem dX9_oddsOf_50 : decode cX9_oddsOf 50 = .ok (.istore 4, 2) := by decide +kernel
theorem dX9_oddsOf_52 : decode cX9_oddsOf 52 = .ok (.iinc 5 1, 3) := by decide +kernel
theorem dX9_oddsOf_55 : decode cX9_oddsOf 55 = .ok (.goto (-33), 3) := by decide +kernel
theorem dX9_oddsOf_58 : decode cX9_oddsOf 58 = .ok (.iload_n 3, 1) := by decide +kernel
theorem dX9_oddsOf_59 : decode cX9_oddsOf 59 = .ok (.istore 5, 2) := by decide +kernel
theorem dX9_oddsOf_61 : decode cX9_oddsOf 61 = .ok (.iload 4, 2) := by decide +kernel
theorem dX9_oddsOf_63 : decode cX9_oddsOf 63 = .ok (.istore 6, 2) := by decide +kernel
theorem dX9_oddsOf_65 : decode cX9_oddsOf 65 = .ok (.iload 6, 2) := by decide +kernel
theorem dX9_oddsOf_67 : decode cX9_oddsOf 67 = .ok (.ifCond .le 21, 3) := by decide +kernel
theorem dX9_oddsOf_70 : decode cX9_oddsOf 70 = .ok (.iload 5, 2) := by decide +kernel
theorem dX9_oddsOf_72 : decode cX9_oddsOf 72 = .ok (.iload 6, 2) := by decide +kernel
theorem dX9_oddsOf_74 : decode cX9_oddsOf 74 = .ok (.irem, 1) := by decide +kernel
theorem dX9_oddsOf_75 : decode cX9_oddsOf 75 = .ok (.istore 7, 2) := by decide +kernel
theorem dX9_oddsOf_77 : decode cX9_oddsOf 77 = .ok (.iload 6, 2) := by decide +kernel
theorem dX9_oddsOf_79 : decode cX9_oddsOf 79 = .ok (.istore 5, 2) := by decide +kernel
theorem dX9_oddsOf_81 : decode cX9_oddsOf 81 = .ok (.iload 7, 2) := by decide +kernel
theorem dX9_oddsOf_83 : decode cX9_oddsOf 83 = .ok (.istore 6, 2) := by decide +kernel
theorem dX9_oddsOf_85 : decode cX9_oddsOf 85 = .ok (.goto (-20), 3) := by decide +kernel
theorem dX9_oddsOf_88 : decode cX9_oddsOf 88 = .ok (.iload_n 1, 1) := by decide +kernel
theorem dX9_oddsOf_89 : decode cX9_oddsOf 89 = .ok (.ifCond .ne 11, 3) := by decide +kernel
theorem dX9_oddsOf_92 : decode cX9_oddsOf 92 = .ok (.iload 4, 2) := by decide +kernel
theorem dX9_oddsOf_94 : decode cX9_oddsOf 94 = .ok (.iload 5, 2) := by decide +kernel
theorem dX9_oddsOf_96 : decode cX9_oddsOf 96 = .ok (.idiv, 1) := by decide +kernel
theorem dX9_oddsOf_97 : decode cX9_oddsOf 97 = .ok (.goto 7, 3) := by decide +kernel
theorem dX9_oddsOf_100 : decode cX9_oddsOf 100 = .ok (.iload_n 3, 1) := by decide +kernel
theorem dX9_oddsOf_101 : decode cX9_oddsOf 101 = .ok (.iload 5, 2) := by decide +kernel
theorem dX9_oddsOf_103 : decode cX9_oddsOf 103 = .ok (.idiv, 1) := by decide +kernel
theorem dX9_oddsOf_104 : decode cX9_oddsOf 104 = .ok (.ireturn, 1) := by decide +kernel
theorem dX9_odds_0 : decode cX9_odds 0 = .ok (.iload_n 1, 1) := by decide +kernel
theorem dX9_odds_1 : decode cX9_odds 1 = .ok (.i2l, 1) := by decide +kernel
theorem dX9_odds_2 : decode cX9_odds 2 = .ok (.lconst 0, 1) := by decide +kernel
theorem dX9_odds_3 : decode cX9_odds 3 = .ok (.lconst 1, 1) := by decide +kernel
theorem dX9_odds_4 : decode cX9_odds 4 = .ok (.invokestatic 64, 3) := by decide +kernel
theorem dX9_odds_7 : decode cX9_odds 7 = .ok (.ifCond .ne 6, 3) := by decide +kernel
theorem dX9_odds_10 : decode cX9_odds 10 = .ok (.bipush (-102), 2) := by decide +kernel
theorem dX9_odds_12 : decode cX9_odds 12 = .ok (.ireturn, 1) := by decide +kernel
theorem dX9_odds_13 : decode cX9_odds 13 = .ok (.aload_n 0, 1) := by decide +kernel
theorem dX9_odds_14 : decode cX9_odds 14 = .ok (.invokevirtual 182, 3) := by decide +kernel
theorem dX9_odds_17 : decode cX9_odds 17 = .ok (.ifCond .eq 8, 3) := by decide +kernel
theorem dX9_odds_20 : decode cX9_odds 20 = .ok (.bipush (-103), 2) := by decide +kernel
theorem dX9_odds_22 : decode cX9_odds 22 = .ok (.goto 8, 3) := by decide +kernel
theorem dX9_odds_25 : decode cX9_odds 25 = .ok (.aload_n 0, 1) := by decide +kernel
theorem dX9_odds_26 : decode cX9_odds 26 = .ok (.iload_n 1, 1) := by decide +kernel
theorem dX9_odds_27 : decode cX9_odds 27 = .ok (.invokevirtual 230, 3) := by decide +kernel
theorem dX9_odds_30 : decode cX9_odds 30 = .ok (.ireturn, 1) := by decide +kernel
theorem dX9_see_0 : decode cX9_see 0 = .ok (.aload_n 0, 1) := by decide +kernel
theorem dX9_see_1 : decode cX9_see 1 = .ok (.iload_n 1, 1) := by decide +kernel
theorem dX9_see_2 : decode cX9_see 2 = .ok (.invokevirtual 176, 3) := by decide +kernel
theorem dX9_see_5 : decode cX9_see 5 = .ok (.ifCond .eq 11, 3) := by decide +kernel
theorem dX9_see_8 : decode cX9_see 8 = .ok (.aload_n 0, 1) := by decide +kernel
theorem dX9_see_9 : decode cX9_see 9 = .ok (.iload_n 2, 1) := by decide +kernel
theorem dX9_see_10 : decode cX9_see 10 = .ok (.invokevirtual 163, 3) := by decide +kernel
theorem dX9_see_13 : decode cX9_see 13 = .ok (.ifCond .ne 6, 3) := by decide +kernel
theorem dX9_see_16 : decode cX9_see 16 = .ok (.bipush (-101), 2) := by decide +kernel
theorem dX9_see_18 : decode cX9_see 18 = .ok (.ireturn, 1) := by decide +kernel
theorem dX9_see_19 : decode cX9_see 19 = .ok (.iload_n 3, 1) := by decide +kernel
theorem dX9_see_20 : decode cX9_see 20 = .ok (.i2l, 1) := by decide +kernel
theorem dX9_see_21 : decode cX9_see 21 = .ok (.lconst 0, 1) := by decide +kernel
theorem dX9_see_22 : decode cX9_see 22 = .ok (.ldc2_w 199, 3) := by decide +kernel
theorem dX9_see_25 : decode cX9_see 25 = .ok (.invokestatic 64, 3) := by decide +kernel
theorem dX9_see_28 : decode cX9_see 28 = .ok (.ifCond .eq 16, 3) := by decide +kernel
theorem dX9_see_31 : decode cX9_see 31 = .ok (.iload 4, 2) := by decide +kernel
theorem dX9_see_33 : decode cX9_see 33 = .ok (.i2l, 1) := by decide +kernel
theorem dX9_see_34 : decode cX9_see 34 = .ok (.lconst 0, 1) := by decide +kernel
theorem dX9_see_35 : decode cX9_see 35 = .ok (.ldc2_w 233, 3) := by decide +kernel
theorem dX9_see_38 : decode cX9_see 38 = .ok (.invokestatic 64, 3) := by decide +kernel
theorem dX9_see_41 : decode cX9_see 41 = .ok (.ifCond .ne 6, 3) := by decide +kernel
theorem dX9_see_44 : decode cX9_see 44 = .ok (.bipush (-102), 2) := by decide +kernel
theorem dX9_see_46 : decode cX9_see 46 = .ok (.ireturn, 1) := by decide +kernel
theorem dX9_see_47 : decode cX9_see 47 = .ok (.aload_n 0, 1) := by decide +kernel
theorem dX9_see_48 : decode cX9_see 48 = .ok (.getfield 119, 3) := by decide +kernel
theorem dX9_see_51 : decode cX9_see 51 = .ok (.bipush 6, 2) := by decide +kernel
theorem dX9_see_53 : decode cX9_see 53 = .ok (.if_icmp .ne 6, 3) := by decide +kernel
theorem dX9_see_56 : decode cX9_see 56 = .ok (.bipush (-104), 2) := by decide +kernel
theorem dX9_see_58 : decode cX9_see 58 = .ok (.ireturn, 1) := by decide +kernel
theorem dX9_see_59 : decode cX9_see 59 = .ok (.aload_n 0, 1) := by decide +kernel
theorem dX9_see_60 : decode cX9_see 60 = .ok (.getfield 40, 3) := by decide +kernel
theorem dX9_see_63 : decode cX9_see 63 = .ok (.iconst 4, 1) := by decide +kernel
theorem dX9_see_64 : decode cX9_see 64 = .ok (.aload_n 0, 1) := by decide +kernel
theorem dX9_see_65 : decode cX9_see 65 = .ok (.getfield 119, 3) := by decide +kernel
theorem dX9_see_68 : decode cX9_see 68 = .ok (.imul, 1) := by decide +kernel
theorem dX9_see_69 : decode cX9_see 69 = .ok (.iload_n 1, 1) := by decide +kernel
theorem dX9_see_70 : decode cX9_see 70 = .ok (.iastore, 1) := by decide +kernel
theorem dX9_see_71 : decode cX9_see 71 = .ok (.aload_n 0, 1) := by decide +kernel
theorem dX9_see_72 : decode cX9_see 72 = .ok (.getfield 40, 3) := by decide +kernel
theorem dX9_see_75 : decode cX9_see 75 = .ok (.iconst 4, 1) := by decide +kernel
theorem dX9_see_76 : decode cX9_see 76 = .ok (.aload_n 0, 1) := by decide +kernel
theorem dX9_see_77 : decode cX9_see 77 = .ok (.getfield 119, 3) := by decide +kernel
theorem dX9_see_80 : decode cX9_see 80 = .ok (.imul, 1) := by decide +kernel
theorem dX9_see_81 : decode cX9_see 81 = .ok (.iconst 1, 1) := by decide +kernel
theorem dX9_see_82 : decode cX9_see 82 = .ok (.iadd, 1) := by decide +kernel
theorem dX9_see_83 : decode cX9_see 83 = .ok (.iload_n 2, 1) := by decide +kernel
theorem dX9_see_84 : decode cX9_see 84 = .ok (.iastore, 1) := by decide +kernel
theorem dX9_see_85 : decode cX9_see 85 = .ok (.aload_n 0, 1) := by decide +kernel
theorem dX9_see_86 : decode cX9_see 86 = .ok (.getfield 40, 3) := by decide +kernel
theorem dX9_see_89 : decode cX9_see 89 = .ok (.iconst 4, 1) := by decide +kernel
theorem dX9_see_90 : decode cX9_see 90 = .ok (.aload_n 0, 1) := by decide +kernel
theorem dX9_see_91 : decode cX9_see 91 = .ok (.getfield 119, 3) := by decide +kernel
theorem dX9_see_94 : decode cX9_see 94 = .ok (.imul, 1) := by decide +kernel
theorem dX9_see_95 : decode cX9_see 95 = .ok (.iconst 2, 1) := by decide +kernel
theorem dX9_see_96 : decode cX9_see 96 = .ok (.iadd, 1) := by decide +kernel
theorem dX9_see_97 : decode cX9_see 97 = .ok (.iload_n 3, 1) := by decide +kernel
theorem dX9_see_98 : decode cX9_see 98 = .ok (.iastore, 1) := by decide +kernel
theorem dX9_see_99 : decode cX9_see 99 = .ok (.aload_n 0, 1) := by decide +kernel
theorem dX9_see_100 : decode cX9_see 100 = .ok (.getfield 40, 3) := by decide +kernel
theorem dX9_see_103 : decode cX9_see 103 = .ok (.iconst 4, 1) := by decide +kernel
theorem dX9_see_104 : decode cX9_see 104 = .ok (.aload_n 0, 1) := by decide +kernel
theorem dX9_see_105 : decode cX9_see 105 = .ok (.getfield 119, 3) := by decide +kernel
theorem dX9_see_108 : decode cX9_see 108 = .ok (.imul, 1) := by decide +kernel
theorem dX9_see_109 : decode cX9_see 109 = .ok (.iconst 3, 1) := by decide +kernel
theorem dX9_see_110 : decode cX9_see 110 = .ok (.iadd, 1) := by decide +kernel
theorem dX9_see_111 : decode cX9_see 111 = .ok (.iload 4, 2) := by decide +kernel
theorem dX9_see_113 : decode cX9_see 113 = .ok (.iastore, 1) := by decide +kernel
theorem dX9_see_114 : decode cX9_see 114 = .ok (.aload_n 0, 1) := by decide +kernel
theorem dX9_see_115 : decode cX9_see 115 = .ok (.dup, 1) := by decide +kernel
theorem dX9_see_116 : decode cX9_see 116 = .ok (.getfield 119, 3) := by decide +kernel
theorem dX9_see_119 : decode cX9_see 119 = .ok (.iconst 1, 1) := by decide +kernel
theorem dX9_see_120 : decode cX9_see 120 = .ok (.iadd, 1) := by decide +kernel
theorem dX9_see_121 : decode cX9_see 121 = .ok (.putfield 119, 3) := by decide +kernel
theorem dX9_see_124 : decode cX9_see 124 = .ok (.aload_n 0, 1) := by decide +kernel
theorem dX9_see_125 : decode cX9_see 125 = .ok (.getfield 119, 3) := by decide +kernel
theorem dX9_see_128 : decode cX9_see 128 = .ok (.ireturn, 1) := by decide +kernel
theorem dX9_forget_0 : decode cX9_forget 0 = .ok (.aload_n 0, 1) := by decide +kernel
theorem dX9_forget_1 : decode cX9_forget 1 = .ok (.getfield 119, 3) := by decide +kernel
theorem dX9_forget_4 : decode cX9_forget 4 = .ok (.istore_n 1, 1) := by decide +kernel
theorem dX9_forget_5 : decode cX9_forget 5 = .ok (.aload_n 0, 1) := by decide +kernel
theorem dX9_forget_6 : decode cX9_forget 6 = .ok (.iconst 0, 1) := by decide +kernel
theorem dX9_forget_7 : decode cX9_forget 7 = .ok (.putfield 119, 3) := by decide +kernel
theorem dX9_forget_10 : decode cX9_forget 10 = .ok (.iload_n 1, 1) := by decide +kernel
theorem dX9_forget_11 : decode cX9_forget 11 = .ok (.ireturn, 1) := by decide +kernel
theorem dX9_howIf_0 : decode cX9_howIf 0 = .ok (.iload 4, 2) := by decide +kernel
theorem dX9_howIf_2 : decode cX9_howIf 2 = .ok (.aload_n 0, 1) := by decide +kernel
theorem dX9_howIf_3 : decode cX9_howIf 3 = .ok (.getfield 13, 3) := by decide +kernel
theorem dX9_howIf_6 : decode cX9_howIf 6 = .ok (.iconst 2, 1) := by decide +kernel
theorem dX9_howIf_7 : decode cX9_howIf 7 = .ok (.iload_n 3, 1) := by decide +kernel
theorem dX9_howIf_8 : decode cX9_howIf 8 = .ok (.imul, 1) := by decide +kernel
theorem dX9_howIf_9 : decode cX9_howIf 9 = .ok (.iconst 1, 1) := by decide +kernel
theorem dX9_howIf_10 : decode cX9_howIf 10 = .ok (.iadd, 1) := by decide +kernel
theorem dX9_howIf_11 : decode cX9_howIf 11 = .ok (.iaload, 1) := by decide +kernel
theorem dX9_howIf_12 : decode cX9_howIf 12 = .ok (.imul, 1) := by decide +kernel
theorem dX9_howIf_13 : decode cX9_howIf 13 = .ok (.aload_n 0, 1) := by decide +kernel
theorem dX9_howIf_14 : decode cX9_howIf 14 = .ok (.getfield 22, 3) := by decide +kernel
theorem dX9_howIf_17 : decode cX9_howIf 17 = .ok (.iload_n 1, 1) := by decide +kernel
theorem dX9_howIf_18 : decode cX9_howIf 18 = .ok (.iaload, 1) := by decide +kernel
theorem dX9_howIf_19 : decode cX9_howIf 19 = .ok (.iload_n 2, 1) := by decide +kernel
theorem dX9_howIf_20 : decode cX9_howIf 20 = .ok (.aload_n 0, 1) := by decide +kernel
theorem dX9_howIf_21 : decode cX9_howIf 21 = .ok (.getfield 110, 3) := by decide +kernel
theorem dX9_howIf_24 : decode cX9_howIf 24 = .ok (.invokestatic 132, 3) := by decide +kernel
theorem dX9_howIf_27 : decode cX9_howIf 27 = .ok (.aload_n 0, 1) := by decide +kernel
theorem dX9_howIf_28 : decode cX9_howIf 28 = .ok (.getfield 13, 3) := by decide +kernel
theorem dX9_howIf_31 : decode cX9_howIf 31 = .ok (.iconst 2, 1) := by decide +kernel
theorem dX9_howIf_32 : decode cX9_howIf 32 = .ok (.iload_n 3, 1) := by decide +kernel
theorem dX9_howIf_33 : decode cX9_howIf 33 = .ok (.imul, 1) := by decide +kernel
theorem dX9_howIf_34 : decode cX9_howIf 34 = .ok (.iaload, 1) := by decide +kernel
theorem dX9_howIf_35 : decode cX9_howIf 35 = .ok (.imul, 1) := by decide +kernel
theorem dX9_howIf_36 : decode cX9_howIf 36 = .ok (.isub, 1) := by decide +kernel
theorem dX9_howIf_37 : decode cX9_howIf 37 = .ok (.istore 5, 2) := by decide +kernel
theorem dX9_howIf_39 : decode cX9_howIf 39 = .ok (.iload 5, 2) := by decide +kernel
theorem dX9_howIf_41 : decode cX9_howIf 41 = .ok (.ifCond .ge 7, 3) := by decide +kernel
theorem dX9_howIf_44 : decode cX9_howIf 44 = .ok (.iconst 0, 1) := by decide +kernel
theorem dX9_howIf_45 : decode cX9_howIf 45 = .ok (.goto 13, 3) := by decide +kernel
theorem dX9_howIf_48 : decode cX9_howIf 48 = .ok (.iload 5, 2) := by decide +kernel
theorem dX9_howIf_50 : decode cX9_howIf 50 = .ok (.ifCond .ne 7, 3) := by decide +kernel
theorem dX9_howIf_53 : decode cX9_howIf 53 = .ok (.iconst 1, 1) := by decide +kernel
theorem dX9_howIf_54 : decode cX9_howIf 54 = .ok (.goto 4, 3) := by decide +kernel
theorem dX9_howIf_57 : decode cX9_howIf 57 = .ok (.iconst 2, 1) := by decide +kernel
theorem dX9_howIf_58 : decode cX9_howIf 58 = .ok (.ireturn, 1) := by decide +kernel
theorem dX9_sizesOf_0 : decode cX9_sizesOf 0 = .ok (.iconst 0, 1) := by decide +kernel
theorem dX9_sizesOf_1 : decode cX9_sizesOf 1 = .ok (.istore_n 2, 1) := by decide +kernel
theorem dX9_sizesOf_2 : decode cX9_sizesOf 2 = .ok (.iconst 0, 1) := by decide +kernel
theorem dX9_sizesOf_3 : decode cX9_sizesOf 3 = .ok (.istore_n 3, 1) := by decide +kernel
theorem dX9_sizesOf_4 : decode cX9_sizesOf 4 = .ok (.iload_n 3, 1) := by decide +kernel
theorem dX9_sizesOf_5 : decode cX9_sizesOf 5 = .ok (.bipush 10, 2) := by decide +kernel
theorem dX9_sizesOf_7 : decode cX9_sizesOf 7 = .ok (.if_icmp .ge 106, 3) := by decide +kernel
theorem dX9_sizesOf_10 : decode cX9_sizesOf 10 = .ok (.iconst 1, 1) := by decide +kernel
theorem dX9_sizesOf_11 : decode cX9_sizesOf 11 = .ok (.istore 4, 2) := by decide +kernel
theorem dX9_sizesOf_13 : decode cX9_sizesOf 13 = .ok (.iconst 0, 1) := by decide +kernel
theorem dX9_sizesOf_14 : decode cX9_sizesOf 14 = .ok (.istore 5, 2) := by decide +kernel
theorem dX9_sizesOf_16 : decode cX9_sizesOf 16 = .ok (.iload 5, 2) := by decide +kernel
theorem dX9_sizesOf_18 : decode cX9_sizesOf 18 = .ok (.iconst 4, 1) := by decide +kernel
theorem dX9_sizesOf_19 : decode cX9_sizesOf 19 = .ok (.aload_n 0, 1) := by decide +kernel
theorem dX9_sizesOf_20 : decode cX9_sizesOf 20 = .ok (.getfield 119, 3) := by decide +kernel
theorem dX9_sizesOf_23 : decode cX9_sizesOf 23 = .ok (.imul, 1) := by decide +kernel
theorem dX9_sizesOf_24 : decode cX9_sizesOf 24 = .ok (.if_icmp .ge 68, 3) := by decide +kernel
theorem dX9_sizesOf_27 : decode cX9_sizesOf 27 = .ok (.iload 4, 2) := by decide +kernel
theorem dX9_sizesOf_29 : decode cX9_sizesOf 29 = .ok (.ifCond .eq 54, 3) := by decide +kernel
theorem dX9_sizesOf_32 : decode cX9_sizesOf 32 = .ok (.aload_n 0, 1) := by decide +kernel
theorem dX9_sizesOf_33 : decode cX9_sizesOf 33 = .ok (.getfield 40, 3) := by decide +kernel
theorem dX9_sizesOf_36 : decode cX9_sizesOf 36 = .ok (.iload 5, 2) := by decide +kernel
theorem dX9_sizesOf_38 : decode cX9_sizesOf 38 = .ok (.iaload, 1) := by decide +kernel
theorem dX9_sizesOf_39 : decode cX9_sizesOf 39 = .ok (.iload_n 1, 1) := by decide +kernel
theorem dX9_sizesOf_40 : decode cX9_sizesOf 40 = .ok (.if_icmp .ne 39, 3) := by decide +kernel
theorem dX9_sizesOf_43 : decode cX9_sizesOf 43 = .ok (.aload_n 0, 1) := by decide +kernel
theorem dX9_sizesOf_44 : decode cX9_sizesOf 44 = .ok (.iload_n 1, 1) := by decide +kernel
theorem dX9_sizesOf_45 : decode cX9_sizesOf 45 = .ok (.iload_n 3, 1) := by decide +kernel
theorem dX9_sizesOf_46 : decode cX9_sizesOf 46 = .ok (.aload_n 0, 1) := by decide +kernel
theorem dX9_sizesOf_47 : decode cX9_sizesOf 47 = .ok (.getfield 40, 3) := by decide +kernel
theorem dX9_sizesOf_50 : decode cX9_sizesOf 50 = .ok (.iload 5, 2) := by decide +kernel
theorem dX9_sizesOf_52 : decode cX9_sizesOf 52 = .ok (.iconst 1, 1) := by decide +kernel
theorem dX9_sizesOf_53 : decode cX9_sizesOf 53 = .ok (.iadd, 1) := by decide +kernel
theorem dX9_sizesOf_54 : decode cX9_sizesOf 54 = .ok (.iaload, 1) := by decide +kernel
theorem dX9_sizesOf_55 : decode cX9_sizesOf 55 = .ok (.aload_n 0, 1) := by decide +kernel
theorem dX9_sizesOf_56 : decode cX9_sizesOf 56 = .ok (.getfield 40, 3) := by decide +kernel
theorem dX9_sizesOf_59 : decode cX9_sizesOf 59 = .ok (.iload 5, 2) := by decide +kernel
theorem dX9_sizesOf_61 : decode cX9_sizesOf 61 = .ok (.iconst 2, 1) := by decide +kernel
theorem dX9_sizesOf_62 : decode cX9_sizesOf 62 = .ok (.iadd, 1) := by decide +kernel
theorem dX9_sizesOf_63 : decode cX9_sizesOf 63 = .ok (.iaload, 1) := by decide +kernel
theorem dX9_sizesOf_64 : decode cX9_sizesOf 64 = .ok (.invokevirtual 235, 3) := by decide +kernel
theorem dX9_sizesOf_67 : decode cX9_sizesOf 67 = .ok (.aload_n 0, 1) := by decide +kernel
theorem dX9_sizesOf_68 : decode cX9_sizesOf 68 = .ok (.getfield 40, 3) := by decide +kernel
theorem dX9_sizesOf_71 : decode cX9_sizesOf 71 = .ok (.iload 5, 2) := by decide +kernel
theorem dX9_sizesOf_73 : decode cX9_sizesOf 73 = .ok (.iconst 3, 1) := by decide +kernel
theorem dX9_sizesOf_74 : decode cX9_sizesOf 74 = .ok (.iadd, 1) := by decide +kernel
theorem dX9_sizesOf_75 : decode cX9_sizesOf 75 = .ok (.iaload, 1) := by decide +kernel
theorem dX9_sizesOf_76 : decode cX9_sizesOf 76 = .ok (.if_icmp .ne 7, 3) := by decide +kernel
theorem dX9_sizesOf_79 : decode cX9_sizesOf 79 = .ok (.iconst 1, 1) := by decide +kernel
theorem dX9_sizesOf_80 : decode cX9_sizesOf 80 = .ok (.goto 4, 3) := by decide +kernel
theorem dX9_sizesOf_83 : decode cX9_sizesOf 83 = .ok (.iconst 0, 1) := by decide +kernel
theorem dX9_sizesOf_84 : decode cX9_sizesOf 84 = .ok (.istore 4, 2) := by decide +kernel
theorem dX9_sizesOf_86 : decode cX9_sizesOf 86 = .ok (.iinc 5 4, 3) := by decide +kernel
theorem dX9_sizesOf_89 : decode cX9_sizesOf 89 = .ok (.goto (-73), 3) := by decide +kernel
theorem dX9_sizesOf_92 : decode cX9_sizesOf 92 = .ok (.iload_n 2, 1) := by decide +kernel
theorem dX9_sizesOf_93 : decode cX9_sizesOf 93 = .ok (.iload 4, 2) := by decide +kernel
theorem dX9_sizesOf_95 : decode cX9_sizesOf 95 = .ok (.ifCond .eq 9, 3) := by decide +kernel
theorem dX9_sizesOf_98 : decode cX9_sizesOf 98 = .ok (.iconst 1, 1) := by decide +kernel
theorem dX9_sizesOf_99 : decode cX9_sizesOf 99 = .ok (.iload_n 3, 1) := by decide +kernel
theorem dX9_sizesOf_100 : decode cX9_sizesOf 100 = .ok (.ishl, 1) := by decide +kernel
theorem dX9_sizesOf_101 : decode cX9_sizesOf 101 = .ok (.goto 4, 3) := by decide +kernel
theorem dX9_sizesOf_104 : decode cX9_sizesOf 104 = .ok (.iconst 0, 1) := by decide +kernel
theorem dX9_sizesOf_105 : decode cX9_sizesOf 105 = .ok (.ior, 1) := by decide +kernel
theorem dX9_sizesOf_106 : decode cX9_sizesOf 106 = .ok (.istore_n 2, 1) := by decide +kernel
theorem dX9_sizesOf_107 : decode cX9_sizesOf 107 = .ok (.iinc 3 1, 3) := by decide +kernel
theorem dX9_sizesOf_110 : decode cX9_sizesOf 110 = .ok (.goto (-106), 3) := by decide +kernel
theorem dX9_sizesOf_113 : decode cX9_sizesOf 113 = .ok (.iload_n 2, 1) := by decide +kernel
theorem dX9_sizesOf_114 : decode cX9_sizesOf 114 = .ok (.ireturn, 1) := by decide +kernel
theorem dX9_trialOf_0 : decode cX9_trialOf 0 = .ok (.aload_n 0, 1) := by decide +kernel
theorem dX9_trialOf_1 : decode cX9_trialOf 1 = .ok (.iload_n 1, 1) := by decide +kernel
theorem dX9_trialOf_2 : decode cX9_trialOf 2 = .ok (.invokevirtual 173, 3) := by decide +kernel
theorem dX9_trialOf_5 : decode cX9_trialOf 5 = .ok (.istore_n 3, 1) := by decide +kernel
theorem dX9_trialOf_6 : decode cX9_trialOf 6 = .ok (.iconst (-1), 1) := by decide +kernel
theorem dX9_trialOf_7 : decode cX9_trialOf 7 = .ok (.istore 4, 2) := by decide +kernel
theorem dX9_trialOf_9 : decode cX9_trialOf 9 = .ok (.bipush 11, 2) := by decide +kernel
theorem dX9_trialOf_11 : decode cX9_trialOf 11 = .ok (.istore 5, 2) := by decide +kernel
theorem dX9_trialOf_13 : decode cX9_trialOf 13 = .ok (.iconst 0, 1) := by decide +kernel
theorem dX9_trialOf_14 : decode cX9_trialOf 14 = .ok (.istore 6, 2) := by decide +kernel
theorem dX9_trialOf_16 : decode cX9_trialOf 16 = .ok (.iload 6, 2) := by decide +kernel
theorem dX9_trialOf_18 : decode cX9_trialOf 18 = .ok (.bipush 10, 2) := by decide +kernel
theorem dX9_trialOf_20 : decode cX9_trialOf 20 = .ok (.if_icmp .ge 128, 3) := by decide +kernel
theorem dX9_trialOf_23 : decode cX9_trialOf 23 = .ok (.iload_n 3, 1) := by decide +kernel
theorem dX9_trialOf_24 : decode cX9_trialOf 24 = .ok (.ifCond .eq 124, 3) := by decide +kernel
theorem dX9_trialOf_27 : decode cX9_trialOf 27 = .ok (.iconst 0, 1) := by decide +kernel
theorem dX9_trialOf_28 : decode cX9_trialOf 28 = .ok (.istore 7, 2) := by decide +kernel
theorem dX9_trialOf_30 : decode cX9_trialOf 30 = .ok (.iconst 0, 1) := by decide +kernel
theorem dX9_trialOf_31 : decode cX9_trialOf 31 = .ok (.istore 8, 2) := by decide +kernel
theorem dX9_trialOf_33 : decode cX9_trialOf 33 = .ok (.iload 8, 2) := by decide +kernel
theorem dX9_trialOf_35 : decode cX9_trialOf 35 = .ok (.iconst 3, 1) := by decide +kernel
theorem dX9_trialOf_36 : decode cX9_trialOf 36 = .ok (.if_icmp .ge 74, 3) := by decide +kernel
theorem dX9_trialOf_39 : decode cX9_trialOf 39 = .ok (.iconst 0, 1) := by decide +kernel
theorem dX9_trialOf_40 : decode cX9_trialOf 40 = .ok (.istore 9, 2) := by decide +kernel
theorem dX9_trialOf_42 : decode cX9_trialOf 42 = .ok (.iconst 0, 1) := by decide +kernel
theorem dX9_trialOf_43 : decode cX9_trialOf 43 = .ok (.istore 10, 2) := by decide +kernel
theorem dX9_trialOf_45 : decode cX9_trialOf 45 = .ok (.iload 10, 2) := by decide +kernel
theorem dX9_trialOf_47 : decode cX9_trialOf 47 = .ok (.bipush 10, 2) := by decide +kernel
theorem dX9_trialOf_49 : decode cX9_trialOf 49 = .ok (.if_icmp .ge 39, 3) := by decide +kernel
theorem dX9_trialOf_52 : decode cX9_trialOf 52 = .ok (.iload 9, 2) := by decide +kernel
theorem dX9_trialOf_54 : decode cX9_trialOf 54 = .ok (.aload_n 0, 1) := by decide +kernel
theorem dX9_trialOf_55 : decode cX9_trialOf 55 = .ok (.iload_n 1, 1) := by decide +kernel
theorem dX9_trialOf_56 : decode cX9_trialOf 56 = .ok (.iload 10, 2) := by decide +kernel
theorem dX9_trialOf_58 : decode cX9_trialOf 58 = .ok (.iload_n 2, 1) := by decide +kernel
theorem dX9_trialOf_59 : decode cX9_trialOf 59 = .ok (.iload 6, 2) := by decide +kernel
theorem dX9_trialOf_61 : decode cX9_trialOf 61 = .ok (.invokevirtual 235, 3) := by decide +kernel
theorem dX9_trialOf_64 : decode cX9_trialOf 64 = .ok (.iload 8, 2) := by decide +kernel
theorem dX9_trialOf_66 : decode cX9_trialOf 66 = .ok (.if_icmp .ne 12, 3) := by decide +kernel
theorem dX9_trialOf_69 : decode cX9_trialOf 69 = .ok (.iload_n 3, 1) := by decide +kernel
theorem dX9_trialOf_70 : decode cX9_trialOf 70 = .ok (.iload 10, 2) := by decide +kernel
theorem dX9_trialOf_72 : decode cX9_trialOf 72 = .ok (.ishr, 1) := by decide +kernel
theorem dX9_trialOf_73 : decode cX9_trialOf 73 = .ok (.iconst 1, 1) := by decide +kernel
theorem dX9_trialOf_74 : decode cX9_trialOf 74 = .ok (.iand, 1) := by decide +kernel
theorem dX9_trialOf_75 : decode cX9_trialOf 75 = .ok (.goto 4, 3) := by decide +kernel
theorem dX9_trialOf_78 : decode cX9_trialOf 78 = .ok (.iconst 0, 1) := by decide +kernel
theorem dX9_trialOf_79 : decode cX9_trialOf 79 = .ok (.iadd, 1) := by decide +kernel
theorem dX9_trialOf_80 : decode cX9_trialOf 80 = .ok (.istore 9, 2) := by decide +kernel
theorem dX9_trialOf_82 : decode cX9_trialOf 82 = .ok (.iinc 10 1, 3) := by decide +kernel
theorem dX9_trialOf_85 : decode cX9_trialOf 85 = .ok (.goto (-40), 3) := by decide +kernel
theorem dX9_trialOf_88 : decode cX9_trialOf 88 = .ok (.iload 9, 2) := by decide +kernel
theorem dX9_trialOf_90 : decode cX9_trialOf 90 = .ok (.iload 7, 2) := by decide +kernel
theorem dX9_trialOf_92 : decode cX9_trialOf 92 = .ok (.if_icmp .le 8, 3) := by decide +kernel
theorem dX9_trialOf_95 : decode cX9_trialOf 95 = .ok (.iload 9, 2) := by decide +kernel
theorem dX9_trialOf_97 : decode cX9_trialOf 97 = .ok (.goto 5, 3) := by decide +kernel
theorem dX9_trialOf_100 : decode cX9_trialOf 100 = .ok (.iload 7, 2) := by decide +kernel
theorem dX9_trialOf_102 : decode cX9_trialOf 102 = .ok (.istore 7, 2) := by decide +kernel
theorem dX9_trialOf_104 : decode cX9_trialOf 104 = .ok (.iinc 8 1, 3) := by decide +kernel
theorem dX9_trialOf_107 : decode cX9_trialOf 107 = .ok (.goto (-74), 3) := by decide +kernel
theorem dX9_trialOf_110 : decode cX9_trialOf 110 = .ok (.iload 7, 2) := by decide +kernel
theorem dX9_trialOf_112 : decode cX9_trialOf 112 = .ok (.iload 5, 2) := by decide +kernel
theorem dX9_trialOf_114 : decode cX9_trialOf 114 = .ok (.if_icmp .ge 8, 3) := by decide +kernel
theorem dX9_trialOf_117 : decode cX9_trialOf 117 = .ok (.iload 6, 2) := by decide +kernel
theorem dX9_trialOf_119 : decode cX9_trialOf 119 = .ok (.goto 5, 3) := by decide +kernel
theorem dX9_trialOf_122 : decode cX9_trialOf 122 = .ok (.iload 4, 2) := by decide +kernel
theorem dX9_trialOf_124 : decode cX9_trialOf 124 = .ok (.istore 4, 2) := by decide +kernel
theorem dX9_trialOf_126 : decode cX9_trialOf 126 = .ok (.iload 7, 2) := by decide +kernel
theorem dX9_trialOf_128 : decode cX9_trialOf 128 = .ok (.iload 5, 2) := by decide +kernel
theorem dX9_trialOf_130 : decode cX9_trialOf 130 = .ok (.if_icmp .ge 8, 3) := by decide +kernel
theorem dX9_trialOf_133 : decode cX9_trialOf 133 = .ok (.iload 7, 2) := by decide +kernel
theorem dX9_trialOf_135 : decode cX9_trialOf 135 = .ok (.goto 5, 3) := by decide +kernel
theorem dX9_trialOf_138 : decode cX9_trialOf 138 = .ok (.iload 5, 2) := by decide +kernel
theorem dX9_trialOf_140 : decode cX9_trialOf 140 = .ok (.istore 5, 2) := by decide +kernel
theorem dX9_trialOf_142 : decode cX9_trialOf 142 = .ok (.iinc 6 1, 3) := by decide +kernel
theorem dX9_trialOf_145 : decode cX9_trialOf 145 = .ok (.goto (-129), 3) := by decide +kernel
theorem dX9_trialOf_148 : decode cX9_trialOf 148 = .ok (.iload 4, 2) := by decide +kernel
theorem dX9_trialOf_150 : decode cX9_trialOf 150 = .ok (.ireturn, 1) := by decide +kernel
theorem dX9_trial_0 : decode cX9_trial 0 = .ok (.aload_n 0, 1) := by decide +kernel
theorem dX9_trial_1 : decode cX9_trial 1 = .ok (.iload_n 1, 1) := by decide +kernel
theorem dX9_trial_2 : decode cX9_trial 2 = .ok (.invokevirtual 176, 3) := by decide +kernel
theorem dX9_trial_5 : decode cX9_trial 5 = .ok (.ifCond .eq 20, 3) := by decide +kernel
theorem dX9_trial_8 : decode cX9_trial 8 = .ok (.aload_n 0, 1) := by decide +kernel
theorem dX9_trial_9 : decode cX9_trial 9 = .ok (.iload_n 2, 1) := by decide +kernel
theorem dX9_trial_10 : decode cX9_trial 10 = .ok (.invokevirtual 163, 3) := by decide +kernel
theorem dX9_trial_13 : decode cX9_trial 13 = .ok (.ifCond .eq 12, 3) := by decide +kernel
theorem dX9_trial_16 : decode cX9_trial 16 = .ok (.aload_n 0, 1) := by decide +kernel
theorem dX9_trial_17 : decode cX9_trial 17 = .ok (.iload_n 1, 1) := by decide +kernel
theorem dX9_trial_18 : decode cX9_trial 18 = .ok (.iload_n 2, 1) := by decide +kernel
theorem dX9_trial_19 : decode cX9_trial 19 = .ok (.invokevirtual 239, 3) := by decide +kernel
theorem dX9_trial_22 : decode cX9_trial 22 = .ok (.goto 5, 3) := by decide +kernel
theorem dX9_trial_25 : decode cX9_trial 25 = .ok (.bipush (-101), 2) := by decide +kernel
theorem dX9_trial_27 : decode cX9_trial 27 = .ok (.ireturn, 1) := by decide +kernel
theorem dX9_draw_0 : decode cX9_draw 0 = .ok (.aload_n 0, 1) := by decide +kernel
theorem dX9_draw_1 : decode cX9_draw 1 = .ok (.ldc2_w 242, 3) := by decide +kernel
theorem dX9_draw_4 : decode cX9_draw 4 = .ok (.aload_n 0, 1) := by decide +kernel
theorem dX9_draw_5 : decode cX9_draw 5 = .ok (.getfield 244, 3) := by decide +kernel
theorem dX9_draw_8 : decode cX9_draw 8 = .ok (.i2l, 1) := by decide +kernel
theorem dX9_draw_9 : decode cX9_draw 9 = .ok (.lmul, 1) := by decide +kernel
theorem dX9_draw_10 : decode cX9_draw 10 = .ok (.ldc2_w 247, 3) := by decide +kernel
theorem dX9_draw_13 : decode cX9_draw 13 = .ok (.ladd, 1) := by decide +kernel
theorem dX9_draw_14 : decode cX9_draw 14 = .ok (.ldc2_w 249, 3) := by decide +kernel
theorem dX9_draw_17 : decode cX9_draw 17 = .ok (.land, 1) := by decide +kernel
theorem dX9_draw_18 : decode cX9_draw 18 = .ok (.l2i, 1) := by decide +kernel
theorem dX9_draw_19 : decode cX9_draw 19 = .ok (.putfield 244, 3) := by decide +kernel
theorem dX9_draw_22 : decode cX9_draw 22 = .ok (.aload_n 0, 1) := by decide +kernel
theorem dX9_draw_23 : decode cX9_draw 23 = .ok (.getfield 244, 3) := by decide +kernel
theorem dX9_draw_26 : decode cX9_draw 26 = .ok (.ldc 251, 2) := by decide +kernel
theorem dX9_draw_28 : decode cX9_draw 28 = .ok (.idiv, 1) := by decide +kernel
theorem dX9_draw_29 : decode cX9_draw 29 = .ok (.iload_n 1, 1) := by decide +kernel
theorem dX9_draw_30 : decode cX9_draw 30 = .ok (.irem, 1) := by decide +kernel
theorem dX9_draw_31 : decode cX9_draw 31 = .ok (.ireturn, 1) := by decide +kernel
theorem dX9_evenings_0 : decode cX9_evenings 0 = .ok (.iload_n 1, 1) := by decide +kernel
theorem dX9_evenings_1 : decode cX9_evenings 1 = .ok (.i2l, 1) := by decide +kernel
theorem dX9_evenings_2 : decode cX9_evenings 2 = .ok (.lconst 1, 1) := by decide +kernel
theorem dX9_evenings_3 : decode cX9_evenings 3 = .ok (.ldc2_w 252, 3) := by decide +kernel
theorem dX9_evenings_6 : decode cX9_evenings 6 = .ok (.invokestatic 64, 3) := by decide +kernel
theorem dX9_evenings_9 : decode cX9_evenings 9 = .ok (.ifCond .eq 19, 3) := by decide +kernel
theorem dX9_evenings_12 : decode cX9_evenings 12 = .ok (.iload_n 2, 1) := by decide +kernel
theorem dX9_evenings_13 : decode cX9_evenings 13 = .ok (.ifCond .lt 15, 3) := by decide +kernel
theorem dX9_evenings_16 : decode cX9_evenings 16 = .ok (.iload_n 3, 1) := by decide +kernel
theorem dX9_evenings_17 : decode cX9_evenings 17 = .ok (.i2l, 1) := by decide +kernel
theorem dX9_evenings_18 : decode cX9_evenings 18 = .ok (.lconst 0, 1) := by decide +kernel
theorem dX9_evenings_19 : decode cX9_evenings 19 = .ok (.ldc2_w 233, 3) := by decide +kernel
theorem dX9_evenings_22 : decode cX9_evenings 22 = .ok (.invokestatic 64, 3) := by decide +kernel
theorem dX9_evenings_25 : decode cX9_evenings 25 = .ok (.ifCond .ne 6, 3) := by decide +kernel
theorem dX9_evenings_28 : decode cX9_evenings 28 = .ok (.bipush (-102), 2) := by decide +kernel
theorem dX9_evenings_30 : decode cX9_evenings 30 = .ok (.ireturn, 1) := by decide +kernel
theorem dX9_evenings_31 : decode cX9_evenings 31 = .ok (.aload_n 0, 1) := by decide +kernel
theorem dX9_evenings_32 : decode cX9_evenings 32 = .ok (.invokevirtual 182, 3) := by decide +kernel
theorem dX9_evenings_35 : decode cX9_evenings 35 = .ok (.ifCond .eq 6, 3) := by decide +kernel
theorem dX9_evenings_38 : decode cX9_evenings 38 = .ok (.bipush (-103), 2) := by decide +kernel
theorem dX9_evenings_40 : decode cX9_evenings 40 = .ok (.ireturn, 1) := by decide +kernel
theorem dX9_evenings_41 : decode cX9_evenings 41 = .ok (.aload_n 0, 1) := by decide +kernel
theorem dX9_evenings_42 : decode cX9_evenings 42 = .ok (.iload_n 2, 1) := by decide +kernel
theorem dX9_evenings_43 : decode cX9_evenings 43 = .ok (.putfield 244, 3) := by decide +kernel
theorem dX9_evenings_46 : decode cX9_evenings 46 = .ok (.aload_n 0, 1) := by decide +kernel
theorem dX9_evenings_47 : decode cX9_evenings 47 = .ok (.invokevirtual 148, 3) := by decide +kernel
theorem dX9_evenings_50 : decode cX9_evenings 50 = .ok (.iconst 0, 1) := by decide +kernel
theorem dX9_evenings_51 : decode cX9_evenings 51 = .ok (.istore 4, 2) := by decide +kernel
theorem dX9_evenings_53 : decode cX9_evenings 53 = .ok (.iconst 0, 1) := by decide +kernel
theorem dX9_evenings_54 : decode cX9_evenings 54 = .ok (.istore 5, 2) := by decide +kernel
theorem dX9_evenings_56 : decode cX9_evenings 56 = .ok (.iload 5, 2) := by decide +kernel
theorem dX9_evenings_58 : decode cX9_evenings 58 = .ok (.iload_n 1, 1) := by decide +kernel
theorem dX9_evenings_59 : decode cX9_evenings 59 = .ok (.if_icmp .ge 84, 3) := by decide +kernel
theorem dX9_evenings_62 : decode cX9_evenings 62 = .ok (.aload_n 0, 1) := by decide +kernel
theorem dX9_evenings_63 : decode cX9_evenings 63 = .ok (.aload_n 0, 1) := by decide +kernel
theorem dX9_evenings_64 : decode cX9_evenings 64 = .ok (.getfield 107, 3) := by decide +kernel
theorem dX9_evenings_67 : decode cX9_evenings 67 = .ok (.invokevirtual 254, 3) := by decide +kernel
theorem dX9_evenings_70 : decode cX9_evenings 70 = .ok (.istore 6, 2) := by decide +kernel
theorem dX9_evenings_72 : decode cX9_evenings 72 = .ok (.aload_n 0, 1) := by decide +kernel
theorem dX9_evenings_73 : decode cX9_evenings 73 = .ok (.aload_n 0, 1) := by decide +kernel
theorem dX9_evenings_74 : decode cX9_evenings 74 = .ok (.getfield 107, 3) := by decide +kernel
theorem dX9_evenings_77 : decode cX9_evenings 77 = .ok (.invokevirtual 254, 3) := by decide +kernel
theorem dX9_evenings_80 : decode cX9_evenings 80 = .ok (.istore 7, 2) := by decide +kernel
theorem dX9_evenings_82 : decode cX9_evenings 82 = .ok (.iload 6, 2) := by decide +kernel
theorem dX9_evenings_84 : decode cX9_evenings 84 = .ok (.iload 7, 2) := by decide +kernel
theorem dX9_evenings_86 : decode cX9_evenings 86 = .ok (.if_icmp .eq 32, 3) := by decide +kernel
theorem dX9_evenings_89 : decode cX9_evenings 89 = .ok (.aload_n 0, 1) := by decide +kernel
theorem dX9_evenings_90 : decode cX9_evenings 90 = .ok (.iload 6, 2) := by decide +kernel
theorem dX9_evenings_92 : decode cX9_evenings 92 = .ok (.invokevirtual 186, 3) := by decide +kernel
theorem dX9_evenings_95 : decode cX9_evenings 95 = .ok (.ifCond .ne 23, 3) := by decide +kernel
theorem dX9_evenings_98 : decode cX9_evenings 98 = .ok (.aload_n 0, 1) := by decide +kernel
theorem dX9_evenings_99 : decode cX9_evenings 99 = .ok (.iload 7, 2) := by decide +kernel
theorem dX9_evenings_101 : decode cX9_evenings 101 = .ok (.invokevirtual 186, 3) := by decide +kernel
theorem dX9_evenings_104 : decode cX9_evenings 104 = .ok (.ifCond .ne 14, 3) := by decide +kernel
theorem dX9_evenings_107 : decode cX9_evenings 107 = .ok (.aload_n 0, 1) := by decide +kernel
theorem dX9_evenings_108 : decode cX9_evenings 108 = .ok (.getfield 31, 3) := by decide +kernel
theorem dX9_evenings_111 : decode cX9_evenings 111 = .ok (.iload 6, 2) := by decide +kernel
theorem dX9_evenings_113 : decode cX9_evenings 113 = .ok (.iload 7, 2) := by decide +kernel
theorem dX9_evenings_115 : decode cX9_evenings 115 = .ok (.invokestatic 189, 3) := by decide +kernel
theorem dX9_evenings_118 : decode cX9_evenings 118 = .ok (.aload_n 0, 1) := by decide +kernel
theorem dX9_evenings_119 : decode cX9_evenings 119 = .ok (.dup, 1) := by decide +kernel
theorem dX9_evenings_120 : decode cX9_evenings 120 = .ok (.getfield 129, 3) := by decide +kernel
theorem dX9_evenings_123 : decode cX9_evenings 123 = .ok (.iconst 1, 1) := by decide +kernel
theorem dX9_evenings_124 : decode cX9_evenings 124 = .ok (.iadd, 1) := by decide +kernel
theorem dX9_evenings_125 : decode cX9_evenings 125 = .ok (.putfield 129, 3) := by decide +kernel
theorem dX9_evenings_128 : decode cX9_evenings 128 = .ok (.iload 4, 2) := by decide +kernel
theorem dX9_evenings_130 : decode cX9_evenings 130 = .ok (.aload_n 0, 1) := by decide +kernel
theorem dX9_evenings_131 : decode cX9_evenings 131 = .ok (.invokevirtual 151, 3) := by decide +kernel
theorem dX9_evenings_134 : decode cX9_evenings 134 = .ok (.iadd, 1) := by decide +kernel
theorem dX9_evenings_135 : decode cX9_evenings 135 = .ok (.istore 4, 2) := by decide +kernel
theorem dX9_evenings_137 : decode cX9_evenings 137 = .ok (.iinc 5 1, 3) := by decide +kernel
theorem dX9_evenings_140 : decode cX9_evenings 140 = .ok (.goto (-84), 3) := by decide +kernel
theorem dX9_evenings_143 : decode cX9_evenings 143 = .ok (.iload_n 3, 1) := by decide +kernel
theorem dX9_evenings_144 : decode cX9_evenings 144 = .ok (.ifCond .ne 8, 3) := by decide +kernel
theorem dX9_evenings_147 : decode cX9_evenings 147 = .ok (.iload 4, 2) := by decide +kernel
theorem dX9_evenings_149 : decode cX9_evenings 149 = .ok (.goto 25, 3) := by decide +kernel
theorem dX9_evenings_152 : decode cX9_evenings 152 = .ok (.iload_n 3, 1) := by decide +kernel
theorem dX9_evenings_153 : decode cX9_evenings 153 = .ok (.iconst 1, 1) := by decide +kernel
theorem dX9_evenings_154 : decode cX9_evenings 154 = .ok (.if_icmp .ne 16, 3) := by decide +kernel
theorem dX9_evenings_157 : decode cX9_evenings 157 = .ok (.sipush 10000, 3) := by decide +kernel
theorem dX9_evenings_160 : decode cX9_evenings 160 = .ok (.aload_n 0, 1) := by decide +kernel
theorem dX9_evenings_161 : decode cX9_evenings 161 = .ok (.getfield 37, 3) := by decide +kernel
theorem dX9_evenings_164 : decode cX9_evenings 164 = .ok (.iconst 0, 1) := by decide +kernel
theorem dX9_evenings_165 : decode cX9_evenings 165 = .ok (.iaload, 1) := by decide +kernel
theorem dX9_evenings_166 : decode cX9_evenings 166 = .ok (.iadd, 1) := by decide +kernel
theorem dX9_evenings_167 : decode cX9_evenings 167 = .ok (.goto 7, 3) := by decide +kernel
theorem dX9_evenings_170 : decode cX9_evenings 170 = .ok (.aload_n 0, 1) := by decide +kernel
theorem dX9_evenings_171 : decode cX9_evenings 171 = .ok (.getfield 244, 3) := by decide +kernel
theorem dX9_evenings_174 : decode cX9_evenings 174 = .ok (.ireturn, 1) := by decide +kernel
theorem dX9_image_0 : decode cX9_image 0 = .ok (.aload_n 0, 1) := by decide +kernel
theorem dX9_image_1 : decode cX9_image 1 = .ok (.invokevirtual 182, 3) := by decide +kernel
theorem dX9_image_4 : decode cX9_image 4 = .ok (.ifCond .eq 6, 3) := by decide +kernel
theorem dX9_image_7 : decode cX9_image 7 = .ok (.bipush (-103), 2) := by decide +kernel
theorem dX9_image_9 : decode cX9_image 9 = .ok (.ireturn, 1) := by decide +kernel
theorem dX9_image_10 : decode cX9_image 10 = .ok (.aload_n 0, 1) := by decide +kernel
theorem dX9_image_11 : decode cX9_image 11 = .ok (.getfield 13, 3) := by decide +kernel
theorem dX9_image_14 : decode cX9_image 14 = .ok (.aload_n 0, 1) := by decide +kernel
theorem dX9_image_15 : decode cX9_image 15 = .ok (.getfield 43, 3) := by decide +kernel
theorem dX9_image_18 : decode cX9_image 18 = .ok (.invokestatic 125, 3) := by decide +kernel
theorem dX9_image_21 : decode cX9_image 21 = .ok (.aload_n 0, 1) := by decide +kernel
theorem dX9_image_22 : decode cX9_image 22 = .ok (.getfield 22, 3) := by decide +kernel
theorem dX9_image_25 : decode cX9_image 25 = .ok (.aload_n 0, 1) := by decide +kernel
theorem dX9_image_26 : decode cX9_image 26 = .ok (.getfield 46, 3) := by decide +kernel
theorem dX9_image_29 : decode cX9_image 29 = .ok (.invokestatic 125, 3) := by decide +kernel
theorem dX9_image_32 : decode cX9_image 32 = .ok (.aload_n 0, 1) := by decide +kernel
theorem dX9_image_33 : decode cX9_image 33 = .ok (.getfield 25, 3) := by decide +kernel
theorem dX9_image_36 : decode cX9_image 36 = .ok (.aload_n 0, 1) := by decide +kernel
theorem dX9_image_37 : decode cX9_image 37 = .ok (.getfield 49, 3) := by decide +kernel
theorem dX9_image_40 : decode cX9_image 40 = .ok (.invokestatic 125, 3) := by decide +kernel
theorem dX9_image_43 : decode cX9_image 43 = .ok (.aload_n 0, 1) := by decide +kernel
theorem dX9_image_44 : decode cX9_image 44 = .ok (.getfield 28, 3) := by decide +kernel
theorem dX9_image_47 : decode cX9_image 47 = .ok (.aload_n 0, 1) := by decide +kernel
theorem dX9_image_48 : decode cX9_image 48 = .ok (.getfield 52, 3) := by decide +kernel
theorem dX9_image_51 : decode cX9_image 51 = .ok (.invokestatic 125, 3) := by decide +kernel
theorem dX9_image_54 : decode cX9_image 54 = .ok (.aload_n 0, 1) := by decide +kernel
theorem dX9_image_55 : decode cX9_image 55 = .ok (.getfield 40, 3) := by decide +kernel
theorem dX9_image_58 : decode cX9_image 58 = .ok (.aload_n 0, 1) := by decide +kernel
theorem dX9_image_59 : decode cX9_image 59 = .ok (.getfield 55, 3) := by decide +kernel
theorem dX9_image_62 : decode cX9_image 62 = .ok (.invokestatic 125, 3) := by decide +kernel
theorem dX9_image_65 : decode cX9_image 65 = .ok (.aload_n 0, 1) := by decide +kernel
theorem dX9_image_66 : decode cX9_image 66 = .ok (.aload_n 0, 1) := by decide +kernel
theorem dX9_image_67 : decode cX9_image 67 = .ok (.getfield 110, 3) := by decide +kernel
theorem dX9_image_70 : decode cX9_image 70 = .ok (.putfield 257, 3) := by decide +kernel
theorem dX9_image_73 : decode cX9_image 73 = .ok (.aload_n 0, 1) := by decide +kernel
theorem dX9_image_74 : decode cX9_image 74 = .ok (.aload_n 0, 1) := by decide +kernel
theorem dX9_image_75 : decode cX9_image 75 = .ok (.getfield 113, 3) := by decide +kernel
theorem dX9_image_78 : decode cX9_image 78 = .ok (.putfield 260, 3) := by decide +kernel
theorem dX9_image_81 : decode cX9_image 81 = .ok (.aload_n 0, 1) := by decide +kernel
theorem dX9_image_82 : decode cX9_image 82 = .ok (.aload_n 0, 1) := by decide +kernel
theorem dX9_image_83 : decode cX9_image 83 = .ok (.getfield 116, 3) := by decide +kernel
theorem dX9_image_86 : decode cX9_image 86 = .ok (.putfield 263, 3) := by decide +kernel
theorem dX9_image_89 : decode cX9_image 89 = .ok (.aload_n 0, 1) := by decide +kernel
theorem dX9_image_90 : decode cX9_image 90 = .ok (.aload_n 0, 1) := by decide +kernel
theorem dX9_image_91 : decode cX9_image 91 = .ok (.getfield 119, 3) := by decide +kernel
theorem dX9_image_94 : decode cX9_image 94 = .ok (.putfield 266, 3) := by decide +kernel
theorem dX9_image_97 : decode cX9_image 97 = .ok (.aload_n 0, 1) := by decide +kernel
theorem dX9_image_98 : decode cX9_image 98 = .ok (.aload_n 0, 1) := by decide +kernel
theorem dX9_image_99 : decode cX9_image 99 = .ok (.getfield 122, 3) := by decide +kernel
theorem dX9_image_102 : decode cX9_image 102 = .ok (.putfield 58, 3) := by decide +kernel
theorem dX9_image_105 : decode cX9_image 105 = .ok (.aload_n 0, 1) := by decide +kernel
theorem dX9_image_106 : decode cX9_image 106 = .ok (.getfield 110, 3) := by decide +kernel
theorem dX9_image_109 : decode cX9_image 109 = .ok (.ireturn, 1) := by decide +kernel
theorem dX9_restore_0 : decode cX9_restore 0 = .ok (.aload_n 0, 1) := by decide +kernel
theorem dX9_restore_1 : decode cX9_restore 1 = .ok (.getfield 58, 3) := by decide +kernel
theorem dX9_restore_4 : decode cX9_restore 4 = .ok (.aload_n 0, 1) := by decide +kernel
theorem dX9_restore_5 : decode cX9_restore 5 = .ok (.getfield 122, 3) := by decide +kernel
theorem dX9_restore_8 : decode cX9_restore 8 = .ok (.if_icmp .eq 6, 3) := by decide +kernel
theorem dX9_restore_11 : decode cX9_restore 11 = .ok (.bipush (-103), 2) := by decide +kernel
theorem dX9_restore_13 : decode cX9_restore 13 = .ok (.ireturn, 1) := by decide +kernel
theorem dX9_restore_14 : decode cX9_restore 14 = .ok (.aload_n 0, 1) := by decide +kernel
theorem dX9_restore_15 : decode cX9_restore 15 = .ok (.getfield 43, 3) := by decide +kernel
theorem dX9_restore_18 : decode cX9_restore 18 = .ok (.aload_n 0, 1) := by decide +kernel
theorem dX9_restore_19 : decode cX9_restore 19 = .ok (.getfield 13, 3) := by decide +kernel
theorem dX9_restore_22 : decode cX9_restore 22 = .ok (.invokestatic 125, 3) := by decide +kernel
theorem dX9_restore_25 : decode cX9_restore 25 = .ok (.aload_n 0, 1) := by decide +kernel
theorem dX9_restore_26 : decode cX9_restore 26 = .ok (.getfield 46, 3) := by decide +kernel
theorem dX9_restore_29 : decode cX9_restore 29 = .ok (.aload_n 0, 1) := by decide +kernel
theorem dX9_restore_30 : decode cX9_restore 30 = .ok (.getfield 22, 3) := by decide +kernel
theorem dX9_restore_33 : decode cX9_restore 33 = .ok (.invokestatic 125, 3) := by decide +kernel
theorem dX9_restore_36 : decode cX9_restore 36 = .ok (.aload_n 0, 1) := by decide +kernel
theorem dX9_restore_37 : decode cX9_restore 37 = .ok (.getfield 49, 3) := by decide +kernel
theorem dX9_restore_40 : decode cX9_restore 40 = .ok (.aload_n 0, 1) := by decide +kernel
theorem dX9_restore_41 : decode cX9_restore 41 = .ok (.getfield 25, 3) := by decide +kernel
theorem dX9_restore_44 : decode cX9_restore 44 = .ok (.invokestatic 125, 3) := by decide +kernel
theorem dX9_restore_47 : decode cX9_restore 47 = .ok (.aload_n 0, 1) := by decide +kernel
theorem dX9_restore_48 : decode cX9_restore 48 = .ok (.getfield 52, 3) := by decide +kernel
theorem dX9_restore_51 : decode cX9_restore 51 = .ok (.aload_n 0, 1) := by decide +kernel
theorem dX9_restore_52 : decode cX9_restore 52 = .ok (.getfield 28, 3) := by decide +kernel
theorem dX9_restore_55 : decode cX9_restore 55 = .ok (.invokestatic 125, 3) := by decide +kernel
theorem dX9_restore_58 : decode cX9_restore 58 = .ok (.aload_n 0, 1) := by decide +kernel
theorem dX9_restore_59 : decode cX9_restore 59 = .ok (.getfield 55, 3) := by decide +kernel
theorem dX9_restore_62 : decode cX9_restore 62 = .ok (.aload_n 0, 1) := by decide +kernel
theorem dX9_restore_63 : decode cX9_restore 63 = .ok (.getfield 40, 3) := by decide +kernel
theorem dX9_restore_66 : decode cX9_restore 66 = .ok (.invokestatic 125, 3) := by decide +kernel
theorem dX9_restore_69 : decode cX9_restore 69 = .ok (.aload_n 0, 1) := by decide +kernel
theorem dX9_restore_70 : decode cX9_restore 70 = .ok (.aload_n 0, 1) := by decide +kernel
theorem dX9_restore_71 : decode cX9_restore 71 = .ok (.getfield 257, 3) := by decide +kernel
theorem dX9_restore_74 : decode cX9_restore 74 = .ok (.putfield 110, 3) := by decide +kernel
theorem dX9_restore_77 : decode cX9_restore 77 = .ok (.aload_n 0, 1) := by decide +kernel
theorem dX9_restore_78 : decode cX9_restore 78 = .ok (.aload_n 0, 1) := by decide +kernel
theorem dX9_restore_79 : decode cX9_restore 79 = .ok (.getfield 260, 3) := by decide +kernel
theorem dX9_restore_82 : decode cX9_restore 82 = .ok (.putfield 113, 3) := by decide +kernel
theorem dX9_restore_85 : decode cX9_restore 85 = .ok (.aload_n 0, 1) := by decide +kernel
theorem dX9_restore_86 : decode cX9_restore 86 = .ok (.aload_n 0, 1) := by decide +kernel
theorem dX9_restore_87 : decode cX9_restore 87 = .ok (.getfield 263, 3) := by decide +kernel
theorem dX9_restore_90 : decode cX9_restore 90 = .ok (.putfield 116, 3) := by decide +kernel
theorem dX9_restore_93 : decode cX9_restore 93 = .ok (.aload_n 0, 1) := by decide +kernel
theorem dX9_restore_94 : decode cX9_restore 94 = .ok (.aload_n 0, 1) := by decide +kernel
theorem dX9_restore_95 : decode cX9_restore 95 = .ok (.getfield 266, 3) := by decide +kernel
theorem dX9_restore_98 : decode cX9_restore 98 = .ok (.putfield 119, 3) := by decide +kernel
theorem dX9_restore_101 : decode cX9_restore 101 = .ok (.aload_n 0, 1) := by decide +kernel
theorem dX9_restore_102 : decode cX9_restore 102 = .ok (.getfield 110, 3) := by decide +kernel
theorem dX9_restore_105 : decode cX9_restore 105 = .ok (.ireturn, 1) := by decide +kernel
theorem dX9_thingsThere_0 : decode cX9_thingsThere 0 = .ok (.aload_n 0, 1) := by decide +kernel
theorem dX9_thingsThere_1 : decode cX9_thingsThere 1 = .ok (.invokevirtual 145, 3) := by decide +kernel
theorem dX9_thingsThere_4 : decode cX9_thingsThere 4 = .ok (.istore_n 1, 1) := by decide +kernel
theorem dX9_thingsThere_5 : decode cX9_thingsThere 5 = .ok (.iconst 0, 1) := by decide +kernel
theorem dX9_thingsThere_6 : decode cX9_thingsThere 6 = .ok (.istore_n 2, 1) := by decide +kernel
theorem dX9_thingsThere_7 : decode cX9_thingsThere 7 = .ok (.iconst 0, 1) := by decide +kernel
theorem dX9_thingsThere_8 : decode cX9_thingsThere 8 = .ok (.istore_n 3, 1) := by decide +kernel
theorem dX9_thingsThere_9 : decode cX9_thingsThere 9 = .ok (.iload_n 3, 1) := by decide +kernel
theorem dX9_thingsThere_10 : decode cX9_thingsThere 10 = .ok (.aload_n 0, 1) := by decide +kernel
theorem dX9_thingsThere_11 : decode cX9_thingsThere 11 = .ok (.getfield 107, 3) := by decide +kernel
theorem dX9_thingsThere_14 : decode cX9_thingsThere 14 = .ok (.if_icmp .ge 40, 3) := by decide +kernel
theorem dX9_thingsThere_17 : decode cX9_thingsThere 17 = .ok (.iload_n 2, 1) := by decide +kernel
theorem dX9_thingsThere_18 : decode cX9_thingsThere 18 = .ok (.aload_n 0, 1) := by decide +kernel
theorem dX9_thingsThere_19 : decode cX9_thingsThere 19 = .ok (.iload_n 3, 1) := by decide +kernel
theorem dX9_thingsThere_20 : decode cX9_thingsThere 20 = .ok (.invokevirtual 186, 3) := by decide +kernel
theorem dX9_thingsThere_23 : decode cX9_thingsThere 23 = .ok (.ifCond .ne 22, 3) := by decide +kernel
theorem dX9_thingsThere_26 : decode cX9_thingsThere 26 = .ok (.iload_n 1, 1) := by decide +kernel
theorem dX9_thingsThere_27 : decode cX9_thingsThere 27 = .ok (.aload_n 0, 1) := by decide +kernel
theorem dX9_thingsThere_28 : decode cX9_thingsThere 28 = .ok (.iload_n 3, 1) := by decide +kernel
theorem dX9_thingsThere_29 : decode cX9_thingsThere 29 = .ok (.invokevirtual 170, 3) := by decide +kernel
theorem dX9_thingsThere_32 : decode cX9_thingsThere 32 = .ok (.iconst 2, 1) := by decide +kernel
theorem dX9_thingsThere_33 : decode cX9_thingsThere 33 = .ok (.idiv, 1) := by decide +kernel
theorem dX9_thingsThere_34 : decode cX9_thingsThere 34 = .ok (.ishr, 1) := by decide +kernel
theorem dX9_thingsThere_35 : decode cX9_thingsThere 35 = .ok (.iconst 1, 1) := by decide +kernel
theorem dX9_thingsThere_36 : decode cX9_thingsThere 36 = .ok (.iand, 1) := by decide +kernel
theorem dX9_thingsThere_37 : decode cX9_thingsThere 37 = .ok (.iconst 1, 1) := by decide +kernel
theorem dX9_thingsThere_38 : decode cX9_thingsThere 38 = .ok (.if_icmp .ne 7, 3) := by decide +kernel
theorem dX9_thingsThere_41 : decode cX9_thingsThere 41 = .ok (.iconst 1, 1) := by decide +kernel
theorem dX9_thingsThere_42 : decode cX9_thingsThere 42 = .ok (.goto 4, 3) := by decide +kernel
theorem dX9_thingsThere_45 : decode cX9_thingsThere 45 = .ok (.iconst 0, 1) := by decide +kernel
theorem dX9_thingsThere_46 : decode cX9_thingsThere 46 = .ok (.iadd, 1) := by decide +kernel
theorem dX9_thingsThere_47 : decode cX9_thingsThere 47 = .ok (.istore_n 2, 1) := by decide +kernel
theorem dX9_thingsThere_48 : decode cX9_thingsThere 48 = .ok (.iinc 3 1, 3) := by decide +kernel
theorem dX9_thingsThere_51 : decode cX9_thingsThere 51 = .ok (.goto (-42), 3) := by decide +kernel
theorem dX9_thingsThere_54 : decode cX9_thingsThere 54 = .ok (.iload_n 2, 1) := by decide +kernel
theorem dX9_thingsThere_55 : decode cX9_thingsThere 55 = .ok (.ireturn, 1) := by decide +kernel
theorem dX9_weighsAll_0 : decode cX9_weighsAll 0 = .ok (.aload_n 0, 1) := by decide +kernel
theorem dX9_weighsAll_1 : decode cX9_weighsAll 1 = .ok (.invokevirtual 148, 3) := by decide +kernel
theorem dX9_weighsAll_4 : decode cX9_weighsAll 4 = .ok (.aload_n 0, 1) := by decide +kernel
theorem dX9_weighsAll_5 : decode cX9_weighsAll 5 = .ok (.invokevirtual 142, 3) := by decide +kernel
theorem dX9_weighsAll_8 : decode cX9_weighsAll 8 = .ok (.aload_n 0, 1) := by decide +kernel
theorem dX9_weighsAll_9 : decode cX9_weighsAll 9 = .ok (.invokevirtual 182, 3) := by decide +kernel
theorem dX9_weighsAll_12 : decode cX9_weighsAll 12 = .ok (.ifCond .eq 9, 3) := by decide +kernel
theorem dX9_weighsAll_15 : decode cX9_weighsAll 15 = .ok (.sipush 10000, 3) := by decide +kernel
theorem dX9_weighsAll_18 : decode cX9_weighsAll 18 = .ok (.goto 13, 3) := by decide +kernel
theorem dX9_weighsAll_21 : decode cX9_weighsAll 21 = .ok (.sipush 10000, 3) := by decide +kernel
theorem dX9_weighsAll_24 : decode cX9_weighsAll 24 = .ok (.aload_n 0, 1) := by decide +kernel
theorem dX9_weighsAll_25 : decode cX9_weighsAll 25 = .ok (.getfield 34, 3) := by decide +kernel
theorem dX9_weighsAll_28 : decode cX9_weighsAll 28 = .ok (.iconst 0, 1) := by decide +kernel
theorem dX9_weighsAll_29 : decode cX9_weighsAll 29 = .ok (.iaload, 1) := by decide +kernel
theorem dX9_weighsAll_30 : decode cX9_weighsAll 30 = .ok (.iadd, 1) := by decide +kernel
theorem dX9_weighsAll_31 : decode cX9_weighsAll 31 = .ok (.ireturn, 1) := by decide +kernel
theorem dX9_countOf_0 : decode cX9_countOf 0 = .ok (.iload_n 1, 1) := by decide +kernel
theorem dX9_countOf_1 : decode cX9_countOf 1 = .ok (.tableswitch 117 0 10 #[59, 64, 69, 77, 82, 87, 92, 97, 102, 107, 112], 59) := by decide +kernel
theorem dX9_countOf_60 : decode cX9_countOf 60 = .ok (.aload_n 0, 1) := by decide +kernel
theorem dX9_countOf_61 : decode cX9_countOf 61 = .ok (.getfield 104, 3) := by decide +kernel
theorem dX9_countOf_64 : decode cX9_countOf 64 = .ok (.ireturn, 1) := by decide +kernel
theorem dX9_countOf_65 : decode cX9_countOf 65 = .ok (.aload_n 0, 1) := by decide +kernel
theorem dX9_countOf_66 : decode cX9_countOf 66 = .ok (.getfield 107, 3) := by decide +kernel
theorem dX9_countOf_69 : decode cX9_countOf 69 = .ok (.ireturn, 1) := by decide +kernel
theorem dX9_countOf_70 : decode cX9_countOf 70 = .ok (.aload_n 0, 1) := by decide +kernel
theorem dX9_countOf_71 : decode cX9_countOf 71 = .ok (.invokevirtual 145, 3) := by decide +kernel
theorem dX9_countOf_74 : decode cX9_countOf 74 = .ok (.invokestatic 196, 3) := by decide +kernel
theorem dX9_countOf_77 : decode cX9_countOf 77 = .ok (.ireturn, 1) := by decide +kernel
theorem dX9_countOf_78 : decode cX9_countOf 78 = .ok (.aload_n 0, 1) := by decide +kernel
theorem dX9_countOf_79 : decode cX9_countOf 79 = .ok (.invokevirtual 193, 3) := by decide +kernel
theorem dX9_countOf_82 : decode cX9_countOf 82 = .ok (.ireturn, 1) := by decide +kernel
theorem dX9_countOf_83 : decode cX9_countOf 83 = .ok (.aload_n 0, 1) := by decide +kernel
theorem dX9_countOf_84 : decode cX9_countOf 84 = .ok (.invokevirtual 269, 3) := by decide +kernel
theorem dX9_countOf_87 : decode cX9_countOf 87 = .ok (.ireturn, 1) := by decide +kernel
theorem dX9_countOf_88 : decode cX9_countOf 88 = .ok (.aload_n 0, 1) := by decide +kernel
theorem dX9_countOf_89 : decode cX9_countOf 89 = .ok (.getfield 110, 3) := by decide +kernel
theorem dX9_countOf_92 : decode cX9_countOf 92 = .ok (.ireturn, 1) := by decide +kernel
theorem dX9_countOf_93 : decode cX9_countOf 93 = .ok (.aload_n 0, 1) := by decide +kernel
theorem dX9_countOf_94 : decode cX9_countOf 94 = .ok (.invokevirtual 272, 3) := by decide +kernel
theorem dX9_countOf_97 : decode cX9_countOf 97 = .ok (.ireturn, 1) := by decide +kernel
theorem dX9_countOf_98 : decode cX9_countOf 98 = .ok (.aload_n 0, 1) := by decide +kernel
theorem dX9_countOf_99 : decode cX9_countOf 99 = .ok (.getfield 119, 3) := by decide +kernel
theorem dX9_countOf_102 : decode cX9_countOf 102 = .ok (.ireturn, 1) := by decide +kernel
theorem dX9_countOf_103 : decode cX9_countOf 103 = .ok (.aload_n 0, 1) := by decide +kernel
theorem dX9_countOf_104 : decode cX9_countOf 104 = .ok (.getfield 68, 3) := by decide +kernel
theorem dX9_countOf_107 : decode cX9_countOf 107 = .ok (.ireturn, 1) := by decide +kernel
theorem dX9_countOf_108 : decode cX9_countOf 108 = .ok (.aload_n 0, 1) := by decide +kernel
theorem dX9_countOf_109 : decode cX9_countOf 109 = .ok (.getfield 122, 3) := by decide +kernel
theorem dX9_countOf_112 : decode cX9_countOf 112 = .ok (.ireturn, 1) := by decide +kernel
theorem dX9_countOf_113 : decode cX9_countOf 113 = .ok (.aload_n 0, 1) := by decide +kernel
theorem dX9_countOf_114 : decode cX9_countOf 114 = .ok (.getfield 221, 3) := by decide +kernel
theorem dX9_countOf_117 : decode cX9_countOf 117 = .ok (.ireturn, 1) := by decide +kernel
theorem dX9_countOf_118 : decode cX9_countOf 118 = .ok (.bipush (-102), 2) := by decide +kernel
theorem dX9_countOf_120 : decode cX9_countOf 120 = .ok (.ireturn, 1) := by decide +kernel
theorem dX9_count_0 : decode cX9_count 0 = .ok (.aload_n 0, 1) := by decide +kernel
theorem dX9_count_1 : decode cX9_count 1 = .ok (.iload_n 1, 1) := by decide +kernel
theorem dX9_count_2 : decode cX9_count 2 = .ok (.invokevirtual 275, 3) := by decide +kernel
theorem dX9_count_5 : decode cX9_count 5 = .ok (.ireturn, 1) := by decide +kernel
theorem dX9_say_0 : decode cX9_say 0 = .ok (.aload_n 0, 1) := by decide +kernel
theorem dX9_say_1 : decode cX9_say 1 = .ok (.ldc2_w 278, 3) := by decide +kernel
theorem dX9_say_4 : decode cX9_say 4 = .ok (.aload_n 0, 1) := by decide +kernel
theorem dX9_say_5 : decode cX9_say 5 = .ok (.getfield 280, 3) := by decide +kernel
theorem dX9_say_8 : decode cX9_say 8 = .ok (.lmul, 1) := by decide +kernel
theorem dX9_say_9 : decode cX9_say 9 = .ok (.lload_n 1, 1) := by decide +kernel
theorem dX9_say_10 : decode cX9_say 10 = .ok (.ladd, 1) := by decide +kernel
theorem dX9_say_11 : decode cX9_say 11 = .ok (.putfield 280, 3) := by decide +kernel
theorem dX9_say_14 : decode cX9_say 14 = .ok (.return_, 1) := by decide +kernel
theorem dX9_digest_0 : decode cX9_digest 0 = .ok (.aload_n 0, 1) := by decide +kernel
theorem dX9_digest_1 : decode cX9_digest 1 = .ok (.ldc2_w 284, 3) := by decide +kernel
theorem dX9_digest_4 : decode cX9_digest 4 = .ok (.putfield 280, 3) := by decide +kernel
theorem dX9_digest_7 : decode cX9_digest 7 = .ok (.iconst 0, 1) := by decide +kernel
theorem dX9_digest_8 : decode cX9_digest 8 = .ok (.istore_n 1, 1) := by decide +kernel
theorem dX9_digest_9 : decode cX9_digest 9 = .ok (.iload_n 1, 1) := by decide +kernel
theorem dX9_digest_10 : decode cX9_digest 10 = .ok (.aload_n 0, 1) := by decide +kernel
theorem dX9_digest_11 : decode cX9_digest 11 = .ok (.getfield 104, 3) := by decide +kernel
theorem dX9_digest_14 : decode cX9_digest 14 = .ok (.if_icmp .ge 34, 3) := by decide +kernel
theorem dX9_digest_17 : decode cX9_digest 17 = .ok (.iconst 0, 1) := by decide +kernel
theorem dX9_digest_18 : decode cX9_digest 18 = .ok (.istore_n 2, 1) := by decide +kernel
theorem dX9_digest_19 : decode cX9_digest 19 = .ok (.iload_n 2, 1) := by decide +kernel
theorem dX9_digest_20 : decode cX9_digest 20 = .ok (.bipush 11, 2) := by decide +kernel
theorem dX9_digest_22 : decode cX9_digest 22 = .ok (.if_icmp .ge 20, 3) := by decide +kernel
theorem dX9_digest_25 : decode cX9_digest 25 = .ok (.aload_n 0, 1) := by decide +kernel
theorem dX9_digest_26 : decode cX9_digest 26 = .ok (.aload_n 0, 1) := by decide +kernel
theorem dX9_digest_27 : decode cX9_digest 27 = .ok (.iload_n 1, 1) := by decide +kernel
theorem dX9_digest_28 : decode cX9_digest 28 = .ok (.iload_n 2, 1) := by decide +kernel
theorem dX9_digest_29 : decode cX9_digest 29 = .ok (.invokevirtual 166, 3) := by decide +kernel
theorem dX9_digest_32 : decode cX9_digest 32 = .ok (.i2l, 1) := by decide +kernel
theorem dX9_digest_33 : decode cX9_digest 33 = .ok (.invokevirtual 286, 3) := by decide +kernel
theorem dX9_digest_36 : decode cX9_digest 36 = .ok (.iinc 2 1, 3) := by decide +kernel
theorem dX9_digest_39 : decode cX9_digest 39 = .ok (.goto (-20), 3) := by decide +kernel
theorem dX9_digest_42 : decode cX9_digest 42 = .ok (.iinc 1 1, 3) := by decide +kernel
theorem dX9_digest_45 : decode cX9_digest 45 = .ok (.goto (-36), 3) := by decide +kernel
theorem dX9_digest_48 : decode cX9_digest 48 = .ok (.iconst 0, 1) := by decide +kernel
theorem dX9_digest_49 : decode cX9_digest 49 = .ok (.istore_n 1, 1) := by decide +kernel
theorem dX9_digest_50 : decode cX9_digest 50 = .ok (.iload_n 1, 1) := by decide +kernel
theorem dX9_digest_51 : decode cX9_digest 51 = .ok (.aload_n 0, 1) := by decide +kernel
theorem dX9_digest_52 : decode cX9_digest 52 = .ok (.getfield 107, 3) := by decide +kernel
theorem dX9_digest_55 : decode cX9_digest 55 = .ok (.if_icmp .ge 45, 3) := by decide +kernel
theorem dX9_digest_58 : decode cX9_digest 58 = .ok (.iconst 0, 1) := by decide +kernel
theorem dX9_digest_59 : decode cX9_digest 59 = .ok (.istore_n 2, 1) := by decide +kernel
theorem dX9_digest_60 : decode cX9_digest 60 = .ok (.iload_n 2, 1) := by decide +kernel
theorem dX9_digest_61 : decode cX9_digest 61 = .ok (.bipush 7, 2) := by decide +kernel
theorem dX9_digest_63 : decode cX9_digest 63 = .ok (.if_icmp .ge 20, 3) := by decide +kernel
theorem dX9_digest_66 : decode cX9_digest 66 = .ok (.aload_n 0, 1) := by decide +kernel
theorem dX9_digest_67 : decode cX9_digest 67 = .ok (.aload_n 0, 1) := by decide +kernel
theorem dX9_digest_68 : decode cX9_digest 68 = .ok (.iload_n 1, 1) := by decide +kernel
theorem dX9_digest_69 : decode cX9_digest 69 = .ok (.iload_n 2, 1) := by decide +kernel
theorem dX9_digest_70 : decode cX9_digest 70 = .ok (.invokevirtual 179, 3) := by decide +kernel
theorem dX9_digest_73 : decode cX9_digest 73 = .ok (.i2l, 1) := by decide +kernel
theorem dX9_digest_74 : decode cX9_digest 74 = .ok (.invokevirtual 286, 3) := by decide +kernel
theorem dX9_digest_77 : decode cX9_digest 77 = .ok (.iinc 2 1, 3) := by decide +kernel
theorem dX9_digest_80 : decode cX9_digest 80 = .ok (.goto (-20), 3) := by decide +kernel
theorem dX9_digest_83 : decode cX9_digest 83 = .ok (.aload_n 0, 1) := by decide +kernel
theorem dX9_digest_84 : decode cX9_digest 84 = .ok (.aload_n 0, 1) := by decide +kernel
theorem dX9_digest_85 : decode cX9_digest 85 = .ok (.iload_n 1, 1) := by decide +kernel
theorem dX9_digest_86 : decode cX9_digest 86 = .ok (.iconst 0, 1) := by decide +kernel
theorem dX9_digest_87 : decode cX9_digest 87 = .ok (.invokevirtual 239, 3) := by decide +kernel
theorem dX9_digest_90 : decode cX9_digest 90 = .ok (.i2l, 1) := by decide +kernel
theorem dX9_digest_91 : decode cX9_digest 91 = .ok (.invokevirtual 286, 3) := by decide +kernel
theorem dX9_digest_94 : decode cX9_digest 94 = .ok (.iinc 1 1, 3) := by decide +kernel
theorem dX9_digest_97 : decode cX9_digest 97 = .ok (.goto (-47), 3) := by decide +kernel
theorem dX9_digest_100 : decode cX9_digest 100 = .ok (.aload_n 0, 1) := by decide +kernel
theorem dX9_digest_101 : decode cX9_digest 101 = .ok (.invokevirtual 182, 3) := by decide +kernel
theorem dX9_digest_104 : decode cX9_digest 104 = .ok (.ifCond .ne 41, 3) := by decide +kernel
theorem dX9_digest_107 : decode cX9_digest 107 = .ok (.aload_n 0, 1) := by decide +kernel
theorem dX9_digest_108 : decode cX9_digest 108 = .ok (.aload_n 0, 1) := by decide +kernel
theorem dX9_digest_109 : decode cX9_digest 109 = .ok (.invokevirtual 201, 3) := by decide +kernel
theorem dX9_digest_112 : decode cX9_digest 112 = .ok (.i2l, 1) := by decide +kernel
theorem dX9_digest_113 : decode cX9_digest 113 = .ok (.invokevirtual 286, 3) := by decide +kernel
theorem dX9_digest_116 : decode cX9_digest 116 = .ok (.aload_n 0, 1) := by decide +kernel
theorem dX9_digest_117 : decode cX9_digest 117 = .ok (.aload_n 0, 1) := by decide +kernel
theorem dX9_digest_118 : decode cX9_digest 118 = .ok (.invokevirtual 227, 3) := by decide +kernel
theorem dX9_digest_121 : decode cX9_digest 121 = .ok (.i2l, 1) := by decide +kernel
theorem dX9_digest_122 : decode cX9_digest 122 = .ok (.invokevirtual 286, 3) := by decide +kernel
theorem dX9_digest_125 : decode cX9_digest 125 = .ok (.aload_n 0, 1) := by decide +kernel
theorem dX9_digest_126 : decode cX9_digest 126 = .ok (.aload_n 0, 1) := by decide +kernel
theorem dX9_digest_127 : decode cX9_digest 127 = .ok (.iconst 0, 1) := by decide +kernel
theorem dX9_digest_128 : decode cX9_digest 128 = .ok (.invokevirtual 230, 3) := by decide +kernel
theorem dX9_digest_131 : decode cX9_digest 131 = .ok (.i2l, 1) := by decide +kernel
theorem dX9_digest_132 : decode cX9_digest 132 = .ok (.invokevirtual 286, 3) := by decide +kernel
theorem dX9_digest_135 : decode cX9_digest 135 = .ok (.aload_n 0, 1) := by decide +kernel
theorem dX9_digest_136 : decode cX9_digest 136 = .ok (.aload_n 0, 1) := by decide +kernel
theorem dX9_digest_137 : decode cX9_digest 137 = .ok (.iconst 1, 1) := by decide +kernel
theorem dX9_digest_138 : decode cX9_digest 138 = .ok (.invokevirtual 230, 3) := by decide +kernel
theorem dX9_digest_141 : decode cX9_digest 141 = .ok (.i2l, 1) := by decide +kernel
theorem dX9_digest_142 : decode cX9_digest 142 = .ok (.invokevirtual 286, 3) := by decide +kernel
theorem dX9_digest_145 : decode cX9_digest 145 = .ok (.iconst 0, 1) := by decide +kernel
theorem dX9_digest_146 : decode cX9_digest 146 = .ok (.istore_n 1, 1) := by decide +kernel
theorem dX9_digest_147 : decode cX9_digest 147 = .ok (.iload_n 1, 1) := by decide +kernel
theorem dX9_digest_148 : decode cX9_digest 148 = .ok (.aload_n 0, 1) := by decide +kernel
theorem dX9_digest_149 : decode cX9_digest 149 = .ok (.getfield 68, 3) := by decide +kernel
theorem dX9_digest_152 : decode cX9_digest 152 = .ok (.if_icmp .ge 20, 3) := by decide +kernel
theorem dX9_digest_155 : decode cX9_digest 155 = .ok (.aload_n 0, 1) := by decide +kernel
theorem dX9_digest_156 : decode cX9_digest 156 = .ok (.aload_n 0, 1) := by decide +kernel
theorem dX9_digest_157 : decode cX9_digest 157 = .ok (.getfield 7, 3) := by decide +kernel
theorem dX9_digest_160 : decode cX9_digest 160 = .ok (.iload_n 1, 1) := by decide +kernel
theorem dX9_digest_161 : decode cX9_digest 161 = .ok (.iaload, 1) := by decide +kernel
theorem dX9_digest_162 : decode cX9_digest 162 = .ok (.i2l, 1) := by decide +kernel
theorem dX9_digest_163 : decode cX9_digest 163 = .ok (.invokevirtual 286, 3) := by decide +kernel
theorem dX9_digest_166 : decode cX9_digest 166 = .ok (.iinc 1 1, 3) := by decide +kernel
theorem dX9_digest_169 : decode cX9_digest 169 = .ok (.goto (-22), 3) := by decide +kernel
theorem dX9_digest_172 : decode cX9_digest 172 = .ok (.iconst 0, 1) := by decide +kernel
theorem dX9_digest_173 : decode cX9_digest 173 = .ok (.istore_n 1, 1) := by decide +kernel
theorem dX9_digest_174 : decode cX9_digest 174 = .ok (.iload_n 1, 1) := by decide +kernel
theorem dX9_digest_175 : decode cX9_digest 175 = .ok (.bipush 11, 2) := by decide +kernel
theorem dX9_digest_177 : decode cX9_digest 177 = .ok (.if_icmp .ge 19, 3) := by decide +kernel
theorem dX9_digest_180 : decode cX9_digest 180 = .ok (.aload_n 0, 1) := by decide +kernel
theorem dX9_digest_181 : decode cX9_digest 181 = .ok (.aload_n 0, 1) := by decide +kernel
theorem dX9_digest_182 : decode cX9_digest 182 = .ok (.iload_n 1, 1) := by decide +kernel
theorem dX9_digest_183 : decode cX9_digest 183 = .ok (.invokevirtual 275, 3) := by decide +kernel
theorem dX9_digest_186 : decode cX9_digest 186 = .ok (.i2l, 1) := by decide +kernel
theorem dX9_digest_187 : decode cX9_digest 187 = .ok (.invokevirtual 286, 3) := by decide +kernel
theorem dX9_digest_190 : decode cX9_digest 190 = .ok (.iinc 1 1, 3) := by decide +kernel
theorem dX9_digest_193 : decode cX9_digest 193 = .ok (.goto (-19), 3) := by decide +kernel
theorem dX9_digest_196 : decode cX9_digest 196 = .ok (.aload_n 0, 1) := by decide +kernel
theorem dX9_digest_197 : decode cX9_digest 197 = .ok (.getfield 280, 3) := by decide +kernel
theorem dX9_digest_200 : decode cX9_digest 200 = .ok (.lreturn, 1) := by decide +kernel
end
section
theorem dL_law_0 : decode cL_law 0 = .ok (.new 7, 3) := by decide +kernel
theorem dL_law_3 : decode cL_law 3 = .ok (.dup, 1) := by decide +kernel
theorem dL_law_4 : decode cL_law 4 = .ok (.invokespecial 9, 3) := by decide +kernel
theorem dL_law_7 : decode cL_law 7 = .ok (.astore_n 1, 1) := by decide +kernel
theorem dL_law_8 : decode cL_law 8 = .ok (.new 10, 3) := by decide +kernel
theorem dL_law_11 : decode cL_law 11 = .ok (.dup, 1) := by decide +kernel
theorem dL_law_12 : decode cL_law 12 = .ok (.invokespecial 12, 3) := by decide +kernel
theorem dL_law_15 : decode cL_law 15 = .ok (.astore_n 2, 1) := by decide +kernel
theorem dL_law_16 : decode cL_law 16 = .ok (.iconst 0, 1) := by decide +kernel
theorem dL_law_17 : decode cL_law 17 = .ok (.istore_n 3, 1) := by decide +kernel
theorem dL_law_18 : decode cL_law 18 = .ok (.iload_n 3, 1) := by decide +kernel
theorem dL_law_19 : decode cL_law 19 = .ok (.aload_n 0, 1) := by decide +kernel
theorem dL_law_20 : decode cL_law 20 = .ok (.arraylength, 1) := by decide +kernel
theorem dL_law_21 : decode cL_law 21 = .ok (.iconst 5, 1) := by decide +kernel
theorem dL_law_22 : decode cL_law 22 = .ok (.isub, 1) := by decide +kernel
theorem dL_law_23 : decode cL_law 23 = .ok (.if_icmp .gt 754, 3) := by decide +kernel
theorem dL_law_26 : decode cL_law 26 = .ok (.aload_n 0, 1) := by decide +kernel
theorem dL_law_27 : decode cL_law 27 = .ok (.iload_n 3, 1) := by decide +kernel
theorem dL_law_28 : decode cL_law 28 = .ok (.iaload, 1) := by decide +kernel
theorem dL_law_29 : decode cL_law 29 = .ok (.bipush 31, 2) := by decide +kernel
theorem dL_law_31 : decode cL_law 31 = .ok (.iand, 1) := by decide +kernel
theorem dL_law_32 : decode cL_law 32 = .ok (.tableswitch 739 0 25 #[120, 143, 156, 169, 182, 215, 248, 281, 294, 327, 360, 383, 406, 419, 462, 475, 498, 511, 534, 587, 600, 633, 676, 689, 702, 725], 120) := by decide +kernel
theorem dL_law_152 : decode cL_law 152 = .ok (.aload_n 1, 1) := by decide +kernel
theorem dL_law_153 : decode cL_law 153 = .ok (.aload_n 0, 1) := by decide +kernel
theorem dL_law_154 : decode cL_law 154 = .ok (.iload_n 3, 1) := by decide +kernel
theorem dL_law_155 : decode cL_law 155 = .ok (.iconst 1, 1) := by decide +kernel
theorem dL_law_156 : decode cL_law 156 = .ok (.iadd, 1) := by decide +kernel
theorem dL_law_157 : decode cL_law 157 = .ok (.iaload, 1) := by decide +kernel
theorem dL_law_158 : decode cL_law 158 = .ok (.invokevirtual 13, 3) := by decide +kernel
theorem dL_law_161 : decode cL_law 161 = .ok (.aload_n 2, 1) := by decide +kernel
theorem dL_law_162 : decode cL_law 162 = .ok (.aload_n 0, 1) := by decide +kernel
theorem dL_law_163 : decode cL_law 163 = .ok (.iload_n 3, 1) := by decide +kernel
theorem dL_law_164 : decode cL_law 164 = .ok (.iconst 1, 1) := by decide +kernel
theorem dL_law_165 : decode cL_law 165 = .ok (.iadd, 1) := by decide +kernel
theorem dL_law_166 : decode cL_law 166 = .ok (.iaload, 1) := by decide +kernel
theorem dL_law_167 : decode cL_law 167 = .ok (.invokevirtual 17, 3) := by decide +kernel
theorem dL_law_170 : decode cL_law 170 = .ok (.if_icmp .eq 601, 3) := by decide +kernel
theorem dL_law_173 : decode cL_law 173 = .ok (.iconst 0, 1) := by decide +kernel
theorem dL_law_174 : decode cL_law 174 = .ok (.ireturn, 1) := by decide +kernel
theorem dL_law_175 : decode cL_law 175 = .ok (.aload_n 1, 1) := by decide +kernel
theorem dL_law_176 : decode cL_law 176 = .ok (.invokevirtual 18, 3) := by decide +kernel
theorem dL_law_179 : decode cL_law 179 = .ok (.aload_n 2, 1) := by decide +kernel
theorem dL_law_180 : decode cL_law 180 = .ok (.invokevirtual 22, 3) := by decide +kernel
theorem dL_law_183 : decode cL_law 183 = .ok (.if_icmp .eq 588, 3) := by decide +kernel
theorem dL_law_186 : decode cL_law 186 = .ok (.iconst 0, 1) := by decide +kernel
theorem dL_law_187 : decode cL_law 187 = .ok (.ireturn, 1) := by decide +kernel
theorem dL_law_188 : decode cL_law 188 = .ok (.aload_n 1, 1) := by decide +kernel
theorem dL_law_189 : decode cL_law 189 = .ok (.invokevirtual 23, 3) := by decide +kernel
theorem dL_law_192 : decode cL_law 192 = .ok (.aload_n 2, 1) := by decide +kernel
theorem dL_law_193 : decode cL_law 193 = .ok (.invokevirtual 26, 3) := by decide +kernel
theorem dL_law_196 : decode cL_law 196 = .ok (.if_icmp .eq 575, 3) := by decide +kernel
theorem dL_law_199 : decode cL_law 199 = .ok (.iconst 0, 1) := by decide +kernel
theorem dL_law_200 : decode cL_law 200 = .ok (.ireturn, 1) := by decide +kernel
theorem dL_law_201 : decode cL_law 201 = .ok (.aload_n 1, 1) := by decide +kernel
theorem dL_law_202 : decode cL_law 202 = .ok (.invokevirtual 27, 3) := by decide +kernel
theorem dL_law_205 : decode cL_law 205 = .ok (.aload_n 2, 1) := by decide +kernel
theorem dL_law_206 : decode cL_law 206 = .ok (.invokevirtual 30, 3) := by decide +kernel
theorem dL_law_209 : decode cL_law 209 = .ok (.if_icmp .eq 562, 3) := by decide +kernel
theorem dL_law_212 : decode cL_law 212 = .ok (.iconst 0, 1) := by decide +kernel
theorem dL_law_213 : decode cL_law 213 = .ok (.ireturn, 1) := by decide +kernel
theorem dL_law_214 : decode cL_law 214 = .ok (.aload_n 1, 1) := by decide +kernel
theorem dL_law_215 : decode cL_law 215 = .ok (.aload_n 0, 1) := by decide +kernel
theorem dL_law_216 : decode cL_law 216 = .ok (.iload_n 3, 1) := by decide +kernel
theorem dL_law_217 : decode cL_law 217 = .ok (.iconst 1, 1) := by decide +kernel
theorem dL_law_218 : decode cL_law 218 = .ok (.iadd, 1) := by decide +kernel
theorem dL_law_219 : decode cL_law 219 = .ok (.iaload, 1) := by decide +kernel
theorem dL_law_220 : decode cL_law 220 = .ok (.aload_n 0, 1) := by decide +kernel
theorem dL_law_221 : decode cL_law 221 = .ok (.iload_n 3, 1) := by decide +kernel
theorem dL_law_222 : decode cL_law 222 = .ok (.iconst 2, 1) := by decide +kernel
theorem dL_law_223 : decode cL_law 223 = .ok (.iadd, 1) := by decide +kernel
theorem dL_law_224 : decode cL_law 224 = .ok (.iaload, 1) := by decide +kernel
theorem dL_law_225 : decode cL_law 225 = .ok (.invokevirtual 31, 3) := by decide +kernel
theorem dL_law_228 : decode cL_law 228 = .ok (.aload_n 2, 1) := by decide +kernel
theorem dL_law_229 : decode cL_law 229 = .ok (.aload_n 0, 1) := by decide +kernel
theorem dL_law_230 : decode cL_law 230 = .ok (.iload_n 3, 1) := by decide +kernel
theorem dL_law_231 : decode cL_law 231 = .ok (.iconst 1, 1) := by decide +kernel
theorem dL_law_232 : decode cL_law 232 = .ok (.iadd, 1) := by decide +kernel
theorem dL_law_233 : decode cL_law 233 = .ok (.iaload, 1) := by decide +kernel
theorem dL_law_234 : decode cL_law 234 = .ok (.aload_n 0, 1) := by decide +kernel
theorem dL_law_235 : decode cL_law 235 = .ok (.iload_n 3, 1) := by decide +kernel
theorem dL_law_236 : decode cL_law 236 = .ok (.iconst 2, 1) := by decide +kernel
theorem dL_law_237 : decode cL_law 237 = .ok (.iadd, 1) := by decide +kernel
theorem dL_law_238 : decode cL_law 238 = .ok (.iaload, 1) := by decide +kernel
theorem dL_law_239 : decode cL_law 239 = .ok (.invokevirtual 35, 3) := by decide +kernel
theorem dL_law_242 : decode cL_law 242 = .ok (.if_icmp .eq 529, 3) := by decide +kernel
theorem dL_law_245 : decode cL_law 245 = .ok (.iconst 0, 1) := by decide +kernel
theorem dL_law_246 : decode cL_law 246 = .ok (.ireturn, 1) := by decide +kernel
theorem dL_law_247 : decode cL_law 247 = .ok (.aload_n 1, 1) := by decide +kernel
theorem dL_law_248 : decode cL_law 248 = .ok (.aload_n 0, 1) := by decide +kernel
theorem dL_law_249 : decode cL_law 249 = .ok (.iload_n 3, 1) := by decide +kernel
theorem dL_law_250 : decode cL_law 250 = .ok (.iconst 1, 1) := by decide +kernel
theorem dL_law_251 : decode cL_law 251 = .ok (.iadd, 1) := by decide +kernel
theorem dL_law_252 : decode cL_law 252 = .ok (.iaload, 1) := by decide +kernel
theorem dL_law_253 : decode cL_law 253 = .ok (.aload_n 0, 1) := by decide +kernel
theorem dL_law_254 : decode cL_law 254 = .ok (.iload_n 3, 1) := by decide +kernel
theorem dL_law_255 : decode cL_law 255 = .ok (.iconst 2, 1) := by decide +kernel
theorem dL_law_256 : decode cL_law 256 = .ok (.iadd, 1) := by decide +kernel
theorem dL_law_257 : decode cL_law 257 = .ok (.iaload, 1) := by decide +kernel
theorem dL_law_258 : decode cL_law 258 = .ok (.invokevirtual 36, 3) := by decide +kernel
theorem dL_law_261 : decode cL_law 261 = .ok (.aload_n 2, 1) := by decide +kernel
theorem dL_law_262 : decode cL_law 262 = .ok (.aload_n 0, 1) := by decide +kernel
theorem dL_law_263 : decode cL_law 263 = .ok (.iload_n 3, 1) := by decide +kernel
theorem dL_law_264 : decode cL_law 264 = .ok (.iconst 1, 1) := by decide +kernel
theorem dL_law_265 : decode cL_law 265 = .ok (.iadd, 1) := by decide +kernel
theorem dL_law_266 : decode cL_law 266 = .ok (.iaload, 1) := by decide +kernel
theorem dL_law_267 : decode cL_law 267 = .ok (.aload_n 0, 1) := by decide +kernel
theorem dL_law_268 : decode cL_law 268 = .ok (.iload_n 3, 1) := by decide +kernel
theorem dL_law_269 : decode cL_law 269 = .ok (.iconst 2, 1) := by decide +kernel
theorem dL_law_270 : decode cL_law 270 = .ok (.iadd, 1) := by decide +kernel
theorem dL_law_271 : decode cL_law 271 = .ok (.iaload, 1) := by decide +kernel
theorem dL_law_272 : decode cL_law 272 = .ok (.invokevirtual 39, 3) := by decide +kernel
theorem dL_law_275 : decode cL_law 275 = .ok (.if_icmp .eq 496, 3) := by decide +kernel
theorem dL_law_278 : decode cL_law 278 = .ok (.iconst 0, 1) := by decide +kernel
theorem dL_law_279 : decode cL_law 279 = .ok (.ireturn, 1) := by decide +kernel
theorem dL_law_280 : decode cL_law 280 = .ok (.aload_n 1, 1) := by decide +kernel
theorem dL_law_281 : decode cL_law 281 = .ok (.aload_n 0, 1) := by decide +kernel
theorem dL_law_282 : decode cL_law 282 = .ok (.iload_n 3, 1) := by decide +kernel
theorem dL_law_283 : decode cL_law 283 = .ok (.iconst 1, 1) := by decide +kernel
theorem dL_law_284 : decode cL_law 284 = .ok (.iadd, 1) := by decide +kernel
theorem dL_law_285 : decode cL_law 285 = .ok (.iaload, 1) := by decide +kernel
theorem dL_law_286 : decode cL_law 286 = .ok (.aload_n 0, 1) := by decide +kernel
theorem dL_law_287 : decode cL_law 287 = .ok (.iload_n 3, 1) := by decide +kernel
theorem dL_law_288 : decode cL_law 288 = .ok (.iconst 2, 1) := by decide +kernel
theorem dL_law_289 : decode cL_law 289 = .ok (.iadd, 1) := by decide +kernel
theorem dL_law_290 : decode cL_law 290 = .ok (.iaload, 1) := by decide +kernel
theorem dL_law_291 : decode cL_law 291 = .ok (.invokevirtual 40, 3) := by decide +kernel
theorem dL_law_294 : decode cL_law 294 = .ok (.aload_n 2, 1) := by decide +kernel
theorem dL_law_295 : decode cL_law 295 = .ok (.aload_n 0, 1) := by decide +kernel
theorem dL_law_296 : decode cL_law 296 = .ok (.iload_n 3, 1) := by decide +kernel
theorem dL_law_297 : decode cL_law 297 = .ok (.iconst 1, 1) := by decide +kernel
theorem dL_law_298 : decode cL_law 298 = .ok (.iadd, 1) := by decide +kernel
theorem dL_law_299 : decode cL_law 299 = .ok (.iaload, 1) := by decide +kernel
theorem dL_law_300 : decode cL_law 300 = .ok (.aload_n 0, 1) := by decide +kernel
theorem dL_law_301 : decode cL_law 301 = .ok (.iload_n 3, 1) := by decide +kernel
theorem dL_law_302 : decode cL_law 302 = .ok (.iconst 2, 1) := by decide +kernel
theorem dL_law_303 : decode cL_law 303 = .ok (.iadd, 1) := by decide +kernel
theorem dL_law_304 : decode cL_law 304 = .ok (.iaload, 1) := by decide +kernel
theorem dL_law_305 : decode cL_law 305 = .ok (.invokevirtual 43, 3) := by decide +kernel
theorem dL_law_308 : decode cL_law 308 = .ok (.if_icmp .eq 463, 3) := by decide +kernel
theorem dL_law_311 : decode cL_law 311 = .ok (.iconst 0, 1) := by decide +kernel
theorem dL_law_312 : decode cL_law 312 = .ok (.ireturn, 1) := by decide +kernel
theorem dL_law_313 : decode cL_law 313 = .ok (.aload_n 1, 1) := by decide +kernel
theorem dL_law_314 : decode cL_law 314 = .ok (.invokevirtual 44, 3) := by decide +kernel
theorem dL_law_317 : decode cL_law 317 = .ok (.aload_n 2, 1) := by decide +kernel
theorem dL_law_318 : decode cL_law 318 = .ok (.invokevirtual 47, 3) := by decide +kernel
theorem dL_law_321 : decode cL_law 321 = .ok (.if_icmp .eq 450, 3) := by decide +kernel
theorem dL_law_324 : decode cL_law 324 = .ok (.iconst 0, 1) := by decide +kernel
theorem dL_law_325 : decode cL_law 325 = .ok (.ireturn, 1) := by decide +kernel
theorem dL_law_326 : decode cL_law 326 = .ok (.aload_n 1, 1) := by decide +kernel
theorem dL_law_327 : decode cL_law 327 = .ok (.aload_n 0, 1) := by decide +kernel
theorem dL_law_328 : decode cL_law 328 = .ok (.iload_n 3, 1) := by decide +kernel
theorem dL_law_329 : decode cL_law 329 = .ok (.iconst 1, 1) := by decide +kernel
theorem dL_law_330 : decode cL_law 330 = .ok (.iadd, 1) := by decide +kernel
theorem dL_law_331 : decode cL_law 331 = .ok (.iaload, 1) := by decide +kernel
theorem dL_law_332 : decode cL_law 332 = .ok (.aload_n 0, 1) := by decide +kernel
theorem dL_law_333 : decode cL_law 333 = .ok (.iload_n 3, 1) := by decide +kernel
theorem dL_law_334 : decode cL_law 334 = .ok (.iconst 2, 1) := by decide +kernel
theorem dL_law_335 : decode cL_law 335 = .ok (.iadd, 1) := by decide +kernel
theorem dL_law_336 : decode cL_law 336 = .ok (.iaload, 1) := by decide +kernel
theorem dL_law_337 : decode cL_law 337 = .ok (.invokevirtual 48, 3) := by decide +kernel
theorem dL_law_340 : decode cL_law 340 = .ok (.aload_n 2, 1) := by decide +kernel
theorem dL_law_341 : decode cL_law 341 = .ok (.aload_n 0, 1) := by decide +kernel
theorem dL_law_342 : decode cL_law 342 = .ok (.iload_n 3, 1) := by decide +kernel
theorem dL_law_343 : decode cL_law 343 = .ok (.iconst 1, 1) := by decide +kernel
theorem dL_law_344 : decode cL_law 344 = .ok (.iadd, 1) := by decide +kernel
theorem dL_law_345 : decode cL_law 345 = .ok (.iaload, 1) := by decide +kernel
theorem dL_law_346 : decode cL_law 346 = .ok (.aload_n 0, 1) := by decide +kernel
theorem dL_law_347 : decode cL_law 347 = .ok (.iload_n 3, 1) := by decide +kernel
theorem dL_law_348 : decode cL_law 348 = .ok (.iconst 2, 1) := by decide +kernel
theorem dL_law_349 : decode cL_law 349 = .ok (.iadd, 1) := by decide +kernel
theorem dL_law_350 : decode cL_law 350 = .ok (.iaload, 1) := by decide +kernel
theorem dL_law_351 : decode cL_law 351 = .ok (.invokevirtual 51, 3) := by decide +kernel
theorem dL_law_354 : decode cL_law 354 = .ok (.if_icmp .eq 417, 3) := by decide +kernel
theorem dL_law_357 : decode cL_law 357 = .ok (.iconst 0, 1) := by decide +kernel
theorem dL_law_358 : decode cL_law 358 = .ok (.ireturn, 1) := by decide +kernel
theorem dL_law_359 : decode cL_law 359 = .ok (.aload_n 1, 1) := by decide +kernel
theorem dL_law_360 : decode cL_law 360 = .ok (.aload_n 0, 1) := by decide +kernel
theorem dL_law_361 : decode cL_law 361 = .ok (.iload_n 3, 1) := by decide +kernel
theorem dL_law_362 : decode cL_law 362 = .ok (.iconst 1, 1) := by decide +kernel
theorem dL_law_363 : decode cL_law 363 = .ok (.iadd, 1) := by decide +kernel
theorem dL_law_364 : decode cL_law 364 = .ok (.iaload, 1) := by decide +kernel
theorem dL_law_365 : decode cL_law 365 = .ok (.aload_n 0, 1) := by decide +kernel
theorem dL_law_366 : decode cL_law 366 = .ok (.iload_n 3, 1) := by decide +kernel
theorem dL_law_367 : decode cL_law 367 = .ok (.iconst 2, 1) := by decide +kernel
theorem dL_law_368 : decode cL_law 368 = .ok (.iadd, 1) := by decide +kernel
theorem dL_law_369 : decode cL_law 369 = .ok (.iaload, 1) := by decide +kernel
theorem dL_law_370 : decode cL_law 370 = .ok (.invokevirtual 52, 3) := by decide +kernel
theorem dL_law_373 : decode cL_law 373 = .ok (.aload_n 2, 1) := by decide +kernel
theorem dL_law_374 : decode cL_law 374 = .ok (.aload_n 0, 1) := by decide +kernel
theorem dL_law_375 : decode cL_law 375 = .ok (.iload_n 3, 1) := by decide +kernel
theorem dL_law_376 : decode cL_law 376 = .ok (.iconst 1, 1) := by decide +kernel
theorem dL_law_377 : decode cL_law 377 = .ok (.iadd, 1) := by decide +kernel
theorem dL_law_378 : decode cL_law 378 = .ok (.iaload, 1) := by decide +kernel
theorem dL_law_379 : decode cL_law 379 = .ok (.aload_n 0, 1) := by decide +kernel
theorem dL_law_380 : decode cL_law 380 = .ok (.iload_n 3, 1) := by decide +kernel
theorem dL_law_381 : decode cL_law 381 = .ok (.iconst 2, 1) := by decide +kernel
theorem dL_law_382 : decode cL_law 382 = .ok (.iadd, 1) := by decide +kernel
theorem dL_law_383 : decode cL_law 383 = .ok (.iaload, 1) := by decide +kernel
theorem dL_law_384 : decode cL_law 384 = .ok (.invokevirtual 55, 3) := by decide +kernel
theorem dL_law_387 : decode cL_law 387 = .ok (.if_icmp .eq 384, 3) := by decide +kernel
theorem dL_law_390 : decode cL_law 390 = .ok (.iconst 0, 1) := by decide +kernel
theorem dL_law_391 : decode cL_law 391 = .ok (.ireturn, 1) := by decide +kernel
theorem dL_law_392 : decode cL_law 392 = .ok (.aload_n 1, 1) := by decide +kernel
theorem dL_law_393 : decode cL_law 393 = .ok (.aload_n 0, 1) := by decide +kernel
theorem dL_law_394 : decode cL_law 394 = .ok (.iload_n 3, 1) := by decide +kernel
theorem dL_law_395 : decode cL_law 395 = .ok (.iconst 1, 1) := by decide +kernel
theorem dL_law_396 : decode cL_law 396 = .ok (.iadd, 1) := by decide +kernel
theorem dL_law_397 : decode cL_law 397 = .ok (.iaload, 1) := by decide +kernel
theorem dL_law_398 : decode cL_law 398 = .ok (.invokevirtual 56, 3) := by decide +kernel
theorem dL_law_401 : decode cL_law 401 = .ok (.aload_n 2, 1) := by decide +kernel
theorem dL_law_402 : decode cL_law 402 = .ok (.aload_n 0, 1) := by decide +kernel
theorem dL_law_403 : decode cL_law 403 = .ok (.iload_n 3, 1) := by decide +kernel
theorem dL_law_404 : decode cL_law 404 = .ok (.iconst 1, 1) := by decide +kernel
theorem dL_law_405 : decode cL_law 405 = .ok (.iadd, 1) := by decide +kernel
theorem dL_law_406 : decode cL_law 406 = .ok (.iaload, 1) := by decide +kernel
theorem dL_law_407 : decode cL_law 407 = .ok (.invokevirtual 59, 3) := by decide +kernel
theorem dL_law_410 : decode cL_law 410 = .ok (.if_icmp .eq 361, 3) := by decide +kernel
theorem dL_law_413 : decode cL_law 413 = .ok (.iconst 0, 1) := by decide +kernel
theorem dL_law_414 : decode cL_law 414 = .ok (.ireturn, 1) := by decide +kernel
theorem dL_law_415 : decode cL_law 415 = .ok (.aload_n 1, 1) := by decide +kernel
theorem dL_law_416 : decode cL_law 416 = .ok (.aload_n 0, 1) := by decide +kernel
theorem dL_law_417 : decode cL_law 417 = .ok (.iload_n 3, 1) := by decide +kernel
theorem dL_law_418 : decode cL_law 418 = .ok (.iconst 1, 1) := by decide +kernel
theorem dL_law_419 : decode cL_law 419 = .ok (.iadd, 1) := by decide +kernel
theorem dL_law_420 : decode cL_law 420 = .ok (.iaload, 1) := by decide +kernel
theorem dL_law_421 : decode cL_law 421 = .ok (.invokevirtual 60, 3) := by decide +kernel
theorem dL_law_424 : decode cL_law 424 = .ok (.aload_n 2, 1) := by decide +kernel
theorem dL_law_425 : decode cL_law 425 = .ok (.aload_n 0, 1) := by decide +kernel
theorem dL_law_426 : decode cL_law 426 = .ok (.iload_n 3, 1) := by decide +kernel
theorem dL_law_427 : decode cL_law 427 = .ok (.iconst 1, 1) := by decide +kernel
theorem dL_law_428 : decode cL_law 428 = .ok (.iadd, 1) := by decide +kernel
theorem dL_law_429 : decode cL_law 429 = .ok (.iaload, 1) := by decide +kernel
theorem dL_law_430 : decode cL_law 430 = .ok (.invokevirtual 63, 3) := by decide +kernel
theorem dL_law_433 : decode cL_law 433 = .ok (.if_icmp .eq 338, 3) := by decide +kernel
theorem dL_law_436 : decode cL_law 436 = .ok (.iconst 0, 1) := by decide +kernel
theorem dL_law_437 : decode cL_law 437 = .ok (.ireturn, 1) := by decide +kernel
theorem dL_law_438 : decode cL_law 438 = .ok (.aload_n 1, 1) := by decide +kernel
theorem dL_law_439 : decode cL_law 439 = .ok (.invokevirtual 64, 3) := by decide +kernel
theorem dL_law_442 : decode cL_law 442 = .ok (.aload_n 2, 1) := by decide +kernel
theorem dL_law_443 : decode cL_law 443 = .ok (.invokevirtual 67, 3) := by decide +kernel
theorem dL_law_446 : decode cL_law 446 = .ok (.if_icmp .eq 325, 3) := by decide +kernel
theorem dL_law_449 : decode cL_law 449 = .ok (.iconst 0, 1) := by decide +kernel
theorem dL_law_450 : decode cL_law 450 = .ok (.ireturn, 1) := by decide +kernel
theorem dL_law_451 : decode cL_law 451 = .ok (.aload_n 1, 1) := by decide +kernel
theorem dL_law_452 : decode cL_law 452 = .ok (.aload_n 0, 1) := by decide +kernel
theorem dL_law_453 : decode cL_law 453 = .ok (.iload_n 3, 1) := by decide +kernel
theorem dL_law_454 : decode cL_law 454 = .ok (.iconst 1, 1) := by decide +kernel
theorem dL_law_455 : decode cL_law 455 = .ok (.iadd, 1) := by decide +kernel
theorem dL_law_456 : decode cL_law 456 = .ok (.iaload, 1) := by decide +kernel
theorem dL_law_457 : decode cL_law 457 = .ok (.aload_n 0, 1) := by decide +kernel
theorem dL_law_458 : decode cL_law 458 = .ok (.iload_n 3, 1) := by decide +kernel
theorem dL_law_459 : decode cL_law 459 = .ok (.iconst 2, 1) := by decide +kernel
theorem dL_law_460 : decode cL_law 460 = .ok (.iadd, 1) := by decide +kernel
theorem dL_law_461 : decode cL_law 461 = .ok (.iaload, 1) := by decide +kernel
theorem dL_law_462 : decode cL_law 462 = .ok (.aload_n 0, 1) := by decide +kernel
theorem dL_law_463 : decode cL_law 463 = .ok (.iload_n 3, 1) := by decide +kernel
theorem dL_law_464 : decode cL_law 464 = .ok (.iconst 3, 1) := by decide +kernel
theorem dL_law_465 : decode cL_law 465 = .ok (.iadd, 1) := by decide +kernel
theorem dL_law_466 : decode cL_law 466 = .ok (.iaload, 1) := by decide +kernel
theorem dL_law_467 : decode cL_law 467 = .ok (.invokevirtual 68, 3) := by decide +kernel
theorem dL_law_470 : decode cL_law 470 = .ok (.aload_n 2, 1) := by decide +kernel
theorem dL_law_471 : decode cL_law 471 = .ok (.aload_n 0, 1) := by decide +kernel
theorem dL_law_472 : decode cL_law 472 = .ok (.iload_n 3, 1) := by decide +kernel
theorem dL_law_473 : decode cL_law 473 = .ok (.iconst 1, 1) := by decide +kernel
theorem dL_law_474 : decode cL_law 474 = .ok (.iadd, 1) := by decide +kernel
theorem dL_law_475 : decode cL_law 475 = .ok (.iaload, 1) := by decide +kernel
theorem dL_law_476 : decode cL_law 476 = .ok (.aload_n 0, 1) := by decide +kernel
theorem dL_law_477 : decode cL_law 477 = .ok (.iload_n 3, 1) := by decide +kernel
theorem dL_law_478 : decode cL_law 478 = .ok (.iconst 2, 1) := by decide +kernel
theorem dL_law_479 : decode cL_law 479 = .ok (.iadd, 1) := by decide +kernel
theorem dL_law_480 : decode cL_law 480 = .ok (.iaload, 1) := by decide +kernel
theorem dL_law_481 : decode cL_law 481 = .ok (.aload_n 0, 1) := by decide +kernel
theorem dL_law_482 : decode cL_law 482 = .ok (.iload_n 3, 1) := by decide +kernel
theorem dL_law_483 : decode cL_law 483 = .ok (.iconst 3, 1) := by decide +kernel
theorem dL_law_484 : decode cL_law 484 = .ok (.iadd, 1) := by decide +kernel
theorem dL_law_485 : decode cL_law 485 = .ok (.iaload, 1) := by decide +kernel
theorem dL_law_486 : decode cL_law 486 = .ok (.invokevirtual 72, 3) := by decide +kernel
theorem dL_law_489 : decode cL_law 489 = .ok (.if_icmp .eq 282, 3) := by decide +kernel
theorem dL_law_492 : decode cL_law 492 = .ok (.iconst 0, 1) := by decide +kernel
theorem dL_law_493 : decode cL_law 493 = .ok (.ireturn, 1) := by decide +kernel
theorem dL_law_494 : decode cL_law 494 = .ok (.aload_n 1, 1) := by decide +kernel
theorem dL_law_495 : decode cL_law 495 = .ok (.invokevirtual 73, 3) := by decide +kernel
theorem dL_law_498 : decode cL_law 498 = .ok (.aload_n 2, 1) := by decide +kernel
theorem dL_law_499 : decode cL_law 499 = .ok (.invokevirtual 76, 3) := by decide +kernel
theorem dL_law_502 : decode cL_law 502 = .ok (.if_icmp .eq 269, 3) := by decide +kernel
theorem dL_law_505 : decode cL_law 505 = .ok (.iconst 0, 1) := by decide +kernel
theorem dL_law_506 : decode cL_law 506 = .ok (.ireturn, 1) := by decide +kernel
theorem dL_law_507 : decode cL_law 507 = .ok (.aload_n 1, 1) := by decide +kernel
theorem dL_law_508 : decode cL_law 508 = .ok (.aload_n 0, 1) := by decide +kernel
theorem dL_law_509 : decode cL_law 509 = .ok (.iload_n 3, 1) := by decide +kernel
theorem dL_law_510 : decode cL_law 510 = .ok (.iconst 1, 1) := by decide +kernel
theorem dL_law_511 : decode cL_law 511 = .ok (.iadd, 1) := by decide +kernel
theorem dL_law_512 : decode cL_law 512 = .ok (.iaload, 1) := by decide +kernel
theorem dL_law_513 : decode cL_law 513 = .ok (.invokevirtual 77, 3) := by decide +kernel
theorem dL_law_516 : decode cL_law 516 = .ok (.aload_n 2, 1) := by decide +kernel
theorem dL_law_517 : decode cL_law 517 = .ok (.aload_n 0, 1) := by decide +kernel
theorem dL_law_518 : decode cL_law 518 = .ok (.iload_n 3, 1) := by decide +kernel
theorem dL_law_519 : decode cL_law 519 = .ok (.iconst 1, 1) := by decide +kernel
theorem dL_law_520 : decode cL_law 520 = .ok (.iadd, 1) := by decide +kernel
theorem dL_law_521 : decode cL_law 521 = .ok (.iaload, 1) := by decide +kernel
theorem dL_law_522 : decode cL_law 522 = .ok (.invokevirtual 80, 3) := by decide +kernel
theorem dL_law_525 : decode cL_law 525 = .ok (.if_icmp .eq 246, 3) := by decide +kernel
theorem dL_law_528 : decode cL_law 528 = .ok (.iconst 0, 1) := by decide +kernel
theorem dL_law_529 : decode cL_law 529 = .ok (.ireturn, 1) := by decide +kernel
theorem dL_law_530 : decode cL_law 530 = .ok (.aload_n 1, 1) := by decide +kernel
theorem dL_law_531 : decode cL_law 531 = .ok (.invokevirtual 81, 3) := by decide +kernel
theorem dL_law_534 : decode cL_law 534 = .ok (.aload_n 2, 1) := by decide +kernel
theorem dL_law_535 : decode cL_law 535 = .ok (.invokevirtual 84, 3) := by decide +kernel
theorem dL_law_538 : decode cL_law 538 = .ok (.if_icmp .eq 233, 3) := by decide +kernel
theorem dL_law_541 : decode cL_law 541 = .ok (.iconst 0, 1) := by decide +kernel
theorem dL_law_542 : decode cL_law 542 = .ok (.ireturn, 1) := by decide +kernel
theorem dL_law_543 : decode cL_law 543 = .ok (.aload_n 1, 1) := by decide +kernel
theorem dL_law_544 : decode cL_law 544 = .ok (.aload_n 0, 1) := by decide +kernel
theorem dL_law_545 : decode cL_law 545 = .ok (.iload_n 3, 1) := by decide +kernel
theorem dL_law_546 : decode cL_law 546 = .ok (.iconst 1, 1) := by decide +kernel
theorem dL_law_547 : decode cL_law 547 = .ok (.iadd, 1) := by decide +kernel
theorem dL_law_548 : decode cL_law 548 = .ok (.iaload, 1) := by decide +kernel
theorem dL_law_549 : decode cL_law 549 = .ok (.invokevirtual 85, 3) := by decide +kernel
theorem dL_law_552 : decode cL_law 552 = .ok (.aload_n 2, 1) := by decide +kernel
theorem dL_law_553 : decode cL_law 553 = .ok (.aload_n 0, 1) := by decide +kernel
theorem dL_law_554 : decode cL_law 554 = .ok (.iload_n 3, 1) := by decide +kernel
theorem dL_law_555 : decode cL_law 555 = .ok (.iconst 1, 1) := by decide +kernel
theorem dL_law_556 : decode cL_law 556 = .ok (.iadd, 1) := by decide +kernel
theorem dL_law_557 : decode cL_law 557 = .ok (.iaload, 1) := by decide +kernel
theorem dL_law_558 : decode cL_law 558 = .ok (.invokevirtual 88, 3) := by decide +kernel
theorem dL_law_561 : decode cL_law 561 = .ok (.if_icmp .eq 210, 3) := by decide +kernel
theorem dL_law_564 : decode cL_law 564 = .ok (.iconst 0, 1) := by decide +kernel
theorem dL_law_565 : decode cL_law 565 = .ok (.ireturn, 1) := by decide +kernel
theorem dL_law_566 : decode cL_law 566 = .ok (.aload_n 1, 1) := by decide +kernel
theorem dL_law_567 : decode cL_law 567 = .ok (.aload_n 0, 1) := by decide +kernel
theorem dL_law_568 : decode cL_law 568 = .ok (.iload_n 3, 1) := by decide +kernel
theorem dL_law_569 : decode cL_law 569 = .ok (.iconst 1, 1) := by decide +kernel
theorem dL_law_570 : decode cL_law 570 = .ok (.iadd, 1) := by decide +kernel
theorem dL_law_571 : decode cL_law 571 = .ok (.iaload, 1) := by decide +kernel
theorem dL_law_572 : decode cL_law 572 = .ok (.aload_n 0, 1) := by decide +kernel
theorem dL_law_573 : decode cL_law 573 = .ok (.iload_n 3, 1) := by decide +kernel
theorem dL_law_574 : decode cL_law 574 = .ok (.iconst 2, 1) := by decide +kernel
theorem dL_law_575 : decode cL_law 575 = .ok (.iadd, 1) := by decide +kernel
theorem dL_law_576 : decode cL_law 576 = .ok (.iaload, 1) := by decide +kernel
theorem dL_law_577 : decode cL_law 577 = .ok (.aload_n 0, 1) := by decide +kernel
theorem dL_law_578 : decode cL_law 578 = .ok (.iload_n 3, 1) := by decide +kernel
theorem dL_law_579 : decode cL_law 579 = .ok (.iconst 3, 1) := by decide +kernel
theorem dL_law_580 : decode cL_law 580 = .ok (.iadd, 1) := by decide +kernel
theorem dL_law_581 : decode cL_law 581 = .ok (.iaload, 1) := by decide +kernel
theorem dL_law_582 : decode cL_law 582 = .ok (.aload_n 0, 1) := by decide +kernel
theorem dL_law_583 : decode cL_law 583 = .ok (.iload_n 3, 1) := by decide +kernel
theorem dL_law_584 : decode cL_law 584 = .ok (.iconst 4, 1) := by decide +kernel
theorem dL_law_585 : decode cL_law 585 = .ok (.iadd, 1) := by decide +kernel
theorem dL_law_586 : decode cL_law 586 = .ok (.iaload, 1) := by decide +kernel
theorem dL_law_587 : decode cL_law 587 = .ok (.invokevirtual 89, 3) := by decide +kernel
theorem dL_law_590 : decode cL_law 590 = .ok (.aload_n 2, 1) := by decide +kernel
theorem dL_law_591 : decode cL_law 591 = .ok (.aload_n 0, 1) := by decide +kernel
theorem dL_law_592 : decode cL_law 592 = .ok (.iload_n 3, 1) := by decide +kernel
theorem dL_law_593 : decode cL_law 593 = .ok (.iconst 1, 1) := by decide +kernel
theorem dL_law_594 : decode cL_law 594 = .ok (.iadd, 1) := by decide +kernel
theorem dL_law_595 : decode cL_law 595 = .ok (.iaload, 1) := by decide +kernel
theorem dL_law_596 : decode cL_law 596 = .ok (.aload_n 0, 1) := by decide +kernel
theorem dL_law_597 : decode cL_law 597 = .ok (.iload_n 3, 1) := by decide +kernel
theorem dL_law_598 : decode cL_law 598 = .ok (.iconst 2, 1) := by decide +kernel
theorem dL_law_599 : decode cL_law 599 = .ok (.iadd, 1) := by decide +kernel
theorem dL_law_600 : decode cL_law 600 = .ok (.iaload, 1) := by decide +kernel
theorem dL_law_601 : decode cL_law 601 = .ok (.aload_n 0, 1) := by decide +kernel
theorem dL_law_602 : decode cL_law 602 = .ok (.iload_n 3, 1) := by decide +kernel
theorem dL_law_603 : decode cL_law 603 = .ok (.iconst 3, 1) := by decide +kernel
theorem dL_law_604 : decode cL_law 604 = .ok (.iadd, 1) := by decide +kernel
theorem dL_law_605 : decode cL_law 605 = .ok (.iaload, 1) := by decide +kernel
theorem dL_law_606 : decode cL_law 606 = .ok (.aload_n 0, 1) := by decide +kernel
theorem dL_law_607 : decode cL_law 607 = .ok (.iload_n 3, 1) := by decide +kernel
theorem dL_law_608 : decode cL_law 608 = .ok (.iconst 4, 1) := by decide +kernel
theorem dL_law_609 : decode cL_law 609 = .ok (.iadd, 1) := by decide +kernel
theorem dL_law_610 : decode cL_law 610 = .ok (.iaload, 1) := by decide +kernel
theorem dL_law_611 : decode cL_law 611 = .ok (.invokevirtual 93, 3) := by decide +kernel
theorem dL_law_614 : decode cL_law 614 = .ok (.if_icmp .eq 157, 3) := by decide +kernel
theorem dL_law_617 : decode cL_law 617 = .ok (.iconst 0, 1) := by decide +kernel
theorem dL_law_618 : decode cL_law 618 = .ok (.ireturn, 1) := by decide +kernel
theorem dL_law_619 : decode cL_law 619 = .ok (.aload_n 1, 1) := by decide +kernel
theorem dL_law_620 : decode cL_law 620 = .ok (.invokevirtual 94, 3) := by decide +kernel
theorem dL_law_623 : decode cL_law 623 = .ok (.aload_n 2, 1) := by decide +kernel
theorem dL_law_624 : decode cL_law 624 = .ok (.invokevirtual 97, 3) := by decide +kernel
theorem dL_law_627 : decode cL_law 627 = .ok (.if_icmp .eq 144, 3) := by decide +kernel
theorem dL_law_630 : decode cL_law 630 = .ok (.iconst 0, 1) := by decide +kernel
theorem dL_law_631 : decode cL_law 631 = .ok (.ireturn, 1) := by decide +kernel
theorem dL_law_632 : decode cL_law 632 = .ok (.aload_n 1, 1) := by decide +kernel
theorem dL_law_633 : decode cL_law 633 = .ok (.aload_n 0, 1) := by decide +kernel
theorem dL_law_634 : decode cL_law 634 = .ok (.iload_n 3, 1) := by decide +kernel
theorem dL_law_635 : decode cL_law 635 = .ok (.iconst 1, 1) := by decide +kernel
theorem dL_law_636 : decode cL_law 636 = .ok (.iadd, 1) := by decide +kernel
theorem dL_law_637 : decode cL_law 637 = .ok (.iaload, 1) := by decide +kernel
theorem dL_law_638 : decode cL_law 638 = .ok (.aload_n 0, 1) := by decide +kernel
theorem dL_law_639 : decode cL_law 639 = .ok (.iload_n 3, 1) := by decide +kernel
theorem dL_law_640 : decode cL_law 640 = .ok (.iconst 2, 1) := by decide +kernel
theorem dL_law_641 : decode cL_law 641 = .ok (.iadd, 1) := by decide +kernel
theorem dL_law_642 : decode cL_law 642 = .ok (.iaload, 1) := by decide +kernel
theorem dL_law_643 : decode cL_law 643 = .ok (.invokevirtual 98, 3) := by decide +kernel
theorem dL_law_646 : decode cL_law 646 = .ok (.aload_n 2, 1) := by decide +kernel
theorem dL_law_647 : decode cL_law 647 = .ok (.aload_n 0, 1) := by decide +kernel
theorem dL_law_648 : decode cL_law 648 = .ok (.iload_n 3, 1) := by decide +kernel
theorem dL_law_649 : decode cL_law 649 = .ok (.iconst 1, 1) := by decide +kernel
theorem dL_law_650 : decode cL_law 650 = .ok (.iadd, 1) := by decide +kernel
theorem dL_law_651 : decode cL_law 651 = .ok (.iaload, 1) := by decide +kernel
theorem dL_law_652 : decode cL_law 652 = .ok (.aload_n 0, 1) := by decide +kernel
theorem dL_law_653 : decode cL_law 653 = .ok (.iload_n 3, 1) := by decide +kernel
theorem dL_law_654 : decode cL_law 654 = .ok (.iconst 2, 1) := by decide +kernel
theorem dL_law_655 : decode cL_law 655 = .ok (.iadd, 1) := by decide +kernel
theorem dL_law_656 : decode cL_law 656 = .ok (.iaload, 1) := by decide +kernel
theorem dL_law_657 : decode cL_law 657 = .ok (.invokevirtual 101, 3) := by decide +kernel
theorem dL_law_660 : decode cL_law 660 = .ok (.if_icmp .eq 111, 3) := by decide +kernel
theorem dL_law_663 : decode cL_law 663 = .ok (.iconst 0, 1) := by decide +kernel
theorem dL_law_664 : decode cL_law 664 = .ok (.ireturn, 1) := by decide +kernel
theorem dL_law_665 : decode cL_law 665 = .ok (.aload_n 1, 1) := by decide +kernel
theorem dL_law_666 : decode cL_law 666 = .ok (.aload_n 0, 1) := by decide +kernel
theorem dL_law_667 : decode cL_law 667 = .ok (.iload_n 3, 1) := by decide +kernel
theorem dL_law_668 : decode cL_law 668 = .ok (.iconst 1, 1) := by decide +kernel
theorem dL_law_669 : decode cL_law 669 = .ok (.iadd, 1) := by decide +kernel
theorem dL_law_670 : decode cL_law 670 = .ok (.iaload, 1) := by decide +kernel
theorem dL_law_671 : decode cL_law 671 = .ok (.aload_n 0, 1) := by decide +kernel
theorem dL_law_672 : decode cL_law 672 = .ok (.iload_n 3, 1) := by decide +kernel
theorem dL_law_673 : decode cL_law 673 = .ok (.iconst 2, 1) := by decide +kernel
theorem dL_law_674 : decode cL_law 674 = .ok (.iadd, 1) := by decide +kernel
theorem dL_law_675 : decode cL_law 675 = .ok (.iaload, 1) := by decide +kernel
theorem dL_law_676 : decode cL_law 676 = .ok (.aload_n 0, 1) := by decide +kernel
theorem dL_law_677 : decode cL_law 677 = .ok (.iload_n 3, 1) := by decide +kernel
theorem dL_law_678 : decode cL_law 678 = .ok (.iconst 3, 1) := by decide +kernel
theorem dL_law_679 : decode cL_law 679 = .ok (.iadd, 1) := by decide +kernel
theorem dL_law_680 : decode cL_law 680 = .ok (.iaload, 1) := by decide +kernel
theorem dL_law_681 : decode cL_law 681 = .ok (.invokevirtual 102, 3) := by decide +kernel
theorem dL_law_684 : decode cL_law 684 = .ok (.aload_n 2, 1) := by decide +kernel
theorem dL_law_685 : decode cL_law 685 = .ok (.aload_n 0, 1) := by decide +kernel
theorem dL_law_686 : decode cL_law 686 = .ok (.iload_n 3, 1) := by decide +kernel
theorem dL_law_687 : decode cL_law 687 = .ok (.iconst 1, 1) := by decide +kernel
theorem dL_law_688 : decode cL_law 688 = .ok (.iadd, 1) := by decide +kernel
theorem dL_law_689 : decode cL_law 689 = .ok (.iaload, 1) := by decide +kernel
theorem dL_law_690 : decode cL_law 690 = .ok (.aload_n 0, 1) := by decide +kernel
theorem dL_law_691 : decode cL_law 691 = .ok (.iload_n 3, 1) := by decide +kernel
theorem dL_law_692 : decode cL_law 692 = .ok (.iconst 2, 1) := by decide +kernel
theorem dL_law_693 : decode cL_law 693 = .ok (.iadd, 1) := by decide +kernel
theorem dL_law_694 : decode cL_law 694 = .ok (.iaload, 1) := by decide +kernel
theorem dL_law_695 : decode cL_law 695 = .ok (.aload_n 0, 1) := by decide +kernel
theorem dL_law_696 : decode cL_law 696 = .ok (.iload_n 3, 1) := by decide +kernel
theorem dL_law_697 : decode cL_law 697 = .ok (.iconst 3, 1) := by decide +kernel
theorem dL_law_698 : decode cL_law 698 = .ok (.iadd, 1) := by decide +kernel
theorem dL_law_699 : decode cL_law 699 = .ok (.iaload, 1) := by decide +kernel
theorem dL_law_700 : decode cL_law 700 = .ok (.invokevirtual 105, 3) := by decide +kernel
theorem dL_law_703 : decode cL_law 703 = .ok (.if_icmp .eq 68, 3) := by decide +kernel
theorem dL_law_706 : decode cL_law 706 = .ok (.iconst 0, 1) := by decide +kernel
theorem dL_law_707 : decode cL_law 707 = .ok (.ireturn, 1) := by decide +kernel
theorem dL_law_708 : decode cL_law 708 = .ok (.aload_n 1, 1) := by decide +kernel
theorem dL_law_709 : decode cL_law 709 = .ok (.invokevirtual 106, 3) := by decide +kernel
theorem dL_law_712 : decode cL_law 712 = .ok (.aload_n 2, 1) := by decide +kernel
theorem dL_law_713 : decode cL_law 713 = .ok (.invokevirtual 109, 3) := by decide +kernel
theorem dL_law_716 : decode cL_law 716 = .ok (.if_icmp .eq 55, 3) := by decide +kernel
theorem dL_law_719 : decode cL_law 719 = .ok (.iconst 0, 1) := by decide +kernel
theorem dL_law_720 : decode cL_law 720 = .ok (.ireturn, 1) := by decide +kernel
theorem dL_law_721 : decode cL_law 721 = .ok (.aload_n 1, 1) := by decide +kernel
theorem dL_law_722 : decode cL_law 722 = .ok (.invokevirtual 110, 3) := by decide +kernel
theorem dL_law_725 : decode cL_law 725 = .ok (.aload_n 2, 1) := by decide +kernel
theorem dL_law_726 : decode cL_law 726 = .ok (.invokevirtual 113, 3) := by decide +kernel
theorem dL_law_729 : decode cL_law 729 = .ok (.if_icmp .eq 42, 3) := by decide +kernel
theorem dL_law_732 : decode cL_law 732 = .ok (.iconst 0, 1) := by decide +kernel
theorem dL_law_733 : decode cL_law 733 = .ok (.ireturn, 1) := by decide +kernel
theorem dL_law_734 : decode cL_law 734 = .ok (.aload_n 1, 1) := by decide +kernel
theorem dL_law_735 : decode cL_law 735 = .ok (.aload_n 0, 1) := by decide +kernel
theorem dL_law_736 : decode cL_law 736 = .ok (.iload_n 3, 1) := by decide +kernel
theorem dL_law_737 : decode cL_law 737 = .ok (.iconst 1, 1) := by decide +kernel
theorem dL_law_738 : decode cL_law 738 = .ok (.iadd, 1) := by decide +kernel
theorem dL_law_739 : decode cL_law 739 = .ok (.iaload, 1) := by decide +kernel
theorem dL_law_740 : decode cL_law 740 = .ok (.invokevirtual 114, 3) := by decide +kernel
theorem dL_law_743 : decode cL_law 743 = .ok (.aload_n 2, 1) := by decide +kernel
theorem dL_law_744 : decode cL_law 744 = .ok (.aload_n 0, 1) := by decide +kernel
theorem dL_law_745 : decode cL_law 745 = .ok (.iload_n 3, 1) := by decide +kernel
theorem dL_law_746 : decode cL_law 746 = .ok (.iconst 1, 1) := by decide +kernel
theorem dL_law_747 : decode cL_law 747 = .ok (.iadd, 1) := by decide +kernel
theorem dL_law_748 : decode cL_law 748 = .ok (.iaload, 1) := by decide +kernel
theorem dL_law_749 : decode cL_law 749 = .ok (.invokevirtual 117, 3) := by decide +kernel
theorem dL_law_752 : decode cL_law 752 = .ok (.if_icmp .eq 19, 3) := by decide +kernel
theorem dL_law_755 : decode cL_law 755 = .ok (.iconst 0, 1) := by decide +kernel
theorem dL_law_756 : decode cL_law 756 = .ok (.ireturn, 1) := by decide +kernel
theorem dL_law_757 : decode cL_law 757 = .ok (.aload_n 1, 1) := by decide +kernel
theorem dL_law_758 : decode cL_law 758 = .ok (.invokevirtual 118, 3) := by decide +kernel
theorem dL_law_761 : decode cL_law 761 = .ok (.aload_n 2, 1) := by decide +kernel
theorem dL_law_762 : decode cL_law 762 = .ok (.invokevirtual 122, 3) := by decide +kernel
theorem dL_law_765 : decode cL_law 765 = .ok (.lcmp, 1) := by decide +kernel
theorem dL_law_766 : decode cL_law 766 = .ok (.ifCond .eq 5, 3) := by decide +kernel
theorem dL_law_769 : decode cL_law 769 = .ok (.iconst 0, 1) := by decide +kernel
theorem dL_law_770 : decode cL_law 770 = .ok (.ireturn, 1) := by decide +kernel
theorem dL_law_771 : decode cL_law 771 = .ok (.iinc 3 5, 3) := by decide +kernel
theorem dL_law_774 : decode cL_law 774 = .ok (.goto (-756), 3) := by decide +kernel
theorem dL_law_777 : decode cL_law 777 = .ok (.iconst 1, 1) := by decide +kernel
theorem dL_law_778 : decode cL_law 778 = .ok (.ireturn, 1) := by decide +kernel
theorem dJ11_isValidCodePoint_9a6ad_0 : decode cJ11_isValidCodePoint_9a6ad 0 = .ok (.iload_n 0, 1) := by decide +kernel
theorem dJ11_isValidCodePoint_9a6ad_1 : decode cJ11_isValidCodePoint_9a6ad 1 = .ok (.bipush 16, 2) := by decide +kernel
theorem dJ11_isValidCodePoint_9a6ad_3 : decode cJ11_isValidCodePoint_9a6ad 3 = .ok (.iushr, 1) := by decide +kernel
theorem dJ11_isValidCodePoint_9a6ad_4 : decode cJ11_isValidCodePoint_9a6ad 4 = .ok (.istore_n 1, 1) := by decide +kernel
theorem dJ11_isValidCodePoint_9a6ad_5 : decode cJ11_isValidCodePoint_9a6ad 5 = .ok (.iload_n 1, 1) := by decide +kernel
theorem dJ11_isValidCodePoint_9a6ad_6 : decode cJ11_isValidCodePoint_9a6ad 6 = .ok (.bipush 17, 2) := by decide +kernel
theorem dJ11_isValidCodePoint_9a6ad_8 : decode cJ11_isValidCodePoint_9a6ad 8 = .ok (.if_icmp .ge 7, 3) := by decide +kernel
theorem dJ11_isValidCodePoint_9a6ad_11 : decode cJ11_isValidCodePoint_9a6ad 11 = .ok (.iconst 1, 1) := by decide +kernel
theorem dJ11_isValidCodePoint_9a6ad_12 : decode cJ11_isValidCodePoint_9a6ad 12 = .ok (.goto 4, 3) := by decide +kernel
theorem dJ11_isValidCodePoint_9a6ad_15 : decode cJ11_isValidCodePoint_9a6ad 15 = .ok (.iconst 0, 1) := by decide +kernel
theorem dJ11_isValidCodePoint_9a6ad_16 : decode cJ11_isValidCodePoint_9a6ad 16 = .ok (.ireturn, 1) := by decide +kernel
theorem dJ11_highSurrogate_5068e_0 : decode cJ11_highSurrogate_5068e 0 = .ok (.iload_n 0, 1) := by decide +kernel
theorem dJ11_highSurrogate_5068e_1 : decode cJ11_highSurrogate_5068e 1 = .ok (.bipush 10, 2) := by decide +kernel
theorem dJ11_highSurrogate_5068e_3 : decode cJ11_highSurrogate_5068e 3 = .ok (.iushr, 1) := by decide +kernel
theorem dJ11_highSurrogate_5068e_4 : decode cJ11_highSurrogate_5068e 4 = .ok (.ldc 110, 2) := by decide +kernel
theorem dJ11_highSurrogate_5068e_6 : decode cJ11_highSurrogate_5068e 6 = .ok (.iadd, 1) := by decide +kernel
theorem dJ11_highSurrogate_5068e_7 : decode cJ11_highSurrogate_5068e 7 = .ok (.i2c, 1) := by decide +kernel
theorem dJ11_highSurrogate_5068e_8 : decode cJ11_highSurrogate_5068e 8 = .ok (.ireturn, 1) := by decide +kernel
theorem dJ11_lowSurrogate_5068e_0 : decode cJ11_lowSurrogate_5068e 0 = .ok (.iload_n 0, 1) := by decide +kernel
theorem dJ11_lowSurrogate_5068e_1 : decode cJ11_lowSurrogate_5068e 1 = .ok (.sipush 1023, 3) := by decide +kernel
theorem dJ11_lowSurrogate_5068e_4 : decode cJ11_lowSurrogate_5068e 4 = .ok (.iand, 1) := by decide +kernel
theorem dJ11_lowSurrogate_5068e_5 : decode cJ11_lowSurrogate_5068e 5 = .ok (.ldc 76, 2) := by decide +kernel
theorem dJ11_lowSurrogate_5068e_7 : decode cJ11_lowSurrogate_5068e 7 = .ok (.iadd, 1) := by decide +kernel
theorem dJ11_lowSurrogate_5068e_8 : decode cJ11_lowSurrogate_5068e 8 = .ok (.i2c, 1) := by decide +kernel
theorem dJ11_lowSurrogate_5068e_9 : decode cJ11_lowSurrogate_5068e 9 = .ok (.ireturn, 1) := by decide +kernel
theorem dJ6_bitCount_0f7a4_0 : decode cJ6_bitCount_0f7a4 0 = .ok (.iload_n 0, 1) := by decide +kernel
theorem dJ6_bitCount_0f7a4_1 : decode cJ6_bitCount_0f7a4 1 = .ok (.iload_n 0, 1) := by decide +kernel
theorem dJ6_bitCount_0f7a4_2 : decode cJ6_bitCount_0f7a4 2 = .ok (.iconst 1, 1) := by decide +kernel
theorem dJ6_bitCount_0f7a4_3 : decode cJ6_bitCount_0f7a4 3 = .ok (.iushr, 1) := by decide +kernel
theorem dJ6_bitCount_0f7a4_4 : decode cJ6_bitCount_0f7a4 4 = .ok (.ldc_w 265, 3) := by decide +kernel
theorem dJ6_bitCount_0f7a4_7 : decode cJ6_bitCount_0f7a4 7 = .ok (.iand, 1) := by decide +kernel
theorem dJ6_bitCount_0f7a4_8 : decode cJ6_bitCount_0f7a4 8 = .ok (.isub, 1) := by decide +kernel
theorem dJ6_bitCount_0f7a4_9 : decode cJ6_bitCount_0f7a4 9 = .ok (.istore_n 0, 1) := by decide +kernel
theorem dJ6_bitCount_0f7a4_10 : decode cJ6_bitCount_0f7a4 10 = .ok (.iload_n 0, 1) := by decide +kernel
theorem dJ6_bitCount_0f7a4_11 : decode cJ6_bitCount_0f7a4 11 = .ok (.ldc_w 266, 3) := by decide +kernel
theorem dJ6_bitCount_0f7a4_14 : decode cJ6_bitCount_0f7a4 14 = .ok (.iand, 1) := by decide +kernel
theorem dJ6_bitCount_0f7a4_15 : decode cJ6_bitCount_0f7a4 15 = .ok (.iload_n 0, 1) := by decide +kernel
theorem dJ6_bitCount_0f7a4_16 : decode cJ6_bitCount_0f7a4 16 = .ok (.iconst 2, 1) := by decide +kernel
theorem dJ6_bitCount_0f7a4_17 : decode cJ6_bitCount_0f7a4 17 = .ok (.iushr, 1) := by decide +kernel
theorem dJ6_bitCount_0f7a4_18 : decode cJ6_bitCount_0f7a4 18 = .ok (.ldc_w 266, 3) := by decide +kernel
theorem dJ6_bitCount_0f7a4_21 : decode cJ6_bitCount_0f7a4 21 = .ok (.iand, 1) := by decide +kernel
theorem dJ6_bitCount_0f7a4_22 : decode cJ6_bitCount_0f7a4 22 = .ok (.iadd, 1) := by decide +kernel
theorem dJ6_bitCount_0f7a4_23 : decode cJ6_bitCount_0f7a4 23 = .ok (.istore_n 0, 1) := by decide +kernel
theorem dJ6_bitCount_0f7a4_24 : decode cJ6_bitCount_0f7a4 24 = .ok (.iload_n 0, 1) := by decide +kernel
theorem dJ6_bitCount_0f7a4_25 : decode cJ6_bitCount_0f7a4 25 = .ok (.iload_n 0, 1) := by decide +kernel
theorem dJ6_bitCount_0f7a4_26 : decode cJ6_bitCount_0f7a4 26 = .ok (.iconst 4, 1) := by decide +kernel
theorem dJ6_bitCount_0f7a4_27 : decode cJ6_bitCount_0f7a4 27 = .ok (.iushr, 1) := by decide +kernel
theorem dJ6_bitCount_0f7a4_28 : decode cJ6_bitCount_0f7a4 28 = .ok (.iadd, 1) := by decide +kernel
theorem dJ6_bitCount_0f7a4_29 : decode cJ6_bitCount_0f7a4 29 = .ok (.ldc_w 267, 3) := by decide +kernel
theorem dJ6_bitCount_0f7a4_32 : decode cJ6_bitCount_0f7a4 32 = .ok (.iand, 1) := by decide +kernel
theorem dJ6_bitCount_0f7a4_33 : decode cJ6_bitCount_0f7a4 33 = .ok (.istore_n 0, 1) := by decide +kernel
theorem dJ6_bitCount_0f7a4_34 : decode cJ6_bitCount_0f7a4 34 = .ok (.iload_n 0, 1) := by decide +kernel
theorem dJ6_bitCount_0f7a4_35 : decode cJ6_bitCount_0f7a4 35 = .ok (.iload_n 0, 1) := by decide +kernel
theorem dJ6_bitCount_0f7a4_36 : decode cJ6_bitCount_0f7a4 36 = .ok (.bipush 8, 2) := by decide +kernel
theorem dJ6_bitCount_0f7a4_38 : decode cJ6_bitCount_0f7a4 38 = .ok (.iushr, 1) := by decide +kernel
theorem dJ6_bitCount_0f7a4_39 : decode cJ6_bitCount_0f7a4 39 = .ok (.iadd, 1) := by decide +kernel
theorem dJ6_bitCount_0f7a4_40 : decode cJ6_bitCount_0f7a4 40 = .ok (.istore_n 0, 1) := by decide +kernel
theorem dJ6_bitCount_0f7a4_41 : decode cJ6_bitCount_0f7a4 41 = .ok (.iload_n 0, 1) := by decide +kernel
theorem dJ6_bitCount_0f7a4_42 : decode cJ6_bitCount_0f7a4 42 = .ok (.iload_n 0, 1) := by decide +kernel
theorem dJ6_bitCount_0f7a4_43 : decode cJ6_bitCount_0f7a4 43 = .ok (.bipush 16, 2) := by decide +kernel
theorem dJ6_bitCount_0f7a4_45 : decode cJ6_bitCount_0f7a4 45 = .ok (.iushr, 1) := by decide +kernel
theorem dJ6_bitCount_0f7a4_46 : decode cJ6_bitCount_0f7a4 46 = .ok (.iadd, 1) := by decide +kernel
theorem dJ6_bitCount_0f7a4_47 : decode cJ6_bitCount_0f7a4 47 = .ok (.istore_n 0, 1) := by decide +kernel
theorem dJ6_bitCount_0f7a4_48 : decode cJ6_bitCount_0f7a4 48 = .ok (.iload_n 0, 1) := by decide +kernel
theorem dJ6_bitCount_0f7a4_49 : decode cJ6_bitCount_0f7a4 49 = .ok (.bipush 63, 2) := by decide +kernel
theorem dJ6_bitCount_0f7a4_51 : decode cJ6_bitCount_0f7a4 51 = .ok (.iand, 1) := by decide +kernel
theorem dJ6_bitCount_0f7a4_52 : decode cJ6_bitCount_0f7a4 52 = .ok (.ireturn, 1) := by decide +kernel
theorem dJ9_abs_0f7a4_0 : decode cJ9_abs_0f7a4 0 = .ok (.iload_n 0, 1) := by decide +kernel
theorem dJ9_abs_0f7a4_1 : decode cJ9_abs_0f7a4 1 = .ok (.ifCond .ge 8, 3) := by decide +kernel
theorem dJ9_abs_0f7a4_4 : decode cJ9_abs_0f7a4 4 = .ok (.iload_n 0, 1) := by decide +kernel
theorem dJ9_abs_0f7a4_5 : decode cJ9_abs_0f7a4 5 = .ok (.ineg, 1) := by decide +kernel
theorem dJ9_abs_0f7a4_6 : decode cJ9_abs_0f7a4 6 = .ok (.goto 4, 3) := by decide +kernel
theorem dJ9_abs_0f7a4_9 : decode cJ9_abs_0f7a4 9 = .ok (.iload_n 0, 1) := by decide +kernel
theorem dJ9_abs_0f7a4_10 : decode cJ9_abs_0f7a4 10 = .ok (.ireturn, 1) := by decide +kernel
theorem dJ9_max_7cf53_0 : decode cJ9_max_7cf53 0 = .ok (.iload_n 0, 1) := by decide +kernel
theorem dJ9_max_7cf53_1 : decode cJ9_max_7cf53 1 = .ok (.iload_n 1, 1) := by decide +kernel
theorem dJ9_max_7cf53_2 : decode cJ9_max_7cf53 2 = .ok (.if_icmp .lt 7, 3) := by decide +kernel
theorem dJ9_max_7cf53_5 : decode cJ9_max_7cf53 5 = .ok (.iload_n 0, 1) := by decide +kernel
theorem dJ9_max_7cf53_6 : decode cJ9_max_7cf53 6 = .ok (.goto 4, 3) := by decide +kernel
theorem dJ9_max_7cf53_9 : decode cJ9_max_7cf53 9 = .ok (.iload_n 1, 1) := by decide +kernel
theorem dJ9_max_7cf53_10 : decode cJ9_max_7cf53 10 = .ok (.ireturn, 1) := by decide +kernel
theorem dJ9_min_7cf53_0 : decode cJ9_min_7cf53 0 = .ok (.iload_n 0, 1) := by decide +kernel
theorem dJ9_min_7cf53_1 : decode cJ9_min_7cf53 1 = .ok (.iload_n 1, 1) := by decide +kernel
theorem dJ9_min_7cf53_2 : decode cJ9_min_7cf53 2 = .ok (.if_icmp .gt 7, 3) := by decide +kernel
theorem dJ9_min_7cf53_5 : decode cJ9_min_7cf53 5 = .ok (.iload_n 0, 1) := by decide +kernel
theorem dJ9_min_7cf53_6 : decode cJ9_min_7cf53 6 = .ok (.goto 4, 3) := by decide +kernel
theorem dJ9_min_7cf53_9 : decode cJ9_min_7cf53 9 = .ok (.iload_n 1, 1) := by decide +kernel
theorem dJ9_min_7cf53_10 : decode cJ9_min_7cf53 10 = .ok (.ireturn, 1) := by decide +kernel
theorem dJ0_length_8abf5_0 : decode cJ0_length_8abf5 0 = .ok (.aload_n 0, 1) := by decide +kernel
theorem dJ0_length_8abf5_1 : decode cJ0_length_8abf5 1 = .ok (.getfield 9, 3) := by decide +kernel
theorem dJ0_length_8abf5_4 : decode cJ0_length_8abf5 4 = .ok (.arraylength, 1) := by decide +kernel
theorem dJ0_length_8abf5_5 : decode cJ0_length_8abf5 5 = .ok (.aload_n 0, 1) := by decide +kernel
theorem dJ0_length_8abf5_6 : decode cJ0_length_8abf5 6 = .ok (.invokevirtual 335, 3) := by decide +kernel
theorem dJ0_length_8abf5_9 : decode cJ0_length_8abf5 9 = .ok (.ishr, 1) := by decide +kernel
theorem dJ0_length_8abf5_10 : decode cJ0_length_8abf5 10 = .ok (.ireturn, 1) := by decide +kernel
theorem dJ0_indexOf_0f7a4_0 : decode cJ0_indexOf_0f7a4 0 = .ok (.aload_n 0, 1) := by decide +kernel
theorem dJ0_indexOf_0f7a4_1 : decode cJ0_indexOf_0f7a4 1 = .ok (.iload_n 1, 1) := by decide +kernel
theorem dJ0_indexOf_0f7a4_2 : decode cJ0_indexOf_0f7a4 2 = .ok (.iconst 0, 1) := by decide +kernel
theorem dJ0_indexOf_0f7a4_3 : decode cJ0_indexOf_0f7a4 3 = .ok (.invokevirtual 633, 3) := by decide +kernel
theorem dJ0_indexOf_0f7a4_6 : decode cJ0_indexOf_0f7a4 6 = .ok (.ireturn, 1) := by decide +kernel
theorem dJ0_indexOf_7cf53_0 : decode cJ0_indexOf_7cf53 0 = .ok (.aload_n 0, 1) := by decide +kernel
theorem dJ0_indexOf_7cf53_1 : decode cJ0_indexOf_7cf53 1 = .ok (.invokevirtual 492, 3) := by decide +kernel
theorem dJ0_indexOf_7cf53_4 : decode cJ0_indexOf_7cf53 4 = .ok (.ifCond .eq 19, 3) := by decide +kernel
theorem dJ0_indexOf_7cf53_7 : decode cJ0_indexOf_7cf53 7 = .ok (.aload_n 0, 1) := by decide +kernel
theorem dJ0_indexOf_7cf53_8 : decode cJ0_indexOf_7cf53 8 = .ok (.getfield 9, 3) := by decide +kernel
theorem dJ0_indexOf_7cf53_11 : decode cJ0_indexOf_7cf53 11 = .ok (.iload_n 1, 1) := by decide +kernel
theorem dJ0_indexOf_7cf53_12 : decode cJ0_indexOf_7cf53 12 = .ok (.iload_n 2, 1) := by decide +kernel
theorem dJ0_indexOf_7cf53_13 : decode cJ0_indexOf_7cf53 13 = .ok (.aload_n 0, 1) := by decide +kernel
theorem dJ0_indexOf_7cf53_14 : decode cJ0_indexOf_7cf53 14 = .ok (.invokevirtual 505, 3) := by decide +kernel
theorem dJ0_indexOf_7cf53_17 : decode cJ0_indexOf_7cf53 17 = .ok (.invokestatic 637, 3) := by decide +kernel
theorem dJ0_indexOf_7cf53_20 : decode cJ0_indexOf_7cf53 20 = .ok (.goto 16, 3) := by decide +kernel
theorem dJ0_indexOf_7cf53_23 : decode cJ0_indexOf_7cf53 23 = .ok (.aload_n 0, 1) := by decide +kernel
theorem dJ0_indexOf_7cf53_24 : decode cJ0_indexOf_7cf53 24 = .ok (.getfield 9, 3) := by decide +kernel
theorem dJ0_indexOf_7cf53_27 : decode cJ0_indexOf_7cf53 27 = .ok (.iload_n 1, 1) := by decide +kernel
theorem dJ0_indexOf_7cf53_28 : decode cJ0_indexOf_7cf53 28 = .ok (.iload_n 2, 1) := by decide +kernel
theorem dJ0_indexOf_7cf53_29 : decode cJ0_indexOf_7cf53 29 = .ok (.aload_n 0, 1) := by decide +kernel
theorem dJ0_indexOf_7cf53_30 : decode cJ0_indexOf_7cf53 30 = .ok (.invokevirtual 505, 3) := by decide +kernel
theorem dJ0_indexOf_7cf53_33 : decode cJ0_indexOf_7cf53 33 = .ok (.invokestatic 640, 3) := by decide +kernel
theorem dJ0_indexOf_7cf53_36 : decode cJ0_indexOf_7cf53 36 = .ok (.ireturn, 1) := by decide +kernel
theorem dJ0_coder_7d493_0 : decode cJ0_coder_7d493 0 = .ok (.getstatic 38, 3) := by decide +kernel
theorem dJ0_coder_7d493_3 : decode cJ0_coder_7d493 3 = .ok (.ifCond .eq 10, 3) := by decide +kernel
theorem dJ0_coder_7d493_6 : decode cJ0_coder_7d493 6 = .ok (.aload_n 0, 1) := by decide +kernel
theorem dJ0_coder_7d493_7 : decode cJ0_coder_7d493 7 = .ok (.getfield 15, 3) := by decide +kernel
theorem dJ0_coder_7d493_10 : decode cJ0_coder_7d493 10 = .ok (.goto 4, 3) := by decide +kernel
theorem dJ0_coder_7d493_13 : decode cJ0_coder_7d493 13 = .ok (.iconst 1, 1) := by decide +kernel
theorem dJ0_coder_7d493_14 : decode cJ0_coder_7d493 14 = .ok (.ireturn, 1) := by decide +kernel
theorem dJ0_isLatin1_aae02_0 : decode cJ0_isLatin1_aae02 0 = .ok (.getstatic 38, 3) := by decide +kernel
theorem dJ0_isLatin1_aae02_3 : decode cJ0_isLatin1_aae02 3 = .ok (.ifCond .eq 14, 3) := by decide +kernel
theorem dJ0_isLatin1_aae02_6 : decode cJ0_isLatin1_aae02 6 = .ok (.aload_n 0, 1) := by decide +kernel
theorem dJ0_isLatin1_aae02_7 : decode cJ0_isLatin1_aae02 7 = .ok (.getfield 15, 3) := by decide +kernel
theorem dJ0_isLatin1_aae02_10 : decode cJ0_isLatin1_aae02 10 = .ok (.ifCond .ne 7, 3) := by decide +kernel
theorem dJ0_isLatin1_aae02_13 : decode cJ0_isLatin1_aae02 13 = .ok (.iconst 1, 1) := by decide +kernel
theorem dJ0_isLatin1_aae02_14 : decode cJ0_isLatin1_aae02 14 = .ok (.goto 4, 3) := by decide +kernel
theorem dJ0_isLatin1_aae02_17 : decode cJ0_isLatin1_aae02 17 = .ok (.iconst 0, 1) := by decide +kernel
theorem dJ0_isLatin1_aae02_18 : decode cJ0_isLatin1_aae02 18 = .ok (.ireturn, 1) := by decide +kernel
theorem dJ0_checkBoundsBeginEnd_23922_0 : decode cJ0_checkBoundsBeginEnd_23922 0 = .ok (.iload_n 0, 1) := by decide +kernel
theorem dJ0_checkBoundsBeginEnd_23922_1 : decode cJ0_checkBoundsBeginEnd_23922 1 = .ok (.iload_n 1, 1) := by decide +kernel
theorem dJ0_checkBoundsBeginEnd_23922_2 : decode cJ0_checkBoundsBeginEnd_23922 2 = .ok (.iload_n 2, 1) := by decide +kernel
theorem dJ0_checkBoundsBeginEnd_23922_3 : decode cJ0_checkBoundsBeginEnd_23922 3 = .ok (.getstatic 1053, 3) := by decide +kernel
theorem dJ0_checkBoundsBeginEnd_23922_6 : decode cJ0_checkBoundsBeginEnd_23922 6 = .ok (.invokestatic 1062, 3) := by decide +kernel
theorem dJ0_checkBoundsBeginEnd_23922_9 : decode cJ0_checkBoundsBeginEnd_23922 9 = .ok (.pop, 1) := by decide +kernel
theorem dJ0_checkBoundsBeginEnd_23922_10 : decode cJ0_checkBoundsBeginEnd_23922 10 = .ok (.return_, 1) := by decide +kernel
theorem dJ1_canEncode_9a6ad_0 : decode cJ1_canEncode_9a6ad 0 = .ok (.iload_n 0, 1) := by decide +kernel
theorem dJ1_canEncode_9a6ad_1 : decode cJ1_canEncode_9a6ad 1 = .ok (.ifCond .lt 14, 3) := by decide +kernel
theorem dJ1_canEncode_9a6ad_4 : decode cJ1_canEncode_9a6ad 4 = .ok (.iload_n 0, 1) := by decide +kernel
theorem dJ1_canEncode_9a6ad_5 : decode cJ1_canEncode_9a6ad 5 = .ok (.sipush 255, 3) := by decide +kernel
theorem dJ1_canEncode_9a6ad_8 : decode cJ1_canEncode_9a6ad 8 = .ok (.if_icmp .gt 7, 3) := by decide +kernel
theorem dJ1_canEncode_9a6ad_11 : decode cJ1_canEncode_9a6ad 11 = .ok (.iconst 1, 1) := by decide +kernel
theorem dJ1_canEncode_9a6ad_12 : decode cJ1_canEncode_9a6ad 12 = .ok (.goto 4, 3) := by decide +kernel
theorem dJ1_canEncode_9a6ad_15 : decode cJ1_canEncode_9a6ad 15 = .ok (.iconst 0, 1) := by decide +kernel
theorem dJ1_canEncode_9a6ad_16 : decode cJ1_canEncode_9a6ad 16 = .ok (.ireturn, 1) := by decide +kernel
theorem dJ1_indexOf_4cfef_0 : decode cJ1_indexOf_4cfef 0 = .ok (.iload_n 1, 1) := by decide +kernel
theorem dJ1_indexOf_4cfef_1 : decode cJ1_indexOf_4cfef 1 = .ok (.invokestatic 88, 3) := by decide +kernel
theorem dJ1_indexOf_4cfef_4 : decode cJ1_indexOf_4cfef 4 = .ok (.ifCond .ne 5, 3) := by decide +kernel
theorem dJ1_indexOf_4cfef_7 : decode cJ1_indexOf_4cfef 7 = .ok (.iconst (-1), 1) := by decide +kernel
theorem dJ1_indexOf_4cfef_8 : decode cJ1_indexOf_4cfef 8 = .ok (.ireturn, 1) := by decide +kernel
theorem dJ1_indexOf_4cfef_9 : decode cJ1_indexOf_4cfef 9 = .ok (.iload_n 2, 1) := by decide +kernel
theorem dJ1_indexOf_4cfef_10 : decode cJ1_indexOf_4cfef 10 = .ok (.iconst 0, 1) := by decide +kernel
theorem dJ1_indexOf_4cfef_11 : decode cJ1_indexOf_4cfef 11 = .ok (.invokestatic 92, 3) := by decide +kernel
theorem dJ1_indexOf_4cfef_14 : decode cJ1_indexOf_4cfef 14 = .ok (.istore_n 2, 1) := by decide +kernel
theorem dJ1_indexOf_4cfef_15 : decode cJ1_indexOf_4cfef 15 = .ok (.iload_n 3, 1) := by decide +kernel
theorem dJ1_indexOf_4cfef_16 : decode cJ1_indexOf_4cfef 16 = .ok (.aload_n 0, 1) := by decide +kernel
theorem dJ1_indexOf_4cfef_17 : decode cJ1_indexOf_4cfef 17 = .ok (.arraylength, 1) := by decide +kernel
theorem dJ1_indexOf_4cfef_18 : decode cJ1_indexOf_4cfef 18 = .ok (.invokestatic 38, 3) := by decide +kernel
theorem dJ1_indexOf_4cfef_21 : decode cJ1_indexOf_4cfef 21 = .ok (.istore_n 3, 1) := by decide +kernel
theorem dJ1_indexOf_4cfef_22 : decode cJ1_indexOf_4cfef 22 = .ok (.iload_n 2, 1) := by decide +kernel
theorem dJ1_indexOf_4cfef_23 : decode cJ1_indexOf_4cfef 23 = .ok (.iload_n 3, 1) := by decide +kernel
theorem dJ1_indexOf_4cfef_24 : decode cJ1_indexOf_4cfef 24 = .ok (.if_icmp .lt 5, 3) := by decide +kernel
theorem dJ1_indexOf_4cfef_27 : decode cJ1_indexOf_4cfef 27 = .ok (.iconst (-1), 1) := by decide +kernel
theorem dJ1_indexOf_4cfef_28 : decode cJ1_indexOf_4cfef 28 = .ok (.ireturn, 1) := by decide +kernel
theorem dJ1_indexOf_4cfef_29 : decode cJ1_indexOf_4cfef 29 = .ok (.aload_n 0, 1) := by decide +kernel
theorem dJ1_indexOf_4cfef_30 : decode cJ1_indexOf_4cfef 30 = .ok (.iload_n 1, 1) := by decide +kernel
theorem dJ1_indexOf_4cfef_31 : decode cJ1_indexOf_4cfef 31 = .ok (.iload_n 2, 1) := by decide +kernel
theorem dJ1_indexOf_4cfef_32 : decode cJ1_indexOf_4cfef 32 = .ok (.iload_n 3, 1) := by decide +kernel
theorem dJ1_indexOf_4cfef_33 : decode cJ1_indexOf_4cfef 33 = .ok (.invokestatic 95, 3) := by decide +kernel
theorem dJ1_indexOf_4cfef_36 : decode cJ1_indexOf_4cfef 36 = .ok (.ireturn, 1) := by decide +kernel
theorem dJ1_indexOfChar_4cfef_0 : decode cJ1_indexOfChar_4cfef 0 = .ok (.iload_n 1, 1) := by decide +kernel
theorem dJ1_indexOfChar_4cfef_1 : decode cJ1_indexOfChar_4cfef 1 = .ok (.i2b, 1) := by decide +kernel
theorem dJ1_indexOfChar_4cfef_2 : decode cJ1_indexOfChar_4cfef 2 = .ok (.istore 4, 2) := by decide +kernel
theorem dJ1_indexOfChar_4cfef_4 : decode cJ1_indexOfChar_4cfef 4 = .ok (.iload_n 2, 1) := by decide +kernel
theorem dJ1_indexOfChar_4cfef_5 : decode cJ1_indexOfChar_4cfef 5 = .ok (.istore 5, 2) := by decide +kernel
theorem dJ1_indexOfChar_4cfef_7 : decode cJ1_indexOfChar_4cfef 7 = .ok (.iload 5, 2) := by decide +kernel
theorem dJ1_indexOfChar_4cfef_9 : decode cJ1_indexOfChar_4cfef 9 = .ok (.iload_n 3, 1) := by decide +kernel
theorem dJ1_indexOfChar_4cfef_10 : decode cJ1_indexOfChar_4cfef 10 = .ok (.if_icmp .ge 21, 3) := by decide +kernel
theorem dJ1_indexOfChar_4cfef_13 : decode cJ1_indexOfChar_4cfef 13 = .ok (.aload_n 0, 1) := by decide +kernel
theorem dJ1_indexOfChar_4cfef_14 : decode cJ1_indexOfChar_4cfef 14 = .ok (.iload 5, 2) := by decide +kernel
theorem dJ1_indexOfChar_4cfef_16 : decode cJ1_indexOfChar_4cfef 16 = .ok (.baload, 1) := by decide +kernel
theorem dJ1_indexOfChar_4cfef_17 : decode cJ1_indexOfChar_4cfef 17 = .ok (.iload 4, 2) := by decide +kernel
theorem dJ1_indexOfChar_4cfef_19 : decode cJ1_indexOfChar_4cfef 19 = .ok (.if_icmp .ne 6, 3) := by decide +kernel
theorem dJ1_indexOfChar_4cfef_22 : decode cJ1_indexOfChar_4cfef 22 = .ok (.iload 5, 2) := by decide +kernel
theorem dJ1_indexOfChar_4cfef_24 : decode cJ1_indexOfChar_4cfef 24 = .ok (.ireturn, 1) := by decide +kernel
theorem dJ1_indexOfChar_4cfef_25 : decode cJ1_indexOfChar_4cfef 25 = .ok (.iinc 5 1, 3) := by decide +kernel
theorem dJ1_indexOfChar_4cfef_28 : decode cJ1_indexOfChar_4cfef 28 = .ok (.goto (-21), 3) := by decide +kernel
theorem dJ1_indexOfChar_4cfef_31 : decode cJ1_indexOfChar_4cfef 31 = .ok (.iconst (-1), 1) := by decide +kernel
theorem dJ1_indexOfChar_4cfef_32 : decode cJ1_indexOfChar_4cfef 32 = .ok (.ireturn, 1) := by decide +kernel
theorem dJ2_getChar_3b067_0 : decode cJ2_getChar_3b067 0 = .ok (.getstatic 44, 3) := by decide +kernel
theorem dJ2_getChar_3b067_3 : decode cJ2_getChar_3b067 3 = .ok (.ifCond .ne 25, 3) := by decide +kernel
theorem dJ2_getChar_3b067_6 : decode cJ2_getChar_3b067 6 = .ok (.iload_n 1, 1) := by decide +kernel
theorem dJ2_getChar_3b067_7 : decode cJ2_getChar_3b067 7 = .ok (.ifCond .lt 11, 3) := by decide +kernel
theorem dJ2_getChar_3b067_10 : decode cJ2_getChar_3b067 10 = .ok (.iload_n 1, 1) := by decide +kernel
theorem dJ2_getChar_3b067_11 : decode cJ2_getChar_3b067 11 = .ok (.aload_n 0, 1) := by decide +kernel
theorem dJ2_getChar_3b067_12 : decode cJ2_getChar_3b067 12 = .ok (.invokestatic 48, 3) := by decide +kernel
theorem dJ2_getChar_3b067_15 : decode cJ2_getChar_3b067 15 = .ok (.if_icmp .lt 13, 3) := by decide +kernel
theorem dJ2_getChar_3b067_18 : decode cJ2_getChar_3b067 18 = .ok (.new 52, 3) := by decide +kernel
theorem dJ2_getChar_3b067_21 : decode cJ2_getChar_3b067 21 = .ok (.dup, 1) := by decide +kernel
theorem dJ2_getChar_3b067_22 : decode cJ2_getChar_3b067 22 = .ok (.ldc 54, 2) := by decide +kernel
theorem dJ2_getChar_3b067_24 : decode cJ2_getChar_3b067 24 = .ok (.invokespecial 56, 3) := by decide +kernel
theorem dJ2_getChar_3b067_27 : decode cJ2_getChar_3b067 27 = .ok (.athrow, 1) := by decide +kernel
theorem dJ2_getChar_3b067_28 : decode cJ2_getChar_3b067 28 = .ok (.iload_n 1, 1) := by decide +kernel
theorem dJ2_getChar_3b067_29 : decode cJ2_getChar_3b067 29 = .ok (.iconst 1, 1) := by decide +kernel
theorem dJ2_getChar_3b067_30 : decode cJ2_getChar_3b067 30 = .ok (.ishl, 1) := by decide +kernel
theorem dJ2_getChar_3b067_31 : decode cJ2_getChar_3b067 31 = .ok (.istore_n 1, 1) := by decide +kernel
theorem dJ2_getChar_3b067_32 : decode cJ2_getChar_3b067 32 = .ok (.aload_n 0, 1) := by decide +kernel
theorem dJ2_getChar_3b067_33 : decode cJ2_getChar_3b067 33 = .ok (.iload_n 1, 1) := by decide +kernel
theorem dJ2_getChar_3b067_34 : decode cJ2_getChar_3b067 34 = .ok (.iinc 1 1, 3) := by decide +kernel
theorem dJ2_getChar_3b067_37 : decode cJ2_getChar_3b067 37 = .ok (.baload, 1) := by decide +kernel
theorem dJ2_getChar_3b067_38 : decode cJ2_getChar_3b067 38 = .ok (.sipush 255, 3) := by decide +kernel
theorem dJ2_getChar_3b067_41 : decode cJ2_getChar_3b067 41 = .ok (.iand, 1) := by decide +kernel
theorem dJ2_getChar_3b067_42 : decode cJ2_getChar_3b067 42 = .ok (.getstatic 59, 3) := by decide +kernel
theorem dJ2_getChar_3b067_45 : decode cJ2_getChar_3b067 45 = .ok (.ishl, 1) := by decide +kernel
theorem dJ2_getChar_3b067_46 : decode cJ2_getChar_3b067 46 = .ok (.aload_n 0, 1) := by decide +kernel
theorem dJ2_getChar_3b067_47 : decode cJ2_getChar_3b067 47 = .ok (.iload_n 1, 1) := by decide +kernel
theorem dJ2_getChar_3b067_48 : decode cJ2_getChar_3b067 48 = .ok (.baload, 1) := by decide +kernel
theorem dJ2_getChar_3b067_49 : decode cJ2_getChar_3b067 49 = .ok (.sipush 255, 3) := by decide +kernel
theorem dJ2_getChar_3b067_52 : decode cJ2_getChar_3b067 52 = .ok (.iand, 1) := by decide +kernel
theorem dJ2_getChar_3b067_53 : decode cJ2_getChar_3b067 53 = .ok (.getstatic 63, 3) := by decide +kernel
theorem dJ2_getChar_3b067_56 : decode cJ2_getChar_3b067 56 = .ok (.ishl, 1) := by decide +kernel
theorem dJ2_getChar_3b067_57 : decode cJ2_getChar_3b067 57 = .ok (.ior, 1) := by decide +kernel
theorem dJ2_getChar_3b067_58 : decode cJ2_getChar_3b067 58 = .ok (.i2c, 1) := by decide +kernel
theorem dJ2_getChar_3b067_59 : decode cJ2_getChar_3b067 59 = .ok (.ireturn, 1) := by decide +kernel
theorem dJ2_length_9d52b_0 : decode cJ2_length_9d52b 0 = .ok (.aload_n 0, 1) := by decide +kernel
theorem dJ2_length_9d52b_1 : decode cJ2_length_9d52b 1 = .ok (.arraylength, 1) := by decide +kernel
theorem dJ2_length_9d52b_2 : decode cJ2_length_9d52b 2 = .ok (.iconst 1, 1) := by decide +kernel
theorem dJ2_length_9d52b_3 : decode cJ2_length_9d52b 3 = .ok (.ishr, 1) := by decide +kernel
theorem dJ2_length_9d52b_4 : decode cJ2_length_9d52b 4 = .ok (.ireturn, 1) := by decide +kernel
theorem dJ2_indexOf_4cfef_0 : decode cJ2_indexOf_4cfef 0 = .ok (.iload_n 2, 1) := by decide +kernel
theorem dJ2_indexOf_4cfef_1 : decode cJ2_indexOf_4cfef 1 = .ok (.iconst 0, 1) := by decide +kernel
theorem dJ2_indexOf_4cfef_2 : decode cJ2_indexOf_4cfef 2 = .ok (.invokestatic 224, 3) := by decide +kernel
theorem dJ2_indexOf_4cfef_5 : decode cJ2_indexOf_4cfef 5 = .ok (.istore_n 2, 1) := by decide +kernel
theorem dJ2_indexOf_4cfef_6 : decode cJ2_indexOf_4cfef 6 = .ok (.iload_n 3, 1) := by decide +kernel
theorem dJ2_indexOf_4cfef_7 : decode cJ2_indexOf_4cfef 7 = .ok (.aload_n 0, 1) := by decide +kernel
theorem dJ2_indexOf_4cfef_8 : decode cJ2_indexOf_4cfef 8 = .ok (.arraylength, 1) := by decide +kernel
theorem dJ2_indexOf_4cfef_9 : decode cJ2_indexOf_4cfef 9 = .ok (.iconst 1, 1) := by decide +kernel
theorem dJ2_indexOf_4cfef_10 : decode cJ2_indexOf_4cfef 10 = .ok (.ishr, 1) := by decide +kernel
theorem dJ2_indexOf_4cfef_11 : decode cJ2_indexOf_4cfef 11 = .ok (.invokestatic 183, 3) := by decide +kernel
theorem dJ2_indexOf_4cfef_14 : decode cJ2_indexOf_4cfef 14 = .ok (.istore_n 3, 1) := by decide +kernel
theorem dJ2_indexOf_4cfef_15 : decode cJ2_indexOf_4cfef 15 = .ok (.iload_n 2, 1) := by decide +kernel
theorem dJ2_indexOf_4cfef_16 : decode cJ2_indexOf_4cfef 16 = .ok (.iload_n 3, 1) := by decide +kernel
theorem dJ2_indexOf_4cfef_17 : decode cJ2_indexOf_4cfef 17 = .ok (.if_icmp .lt 5, 3) := by decide +kernel
theorem dJ2_indexOf_4cfef_20 : decode cJ2_indexOf_4cfef 20 = .ok (.iconst (-1), 1) := by decide +kernel
theorem dJ2_indexOf_4cfef_21 : decode cJ2_indexOf_4cfef 21 = .ok (.ireturn, 1) := by decide +kernel
theorem dJ2_indexOf_4cfef_22 : decode cJ2_indexOf_4cfef 22 = .ok (.iload_n 1, 1) := by decide +kernel
theorem dJ2_indexOf_4cfef_23 : decode cJ2_indexOf_4cfef 23 = .ok (.ldc 227, 2) := by decide +kernel
theorem dJ2_indexOf_4cfef_25 : decode cJ2_indexOf_4cfef 25 = .ok (.if_icmp .ge 11, 3) := by decide +kernel
theorem dJ2_indexOf_4cfef_28 : decode cJ2_indexOf_4cfef 28 = .ok (.aload_n 0, 1) := by decide +kernel
theorem dJ2_indexOf_4cfef_29 : decode cJ2_indexOf_4cfef 29 = .ok (.iload_n 1, 1) := by decide +kernel
theorem dJ2_indexOf_4cfef_30 : decode cJ2_indexOf_4cfef 30 = .ok (.iload_n 2, 1) := by decide +kernel
theorem dJ2_indexOf_4cfef_31 : decode cJ2_indexOf_4cfef 31 = .ok (.iload_n 3, 1) := by decide +kernel
theorem dJ2_indexOf_4cfef_32 : decode cJ2_indexOf_4cfef 32 = .ok (.invokestatic 228, 3) := by decide +kernel
theorem dJ2_indexOf_4cfef_35 : decode cJ2_indexOf_4cfef 35 = .ok (.ireturn, 1) := by decide +kernel
theorem dJ2_indexOf_4cfef_36 : decode cJ2_indexOf_4cfef 36 = .ok (.aload_n 0, 1) := by decide +kernel
theorem dJ2_indexOf_4cfef_37 : decode cJ2_indexOf_4cfef 37 = .ok (.iload_n 1, 1) := by decide +kernel
theorem dJ2_indexOf_4cfef_38 : decode cJ2_indexOf_4cfef 38 = .ok (.iload_n 2, 1) := by decide +kernel
theorem dJ2_indexOf_4cfef_39 : decode cJ2_indexOf_4cfef 39 = .ok (.iload_n 3, 1) := by decide +kernel
theorem dJ2_indexOf_4cfef_40 : decode cJ2_indexOf_4cfef 40 = .ok (.invokestatic 232, 3) := by decide +kernel
theorem dJ2_indexOf_4cfef_43 : decode cJ2_indexOf_4cfef 43 = .ok (.ireturn, 1) := by decide +kernel
theorem dJ2_indexOfChar_4cfef_0 : decode cJ2_indexOfChar_4cfef 0 = .ok (.iload_n 2, 1) := by decide +kernel
theorem dJ2_indexOfChar_4cfef_1 : decode cJ2_indexOfChar_4cfef 1 = .ok (.iload_n 3, 1) := by decide +kernel
theorem dJ2_indexOfChar_4cfef_2 : decode cJ2_indexOfChar_4cfef 2 = .ok (.aload_n 0, 1) := by decide +kernel
theorem dJ2_indexOfChar_4cfef_3 : decode cJ2_indexOfChar_4cfef 3 = .ok (.invokestatic 96, 3) := by decide +kernel
theorem dJ2_indexOfChar_4cfef_6 : decode cJ2_indexOfChar_4cfef 6 = .ok (.aload_n 0, 1) := by decide +kernel
theorem dJ2_indexOfChar_4cfef_7 : decode cJ2_indexOfChar_4cfef 7 = .ok (.iload_n 1, 1) := by decide +kernel
theorem dJ2_indexOfChar_4cfef_8 : decode cJ2_indexOfChar_4cfef 8 = .ok (.iload_n 2, 1) := by decide +kernel
theorem dJ2_indexOfChar_4cfef_9 : decode cJ2_indexOfChar_4cfef 9 = .ok (.iload_n 3, 1) := by decide +kernel
theorem dJ2_indexOfChar_4cfef_10 : decode cJ2_indexOfChar_4cfef 10 = .ok (.invokestatic 244, 3) := by decide +kernel
theorem dJ2_indexOfChar_4cfef_13 : decode cJ2_indexOfChar_4cfef 13 = .ok (.ireturn, 1) := by decide +kernel
theorem dJ2_indexOfCharUnsafe_4cfef_0 : decode cJ2_indexOfCharUnsafe_4cfef 0 = .ok (.iload_n 2, 1) := by decide +kernel
theorem dJ2_indexOfCharUnsafe_4cfef_1 : decode cJ2_indexOfCharUnsafe_4cfef 1 = .ok (.istore 4, 2) := by decide +kernel
theorem dJ2_indexOfCharUnsafe_4cfef_3 : decode cJ2_indexOfCharUnsafe_4cfef 3 = .ok (.iload 4, 2) := by decide +kernel
theorem dJ2_indexOfCharUnsafe_4cfef_5 : decode cJ2_indexOfCharUnsafe_4cfef 5 = .ok (.iload_n 3, 1) := by decide +kernel
theorem dJ2_indexOfCharUnsafe_4cfef_6 : decode cJ2_indexOfCharUnsafe_4cfef 6 = .ok (.if_icmp .ge 22, 3) := by decide +kernel
theorem dJ2_indexOfCharUnsafe_4cfef_9 : decode cJ2_indexOfCharUnsafe_4cfef 9 = .ok (.aload_n 0, 1) := by decide +kernel
theorem dJ2_indexOfCharUnsafe_4cfef_10 : decode cJ2_indexOfCharUnsafe_4cfef 10 = .ok (.iload 4, 2) := by decide +kernel
theorem dJ2_indexOfCharUnsafe_4cfef_12 : decode cJ2_indexOfCharUnsafe_4cfef 12 = .ok (.invokestatic 71, 3) := by decide +kernel
theorem dJ2_indexOfCharUnsafe_4cfef_15 : decode cJ2_indexOfCharUnsafe_4cfef 15 = .ok (.iload_n 1, 1) := by decide +kernel
theorem dJ2_indexOfCharUnsafe_4cfef_16 : decode cJ2_indexOfCharUnsafe_4cfef 16 = .ok (.if_icmp .ne 6, 3) := by decide +kernel
theorem dJ2_indexOfCharUnsafe_4cfef_19 : decode cJ2_indexOfCharUnsafe_4cfef 19 = .ok (.iload 4, 2) := by decide +kernel
theorem dJ2_indexOfCharUnsafe_4cfef_21 : decode cJ2_indexOfCharUnsafe_4cfef 21 = .ok (.ireturn, 1) := by decide +kernel
theorem dJ2_indexOfCharUnsafe_4cfef_22 : decode cJ2_indexOfCharUnsafe_4cfef 22 = .ok (.iinc 4 1, 3) := by decide +kernel
theorem dJ2_indexOfCharUnsafe_4cfef_25 : decode cJ2_indexOfCharUnsafe_4cfef 25 = .ok (.goto (-22), 3) := by decide +kernel
theorem dJ2_indexOfCharUnsafe_4cfef_28 : decode cJ2_indexOfCharUnsafe_4cfef 28 = .ok (.iconst (-1), 1) := by decide +kernel
theorem dJ2_indexOfCharUnsafe_4cfef_29 : decode cJ2_indexOfCharUnsafe_4cfef 29 = .ok (.ireturn, 1) := by decide +kernel
theorem dJ2_indexOfSupplementary_4cfef_0 : decode cJ2_indexOfSupplementary_4cfef 0 = .ok (.iload_n 1, 1) := by decide +kernel
theorem dJ2_indexOfSupplementary_4cfef_1 : decode cJ2_indexOfSupplementary_4cfef 1 = .ok (.invokestatic 164, 3) := by decide +kernel
theorem dJ2_indexOfSupplementary_4cfef_4 : decode cJ2_indexOfSupplementary_4cfef 4 = .ok (.ifCond .eq 65, 3) := by decide +kernel
theorem dJ2_indexOfSupplementary_4cfef_7 : decode cJ2_indexOfSupplementary_4cfef 7 = .ok (.iload_n 1, 1) := by decide +kernel
theorem dJ2_indexOfSupplementary_4cfef_8 : decode cJ2_indexOfSupplementary_4cfef 8 = .ok (.invokestatic 157, 3) := by decide +kernel
theorem dJ2_indexOfSupplementary_4cfef_11 : decode cJ2_indexOfSupplementary_4cfef 11 = .ok (.istore 4, 2) := by decide +kernel
theorem dJ2_indexOfSupplementary_4cfef_13 : decode cJ2_indexOfSupplementary_4cfef 13 = .ok (.iload_n 1, 1) := by decide +kernel
theorem dJ2_indexOfSupplementary_4cfef_14 : decode cJ2_indexOfSupplementary_4cfef 14 = .ok (.invokestatic 161, 3) := by decide +kernel
theorem dJ2_indexOfSupplementary_4cfef_17 : decode cJ2_indexOfSupplementary_4cfef 17 = .ok (.istore 5, 2) := by decide +kernel
theorem dJ2_indexOfSupplementary_4cfef_19 : decode cJ2_indexOfSupplementary_4cfef 19 = .ok (.iload_n 2, 1) := by decide +kernel
theorem dJ2_indexOfSupplementary_4cfef_20 : decode cJ2_indexOfSupplementary_4cfef 20 = .ok (.iload_n 3, 1) := by decide +kernel
theorem dJ2_indexOfSupplementary_4cfef_21 : decode cJ2_indexOfSupplementary_4cfef 21 = .ok (.aload_n 0, 1) := by decide +kernel
theorem dJ2_indexOfSupplementary_4cfef_22 : decode cJ2_indexOfSupplementary_4cfef 22 = .ok (.invokestatic 96, 3) := by decide +kernel
theorem dJ2_indexOfSupplementary_4cfef_25 : decode cJ2_indexOfSupplementary_4cfef 25 = .ok (.iload_n 2, 1) := by decide +kernel
theorem dJ2_indexOfSupplementary_4cfef_26 : decode cJ2_indexOfSupplementary_4cfef 26 = .ok (.istore 6, 2) := by decide +kernel
theorem dJ2_indexOfSupplementary_4cfef_28 : decode cJ2_indexOfSupplementary_4cfef 28 = .ok (.iload 6, 2) := by decide +kernel
theorem dJ2_indexOfSupplementary_4cfef_30 : decode cJ2_indexOfSupplementary_4cfef 30 = .ok (.iload_n 3, 1) := by decide +kernel
theorem dJ2_indexOfSupplementary_4cfef_31 : decode cJ2_indexOfSupplementary_4cfef 31 = .ok (.iconst 1, 1) := by decide +kernel
theorem dJ2_indexOfSupplementary_4cfef_32 : decode cJ2_indexOfSupplementary_4cfef 32 = .ok (.isub, 1) := by decide +kernel
theorem dJ2_indexOfSupplementary_4cfef_33 : decode cJ2_indexOfSupplementary_4cfef 33 = .ok (.if_icmp .ge 36, 3) := by decide +kernel
theorem dJ2_indexOfSupplementary_4cfef_36 : decode cJ2_indexOfSupplementary_4cfef 36 = .ok (.aload_n 0, 1) := by decide +kernel
theorem dJ2_indexOfSupplementary_4cfef_37 : decode cJ2_indexOfSupplementary_4cfef 37 = .ok (.iload 6, 2) := by decide +kernel
theorem dJ2_indexOfSupplementary_4cfef_39 : decode cJ2_indexOfSupplementary_4cfef 39 = .ok (.invokestatic 71, 3) := by decide +kernel
theorem dJ2_indexOfSupplementary_4cfef_42 : decode cJ2_indexOfSupplementary_4cfef 42 = .ok (.iload 4, 2) := by decide +kernel
theorem dJ2_indexOfSupplementary_4cfef_44 : decode cJ2_indexOfSupplementary_4cfef 44 = .ok (.if_icmp .ne 19, 3) := by decide +kernel
theorem dJ2_indexOfSupplementary_4cfef_47 : decode cJ2_indexOfSupplementary_4cfef 47 = .ok (.aload_n 0, 1) := by decide +kernel
theorem dJ2_indexOfSupplementary_4cfef_48 : decode cJ2_indexOfSupplementary_4cfef 48 = .ok (.iload 6, 2) := by decide +kernel
theorem dJ2_indexOfSupplementary_4cfef_50 : decode cJ2_indexOfSupplementary_4cfef 50 = .ok (.iconst 1, 1) := by decide +kernel
theorem dJ2_indexOfSupplementary_4cfef_51 : decode cJ2_indexOfSupplementary_4cfef 51 = .ok (.iadd, 1) := by decide +kernel
theorem dJ2_indexOfSupplementary_4cfef_52 : decode cJ2_indexOfSupplementary_4cfef 52 = .ok (.invokestatic 71, 3) := by decide +kernel
theorem dJ2_indexOfSupplementary_4cfef_55 : decode cJ2_indexOfSupplementary_4cfef 55 = .ok (.iload 5, 2) := by decide +kernel
theorem dJ2_indexOfSupplementary_4cfef_57 : decode cJ2_indexOfSupplementary_4cfef 57 = .ok (.if_icmp .ne 6, 3) := by decide +kernel
theorem dJ2_indexOfSupplementary_4cfef_60 : decode cJ2_indexOfSupplementary_4cfef 60 = .ok (.iload 6, 2) := by decide +kernel
theorem dJ2_indexOfSupplementary_4cfef_62 : decode cJ2_indexOfSupplementary_4cfef 62 = .ok (.ireturn, 1) := by decide +kernel
theorem dJ2_indexOfSupplementary_4cfef_63 : decode cJ2_indexOfSupplementary_4cfef 63 = .ok (.iinc 6 1, 3) := by decide +kernel
theorem dJ2_indexOfSupplementary_4cfef_66 : decode cJ2_indexOfSupplementary_4cfef 66 = .ok (.goto (-38), 3) := by decide +kernel
theorem dJ2_indexOfSupplementary_4cfef_69 : decode cJ2_indexOfSupplementary_4cfef 69 = .ok (.iconst (-1), 1) := by decide +kernel
theorem dJ2_indexOfSupplementary_4cfef_70 : decode cJ2_indexOfSupplementary_4cfef 70 = .ok (.ireturn, 1) := by decide +kernel
theorem dJ2_checkBoundsBeginEnd_d044e_0 : decode cJ2_checkBoundsBeginEnd_d044e 0 = .ok (.iload_n 0, 1) := by decide +kernel
theorem dJ2_checkBoundsBeginEnd_d044e_1 : decode cJ2_checkBoundsBeginEnd_d044e 1 = .ok (.iload_n 1, 1) := by decide +kernel
theorem dJ2_checkBoundsBeginEnd_d044e_2 : decode cJ2_checkBoundsBeginEnd_d044e 2 = .ok (.aload_n 2, 1) := by decide +kernel
theorem dJ2_checkBoundsBeginEnd_d044e_3 : decode cJ2_checkBoundsBeginEnd_d044e 3 = .ok (.invokestatic 48, 3) := by decide +kernel
theorem dJ2_checkBoundsBeginEnd_d044e_6 : decode cJ2_checkBoundsBeginEnd_d044e 6 = .ok (.invokestatic 241, 3) := by decide +kernel
theorem dJ2_checkBoundsBeginEnd_d044e_9 : decode cJ2_checkBoundsBeginEnd_d044e 9 = .ok (.return_, 1) := by decide +kernel
theorem dJ3_checkFromToIndex_8c36e_0 : decode cJ3_checkFromToIndex_8c36e 0 = .ok (.iload_n 0, 1) := by decide +kernel
theorem dJ3_checkFromToIndex_8c36e_1 : decode cJ3_checkFromToIndex_8c36e 1 = .ok (.ifCond .lt 13, 3) := by decide +kernel
theorem dJ3_checkFromToIndex_8c36e_4 : decode cJ3_checkFromToIndex_8c36e 4 = .ok (.iload_n 0, 1) := by decide +kernel
theorem dJ3_checkFromToIndex_8c36e_5 : decode cJ3_checkFromToIndex_8c36e 5 = .ok (.iload_n 1, 1) := by decide +kernel
theorem dJ3_checkFromToIndex_8c36e_6 : decode cJ3_checkFromToIndex_8c36e 6 = .ok (.if_icmp .gt 8, 3) := by decide +kernel
theorem dJ3_checkFromToIndex_8c36e_9 : decode cJ3_checkFromToIndex_8c36e 9 = .ok (.iload_n 1, 1) := by decide +kernel
theorem dJ3_checkFromToIndex_8c36e_10 : decode cJ3_checkFromToIndex_8c36e 10 = .ok (.iload_n 2, 1) := by decide +kernel
theorem dJ3_checkFromToIndex_8c36e_11 : decode cJ3_checkFromToIndex_8c36e 11 = .ok (.if_icmp .le 11, 3) := by decide +kernel
theorem dJ3_checkFromToIndex_8c36e_14 : decode cJ3_checkFromToIndex_8c36e 14 = .ok (.aload_n 3, 1) := by decide +kernel
theorem dJ3_checkFromToIndex_8c36e_15 : decode cJ3_checkFromToIndex_8c36e 15 = .ok (.iload_n 0, 1) := by decide +kernel
theorem dJ3_checkFromToIndex_8c36e_16 : decode cJ3_checkFromToIndex_8c36e 16 = .ok (.iload_n 1, 1) := by decide +kernel
theorem dJ3_checkFromToIndex_8c36e_17 : decode cJ3_checkFromToIndex_8c36e 17 = .ok (.iload_n 2, 1) := by decide +kernel
theorem dJ3_checkFromToIndex_8c36e_18 : decode cJ3_checkFromToIndex_8c36e 18 = .ok (.invokestatic 99, 3) := by decide +kernel
theorem dJ3_checkFromToIndex_8c36e_21 : decode cJ3_checkFromToIndex_8c36e 21 = .ok (.athrow, 1) := by decide +kernel
theorem dJ3_checkFromToIndex_8c36e_22 : decode cJ3_checkFromToIndex_8c36e 22 = .ok (.iload_n 0, 1) := by decide +kernel
theorem dJ3_checkFromToIndex_8c36e_23 : decode cJ3_checkFromToIndex_8c36e 23 = .ok (.ireturn, 1) := by decide +kernel
end
section
/-! THE GROUND: the whole heap of the system as one function of ints, one long, and addresses; words, contexts, contracts over it -/
/-- a field: a reference to a cell (.inl), an int (.inr false), a long (.inr true) -/
abbrev gs_F : Type := Nat ⊕ Bool
/-- a cell: an array (true: of booleans) and its length, or an object: its class's place in vwCl, its fields -/
abbrev gs_S : Type := (Bool × Nat) ⊕ (Nat × List gs_F)
/-- the ints of the heap: by the cell, by the slot -/
abbrev gs_H : Type := Nat → Nat → Int32
/-- the class of int arrays, of boolean arrays; the cells' addresses; classes and slots; the address of the text of kinds, of its bytes -/
abbrev gs_E : Type := ClassId × ClassId × (Nat → Nat) × va_G × Nat × Nat
def fI : gs_F := .inr false
def fJ : gs_F := .inr true
def fR (r : Nat) : gs_F := .inl r
def gI (n : Nat) : gs_S := .inl (false, n)
def gZ (n : Nat) : gs_S := .inl (true, n)
def gO (c : Nat) (l : List gs_F) : gs_S := .inr (c, l)
def gs_L : List gs_S := [
  gO 7 [fR 1, fR 3, fR 9, fR 22, fR 35, fR 40, fR 50, fI, fI, fI],
  gO 3 [fR 2, fI], gI 46,
  gO 4 [fR 4, fR 5, fR 6, fR 7, fI, fI, fR 8, fI, fI, fI], gI 10, gI 10, gI 6, gI 6, gZ 5,
  gO 2 [fI, fI, fI, fR 10, fR 11, fR 12, fR 13, fR 14, fR 15, fR 16, fR 17], gI 10, gI 10, gI 6, gI 6, gI 6, gZ 6, gZ 5,
  gO 6 [fI, fR 18, fR 19, fR 20, fR 21], gI 6, gI 6, gI 6, gI 6,
  gO 2 [fI, fI, fI, fR 23, fR 24, fR 25, fR 26, fR 27, fR 28, fR 29, fR 30], gI 10, gI 10, gI 6, gI 6, gI 6, gZ 6, gZ 5,
  gO 6 [fI, fR 31, fR 32, fR 33, fR 34], gI 6, gI 6, gI 6, gI 6,
  gO 5 [fR 36, fR 37, fR 38, fR 39], gI 10, gI 5, gZ 5, gI 6,
  gO 1 [fI, fI, fR 41, fI, fI, fR 42, fR 47, fR 48, fR 49, fI, fI], gI 6,
  gO 5 [fR 43, fR 44, fR 45, fR 46], gI 10, gI 5, gZ 5, gI 6, gI 6, gI 6, gI 6,
  gO 0 [fI, fI, fI, fR 51, fR 56],
  gO 5 [fR 52, fR 53, fR 54, fR 55], gI 10, gI 5, gZ 5, gI 6, gI 6,
  gO 8 [fR 58, fI, fI, fI, fI, fI, fI, fI, fI, fI, fR 59, fR 60, fR 61, fR 62, fR 63, fR 64, fR 65, fI, fR 66, fR 67, fI, fI, fR 68, fI, fI, fI, fI, fI, fI, fR 69, fR 70, fR 71, fR 72, fR 73, fJ],
  gI 46, gI 10, gI 10, gI 6, gI 6, gI 6, gI 6, gI 6, gI 5, gI 5, gI 24, gI 10, gI 6, gI 6, gI 6, gI 24]
theorem gs_Ln : gs_L.length = 74 := rfl
def gs_a (E : gs_E) (k : Nat) : Nat := E.2.2.1 k
def gs_v (E : gs_E) (f : Nat → Int32) (g : Int64) (j : Nat) (d : gs_F) : Value := match d with
  | .inl r => .ref (gs_a E r)
  | .inr false => .int (f j)
  | .inr true => .long g
def gs_cl (E : gs_E) (b : Bool) : ClassId := match b with
  | false => E.1
  | true => E.2.1
def gs_c (E : gs_E) (f : Nat → Int32) (g : Int64) (sh : gs_S) : va_E := match sh with
  | .inl q => .inl (gs_cl E q.1, q.2, .inl f)
  | .inr q => .inr (q.1, q.2.mapIdx (fun j d => gs_v E f g j d))
def gs_w (E : gs_E) (σ : gs_H) (g : Int64) : va_W := gs_L.mapIdx (fun k sh => (gs_a E k, gs_c E (σ k) g sh))
def gs_A (E : gs_E) : Nat → Prop := fun q => ∃ k, k < 74 ∧ q = gs_a E k
/-- the addresses are apart -/
def gs_J (E : gs_E) : Prop := ∀ i j, i < 74 → j < 74 → gs_a E i = gs_a E j → i = j
theorem gs_at {E : gs_E} {σ : gs_H} {g : Int64} {k : Nat} {sh : gs_S} (h : gs_L[k]? = some sh) : (gs_w E σ g)[k]? = some (gs_a E k, gs_c E (σ k) g sh) := by
  simp [gs_w, List.getElem?_mapIdx, h]
theorem gs_wat {E : gs_E} {σ : gs_H} {g : Int64} {k : Nat} {q : Nat × va_E} (h : (gs_w E σ g)[k]? = some q) : k < 74 ∧ q.1 = gs_a E k := by
  have hk : k < gs_L.length := by
    have := (List.getElem?_eq_some_iff.mp h).1
    simpa [gs_w] using this
  obtain ⟨sh, hs⟩ : ∃ sh, gs_L[k]? = some sh := ⟨_, List.getElem?_eq_getElem hk⟩
  rw [gs_at hs] at h
  cases h
  exact ⟨by rw [← gs_Ln]; exact hk, rfl⟩
theorem gs_D {E : gs_E} (hJ : gs_J E) (σ : gs_H) (g : Int64) : va_D (gs_A E) (gs_w E σ g) := by
  refine ⟨fun i j x y hi hj hxy => ?_, fun k q hk => ?_⟩
  · obtain ⟨h1, h2⟩ := gs_wat hi
    obtain ⟨h3, h4⟩ := gs_wat hj
    exact hJ i j h1 h3 (by rw [← h2, ← h4]; exact hxy)
  · obtain ⟨h1, h2⟩ := gs_wat hk
    exact ⟨k, h1, h2⟩
/-- one int changed -/
def up2 (σ : gs_H) (k j : Nat) (v : Int32) : gs_H := fun a b => if a = k ∧ b = j then v else σ a b
theorem up2_self (σ : gs_H) (k j : Nat) (v : Int32) : up2 σ k j v k = upd (σ k) j v := by
  funext b
  simp [up2, upd]
theorem up2_ne (σ : gs_H) {a k : Nat} (j : Nat) (v : Int32) (h : a ≠ k) : up2 σ k j v a = σ a := by
  funext b
  simp [up2, h]
theorem gs_set {E : gs_E} {σ : gs_H} {g : Int64} {k : Nat} {sh : gs_S} (h : gs_L[k]? = some sh) (j : Nat) (v : Int32) {e : va_E} (he : e = gs_c E (upd (σ k) j v) g sh) : (gs_w E σ g).set k (gs_a E k, e) = gs_w E (up2 σ k j v) g := by
  subst he
  have hl : k < gs_L.length := (List.getElem?_eq_some_iff.mp h).1
  apply List.ext_getElem?
  intro i
  by_cases hi : i = k
  · subst hi
    rw [List.getElem?_set_self (by simpa [gs_w] using hl), gs_at h, up2_self]
  · rw [List.getElem?_set_ne (Ne.symm hi)]
    cases hs : gs_L[i]? with
    | none => simp [gs_w, List.getElem?_mapIdx, hs]
    | some s2 => rw [gs_at hs, gs_at hs, up2_ne _ _ _ hi]
theorem gs_fset {E : gs_E} {f : Nat → Int32} {g : Int64} {l : List gs_F} {j : Nat} (v : Int32) (h : l[j]? = some fI) : (l.mapIdx (fun j d => gs_v E f g j d)).set j (.int v) = l.mapIdx (fun i d => gs_v E (upd f j v) g i d) := by
  have hl : j < l.length := (List.getElem?_eq_some_iff.mp h).1
  apply List.ext_getElem?
  intro i
  by_cases hi : i = j
  · subst hi
    rw [List.getElem?_set_self (by simpa using hl)]
    simp [List.getElem?_mapIdx, h, gs_v, fI, upd]
  · rw [List.getElem?_set_ne (Ne.symm hi)]
    simp only [List.getElem?_mapIdx]
    cases hs : l[i]? with
    | none => rfl
    | some d =>
      obtain r | b := d
      · rfl
      · cases b <;> simp [gs_v, upd, hi]
def gs_nl (sh : gs_S) : Bool := match sh with
  | .inl _ => true
  | .inr q => q.2.all (fun d => match d with | .inr true => false | _ => true)
theorem gs_nl_c {E : gs_E} {f : Nat → Int32} {sh : gs_S} (h : gs_nl sh = true) (g g' : Int64) : gs_c E f g sh = gs_c E f g' sh := by
  obtain q | q := sh
  · rfl
  · have h2 : ∀ d ∈ q.2, (match d with | (.inr true : gs_F) => false | _ => true) = true := List.all_eq_true.mp h
    show (Sum.inr (q.1, _) : va_E) = Sum.inr (q.1, _)
    congr 2
    apply List.ext_getElem?
    intro i
    simp only [List.getElem?_mapIdx]
    cases hs : q.2[i]? with
    | none => rfl
    | some d =>
      have h3 := h2 d (List.mem_of_getElem? hs)
      obtain r | b := d
      · rfl
      · cases b
        · rfl
        · simp at h3
end
section
/-! THE ROWS: contexts, contracts, an instruction a row, over gs_w -/
/-- a place in an array of n -/
abbrev inb (i : Int32) (n : Nat) : Prop := 0 ≤ i ∧ i.toNatClampNeg < n
theorem inb_vp {i : Int32} {n : Nat} (h : inb i n) : vp_in i n := fun q => q.elim (fun z => absurd h.1 (Int32.not_le.mpr z)) (fun z => absurd h.2 (Nat.not_lt.mpr z))
theorem ck_some {α : Type} {c : Prop} [Decidable c] {x : Option α} {r : α} (h : (if c then x else none) = some r) : c ∧ x = some r := by
  by_cases q : c
  · exact ⟨q, (if_pos q).symm.trans h⟩
  · exact absurd ((if_neg q).symm.trans h) (by simp)
/-- a loop: its body goes on, or leaves -/
def lp {τ ε : Type} (b : τ → Option (τ ⊕ ε)) : Nat → τ → Option ε
  | 0, _ => none
  | n + 1, s => (b s).bind fun r => match r with
    | .inl s' => lp b n s'
    | .inr e => some e
theorem lp_step {τ ε : Type} {b : τ → Option (τ ⊕ ε)} {n : Nat} {s : τ} {q : ε} (h : lp b (n + 1) s = some q) : ∃ r, b s = some r ∧ (∀ s', r = .inl s' → lp b n s' = some q) ∧ (∀ e, r = .inr e → e = q) := by
  rw [lp] at h
  obtain ⟨r, h1, h2⟩ := Option.bind_eq_some_iff.mp h
  refine ⟨r, h1, fun s' e => ?_, fun e' e => ?_⟩
  · subst e; exact h2
  · subst e; exact Option.some.inj h2
/-- what a state has beside the cells: the classes and slots, the text of the kinds, the nest's links -/
def gs_Y (E : gs_E) (U : State) : Prop := va_K E.2.2.2.1 vwCl [(E.1, .int), (E.2.1, .boolean)] U ∧ vk_R RX5 92 "blfod" E.2.2.2.2.1 U ∧ vk_S 1 [5] [[98, 108, 102, 111, 100]] (fun _ => E.2.2.2.2.1) (fun _ => E.2.2.2.2.2) (gs_A E) U U.heap ∧ va_Nw (.methodLinkNest RX0 54 yX8_swapThings "HungMobile") U ∧ va_Nw (.methodLinkNest RX2 56 yX8_swapThings "HungMobile") U
theorem gs_Y.go {E : gs_E} {s U : State} {H : Heap} {locs : List Loc} (h : gs_Y E s) (hS : va_S (gs_A E) s.heap H locs) (hU : U.heap = H) (hW : s.WarmedH U.vm) : gs_Y E U := by
  obtain ⟨h1, h2, h3, h4, h5⟩ := h
  subst hU
  exact ⟨va_K.moved hW.alike h1, h2.warm hW, (h3.moved hW.alike).kept (H1 := U.heap) (fun a ha hA => hS.2.1 a ha hA), h4.warmM hW, h5.warmM hW⟩
theorem gs_Y.calling {E : gs_E} {U : State} (h : gs_Y E U) (g : JFrame) (mk : MethodId) (a : Array Value) : gs_Y E (U.calling g mk a) := by
  obtain ⟨h1, h2, h3, h4, h5⟩ := h
  exact ⟨va_K.moved (u := U) (U := U.calling g mk a) (Vm.Alike.refl U.vm) h1, vk_R.same (u := U) (U := U.calling g mk a) rfl h2, vk_S.moved (u := U) (U := U.calling g mk a) (H := U.heap) (Vm.Alike.refl U.vm) h3, va_Nw.same rfl (u := U) (U := U.calling g mk a) rfl h4, va_Nw.same rfl (u := U) (U := U.calling g mk a) rfl h5⟩
/-- what stays while a method runs -/
def gs_X (E : gs_E) (own : String) (cc : ByteArray) (nL : Nat) (p : Program) (s : State) (m : MethodId) (args : Array Value) (meth : Method) (c : Code) : Prop :=
  p.tables.exec = Jvm.exec ∧ c.code = cc ∧ c.maxLocals = nL ∧ s.vm.findClass own = some m.cls ∧ (∀ w ∈ gs_B, w.before args s = true) ∧ gs_Y E s ∧ meth.locks = false ∧ gs_J E
/-- the machine at pc, with locals that hold lv, the stack st, the heap σ, g: comes to Q -/
def gs_W (E : gs_E) (nL : Nat) (p : Program) (l : Launch) (e : Env) (R : Room) (s : State) (m : MethodId) (args : Array Value) (below : List Frame) (meth : Method) (c : Code) (cells slots : Nat) (Q : State → Prop) (pc : Nat) (lv : List (Nat × Value)) (st : List Value) (σ : gs_H) (g : Int64) : Prop :=
  ∀ (H : Heap) (locs : List Loc) (ls : Array Slot), va_P E.2.2.2.1 vwCl (gs_w E σ g) H → va_S (gs_A E) s.heap H locs → lv_has ls nL lv → W p l e R s m args below meth c H locs cells slots Q (F0 m pc ls st)
def gs_Q (E : gs_E) (ov : Option Value) (σ : gs_H) (g : Int64) : Array Value → State → Outcome → State → Prop := fun _ st oc t => (oc = .returned ov ∧ va_P E.2.2.2.1 vwCl (gs_w E σ g) t.heap) ∧ va_F (gs_A E) st t
def gs_Pc (E : gs_E) (av : List Value) (σ : gs_H) (g : Int64) : Array Value → State → Prop := va_Pc av (fun U => va_P E.2.2.2.1 vwCl (gs_w E σ g) U.heap ∧ gs_Y E U)
def gs_rm (rm : Nat × Nat) : Room := { frames := rm.1, cells := 0, slots := 0, locals := rm.2 }
/-- a method's contract at these arguments and this heap -/
def gs_M (l : Launch) (E : gs_E) (y : MethodName) (bc : ByteArray) (nL : Nat) (ret : Option FieldType) (rm : Nat × Nat) (av : List Value) (σ : gs_H) (g : Int64) (ov : Option Value) (σ' : gs_H) (g' : Int64) : Prop :=
  gs_J E → Met l y (.code y bc nL ret :: gs_B) (gs_rm rm) (gs_Pc E av σ g) (gs_Q E ov σ' g') 0 0 (gs_A E)
abbrev gs_V (E : gs_E) (nL : Nat) (rm : Nat × Nat) (p : Program) (l : Launch) (e : Env) (s : State) (m : MethodId) (args : Array Value) (below : List Frame) (meth : Method) (c : Code) (ov : Option Value) (σ0 : gs_H) (g0 : Int64) (pc : Nat) (lv : List (Nat × Value)) (st : List Value) (σ : gs_H) (g : Int64) : Prop :=
  gs_W E nL p l e (gs_rm rm) s m args below meth c 0 0 (MQ below (gs_Q E ov σ0 g0) args s 0 0 (gs_A E)) pc lv st σ g
section GR
variable {E : gs_E} {own : String} {cc : ByteArray} {nL : Nat} {p : Program} {l : Launch} {e : Env} {R : Room} {s : State} {m : MethodId} {args : Array Value} {below : List Frame} {meth : Method} {c : Code} {cells slots : Nat} {Q : State → Prop} {pc : Nat} {lv : List (Nat × Value)} {st : List Value} {σ : gs_H} {g : Int64}
theorem x_enter {y : MethodName} {ret : Option FieldType} {rm : Nat × Nat} {av : List Value} {ov : Option Value} {σ' : gs_H} {g' : Int64} (hy : plainName y.cls = true) (hn : (lg_sl av).length ≤ nL) (hlv : lv_args 0 av = lv)
    (body : ∀ p e s m args below meth c, gs_X E y.cls cc nL p s m args meth c → meth.sig.returnType = ret → gs_W E nL p l e (gs_rm rm) s m args below meth c 0 0 (MQ below (gs_Q E ov σ' g') args s 0 0 (gs_A E)) 0 lv [] σ g) : gs_M l E y cc nL ret rm av σ g ov σ' g' := by
  intro hJ
  subst hlv
  refine Met.ofW (cc := cc) (maxL := nL) (ret := ret) hy rfl ?_
  intro p e s m args below meth c s₁ B hml hv
  obtain ⟨rfl, hP, hY⟩ := hv
  have hts := atoms_spec (ws := .code y cc nL ret :: gs_B) B.pre
  have hl := lv_entry av (n := nL) hn
  rw [lg_entry_eq]
  exact body p e s m _ below meth c ⟨B.exec, B.bytes, hml, findClass_of_methodNamed B.named, fun w hw => hts w (List.mem_cons_of_mem _ hw), hY, B.notSynchronized, hJ⟩ B.returns s.heap [] _ hP va_S.rf hl
theorem x_lv (ks : List Nat) {lv' : List (Nat × Value)} (h : lv_pick lv ks = lv') (kk : gs_W E nL p l e R s m args below meth c cells slots Q pc lv' st σ g) : gs_W E nL p l e R s m args below meth c cells slots Q pc lv st σ g :=
  fun H locs ls hP hS hL => kk H locs ls hP hS (lv_sub hL ks h)

theorem x_iconst (C : gs_X E own cc nL p s m args meth c) {n : Int} {v : Int32} (d : decode cc pc = .ok (.iconst n, 1)) (hv : Int32.ofInt n = v) (kk : gs_W E nL p l e R s m args below meth c cells slots Q (pc + 1) lv (.int v :: st) σ g) : gs_W E nL p l e R s m args below meth c cells slots Q pc lv st σ g :=
  fun H locs ls hP hS hL => lv_iconst C.1 C.2.1 d hv (kk H locs ls hP hS hL)
theorem x_bipush (C : gs_X E own cc nL p s m args meth c) {n : Int} {v : Int32} (d : decode cc pc = .ok (.bipush n, 2)) (hv : (Int8.ofInt n).toInt32 = v) (kk : gs_W E nL p l e R s m args below meth c cells slots Q (pc + 2) lv (.int v :: st) σ g) : gs_W E nL p l e R s m args below meth c cells slots Q pc lv st σ g :=
  fun H locs ls hP hS hL => lv_bipush C.1 C.2.1 d hv (kk H locs ls hP hS hL)
theorem x_sipush (C : gs_X E own cc nL p s m args meth c) {n : Int} {v : Int32} (d : decode cc pc = .ok (.sipush n, 3)) (hv : (Int16.ofInt n).toInt32 = v) (kk : gs_W E nL p l e R s m args below meth c cells slots Q (pc + 3) lv (.int v :: st) σ g) : gs_W E nL p l e R s m args below meth c cells slots Q pc lv st σ g :=
  fun H locs ls hP hS hL => lv_sipush C.1 C.2.1 d hv (kk H locs ls hP hS hL)
theorem x_lconst (C : gs_X E own cc nL p s m args meth c) {n : Fin 2} {v : Int64} (d : decode cc pc = .ok (.lconst n, 1)) (hv : Int64.ofNat (n : Nat) = v) (kk : gs_W E nL p l e R s m args below meth c cells slots Q (pc + 1) lv (.long v :: st) σ g) : gs_W E nL p l e R s m args below meth c cells slots Q pc lv st σ g :=
  fun H locs ls hP hS hL => lv_lconst C.1 C.2.1 d hv (kk H locs ls hP hS hL)
theorem x_ldc (C : gs_X E own cc nL p s m args meth c) {i : Nat} {v : Int32} (hw : Cond.constant own i v ∈ gs_B) (d : decode cc pc = .ok (.ldc i, 2)) (kk : gs_W E nL p l e R s m args below meth c cells slots Q (pc + 2) lv (.int v :: st) σ g) : gs_W E nL p l e R s m args below meth c cells slots Q pc lv st σ g :=
  fun H locs ls hP hS hL => lv_ldc C.1 C.2.1 C.2.2.2.1 (C.2.2.2.2.1 _ hw) d (kk H locs ls hP hS hL)
theorem x_ldc2 (C : gs_X E own cc nL p s m args meth c) {i : Nat} {v : Int64} (hw : Cond.constantLong own i v ∈ gs_B) (d : decode cc pc = .ok (.ldc2_w i, 3)) (kk : gs_W E nL p l e R s m args below meth c cells slots Q (pc + 3) lv (.long v :: st) σ g) : gs_W E nL p l e R s m args below meth c cells slots Q pc lv st σ g :=
  fun H locs ls hP hS hL => lv_ldc2 C.1 C.2.1 C.2.2.2.1 (C.2.2.2.2.1 _ hw) d (kk H locs ls hP hS hL)
theorem x_iload_n (C : gs_X E own cc nL p s m args meth c) {k : Fin 4} {i : Nat} {x : Int32} (d : decode cc pc = .ok (.iload_n k, 1)) (hi : (k : Nat) = i) (q : Nat) (hq : lv[q]? = some (i, .int x)) (kk : gs_W E nL p l e R s m args below meth c cells slots Q (pc + 1) lv (.int x :: st) σ g) : gs_W E nL p l e R s m args below meth c cells slots Q pc lv st σ g :=
  fun H locs ls hP hS hL => lv_iload_n C.1 C.2.1 d hi (lv_at hL q hq) (kk H locs ls hP hS hL)
theorem x_iload (C : gs_X E own cc nL p s m args meth c) {i : Nat} {x : Int32} (d : decode cc pc = .ok (.iload i, 2)) (q : Nat) (hq : lv[q]? = some (i, .int x)) (kk : gs_W E nL p l e R s m args below meth c cells slots Q (pc + 2) lv (.int x :: st) σ g) : gs_W E nL p l e R s m args below meth c cells slots Q pc lv st σ g :=
  fun H locs ls hP hS hL => lv_iload C.1 C.2.1 d (lv_at hL q hq) (kk H locs ls hP hS hL)
theorem x_istore_n (C : gs_X E own cc nL p s m args meth c) {k : Fin 4} {i : Nat} {x : Int32} {lv1 lv2 : List (Nat × Value)} (d : decode cc pc = .ok (.istore_n k, 1)) (hi : (k : Nat) = i) (hn : i < nL) (h1 : (i, Value.int x) :: lv.filter (fun q => !(q.1 == i) && !(q.1 + 1 == i && q.2.category == 2)) = lv1) (ks : List Nat) (h2 : lv_pick lv1 ks = lv2) (kk : gs_W E nL p l e R s m args below meth c cells slots Q (pc + 1) lv2 st σ g) : gs_W E nL p l e R s m args below meth c cells slots Q pc lv (.int x :: st) σ g :=
  fun H locs ls hP hS hL => lv_istore_n C.1 C.2.1 d hi hL hn h1 (fun ls2 hL2 => kk H locs ls2 hP hS (lv_sub hL2 ks h2))
theorem x_istore (C : gs_X E own cc nL p s m args meth c) {i : Nat} {x : Int32} {lv1 lv2 : List (Nat × Value)} (d : decode cc pc = .ok (.istore i, 2)) (hn : i < nL) (h1 : (i, Value.int x) :: lv.filter (fun q => !(q.1 == i) && !(q.1 + 1 == i && q.2.category == 2)) = lv1) (ks : List Nat) (h2 : lv_pick lv1 ks = lv2) (kk : gs_W E nL p l e R s m args below meth c cells slots Q (pc + 2) lv2 st σ g) : gs_W E nL p l e R s m args below meth c cells slots Q pc lv (.int x :: st) σ g :=
  fun H locs ls hP hS hL => lv_istore C.1 C.2.1 d hL hn h1 (fun ls2 hL2 => kk H locs ls2 hP hS (lv_sub hL2 ks h2))
theorem x_lload_n (C : gs_X E own cc nL p s m args meth c) {k : Fin 4} {i : Nat} {x : Int64} (d : decode cc pc = .ok (.lload_n k, 1)) (hi : (k : Nat) = i) (q : Nat) (hq : lv[q]? = some (i, .long x)) (kk : gs_W E nL p l e R s m args below meth c cells slots Q (pc + 1) lv (.long x :: st) σ g) : gs_W E nL p l e R s m args below meth c cells slots Q pc lv st σ g :=
  fun H locs ls hP hS hL => lv_lload_n C.1 C.2.1 d hi (lv_at hL q hq) (kk H locs ls hP hS hL)
theorem x_lload (C : gs_X E own cc nL p s m args meth c) {i : Nat} {x : Int64} (d : decode cc pc = .ok (.lload i, 2)) (q : Nat) (hq : lv[q]? = some (i, .long x)) (kk : gs_W E nL p l e R s m args below meth c cells slots Q (pc + 2) lv (.long x :: st) σ g) : gs_W E nL p l e R s m args below meth c cells slots Q pc lv st σ g :=
  fun H locs ls hP hS hL => lv_lload C.1 C.2.1 d (lv_at hL q hq) (kk H locs ls hP hS hL)
theorem x_lstore_n (C : gs_X E own cc nL p s m args meth c) {k : Fin 4} {i : Nat} {x : Int64} {lv1 lv2 : List (Nat × Value)} (d : decode cc pc = .ok (.lstore_n k, 1)) (hi : (k : Nat) = i) (hn : i + 1 < nL) (h1 : (i, Value.long x) :: lv.filter (fun q => !(q.1 == i) && (!(q.1 == i + 1) && !(q.1 + 1 == i && q.2.category == 2))) = lv1) (ks : List Nat) (h2 : lv_pick lv1 ks = lv2) (kk : gs_W E nL p l e R s m args below meth c cells slots Q (pc + 1) lv2 st σ g) : gs_W E nL p l e R s m args below meth c cells slots Q pc lv (.long x :: st) σ g :=
  fun H locs ls hP hS hL => lv_lstore_n C.1 C.2.1 d hi hL hn h1 (fun ls2 hL2 => kk H locs ls2 hP hS (lv_sub hL2 ks h2))
theorem x_lstore (C : gs_X E own cc nL p s m args meth c) {i : Nat} {x : Int64} {lv1 lv2 : List (Nat × Value)} (d : decode cc pc = .ok (.lstore i, 2)) (hn : i + 1 < nL) (h1 : (i, Value.long x) :: lv.filter (fun q => !(q.1 == i) && (!(q.1 == i + 1) && !(q.1 + 1 == i && q.2.category == 2))) = lv1) (ks : List Nat) (h2 : lv_pick lv1 ks = lv2) (kk : gs_W E nL p l e R s m args below meth c cells slots Q (pc + 2) lv2 st σ g) : gs_W E nL p l e R s m args below meth c cells slots Q pc lv (.long x :: st) σ g :=
  fun H locs ls hP hS hL => lv_lstore C.1 C.2.1 d hL hn h1 (fun ls2 hL2 => kk H locs ls2 hP hS (lv_sub hL2 ks h2))
theorem x_aload_n (C : gs_X E own cc nL p s m args meth c) {k : Fin 4} {i : Nat} {x : Nat} (d : decode cc pc = .ok (.aload_n k, 1)) (hi : (k : Nat) = i) (q : Nat) (hq : lv[q]? = some (i, .ref x)) (kk : gs_W E nL p l e R s m args below meth c cells slots Q (pc + 1) lv (.ref x :: st) σ g) : gs_W E nL p l e R s m args below meth c cells slots Q pc lv st σ g :=
  fun H locs ls hP hS hL => lv_aload_n C.1 C.2.1 d hi (lv_at hL q hq) (kk H locs ls hP hS hL)
theorem x_aload (C : gs_X E own cc nL p s m args meth c) {i : Nat} {x : Nat} (d : decode cc pc = .ok (.aload i, 2)) (q : Nat) (hq : lv[q]? = some (i, .ref x)) (kk : gs_W E nL p l e R s m args below meth c cells slots Q (pc + 2) lv (.ref x :: st) σ g) : gs_W E nL p l e R s m args below meth c cells slots Q pc lv st σ g :=
  fun H locs ls hP hS hL => lv_aload C.1 C.2.1 d (lv_at hL q hq) (kk H locs ls hP hS hL)
theorem x_astore_n (C : gs_X E own cc nL p s m args meth c) {k : Fin 4} {i : Nat} {x : Nat} {lv1 lv2 : List (Nat × Value)} (d : decode cc pc = .ok (.astore_n k, 1)) (hi : (k : Nat) = i) (hn : i < nL) (h1 : (i, Value.ref x) :: lv.filter (fun q => !(q.1 == i) && !(q.1 + 1 == i && q.2.category == 2)) = lv1) (ks : List Nat) (h2 : lv_pick lv1 ks = lv2) (kk : gs_W E nL p l e R s m args below meth c cells slots Q (pc + 1) lv2 st σ g) : gs_W E nL p l e R s m args below meth c cells slots Q pc lv (.ref x :: st) σ g :=
  fun H locs ls hP hS hL => lv_astore_n C.1 C.2.1 d hi hL hn h1 (fun ls2 hL2 => kk H locs ls2 hP hS (lv_sub hL2 ks h2))
theorem x_astore (C : gs_X E own cc nL p s m args meth c) {i : Nat} {x : Nat} {lv1 lv2 : List (Nat × Value)} (d : decode cc pc = .ok (.astore i, 2)) (hn : i < nL) (h1 : (i, Value.ref x) :: lv.filter (fun q => !(q.1 == i) && !(q.1 + 1 == i && q.2.category == 2)) = lv1) (ks : List Nat) (h2 : lv_pick lv1 ks = lv2) (kk : gs_W E nL p l e R s m args below meth c cells slots Q (pc + 2) lv2 st σ g) : gs_W E nL p l e R s m args below meth c cells slots Q pc lv (.ref x :: st) σ g :=
  fun H locs ls hP hS hL => lv_astore C.1 C.2.1 d hL hn h1 (fun ls2 hL2 => kk H locs ls2 hP hS (lv_sub hL2 ks h2))
theorem x_ldcw (C : gs_X E own cc nL p s m args meth c) {i : Nat} {v : Int32} (hw : Cond.constant own i v ∈ gs_B) (d : decode cc pc = .ok (.ldc_w i, 3)) (kk : gs_W E nL p l e R s m args below meth c cells slots Q (pc + 3) lv (.int v :: st) σ g) : gs_W E nL p l e R s m args below meth c cells slots Q pc lv st σ g :=
  fun H locs ls hP hS hL => lv_ldcw C.1 C.2.1 C.2.2.2.1 (C.2.2.2.2.1 _ hw) d (kk H locs ls hP hS hL)
theorem x_iushr (C : gs_X E own cc nL p s m args meth c) {x y : Int32} (d : decode cc pc = .ok (.iushr, 1)) (kk : gs_W E nL p l e R s m args below meth c cells slots Q (pc + 1) lv (.int (x.toUInt32 >>> (y.toUInt32 &&& Int32.toUInt32 31)).toInt32 :: st) σ g) : gs_W E nL p l e R s m args below meth c cells slots Q pc lv (.int y :: .int x :: st) σ g :=
  fun H locs ls hP hS hL => lv_iushr C.1 C.2.1 d rfl (kk H locs ls hP hS hL)
theorem x_iinc (C : gs_X E own cc nL p s m args meth c) {i : Nat} {n : Int} {x v : Int32} {lv1 lv2 : List (Nat × Value)} (d : decode cc pc = .ok (.iinc i n, 3)) (q : Nat) (hq : lv[q]? = some (i, .int x)) (hv : x + Int32.ofInt n = v) (hn : i < nL) (h1 : (i, Value.int v) :: lv.filter (fun q => !(q.1 == i) && !(q.1 + 1 == i && q.2.category == 2)) = lv1) (ks : List Nat) (h2 : lv_pick lv1 ks = lv2) (kk : gs_W E nL p l e R s m args below meth c cells slots Q (pc + 3) lv2 st σ g) : gs_W E nL p l e R s m args below meth c cells slots Q pc lv st σ g :=
  fun H locs ls hP hS hL => lv_iinc C.1 C.2.1 d hL hq hv hn h1 (fun ls2 hL2 => kk H locs ls2 hP hS (lv_sub hL2 ks h2))
theorem x_iadd (C : gs_X E own cc nL p s m args meth c) {x y : Int32} (d : decode cc pc = .ok (.iadd, 1)) (kk : gs_W E nL p l e R s m args below meth c cells slots Q (pc + 1) lv (.int (x + y) :: st) σ g) : gs_W E nL p l e R s m args below meth c cells slots Q pc lv (.int y :: .int x :: st) σ g :=
  fun H locs ls hP hS hL => lv_iadd C.1 C.2.1 d (kk H locs ls hP hS hL)
theorem x_isub (C : gs_X E own cc nL p s m args meth c) {x y : Int32} (d : decode cc pc = .ok (.isub, 1)) (kk : gs_W E nL p l e R s m args below meth c cells slots Q (pc + 1) lv (.int (x - y) :: st) σ g) : gs_W E nL p l e R s m args below meth c cells slots Q pc lv (.int y :: .int x :: st) σ g :=
  fun H locs ls hP hS hL => lv_isub C.1 C.2.1 d (kk H locs ls hP hS hL)
theorem x_imul (C : gs_X E own cc nL p s m args meth c) {x y : Int32} (d : decode cc pc = .ok (.imul, 1)) (kk : gs_W E nL p l e R s m args below meth c cells slots Q (pc + 1) lv (.int (x * y) :: st) σ g) : gs_W E nL p l e R s m args below meth c cells slots Q pc lv (.int y :: .int x :: st) σ g :=
  fun H locs ls hP hS hL => lv_imul C.1 C.2.1 d (kk H locs ls hP hS hL)
theorem x_iand (C : gs_X E own cc nL p s m args meth c) {x y : Int32} (d : decode cc pc = .ok (.iand, 1)) (kk : gs_W E nL p l e R s m args below meth c cells slots Q (pc + 1) lv (.int (x &&& y) :: st) σ g) : gs_W E nL p l e R s m args below meth c cells slots Q pc lv (.int y :: .int x :: st) σ g :=
  fun H locs ls hP hS hL => lv_iand C.1 C.2.1 d (kk H locs ls hP hS hL)
theorem x_ior (C : gs_X E own cc nL p s m args meth c) {x y : Int32} (d : decode cc pc = .ok (.ior, 1)) (kk : gs_W E nL p l e R s m args below meth c cells slots Q (pc + 1) lv (.int (x ||| y) :: st) σ g) : gs_W E nL p l e R s m args below meth c cells slots Q pc lv (.int y :: .int x :: st) σ g :=
  fun H locs ls hP hS hL => lv_ior C.1 C.2.1 d (kk H locs ls hP hS hL)
theorem x_ishl (C : gs_X E own cc nL p s m args meth c) {x y : Int32} (d : decode cc pc = .ok (.ishl, 1)) (kk : gs_W E nL p l e R s m args below meth c cells slots Q (pc + 1) lv (.int (x <<< (y &&& 31)) :: st) σ g) : gs_W E nL p l e R s m args below meth c cells slots Q pc lv (.int y :: .int x :: st) σ g :=
  fun H locs ls hP hS hL => lv_ishl C.1 C.2.1 d (kk H locs ls hP hS hL)
theorem x_ishr (C : gs_X E own cc nL p s m args meth c) {x y : Int32} (d : decode cc pc = .ok (.ishr, 1)) (kk : gs_W E nL p l e R s m args below meth c cells slots Q (pc + 1) lv (.int (x >>> (y &&& 31)) :: st) σ g) : gs_W E nL p l e R s m args below meth c cells slots Q pc lv (.int y :: .int x :: st) σ g :=
  fun H locs ls hP hS hL => lv_ishr C.1 C.2.1 d (kk H locs ls hP hS hL)
theorem x_idiv (C : gs_X E own cc nL p s m args meth c) {x y : Int32} (d : decode cc pc = .ok (.idiv, 1)) (hne : ¬ y = 0) (kk : gs_W E nL p l e R s m args below meth c cells slots Q (pc + 1) lv (.int (x / y) :: st) σ g) : gs_W E nL p l e R s m args below meth c cells slots Q pc lv (.int y :: .int x :: st) σ g :=
  fun H locs ls hP hS hL => lv_idiv C.1 C.2.1 d hne (kk H locs ls hP hS hL)
theorem x_irem (C : gs_X E own cc nL p s m args meth c) {x y : Int32} (d : decode cc pc = .ok (.irem, 1)) (hne : ¬ y = 0) (kk : gs_W E nL p l e R s m args below meth c cells slots Q (pc + 1) lv (.int (x - x / y * y) :: st) σ g) : gs_W E nL p l e R s m args below meth c cells slots Q pc lv (.int y :: .int x :: st) σ g :=
  fun H locs ls hP hS hL => lv_irem C.1 C.2.1 d hne (kk H locs ls hP hS hL)
theorem x_ladd (C : gs_X E own cc nL p s m args meth c) {x y : Int64} (d : decode cc pc = .ok (.ladd, 1)) (kk : gs_W E nL p l e R s m args below meth c cells slots Q (pc + 1) lv (.long (x + y) :: st) σ g) : gs_W E nL p l e R s m args below meth c cells slots Q pc lv (.long y :: .long x :: st) σ g :=
  fun H locs ls hP hS hL => lv_ladd C.1 C.2.1 d (kk H locs ls hP hS hL)
theorem x_lmul (C : gs_X E own cc nL p s m args meth c) {x y : Int64} (d : decode cc pc = .ok (.lmul, 1)) (kk : gs_W E nL p l e R s m args below meth c cells slots Q (pc + 1) lv (.long (x * y) :: st) σ g) : gs_W E nL p l e R s m args below meth c cells slots Q pc lv (.long y :: .long x :: st) σ g :=
  fun H locs ls hP hS hL => lv_lmul C.1 C.2.1 d (kk H locs ls hP hS hL)
theorem x_land (C : gs_X E own cc nL p s m args meth c) {x y : Int64} (d : decode cc pc = .ok (.land, 1)) (kk : gs_W E nL p l e R s m args below meth c cells slots Q (pc + 1) lv (.long (x &&& y) :: st) σ g) : gs_W E nL p l e R s m args below meth c cells slots Q pc lv (.long y :: .long x :: st) σ g :=
  fun H locs ls hP hS hL => lv_land C.1 C.2.1 d (kk H locs ls hP hS hL)
theorem x_lcmp (C : gs_X E own cc nL p s m args meth c) {x y : Int64} (d : decode cc pc = .ok (.lcmp, 1)) (kk : gs_W E nL p l e R s m args below meth c cells slots Q (pc + 1) lv (.int (lg_cmp x y) :: st) σ g) : gs_W E nL p l e R s m args below meth c cells slots Q pc lv (.long y :: .long x :: st) σ g :=
  fun H locs ls hP hS hL => W.lcmp C.1 C.2.1 d (kk H locs ls hP hS hL)
theorem x_ineg (C : gs_X E own cc nL p s m args meth c) {x : Int32} (d : decode cc pc = .ok (.ineg, 1)) (kk : gs_W E nL p l e R s m args below meth c cells slots Q (pc + 1) lv (.int (-x) :: st) σ g) : gs_W E nL p l e R s m args below meth c cells slots Q pc lv (.int x :: st) σ g :=
  fun H locs ls hP hS hL => lv_ineg C.1 C.2.1 d (kk H locs ls hP hS hL)
theorem x_i2l (C : gs_X E own cc nL p s m args meth c) {x : Int32} (d : decode cc pc = .ok (.i2l, 1)) (kk : gs_W E nL p l e R s m args below meth c cells slots Q (pc + 1) lv (.long x.toInt64 :: st) σ g) : gs_W E nL p l e R s m args below meth c cells slots Q pc lv (.int x :: st) σ g :=
  fun H locs ls hP hS hL => lv_i2l C.1 C.2.1 d rfl (kk H locs ls hP hS hL)
theorem x_l2i (C : gs_X E own cc nL p s m args meth c) {x : Int64} (d : decode cc pc = .ok (.l2i, 1)) (kk : gs_W E nL p l e R s m args below meth c cells slots Q (pc + 1) lv (.int x.toInt32 :: st) σ g) : gs_W E nL p l e R s m args below meth c cells slots Q pc lv (.long x :: st) σ g :=
  fun H locs ls hP hS hL => lv_l2i C.1 C.2.1 d rfl (kk H locs ls hP hS hL)
theorem x_i2c (C : gs_X E own cc nL p s m args meth c) {x : Int32} (d : decode cc pc = .ok (.i2c, 1)) (kk : gs_W E nL p l e R s m args below meth c cells slots Q (pc + 1) lv (.int (x.toUInt32 % 65536).toInt32 :: st) σ g) : gs_W E nL p l e R s m args below meth c cells slots Q pc lv (.int x :: st) σ g :=
  fun H locs ls hP hS hL => lv_i2c C.1 C.2.1 d rfl (kk H locs ls hP hS hL)
theorem x_dup (C : gs_X E own cc nL p s m args meth c) {v : Value} (d : decode cc pc = .ok (.dup, 1)) (hv : v.category = 1) (kk : gs_W E nL p l e R s m args below meth c cells slots Q (pc + 1) lv (v :: v :: st) σ g) : gs_W E nL p l e R s m args below meth c cells slots Q pc lv (v :: st) σ g :=
  fun H locs ls hP hS hL => lv_dup C.1 C.2.1 d hv (kk H locs ls hP hS hL)
theorem x_pop (C : gs_X E own cc nL p s m args meth c) {v : Value} (d : decode cc pc = .ok (.pop, 1)) (hv : v.category = 1) (kk : gs_W E nL p l e R s m args below meth c cells slots Q (pc + 1) lv st σ g) : gs_W E nL p l e R s m args below meth c cells slots Q pc lv (v :: st) σ g :=
  fun H locs ls hP hS hL => lv_pop C.1 C.2.1 d hv (kk H locs ls hP hS hL)
theorem x_if_eq (C : gs_X E own cc nL p s m args meth c) {x : Int32} {off : Int} {tgt : Nat} (d : decode cc pc = .ok (.ifCond .eq off, 3)) (ht : (pc : Int) + off = (tgt : Int)) (kt : x = 0 → gs_W E nL p l e R s m args below meth c cells slots Q tgt lv st σ g) (kf : ¬ x = 0 → gs_W E nL p l e R s m args below meth c cells slots Q (pc + 3) lv st σ g) : gs_W E nL p l e R s m args below meth c cells slots Q pc lv (.int x :: st) σ g :=
  fun H locs ls hP hS hL => lv_if_eq C.1 C.2.1 d ht (fun h => kt h H locs ls hP hS hL) (fun h => kf h H locs ls hP hS hL)
theorem x_if_eqT (C : gs_X E own cc nL p s m args meth c) {x : Int32} {off : Int} {tgt : Nat} (d : decode cc pc = .ok (.ifCond .eq off, 3)) (ht : (pc : Int) + off = (tgt : Int)) (h : x = 0) (kk : gs_W E nL p l e R s m args below meth c cells slots Q tgt lv st σ g) : gs_W E nL p l e R s m args below meth c cells slots Q pc lv (.int x :: st) σ g := x_if_eq C d ht (fun _ => kk) (fun q => absurd h (by first | exact q | exact fun z => z q))
theorem x_if_eqF (C : gs_X E own cc nL p s m args meth c) {x : Int32} {off : Int} {tgt : Nat} (d : decode cc pc = .ok (.ifCond .eq off, 3)) (ht : (pc : Int) + off = (tgt : Int)) (h : ¬ x = 0) (kk : gs_W E nL p l e R s m args below meth c cells slots Q (pc + 3) lv st σ g) : gs_W E nL p l e R s m args below meth c cells slots Q pc lv (.int x :: st) σ g := x_if_eq C d ht (fun q => absurd h (by first | exact fun z => z q | exact q)) (fun _ => kk)
theorem x_icmp_eq (C : gs_X E own cc nL p s m args meth c) {x y : Int32} {off : Int} {tgt : Nat} (d : decode cc pc = .ok (.if_icmp .eq off, 3)) (ht : (pc : Int) + off = (tgt : Int)) (kt : x = y → gs_W E nL p l e R s m args below meth c cells slots Q tgt lv st σ g) (kf : ¬ x = y → gs_W E nL p l e R s m args below meth c cells slots Q (pc + 3) lv st σ g) : gs_W E nL p l e R s m args below meth c cells slots Q pc lv (.int y :: .int x :: st) σ g :=
  fun H locs ls hP hS hL => lv_icmp_eq C.1 C.2.1 d ht (fun h => kt h H locs ls hP hS hL) (fun h => kf h H locs ls hP hS hL)
theorem x_icmp_eqT (C : gs_X E own cc nL p s m args meth c) {x y : Int32} {off : Int} {tgt : Nat} (d : decode cc pc = .ok (.if_icmp .eq off, 3)) (ht : (pc : Int) + off = (tgt : Int)) (h : x = y) (kk : gs_W E nL p l e R s m args below meth c cells slots Q tgt lv st σ g) : gs_W E nL p l e R s m args below meth c cells slots Q pc lv (.int y :: .int x :: st) σ g := x_icmp_eq C d ht (fun _ => kk) (fun q => absurd h (by first | exact q | exact fun z => z q))
theorem x_icmp_eqF (C : gs_X E own cc nL p s m args meth c) {x y : Int32} {off : Int} {tgt : Nat} (d : decode cc pc = .ok (.if_icmp .eq off, 3)) (ht : (pc : Int) + off = (tgt : Int)) (h : ¬ x = y) (kk : gs_W E nL p l e R s m args below meth c cells slots Q (pc + 3) lv st σ g) : gs_W E nL p l e R s m args below meth c cells slots Q pc lv (.int y :: .int x :: st) σ g := x_icmp_eq C d ht (fun q => absurd h (by first | exact fun z => z q | exact q)) (fun _ => kk)
theorem x_if_ne (C : gs_X E own cc nL p s m args meth c) {x : Int32} {off : Int} {tgt : Nat} (d : decode cc pc = .ok (.ifCond .ne off, 3)) (ht : (pc : Int) + off = (tgt : Int)) (kt : ¬ x = 0 → gs_W E nL p l e R s m args below meth c cells slots Q tgt lv st σ g) (kf : x = 0 → gs_W E nL p l e R s m args below meth c cells slots Q (pc + 3) lv st σ g) : gs_W E nL p l e R s m args below meth c cells slots Q pc lv (.int x :: st) σ g :=
  fun H locs ls hP hS hL => lv_if_ne C.1 C.2.1 d ht (fun h => kt h H locs ls hP hS hL) (fun h => kf h H locs ls hP hS hL)
theorem x_if_neT (C : gs_X E own cc nL p s m args meth c) {x : Int32} {off : Int} {tgt : Nat} (d : decode cc pc = .ok (.ifCond .ne off, 3)) (ht : (pc : Int) + off = (tgt : Int)) (h : ¬ x = 0) (kk : gs_W E nL p l e R s m args below meth c cells slots Q tgt lv st σ g) : gs_W E nL p l e R s m args below meth c cells slots Q pc lv (.int x :: st) σ g := x_if_ne C d ht (fun _ => kk) (fun q => absurd h (by first | exact q | exact fun z => z q))
theorem x_if_neF (C : gs_X E own cc nL p s m args meth c) {x : Int32} {off : Int} {tgt : Nat} (d : decode cc pc = .ok (.ifCond .ne off, 3)) (ht : (pc : Int) + off = (tgt : Int)) (h : x = 0) (kk : gs_W E nL p l e R s m args below meth c cells slots Q (pc + 3) lv st σ g) : gs_W E nL p l e R s m args below meth c cells slots Q pc lv (.int x :: st) σ g := x_if_ne C d ht (fun q => absurd h (by first | exact fun z => z q | exact q)) (fun _ => kk)
theorem x_icmp_ne (C : gs_X E own cc nL p s m args meth c) {x y : Int32} {off : Int} {tgt : Nat} (d : decode cc pc = .ok (.if_icmp .ne off, 3)) (ht : (pc : Int) + off = (tgt : Int)) (kt : ¬ x = y → gs_W E nL p l e R s m args below meth c cells slots Q tgt lv st σ g) (kf : x = y → gs_W E nL p l e R s m args below meth c cells slots Q (pc + 3) lv st σ g) : gs_W E nL p l e R s m args below meth c cells slots Q pc lv (.int y :: .int x :: st) σ g :=
  fun H locs ls hP hS hL => lv_icmp_ne C.1 C.2.1 d ht (fun h => kt h H locs ls hP hS hL) (fun h => kf h H locs ls hP hS hL)
theorem x_icmp_neT (C : gs_X E own cc nL p s m args meth c) {x y : Int32} {off : Int} {tgt : Nat} (d : decode cc pc = .ok (.if_icmp .ne off, 3)) (ht : (pc : Int) + off = (tgt : Int)) (h : ¬ x = y) (kk : gs_W E nL p l e R s m args below meth c cells slots Q tgt lv st σ g) : gs_W E nL p l e R s m args below meth c cells slots Q pc lv (.int y :: .int x :: st) σ g := x_icmp_ne C d ht (fun _ => kk) (fun q => absurd h (by first | exact q | exact fun z => z q))
theorem x_icmp_neF (C : gs_X E own cc nL p s m args meth c) {x y : Int32} {off : Int} {tgt : Nat} (d : decode cc pc = .ok (.if_icmp .ne off, 3)) (ht : (pc : Int) + off = (tgt : Int)) (h : x = y) (kk : gs_W E nL p l e R s m args below meth c cells slots Q (pc + 3) lv st σ g) : gs_W E nL p l e R s m args below meth c cells slots Q pc lv (.int y :: .int x :: st) σ g := x_icmp_ne C d ht (fun q => absurd h (by first | exact fun z => z q | exact q)) (fun _ => kk)
theorem x_if_lt (C : gs_X E own cc nL p s m args meth c) {x : Int32} {off : Int} {tgt : Nat} (d : decode cc pc = .ok (.ifCond .lt off, 3)) (ht : (pc : Int) + off = (tgt : Int)) (kt : x < 0 → gs_W E nL p l e R s m args below meth c cells slots Q tgt lv st σ g) (kf : ¬ x < 0 → gs_W E nL p l e R s m args below meth c cells slots Q (pc + 3) lv st σ g) : gs_W E nL p l e R s m args below meth c cells slots Q pc lv (.int x :: st) σ g :=
  fun H locs ls hP hS hL => lv_if_lt C.1 C.2.1 d ht (fun h => kt h H locs ls hP hS hL) (fun h => kf h H locs ls hP hS hL)
theorem x_if_ltT (C : gs_X E own cc nL p s m args meth c) {x : Int32} {off : Int} {tgt : Nat} (d : decode cc pc = .ok (.ifCond .lt off, 3)) (ht : (pc : Int) + off = (tgt : Int)) (h : x < 0) (kk : gs_W E nL p l e R s m args below meth c cells slots Q tgt lv st σ g) : gs_W E nL p l e R s m args below meth c cells slots Q pc lv (.int x :: st) σ g := x_if_lt C d ht (fun _ => kk) (fun q => absurd h (by first | exact q | exact fun z => z q))
theorem x_if_ltF (C : gs_X E own cc nL p s m args meth c) {x : Int32} {off : Int} {tgt : Nat} (d : decode cc pc = .ok (.ifCond .lt off, 3)) (ht : (pc : Int) + off = (tgt : Int)) (h : ¬ x < 0) (kk : gs_W E nL p l e R s m args below meth c cells slots Q (pc + 3) lv st σ g) : gs_W E nL p l e R s m args below meth c cells slots Q pc lv (.int x :: st) σ g := x_if_lt C d ht (fun q => absurd h (by first | exact fun z => z q | exact q)) (fun _ => kk)
theorem x_icmp_lt (C : gs_X E own cc nL p s m args meth c) {x y : Int32} {off : Int} {tgt : Nat} (d : decode cc pc = .ok (.if_icmp .lt off, 3)) (ht : (pc : Int) + off = (tgt : Int)) (kt : x < y → gs_W E nL p l e R s m args below meth c cells slots Q tgt lv st σ g) (kf : ¬ x < y → gs_W E nL p l e R s m args below meth c cells slots Q (pc + 3) lv st σ g) : gs_W E nL p l e R s m args below meth c cells slots Q pc lv (.int y :: .int x :: st) σ g :=
  fun H locs ls hP hS hL => lv_icmp_lt C.1 C.2.1 d ht (fun h => kt h H locs ls hP hS hL) (fun h => kf h H locs ls hP hS hL)
theorem x_icmp_ltT (C : gs_X E own cc nL p s m args meth c) {x y : Int32} {off : Int} {tgt : Nat} (d : decode cc pc = .ok (.if_icmp .lt off, 3)) (ht : (pc : Int) + off = (tgt : Int)) (h : x < y) (kk : gs_W E nL p l e R s m args below meth c cells slots Q tgt lv st σ g) : gs_W E nL p l e R s m args below meth c cells slots Q pc lv (.int y :: .int x :: st) σ g := x_icmp_lt C d ht (fun _ => kk) (fun q => absurd h (by first | exact q | exact fun z => z q))
theorem x_icmp_ltF (C : gs_X E own cc nL p s m args meth c) {x y : Int32} {off : Int} {tgt : Nat} (d : decode cc pc = .ok (.if_icmp .lt off, 3)) (ht : (pc : Int) + off = (tgt : Int)) (h : ¬ x < y) (kk : gs_W E nL p l e R s m args below meth c cells slots Q (pc + 3) lv st σ g) : gs_W E nL p l e R s m args below meth c cells slots Q pc lv (.int y :: .int x :: st) σ g := x_icmp_lt C d ht (fun q => absurd h (by first | exact fun z => z q | exact q)) (fun _ => kk)
theorem x_if_ge (C : gs_X E own cc nL p s m args meth c) {x : Int32} {off : Int} {tgt : Nat} (d : decode cc pc = .ok (.ifCond .ge off, 3)) (ht : (pc : Int) + off = (tgt : Int)) (kt : 0 ≤ x → gs_W E nL p l e R s m args below meth c cells slots Q tgt lv st σ g) (kf : ¬ 0 ≤ x → gs_W E nL p l e R s m args below meth c cells slots Q (pc + 3) lv st σ g) : gs_W E nL p l e R s m args below meth c cells slots Q pc lv (.int x :: st) σ g :=
  fun H locs ls hP hS hL => lv_if_ge C.1 C.2.1 d ht (fun h => kt h H locs ls hP hS hL) (fun h => kf h H locs ls hP hS hL)
theorem x_if_geT (C : gs_X E own cc nL p s m args meth c) {x : Int32} {off : Int} {tgt : Nat} (d : decode cc pc = .ok (.ifCond .ge off, 3)) (ht : (pc : Int) + off = (tgt : Int)) (h : 0 ≤ x) (kk : gs_W E nL p l e R s m args below meth c cells slots Q tgt lv st σ g) : gs_W E nL p l e R s m args below meth c cells slots Q pc lv (.int x :: st) σ g := x_if_ge C d ht (fun _ => kk) (fun q => absurd h (by first | exact q | exact fun z => z q))
theorem x_if_geF (C : gs_X E own cc nL p s m args meth c) {x : Int32} {off : Int} {tgt : Nat} (d : decode cc pc = .ok (.ifCond .ge off, 3)) (ht : (pc : Int) + off = (tgt : Int)) (h : ¬ 0 ≤ x) (kk : gs_W E nL p l e R s m args below meth c cells slots Q (pc + 3) lv st σ g) : gs_W E nL p l e R s m args below meth c cells slots Q pc lv (.int x :: st) σ g := x_if_ge C d ht (fun q => absurd h (by first | exact fun z => z q | exact q)) (fun _ => kk)
theorem x_icmp_ge (C : gs_X E own cc nL p s m args meth c) {x y : Int32} {off : Int} {tgt : Nat} (d : decode cc pc = .ok (.if_icmp .ge off, 3)) (ht : (pc : Int) + off = (tgt : Int)) (kt : y ≤ x → gs_W E nL p l e R s m args below meth c cells slots Q tgt lv st σ g) (kf : ¬ y ≤ x → gs_W E nL p l e R s m args below meth c cells slots Q (pc + 3) lv st σ g) : gs_W E nL p l e R s m args below meth c cells slots Q pc lv (.int y :: .int x :: st) σ g :=
  fun H locs ls hP hS hL => lv_icmp_ge C.1 C.2.1 d ht (fun h => kt h H locs ls hP hS hL) (fun h => kf h H locs ls hP hS hL)
theorem x_icmp_geT (C : gs_X E own cc nL p s m args meth c) {x y : Int32} {off : Int} {tgt : Nat} (d : decode cc pc = .ok (.if_icmp .ge off, 3)) (ht : (pc : Int) + off = (tgt : Int)) (h : y ≤ x) (kk : gs_W E nL p l e R s m args below meth c cells slots Q tgt lv st σ g) : gs_W E nL p l e R s m args below meth c cells slots Q pc lv (.int y :: .int x :: st) σ g := x_icmp_ge C d ht (fun _ => kk) (fun q => absurd h (by first | exact q | exact fun z => z q))
theorem x_icmp_geF (C : gs_X E own cc nL p s m args meth c) {x y : Int32} {off : Int} {tgt : Nat} (d : decode cc pc = .ok (.if_icmp .ge off, 3)) (ht : (pc : Int) + off = (tgt : Int)) (h : ¬ y ≤ x) (kk : gs_W E nL p l e R s m args below meth c cells slots Q (pc + 3) lv st σ g) : gs_W E nL p l e R s m args below meth c cells slots Q pc lv (.int y :: .int x :: st) σ g := x_icmp_ge C d ht (fun q => absurd h (by first | exact fun z => z q | exact q)) (fun _ => kk)
theorem x_if_gt (C : gs_X E own cc nL p s m args meth c) {x : Int32} {off : Int} {tgt : Nat} (d : decode cc pc = .ok (.ifCond .gt off, 3)) (ht : (pc : Int) + off = (tgt : Int)) (kt : 0 < x → gs_W E nL p l e R s m args below meth c cells slots Q tgt lv st σ g) (kf : ¬ 0 < x → gs_W E nL p l e R s m args below meth c cells slots Q (pc + 3) lv st σ g) : gs_W E nL p l e R s m args below meth c cells slots Q pc lv (.int x :: st) σ g :=
  fun H locs ls hP hS hL => lv_if_gt C.1 C.2.1 d ht (fun h => kt h H locs ls hP hS hL) (fun h => kf h H locs ls hP hS hL)
theorem x_if_gtT (C : gs_X E own cc nL p s m args meth c) {x : Int32} {off : Int} {tgt : Nat} (d : decode cc pc = .ok (.ifCond .gt off, 3)) (ht : (pc : Int) + off = (tgt : Int)) (h : 0 < x) (kk : gs_W E nL p l e R s m args below meth c cells slots Q tgt lv st σ g) : gs_W E nL p l e R s m args below meth c cells slots Q pc lv (.int x :: st) σ g := x_if_gt C d ht (fun _ => kk) (fun q => absurd h (by first | exact q | exact fun z => z q))
theorem x_if_gtF (C : gs_X E own cc nL p s m args meth c) {x : Int32} {off : Int} {tgt : Nat} (d : decode cc pc = .ok (.ifCond .gt off, 3)) (ht : (pc : Int) + off = (tgt : Int)) (h : ¬ 0 < x) (kk : gs_W E nL p l e R s m args below meth c cells slots Q (pc + 3) lv st σ g) : gs_W E nL p l e R s m args below meth c cells slots Q pc lv (.int x :: st) σ g := x_if_gt C d ht (fun q => absurd h (by first | exact fun z => z q | exact q)) (fun _ => kk)
theorem x_icmp_gt (C : gs_X E own cc nL p s m args meth c) {x y : Int32} {off : Int} {tgt : Nat} (d : decode cc pc = .ok (.if_icmp .gt off, 3)) (ht : (pc : Int) + off = (tgt : Int)) (kt : y < x → gs_W E nL p l e R s m args below meth c cells slots Q tgt lv st σ g) (kf : ¬ y < x → gs_W E nL p l e R s m args below meth c cells slots Q (pc + 3) lv st σ g) : gs_W E nL p l e R s m args below meth c cells slots Q pc lv (.int y :: .int x :: st) σ g :=
  fun H locs ls hP hS hL => lv_icmp_gt C.1 C.2.1 d ht (fun h => kt h H locs ls hP hS hL) (fun h => kf h H locs ls hP hS hL)
theorem x_icmp_gtT (C : gs_X E own cc nL p s m args meth c) {x y : Int32} {off : Int} {tgt : Nat} (d : decode cc pc = .ok (.if_icmp .gt off, 3)) (ht : (pc : Int) + off = (tgt : Int)) (h : y < x) (kk : gs_W E nL p l e R s m args below meth c cells slots Q tgt lv st σ g) : gs_W E nL p l e R s m args below meth c cells slots Q pc lv (.int y :: .int x :: st) σ g := x_icmp_gt C d ht (fun _ => kk) (fun q => absurd h (by first | exact q | exact fun z => z q))
theorem x_icmp_gtF (C : gs_X E own cc nL p s m args meth c) {x y : Int32} {off : Int} {tgt : Nat} (d : decode cc pc = .ok (.if_icmp .gt off, 3)) (ht : (pc : Int) + off = (tgt : Int)) (h : ¬ y < x) (kk : gs_W E nL p l e R s m args below meth c cells slots Q (pc + 3) lv st σ g) : gs_W E nL p l e R s m args below meth c cells slots Q pc lv (.int y :: .int x :: st) σ g := x_icmp_gt C d ht (fun q => absurd h (by first | exact fun z => z q | exact q)) (fun _ => kk)
theorem x_if_le (C : gs_X E own cc nL p s m args meth c) {x : Int32} {off : Int} {tgt : Nat} (d : decode cc pc = .ok (.ifCond .le off, 3)) (ht : (pc : Int) + off = (tgt : Int)) (kt : x ≤ 0 → gs_W E nL p l e R s m args below meth c cells slots Q tgt lv st σ g) (kf : ¬ x ≤ 0 → gs_W E nL p l e R s m args below meth c cells slots Q (pc + 3) lv st σ g) : gs_W E nL p l e R s m args below meth c cells slots Q pc lv (.int x :: st) σ g :=
  fun H locs ls hP hS hL => lv_if_le C.1 C.2.1 d ht (fun h => kt h H locs ls hP hS hL) (fun h => kf h H locs ls hP hS hL)
theorem x_if_leT (C : gs_X E own cc nL p s m args meth c) {x : Int32} {off : Int} {tgt : Nat} (d : decode cc pc = .ok (.ifCond .le off, 3)) (ht : (pc : Int) + off = (tgt : Int)) (h : x ≤ 0) (kk : gs_W E nL p l e R s m args below meth c cells slots Q tgt lv st σ g) : gs_W E nL p l e R s m args below meth c cells slots Q pc lv (.int x :: st) σ g := x_if_le C d ht (fun _ => kk) (fun q => absurd h (by first | exact q | exact fun z => z q))
theorem x_if_leF (C : gs_X E own cc nL p s m args meth c) {x : Int32} {off : Int} {tgt : Nat} (d : decode cc pc = .ok (.ifCond .le off, 3)) (ht : (pc : Int) + off = (tgt : Int)) (h : ¬ x ≤ 0) (kk : gs_W E nL p l e R s m args below meth c cells slots Q (pc + 3) lv st σ g) : gs_W E nL p l e R s m args below meth c cells slots Q pc lv (.int x :: st) σ g := x_if_le C d ht (fun q => absurd h (by first | exact fun z => z q | exact q)) (fun _ => kk)
theorem x_icmp_le (C : gs_X E own cc nL p s m args meth c) {x y : Int32} {off : Int} {tgt : Nat} (d : decode cc pc = .ok (.if_icmp .le off, 3)) (ht : (pc : Int) + off = (tgt : Int)) (kt : x ≤ y → gs_W E nL p l e R s m args below meth c cells slots Q tgt lv st σ g) (kf : ¬ x ≤ y → gs_W E nL p l e R s m args below meth c cells slots Q (pc + 3) lv st σ g) : gs_W E nL p l e R s m args below meth c cells slots Q pc lv (.int y :: .int x :: st) σ g :=
  fun H locs ls hP hS hL => lv_icmp_le C.1 C.2.1 d ht (fun h => kt h H locs ls hP hS hL) (fun h => kf h H locs ls hP hS hL)
theorem x_icmp_leT (C : gs_X E own cc nL p s m args meth c) {x y : Int32} {off : Int} {tgt : Nat} (d : decode cc pc = .ok (.if_icmp .le off, 3)) (ht : (pc : Int) + off = (tgt : Int)) (h : x ≤ y) (kk : gs_W E nL p l e R s m args below meth c cells slots Q tgt lv st σ g) : gs_W E nL p l e R s m args below meth c cells slots Q pc lv (.int y :: .int x :: st) σ g := x_icmp_le C d ht (fun _ => kk) (fun q => absurd h (by first | exact q | exact fun z => z q))
theorem x_icmp_leF (C : gs_X E own cc nL p s m args meth c) {x y : Int32} {off : Int} {tgt : Nat} (d : decode cc pc = .ok (.if_icmp .le off, 3)) (ht : (pc : Int) + off = (tgt : Int)) (h : ¬ x ≤ y) (kk : gs_W E nL p l e R s m args below meth c cells slots Q (pc + 3) lv st σ g) : gs_W E nL p l e R s m args below meth c cells slots Q pc lv (.int y :: .int x :: st) σ g := x_icmp_le C d ht (fun q => absurd h (by first | exact fun z => z q | exact q)) (fun _ => kk)
theorem x_goto (C : gs_X E own cc nL p s m args meth c) {off : Int} {tgt : Nat} (d : decode cc pc = .ok (.goto off, 3)) (ht : (pc : Int) + off = (tgt : Int)) (kk : gs_W E nL p l e R s m args below meth c cells slots Q tgt lv st σ g) : gs_W E nL p l e R s m args below meth c cells slots Q pc lv st σ g :=
  fun H locs ls hP hS hL => lv_goto C.1 C.2.1 d ht (kk H locs ls hP hS hL)
theorem x_tsw (C : gs_X E own cc nL p s m args meth c) {dflt lo hi : Int} {offs : Array Int} {len : Nat} {x : Int32} {tgt : Nat} (d : decode cc pc = .ok (.tableswitch dflt lo hi offs, len)) (v : Int32) (hx : x = v) {off : Int} (h1 : ¬ v.toInt < lo) (h2 : ¬ hi < v.toInt) (ho : offs[(v.toInt - lo).toNat]? = some off) (ht : (pc : Int) + off = (tgt : Int)) (kk : gs_W E nL p l e R s m args below meth c cells slots Q tgt lv st σ g) : gs_W E nL p l e R s m args below meth c cells slots Q pc lv (.int x :: st) σ g := by
  subst hx
  exact fun H locs ls hP hS hL => lv_tableIn C.1 C.2.1 d h1 h2 ho ht (kk H locs ls hP hS hL)
theorem x_tswD (C : gs_X E own cc nL p s m args meth c) {dflt lo hi : Int} {offs : Array Int} {len : Nat} {x : Int32} {tgt : Nat} (d : decode cc pc = .ok (.tableswitch dflt lo hi offs, len)) (h : x.toInt < lo ∨ hi < x.toInt) (ht : (pc : Int) + dflt = (tgt : Int)) (kk : gs_W E nL p l e R s m args below meth c cells slots Q tgt lv st σ g) : gs_W E nL p l e R s m args below meth c cells slots Q pc lv (.int x :: st) σ g :=
  fun H locs ls hP hS hL => lv_tableOut C.1 C.2.1 d h ht (kk H locs ls hP hS hL)
theorem x_lsw (C : gs_X E own cc nL p s m args meth c) {dflt : Int} {ps : Array (Int × Int)} {len : Nat} {x : Int32} {off : Int} {tgt : Nat} (d : decode cc pc = .ok (.lookupswitch dflt ps, len)) (hp : (ps.toList.zip (ps.toList.drop 1)).all (fun (a, next) => a.1 < next.1) = true) (ho : Op.lookupswitch.offset ps.toList dflt x.toInt = off) (ht : (pc : Int) + off = (tgt : Int)) (kk : gs_W E nL p l e R s m args below meth c cells slots Q tgt lv st σ g) : gs_W E nL p l e R s m args below meth c cells slots Q pc lv (.int x :: st) σ g :=
  fun H locs ls hP hS hL => lv_lookup C.1 C.2.1 d hp ho ht (kk H locs ls hP hS hL)

theorem gs_fv {l : List gs_F} {j : Nat} {d : gs_F} {f : Nat → Int32} (h : l[j]? = some d) : (l.mapIdx (fun j d => gs_v E f g j d))[j]? = some (gs_v E f g j d) := by simp [List.getElem?_mapIdx, h]
theorem x_getf (C : gs_X E own cc nL p s m args meth c) {k ci : Nat} {fl : List gs_F} (hs : gs_L[k]? = some (gO ci fl)) {Cn : String} {T : u_T} {N : Nat} (hc : vwCl[ci]? = some (Cn, T, N)) (hin : ∀ w ∈ u_ws Cn T N, w ∈ gs_B) (j : Nat) (hj : j < N) {dd : gs_F} (hd : fl[j]? = some dd) {idx : Nat} (hw : Cond.fieldLink own idx Cn (T j).2.1 (T j).2.2.1 ∈ gs_B) (hC : (T j).1 = Cn) (d : decode cc pc = .ok (.getfield idx, 3)) (kk : gs_W E nL p l e R s m args below meth c cells slots Q (pc + 3) lv (gs_v E (σ k) g j dd :: st) σ g) : gs_W E nL p l e R s m args below meth c cells slots Q pc lv (.ref (gs_a E k) :: st) σ g :=
  fun H locs ls hP hS hL => va_get (D := E.2.2.2.1) (cl := vwCl) C.1 C.2.1 C.2.2.2.2.1 hin C.2.2.2.1 C.2.2.2.2.2.1.1 hP k (gs_at hs) hc j hj (C.2.2.2.2.1 _ hw) (fun x hx => by rw [hC] at hx; exact hx) (gs_fv hd) d (kk H locs ls hP hS hL)
theorem x_geti (C : gs_X E own cc nL p s m args meth c) (k : Nat) {ci : Nat} {fl : List gs_F} (hs : gs_L[k]? = some (gO ci fl)) {Cn : String} {T : u_T} {N : Nat} (hc : vwCl[ci]? = some (Cn, T, N)) (hin : ∀ w ∈ u_ws Cn T N, w ∈ gs_B) (j : Nat) (hj : j < N) (hd : fl[j]? = some fI) {idx : Nat} (hw : Cond.fieldLink own idx Cn (T j).2.1 (T j).2.2.1 ∈ gs_B) (hC : (T j).1 = Cn) {v : Int32} (hv : σ k j = v) (d : decode cc pc = .ok (.getfield idx, 3)) (kk : gs_W E nL p l e R s m args below meth c cells slots Q (pc + 3) lv (.int v :: st) σ g) : gs_W E nL p l e R s m args below meth c cells slots Q pc lv (.ref (gs_a E k) :: st) σ g := by
  subst hv
  exact x_getf C hs hc hin j hj hd hw hC d kk
theorem x_getr (C : gs_X E own cc nL p s m args meth c) (k : Nat) {ci : Nat} {fl : List gs_F} (hs : gs_L[k]? = some (gO ci fl)) {Cn : String} {T : u_T} {N : Nat} (hc : vwCl[ci]? = some (Cn, T, N)) (hin : ∀ w ∈ u_ws Cn T N, w ∈ gs_B) (j : Nat) (hj : j < N) {r : Nat} (hd : fl[j]? = some (fR r)) {idx : Nat} (hw : Cond.fieldLink own idx Cn (T j).2.1 (T j).2.2.1 ∈ gs_B) (hC : (T j).1 = Cn) (d : decode cc pc = .ok (.getfield idx, 3)) (kk : gs_W E nL p l e R s m args below meth c cells slots Q (pc + 3) lv (.ref (gs_a E r) :: st) σ g) : gs_W E nL p l e R s m args below meth c cells slots Q pc lv (.ref (gs_a E k) :: st) σ g := x_getf C hs hc hin j hj hd hw hC d kk
theorem x_getl (C : gs_X E own cc nL p s m args meth c) (k : Nat) {ci : Nat} {fl : List gs_F} (hs : gs_L[k]? = some (gO ci fl)) {Cn : String} {T : u_T} {N : Nat} (hc : vwCl[ci]? = some (Cn, T, N)) (hin : ∀ w ∈ u_ws Cn T N, w ∈ gs_B) (j : Nat) (hj : j < N) (hd : fl[j]? = some fJ) {idx : Nat} (hw : Cond.fieldLink own idx Cn (T j).2.1 (T j).2.2.1 ∈ gs_B) (hC : (T j).1 = Cn) (d : decode cc pc = .ok (.getfield idx, 3)) (kk : gs_W E nL p l e R s m args below meth c cells slots Q (pc + 3) lv (.long g :: st) σ g) : gs_W E nL p l e R s m args below meth c cells slots Q pc lv (.ref (gs_a E k) :: st) σ g := x_getf C hs hc hin j hj hd hw hC d kk
theorem x_puti (C : gs_X E own cc nL p s m args meth c) (k : Nat) {ci : Nat} {fl : List gs_F} (hs : gs_L[k]? = some (gO ci fl)) {Cn : String} {T : u_T} {N : Nat} (hc : vwCl[ci]? = some (Cn, T, N)) (hin : ∀ w ∈ u_ws Cn T N, w ∈ gs_B) (ty0 : Nat → FieldType) (hty : ∀ k, k < N → parseFieldDescriptor (T k).2.2.1 = some (ty0 k)) (hnm : ∀ a, a < N → ∀ b, b < N → a ≠ b → (T a).2.1 ≠ (T b).2.1) (j : Nat) (hj : j < N) (hd : fl[j]? = some fI) {idx : Nat} (hw : Cond.fieldLink own idx Cn (T j).2.1 (T j).2.2.1 ∈ gs_B) (hC : (T j).1 = Cn) (hF : (T j).2.2.2 = false) {v : Int32} (hn : narrow (ty0 j) (.int v) = .int v) (hfit : fits (ty0 j) (.int v) = true) (d : decode cc pc = .ok (.putfield idx, 3)) (kk : gs_W E nL p l e R s m args below meth c cells slots Q (pc + 3) lv st (up2 σ k j v) g) : gs_W E nL p l e R s m args below meth c cells slots Q pc lv (.int v :: .ref (gs_a E k) :: st) σ g := by
  intro H locs ls hP hS hL
  refine va_put (D := E.2.2.2.1) (cl := vwCl) (ty := ty0 j) C.1 C.2.1 C.2.2.2.2.1 hin ty0 hty hnm C.2.2.2.1 C.2.2.2.2.2.1.1 hP (gs_D C.2.2.2.2.2.2.2 σ g) hS k (gs_at hs) hc j hj (C.2.2.2.2.1 _ hw) (fun x hx => by rw [hC] at hx; exact hx) hF (hty j hj) hn hfit (by simpa using (List.getElem?_eq_some_iff.mp hd).1) d (fun H1 locs1 hP1 hD1 hS1 => ?_)
  rw [gs_set hs j v (by rw [gs_fset v hd]; rfl)] at hP1
  exact kk H1 locs1 ls hP1 hS1 hL
theorem x_iald (C : gs_X E own cc nL p s m args meth c) (k : Nat) {n : Nat} (hs : gs_L[k]? = some (gI n)) {i : Int32} (hi : inb i n) {v : Int32} (hv : σ k i.toNatClampNeg = v) (d : decode cc pc = .ok (.iaload, 1)) (kk : gs_W E nL p l e R s m args below meth c cells slots Q (pc + 1) lv (.int v :: st) σ g) : gs_W E nL p l e R s m args below meth c cells slots Q pc lv (.int i :: .ref (gs_a E k) :: st) σ g := by
  subst hv
  replace hi := inb_vp hi
  exact fun H locs ls hP hS hL => va_iald (D := E.2.2.2.1) (cl := vwCl) C.1 C.2.1 C.2.2.2.2.2.1.1 hP k 0 (gs_at hs) rfl hi d (kk H locs ls hP hS hL)
theorem x_zald (C : gs_X E own cc nL p s m args meth c) (k : Nat) {n : Nat} (hs : gs_L[k]? = some (gZ n)) {i : Int32} (hi : inb i n) {v : Int32} (hv : σ k i.toNatClampNeg = v) (d : decode cc pc = .ok (.baload, 1)) (kk : gs_W E nL p l e R s m args below meth c cells slots Q (pc + 1) lv (.int v :: st) σ g) : gs_W E nL p l e R s m args below meth c cells slots Q pc lv (.int i :: .ref (gs_a E k) :: st) σ g := by
  subst hv
  replace hi := inb_vp hi
  exact fun H locs ls hP hS hL => va_zald (D := E.2.2.2.1) (cl := vwCl) C.1 C.2.1 C.2.2.2.2.2.1.1 hP k 1 (gs_at hs) rfl hi d (kk H locs ls hP hS hL)
theorem x_iast (C : gs_X E own cc nL p s m args meth c) (k : Nat) {n : Nat} (hs : gs_L[k]? = some (gI n)) {i v : Int32} (hi : inb i n) (d : decode cc pc = .ok (.iastore, 1)) (kk : gs_W E nL p l e R s m args below meth c cells slots Q (pc + 1) lv st (up2 σ k i.toNatClampNeg v) g) : gs_W E nL p l e R s m args below meth c cells slots Q pc lv (.int v :: .int i :: .ref (gs_a E k) :: st) σ g := by
  intro H locs ls hP hS hL
  replace hi := inb_vp hi
  refine va_iast (D := E.2.2.2.1) (cl := vwCl) C.1 C.2.1 C.2.2.2.2.2.1.1 hP (gs_D C.2.2.2.2.2.2.2 σ g) hS k 0 (gs_at hs) rfl hi d (fun H1 locs1 hP1 hD1 hS1 => ?_)
  have hP2 : va_P E.2.2.2.1 vwCl ((gs_w E σ g).set k (gs_a E k, gs_c E (upd (σ k) i.toNatClampNeg v) g (gI n))) H1 := hP1
  rw [gs_set hs i.toNatClampNeg v rfl] at hP2
  exact kk H1 locs1 ls hP2 hS1 hL
theorem x_zast (C : gs_X E own cc nL p s m args meth c) (k : Nat) {n : Nat} (hs : gs_L[k]? = some (gZ n)) {i v : Int32} (hi : inb i n) (hv : v = 0 ∨ v = 1) (d : decode cc pc = .ok (.bastore, 1)) (kk : gs_W E nL p l e R s m args below meth c cells slots Q (pc + 1) lv st (up2 σ k i.toNatClampNeg v) g) : gs_W E nL p l e R s m args below meth c cells slots Q pc lv (.int v :: .int i :: .ref (gs_a E k) :: st) σ g := by
  intro H locs ls hP hS hL
  replace hi := inb_vp hi
  replace hv : vp_nar .boolean v = v := by rcases hv with rfl | rfl <;> rfl
  refine va_zast (D := E.2.2.2.1) (cl := vwCl) C.1 C.2.1 C.2.2.2.2.2.1.1 hP (gs_D C.2.2.2.2.2.2.2 σ g) hS k 1 (gs_at hs) rfl hi d (fun H1 locs1 hP1 hD1 hS1 => ?_)
  rw [hv] at hP1
  have hP2 : va_P E.2.2.2.1 vwCl ((gs_w E σ g).set k (gs_a E k, gs_c E (upd (σ k) i.toNatClampNeg v) g (gZ n))) H1 := hP1
  rw [gs_set hs i.toNatClampNeg v rfl] at hP2
  exact kk H1 locs1 ls hP2 hS1 hL
theorem x_alen (C : gs_X E own cc nL p s m args meth c) (k : Nat) {n : Nat} (hs : gs_L[k]? = some (gI n)) {v : Int32} (hv : Int32.ofNat n = v) (d : decode cc pc = .ok (.arraylength, 1)) (kk : gs_W E nL p l e R s m args below meth c cells slots Q (pc + 1) lv (.int v :: st) σ g) : gs_W E nL p l e R s m args below meth c cells slots Q pc lv (.ref (gs_a E k) :: st) σ g :=
  fun H locs ls hP hS hL => va_alen (D := E.2.2.2.1) (cl := vwCl) C.1 C.2.1 C.2.2.2.2.2.1.1 hP k 0 (gs_at hs) rfl hv d (kk H locs ls hP hS hL)

theorem gs_nl57 : ∀ i sh, gs_L[i]? = some sh → i ≠ 57 → gs_nl sh = true := by
  intro i sh h hi
  have hall : (gs_L.mapIdx (fun i sh => decide (i = 57) || gs_nl sh)).all id = true := by decide +kernel
  have h1 : (gs_L.mapIdx (fun i sh => decide (i = 57) || gs_nl sh))[i]? = some (decide (i = 57) || gs_nl sh) := by simp [List.getElem?_mapIdx, h]
  have h2 := List.all_eq_true.mp hall _ (List.mem_of_getElem? h1)
  simpa [hi] using h2
theorem gs_lset {l : List gs_F} {j : Nat} {f : Nat → Int32} (v : Int64) (h : l[j]? = some fJ) (hn : ∀ i, i ≠ j → l[i]? ≠ some fJ) : (l.mapIdx (fun j d => gs_v E f g j d)).set j (.long v) = l.mapIdx (fun i d => gs_v E f v i d) := by
  have hl : j < l.length := (List.getElem?_eq_some_iff.mp h).1
  apply List.ext_getElem?
  intro i
  by_cases hi : i = j
  · subst hi
    rw [List.getElem?_set_self (by simpa using hl)]
    simp [List.getElem?_mapIdx, h, gs_v, fJ]
  · rw [List.getElem?_set_ne (Ne.symm hi)]
    simp only [List.getElem?_mapIdx]
    have h3 := hn i hi
    cases hs : l[i]? with
    | none => rfl
    | some d =>
      obtain r | b := d
      · rfl
      · cases b
        · rfl
        · exact absurd hs h3
theorem x_putl (C : gs_X E own cc nL p s m args meth c) {ci : Nat} {fl : List gs_F} (hs : gs_L[57]? = some (gO ci fl)) {Cn : String} {T : u_T} {N : Nat} (hc : vwCl[ci]? = some (Cn, T, N)) (hin : ∀ w ∈ u_ws Cn T N, w ∈ gs_B) (ty0 : Nat → FieldType) (hty : ∀ k, k < N → parseFieldDescriptor (T k).2.2.1 = some (ty0 k)) (hnm : ∀ a, a < N → ∀ b, b < N → a ≠ b → (T a).2.1 ≠ (T b).2.1) (j : Nat) (hj : j < N) (hd : fl[j]? = some fJ) (hone : ∀ i, i ≠ j → fl[i]? ≠ some fJ) {idx : Nat} (hw : Cond.fieldLink own idx Cn (T j).2.1 (T j).2.2.1 ∈ gs_B) (hC : (T j).1 = Cn) (hF : (T j).2.2.2 = false) {v : Int64} (hn : narrow (ty0 j) (.long v) = .long v) (hfit : fits (ty0 j) (.long v) = true) (d : decode cc pc = .ok (.putfield idx, 3)) (kk : gs_W E nL p l e R s m args below meth c cells slots Q (pc + 3) lv st σ v) : gs_W E nL p l e R s m args below meth c cells slots Q pc lv (.long v :: .ref (gs_a E 57) :: st) σ g := by
  intro H locs ls hP hS hL
  refine va_put (D := E.2.2.2.1) (cl := vwCl) (ty := ty0 j) C.1 C.2.1 C.2.2.2.2.1 hin ty0 hty hnm C.2.2.2.1 C.2.2.2.2.2.1.1 hP (gs_D C.2.2.2.2.2.2.2 σ g) hS 57 (gs_at hs) hc j hj (C.2.2.2.2.1 _ hw) (fun x hx => by rw [hC] at hx; exact hx) hF (hty j hj) hn hfit (by simpa using (List.getElem?_eq_some_iff.mp hd).1) d (fun H1 locs1 hP1 hD1 hS1 => ?_)
  have he : (gs_w E σ g).set 57 (gs_a E 57, .inr (ci, (fl.mapIdx (fun j d => gs_v E (σ 57) g j d)).set j (.long v))) = gs_w E σ v := by
    rw [gs_lset v hd hone]
    apply List.ext_getElem?
    intro i
    by_cases hi : i = 57
    · subst hi
      rw [List.getElem?_set_self (by show 57 < (gs_w E σ g).length; simp [gs_w, gs_Ln]), gs_at hs]
      rfl
    · rw [List.getElem?_set_ne (Ne.symm hi)]
      cases h2 : gs_L[i]? with
      | none => simp [gs_w, List.getElem?_mapIdx, h2]
      | some s2 => rw [gs_at h2, gs_at h2, gs_nl_c (gs_nl57 i s2 h2 hi) g v]
  rw [he] at hP1
  exact kk H1 locs1 ls hP1 hS1 hL

theorem x_retb (C : gs_X E own cc nL p s m args meth c) {ov : Option Value} {v : Int32} (hr : meth.sig.returnType = some .boolean) (hn : v = 0 ∨ v = 1) (hov : ov = some (.int v)) (d : decode cc pc = .ok (.ireturn, 1)) : gs_W E nL p l e R s m args below meth c cells slots (MQ below (gs_Q E ov σ g) args s cells slots (gs_A E)) pc lv [.int v] σ g :=
  fun H locs ls hP hS hL => W.zret C.1 C.2.1 hr (by rcases hn with rfl | rfl <;> rfl) (fun t ht hW => ⟨⟨by rw [hov], by rw [ht]; exact hP⟩, hS.F ht⟩) hS.2.2 d C.2.2.2.2.2.2.1
theorem x_ret (C : gs_X E own cc nL p s m args meth c) {ov : Option Value} {v : Int32} {ty : FieldType} (hr : meth.sig.returnType = some ty) (hn : narrow ty (.int v) = .int v) (hov : ov = some (.int v)) (d : decode cc pc = .ok (.ireturn, 1)) : gs_W E nL p l e R s m args below meth c cells slots (MQ below (gs_Q E ov σ g) args s cells slots (gs_A E)) pc lv [.int v] σ g :=
  fun H locs ls hP hS hL => W.zret C.1 C.2.1 hr hn (fun t ht hW => ⟨⟨by rw [hov], by rw [ht]; exact hP⟩, hS.F ht⟩) hS.2.2 d C.2.2.2.2.2.2.1
theorem x_retv (C : gs_X E own cc nL p s m args meth c) {ov : Option Value} (hr : meth.sig.returnType = none) (hov : ov = none) (d : decode cc pc = .ok (.return_, 1)) : gs_W E nL p l e R s m args below meth c cells slots (MQ below (gs_Q E ov σ g) args s cells slots (gs_A E)) pc lv [] σ g :=
  fun H locs ls hP hS hL => W.vret C.1 C.2.1 hr (fun t ht hW => ⟨⟨by rw [hov], by rw [ht]; exact hP⟩, hS.F ht⟩) hS.2.2 d C.2.2.2.2.2.2.1
theorem x_retl (C : gs_X E own cc nL p s m args meth c) {ov : Option Value} {v : Int64} (hr : meth.sig.returnType = some .long) (hov : ov = some (.long v)) (d : decode cc pc = .ok (.lreturn, 1)) : gs_W E nL p l e R s m args below meth c cells slots (MQ below (gs_Q E ov σ g) args s cells slots (gs_A E)) pc lv [.long v] σ g :=
  fun H locs ls hP hS hL => W.lret C.1 C.2.1 hr (fun t ht hW => ⟨⟨by rw [hov], by rw [ht]; exact hP⟩, hS.F ht⟩) hS.2.2 d C.2.2.2.2.2.2.1
theorem gs_after {ov : Option Value} {σ' : gs_H} {g' : Int64} {H : Heap} {locs : List Loc} {ls : Array Slot} {st0 rest st' : List Value} {a : Array Value} (hr : va_Run p l e R s m args below meth c H locs cells slots 0 0 (F0 m pc ls st0) rest (gs_Q E ov σ' g' a) (gs_A E)) (hS : va_S (gs_A E) s.heap H locs) (hL : lv_has ls nL lv) (hst : ov.toList ++ rest = st') (kk : gs_W E nL p l e R s m args below meth c cells slots Q (pc + 3) lv st' σ' g') : W p l e R s m args below meth c H locs cells slots Q (F0 m pc ls st0) := by
  subst hst
  intro T hT X
  obtain ⟨v, st₀, t, T', L, h0, X', hLL, e1, e2, ⟨⟨hv, hp⟩, hz, hk⟩, stp⟩ := hr T hT X
  have hv2 : v = ov := by injection hv
  subst hv2
  rw [h0] at hz hk
  obtain ⟨t2, a1, b1⟩ := kk T'.heap (locs ++ L) ls (by rw [e1]; exact hp) ⟨Nat.le_trans hS.1 (by rw [e1]; exact hz), fun q h1 h2 => by rw [e1, hk q (Nat.lt_of_lt_of_le h1 hS.1) h2]; exact hS.2.1 q h1 h2, fun q hq => by
      rcases List.mem_append.mp hq with h | h
      · exact hS.2.2 q h
      · exact hLL q h⟩ hL T' rfl X'
  exact ⟨t2, stp t2 a1, b1⟩
theorem gs_blind {av : List Value} : FrameBlind (gs_Pc E av σ g) := fun a U fr mk q => ⟨q.1, q.2.1, q.2.2.calling fr mk a⟩
theorem x_callV (C : gs_X E own cc nL p s m args meth c) {y : MethodName} {bc : ByteArray} {nM : Nat} {ret : Option FieldType} {rm : Nat × Nat} {As rest st' : List Value} {ov : Option Value} {σ' : gs_H} {g' : Int64} (k : Nat) (hM : gs_M l E y bc nM ret rm (.ref (gs_a E k) :: As) σ g ov σ' g') {idx ci : Nat} {fl : List gs_F} {T : u_T} {N : Nat} (hs : gs_L[k]? = some (gO ci fl)) (hc : vwCl[ci]? = some (y.cls, T, N)) (w1 : Cond.methodLink own idx y ∈ gs_B) (w2 : Cond.instanceMethod y ∈ gs_B) (w3 : Cond.selects y.cls y y ∈ gs_B) (w4 : Cond.initialized y.cls ∈ gs_B) (w5 : Cond.code y bc nM ret ∈ gs_B)
    (hd : y.cls ≠ "java/lang/invoke/MethodHandle" ∧ y.cls ≠ "java/lang/invoke/VarHandle" ∧ (parseMethodDescriptor y.desc).map (fun d => d.parameters.length) = some As.length) (hR : rm.1 + 1 ≤ R.frames ∧ 8 + (nM + 11) + rm.2 ≤ R.locals) (hf : cells ≤ R.cells ∧ slots ≤ R.slots) (hst : st = As.reverse ++ .ref (gs_a E k) :: rest) (hw : (rest.map fun v => v.category).sum ≤ 8) (d : decode cc pc = .ok (.invokevirtual idx, 3)) (hst' : ov.toList ++ rest = st') (kk : gs_W E nL p l e R s m args below meth c cells slots Q (pc + 3) lv st' σ' g') : gs_W E nL p l e R s m args below meth c cells slots Q pc lv st σ g := by
  intro H locs ls hP hS hL
  subst hst
  have hG : GoodIn gs_B (wsV own idx y.cls y (.code y bc nM ret :: gs_B)) := by
    intro w hw
    have : w ∈ gs_B := by
      simp only [wsV, List.cons_append, List.nil_append, List.mem_cons] at hw
      rcases hw with rfl | rfl | rfl | rfl | rfl | h
      · exact w1
      · exact w2
      · exact w3
      · exact w4
      · exact w5
      · exact h
    exact gs_good w this
  refine gs_after (va_runV (As := As) (rest := rest) (C := y.cls) ⟨C.1, C.2.1, C.2.2.1, C.2.2.2.1, C.2.2.2.2.1⟩ (hM C.2.2.2.2.2.2.2) (cwV As.length C.2.2.2.2.1 hG rfl rfl rfl ⟨rfl, hd⟩ hR) ⟨gs_blind, va_recv C.2.2.2.2.2.1.1 hP hc (gs_at hs), fun U hU hW => ⟨rfl, by rw [hU]; exact hP, C.2.2.2.2.2.1.go hS hU hW⟩⟩ rfl rfl hL.1 rfl (lv_room hw) d hf) hS hL hst' kk
theorem x_callS (C : gs_X E own cc nL p s m args meth c) {y : MethodName} {bc : ByteArray} {nM : Nat} {ret : Option FieldType} {rm : Nat × Nat} {As rest st' : List Value} {ov : Option Value} {σ' : gs_H} {g' : Int64} (hM : gs_M l E y bc nM ret rm As σ g ov σ' g') {idx : Nat} (w1 : Cond.methodLink own idx y ∈ gs_B) (w2 : Cond.static y ∈ gs_B) (w4 : Cond.initialized y.cls ∈ gs_B) (w5 : Cond.code y bc nM ret ∈ gs_B)
    (hd : y.cls ≠ "java/lang/invoke/MethodHandle" ∧ y.cls ≠ "java/lang/invoke/VarHandle" ∧ (parseMethodDescriptor y.desc).map (fun d => d.parameters.length) = some As.length) (hR : rm.1 + 1 ≤ R.frames ∧ 8 + (nM + 11) + rm.2 ≤ R.locals) (hf : cells ≤ R.cells ∧ slots ≤ R.slots) (hst : st = As.reverse ++ rest) (hw : (rest.map fun v => v.category).sum ≤ 8) (d : decode cc pc = .ok (.invokestatic idx, 3)) (hst' : ov.toList ++ rest = st') (kk : gs_W E nL p l e R s m args below meth c cells slots Q (pc + 3) lv st' σ' g') : gs_W E nL p l e R s m args below meth c cells slots Q pc lv st σ g := by
  intro H locs ls hP hS hL
  subst hst
  have hG : GoodIn gs_B (va_wsS own idx y (.code y bc nM ret :: gs_B)) := by
    intro w hw
    have : w ∈ gs_B := by
      simp only [va_wsS, List.cons_append, List.nil_append, List.mem_cons] at hw
      rcases hw with rfl | rfl | rfl | rfl | h
      · exact w1
      · exact w2
      · exact w4
      · exact w5
      · exact h
    exact gs_good w this
  exact gs_after (va_runS (As := As) (rest := rest) ⟨C.1, C.2.1, C.2.2.1, C.2.2.2.1, C.2.2.2.2.1⟩ (hM C.2.2.2.2.2.2.2) (va_cwS As.length C.2.2.2.2.1 hG rfl rfl rfl hd hR) ⟨gs_blind, fun U hU hW => ⟨rfl, by rw [hU]; exact hP, C.2.2.2.2.2.1.go hS hU hW⟩⟩ rfl rfl hL.1 rfl (lv_room hw) d hf) hS hL hst' kk
theorem x_callN (C : gs_X E own cc nL p s m args meth c) {y : MethodName} {bc : ByteArray} {nM : Nat} {ret : Option FieldType} {rm : Nat × Nat} {As rest st' : List Value} {ov : Option Value} {σ' : gs_H} {g' : Int64} (hM : gs_M l E y bc nM ret rm As σ g ov σ' g') {idx : Nat} {host : String} (w1 : va_Nw (.methodLinkNest own idx y host) s) (w2 : Cond.static y ∈ gs_B) (w4 : Cond.initialized y.cls ∈ gs_B) (w5 : Cond.code y bc nM ret ∈ gs_B)
    (hd : y.cls ≠ "java/lang/invoke/MethodHandle" ∧ y.cls ≠ "java/lang/invoke/VarHandle" ∧ (parseMethodDescriptor y.desc).map (fun d => d.parameters.length) = some As.length) (hR : rm.1 + 1 ≤ R.frames ∧ 8 + (nM + 11) + rm.2 ≤ R.locals) (hf : cells ≤ R.cells ∧ slots ≤ R.slots) (hst : st = As.reverse ++ rest) (hw : (rest.map fun v => v.category).sum ≤ 8) (d : decode cc pc = .ok (.invokestatic idx, 3)) (hst' : ov.toList ++ rest = st') (kk : gs_W E nL p l e R s m args below meth c cells slots Q (pc + 3) lv st' σ' g') : gs_W E nL p l e R s m args below meth c cells slots Q pc lv st σ g := by
  intro H locs ls hP hS hL
  subst hst
  have hG : GoodIn gs_B (.code y bc nM ret :: gs_B) := by
    intro w hw
    rcases List.mem_cons.mp hw with rfl | h
    · exact gs_good _ w5
    · exact gs_good _ h
  exact gs_after (va_runSN (As := As) (rest := rest) ⟨C.1, C.2.1, C.2.2.1, C.2.2.2.1, C.2.2.2.2.1⟩ (hM C.2.2.2.2.2.2.2) ⟨va_cnB As.length C.2.2.2.2.1 hG rfl rfl rfl w1 (C.2.2.2.2.1 _ w4) hd hR, C.2.2.2.2.1 _ w2, trivial⟩ ⟨gs_blind, fun U hU hW => ⟨rfl, by rw [hU]; exact hP, C.2.2.2.2.2.1.go hS hU hW⟩⟩ rfl rfl hL.1 rfl (lv_room hw) d hf) hS hL hst' kk
theorem x_mmax (C : gs_X E own cc nL p s m args meth c) {idx : Nat} {x y : Int32} (w1 : Cond.methodLink own idx Lib.Math.max.name ∈ gs_B) (w2 : Cond.static Lib.Math.max.name ∈ gs_B) (w3 : Cond.initialized "java/lang/Math" ∈ gs_B) (w4 : Cond.code Lib.Math.max.name Lib.Math.max.code 2 (some .int) ∈ gs_B) (hfr : 1 ≤ R.frames) (hlo : (st.map fun v => v.category).sum + 13 ≤ R.locals) (hf : cells ≤ R.cells ∧ slots ≤ R.slots) (d : decode cc pc = .ok (.invokestatic idx, 3)) (kk : gs_W E nL p l e R s m args below meth c cells slots Q (pc + 3) lv (.int (if x < y then y else x) :: st) σ g) : gs_W E nL p l e R s m args below meth c cells slots Q pc lv (.int y :: .int x :: st) σ g :=
  fun H locs ls hP hS hL => va_mmax C.1 C.2.1 (by rw [C.2.2.1]; exact hL.1.symm) C.2.2.2.1 (C.2.2.2.2.1 _ w1) (C.2.2.2.2.1 _ w2) (C.2.2.2.2.1 _ w3) (C.2.2.2.2.1 _ w4) hfr hlo hf.1 hf.2 d (kk H locs ls hP hS hL)
theorem x_mabs (C : gs_X E own cc nL p s m args meth c) {idx : Nat} {x : Int32} (w1 : Cond.methodLink own idx Lib.Math.abs.name ∈ gs_B) (w2 : Cond.static Lib.Math.abs.name ∈ gs_B) (w3 : Cond.initialized "java/lang/Math" ∈ gs_B) (w4 : Cond.code Lib.Math.abs.name Lib.Math.abs.code 1 (some .int) ∈ gs_B) (hfr : 1 ≤ R.frames) (hlo : (st.map fun v => v.category).sum + 13 ≤ R.locals) (hf : cells ≤ R.cells ∧ slots ≤ R.slots) (d : decode cc pc = .ok (.invokestatic idx, 3)) (kk : gs_W E nL p l e R s m args below meth c cells slots Q (pc + 3) lv (.int (if 0 ≤ x then x else 0 - x) :: st) σ g) : gs_W E nL p l e R s m args below meth c cells slots Q pc lv (.int x :: st) σ g :=
  fun H locs ls hP hS hL => va_mabs C.1 C.2.1 (by rw [C.2.2.1]; exact hL.1.symm) C.2.2.2.1 (C.2.2.2.2.1 _ w1) (C.2.2.2.2.1 _ w2) (C.2.2.2.2.1 _ w3) (C.2.2.2.2.1 _ w4) hfr hlo hf.1 hf.2 d (kk H locs ls hP hS hL)
end GR
end
section
/-! MORE ROWS: the text of the kinds, the one long, lengths -/
def gs_t (E : gs_E) : Nat := E.2.2.2.2.1
/-- the text's indexOf -/
def kIx (c : Int32) : Int32 := if c = 98 then 0 else if c = 108 then 1 else if c = 102 then 2 else if c = 111 then 3 else if c = 100 then 4 else -1
def al (k : Nat) : Nat := match gs_L[k]? with
  | some (.inl q) => q.2
  | _ => 0
theorem gs_oneJ : ∀ i, i ≠ 34 → ([fR 58, fI, fI, fI, fI, fI, fI, fI, fI, fI, fR 59, fR 60, fR 61, fR 62, fR 63, fR 64, fR 65, fI, fR 66, fR 67, fI, fI, fR 68, fI, fI, fI, fI, fI, fI, fR 69, fR 70, fR 71, fR 72, fR 73, fJ] : List gs_F)[i]? ≠ some fJ := by
  intro i hi
  rcases Nat.lt_or_ge i 35 with h | h
  · have key : ∀ j : Fin 35, j.val ≠ 34 → ([fR 58, fI, fI, fI, fI, fI, fI, fI, fI, fI, fR 59, fR 60, fR 61, fR 62, fR 63, fR 64, fR 65, fI, fR 66, fR 67, fI, fI, fR 68, fI, fI, fI, fI, fI, fI, fR 69, fR 70, fR 71, fR 72, fR 73, fJ] : List gs_F)[j.val]? ≠ some fJ := by decide +kernel
    exact key ⟨i, h⟩ hi
  · rw [List.getElem?_eq_none (by simpa using h)]
    simp
section GM
variable {E : gs_E} {own : String} {cc : ByteArray} {nL : Nat} {p : Program} {l : Launch} {e : Env} {R : Room} {s : State} {m : MethodId} {args : Array Value} {below : List Frame} {meth : Method} {c : Code} {cells slots : Nat} {Q : State → Prop} {pc : Nat} {lv : List (Nat × Value)} {st : List Value} {σ : gs_H} {g : Int64}
theorem x_ldcS (C : gs_X E RX5 cc nL p s m args meth c) (d : decode cc pc = .ok (.ldc 92, 2)) (kk : gs_W E nL p l e R s m args below meth c cells slots Q (pc + 2) lv (.ref (gs_t E) :: st) σ g) : gs_W E nL p l e R s m args below meth c cells slots Q pc lv st σ g :=
  fun H locs ls hP hS hL => va_ldcS C.1 C.2.1 C.2.2.2.1 C.2.2.2.2.2.1.2.1 d (kk H locs ls hP hS hL)
theorem x_ix (C : gs_X E RX5 cc nL p s m args meth c) {ch : Int32} (hfr : 6 ≤ R.frames) (hlo : 220 ≤ R.locals) (hw : (st.map fun v => v.category).sum ≤ 8) (d : decode cc pc = .ok (.invokevirtual 94, 3)) (kk : gs_W E nL p l e R s m args below meth c cells slots Q (pc + 3) lv (.int (kIx ch) :: st) σ g) : gs_W E nL p l e R s m args below meth c cells slots Q pc lv (.int ch :: .ref (gs_t E) :: st) σ g := by
  sorry
end GM
end
section
def f_J6_bitCount_0f7a4 (x0 : Int32) : Int32 :=
((((((((x0 - ((x0.toUInt32 >>> ((1 : Int32).toUInt32 &&& Int32.toUInt32 31)).toInt32 &&& (1431655765 : Int32))) &&& (858993459 : Int32)) + (((x0 - ((x0.toUInt32 >>> ((1 : Int32).toUInt32 &&& Int32.toUInt32 31)).toInt32 &&& (1431655765 : Int32))).toUInt32 >>> ((2 : Int32).toUInt32 &&& Int32.toUInt32 31)).toInt32 &&& (858993459 : Int32))) + ((((x0 - ((x0.toUInt32 >>> ((1 : Int32).toUInt32 &&& Int32.toUInt32 31)).toInt32 &&& (1431655765 : Int32))) &&& (858993459 : Int32)) + (((x0 - ((x0.toUInt32 >>> ((1 : Int32).toUInt32 &&& Int32.toUInt32 31)).toInt32 &&& (1431655765 : Int32))).toUInt32 >>> ((2 : Int32).toUInt32 &&& Int32.toUInt32 31)).toInt32 &&& (858993459 : Int32))).toUInt32 >>> ((4 : Int32).toUInt32 &&& Int32.toUInt32 31)).toInt32) &&& (252645135 : Int32)) + ((((((x0 - ((x0.toUInt32 >>> ((1 : Int32).toUInt32 &&& Int32.toUInt32 31)).toInt32 &&& (1431655765 : Int32))) &&& (858993459 : Int32)) + (((x0 - ((x0.toUInt32 >>> ((1 : Int32).toUInt32 &&& Int32.toUInt32 31)).toInt32 &&& (1431655765 : Int32))).toUInt32 >>> ((2 : Int32).toUInt32 &&& Int32.toUInt32 31)).toInt32 &&& (858993459 : Int32))) + ((((x0 - ((x0.toUInt32 >>> ((1 : Int32).toUInt32 &&& Int32.toUInt32 31)).toInt32 &&& (1431655765 : Int32))) &&& (858993459 : Int32)) + (((x0 - ((x0.toUInt32 >>> ((1 : Int32).toUInt32 &&& Int32.toUInt32 31)).toInt32 &&& (1431655765 : Int32))).toUInt32 >>> ((2 : Int32).toUInt32 &&& Int32.toUInt32 31)).toInt32 &&& (858993459 : Int32))).toUInt32 >>> ((4 : Int32).toUInt32 &&& Int32.toUInt32 31)).toInt32) &&& (252645135 : Int32)).toUInt32 >>> ((8 : Int32).toUInt32 &&& Int32.toUInt32 31)).toInt32) + (((((((x0 - ((x0.toUInt32 >>> ((1 : Int32).toUInt32 &&& Int32.toUInt32 31)).toInt32 &&& (1431655765 : Int32))) &&& (858993459 : Int32)) + (((x0 - ((x0.toUInt32 >>> ((1 : Int32).toUInt32 &&& Int32.toUInt32 31)).toInt32 &&& (1431655765 : Int32))).toUInt32 >>> ((2 : Int32).toUInt32 &&& Int32.toUInt32 31)).toInt32 &&& (858993459 : Int32))) + ((((x0 - ((x0.toUInt32 >>> ((1 : Int32).toUInt32 &&& Int32.toUInt32 31)).toInt32 &&& (1431655765 : Int32))) &&& (858993459 : Int32)) + (((x0 - ((x0.toUInt32 >>> ((1 : Int32).toUInt32 &&& Int32.toUInt32 31)).toInt32 &&& (1431655765 : Int32))).toUInt32 >>> ((2 : Int32).toUInt32 &&& Int32.toUInt32 31)).toInt32 &&& (858993459 : Int32))).toUInt32 >>> ((4 : Int32).toUInt32 &&& Int32.toUInt32 31)).toInt32) &&& (252645135 : Int32)) + ((((((x0 - ((x0.toUInt32 >>> ((1 : Int32).toUInt32 &&& Int32.toUInt32 31)).toInt32 &&& (1431655765 : Int32))) &&& (858993459 : Int32)) + (((x0 - ((x0.toUInt32 >>> ((1 : Int32).toUInt32 &&& Int32.toUInt32 31)).toInt32 &&& (1431655765 : Int32))).toUInt32 >>> ((2 : Int32).toUInt32 &&& Int32.toUInt32 31)).toInt32 &&& (858993459 : Int32))) + ((((x0 - ((x0.toUInt32 >>> ((1 : Int32).toUInt32 &&& Int32.toUInt32 31)).toInt32 &&& (1431655765 : Int32))) &&& (858993459 : Int32)) + (((x0 - ((x0.toUInt32 >>> ((1 : Int32).toUInt32 &&& Int32.toUInt32 31)).toInt32 &&& (1431655765 : Int32))).toUInt32 >>> ((2 : Int32).toUInt32 &&& Int32.toUInt32 31)).toInt32 &&& (858993459 : Int32))).toUInt32 >>> ((4 : Int32).toUInt32 &&& Int32.toUInt32 31)).toInt32) &&& (252645135 : Int32)).toUInt32 >>> ((8 : Int32).toUInt32 &&& Int32.toUInt32 31)).toInt32).toUInt32 >>> ((16 : Int32).toUInt32 &&& Int32.toUInt32 31)).toInt32) &&& (63 : Int32))
set_option maxHeartbeats 4000000 in
set_option maxRecDepth 20000 in
theorem m_J6_bitCount_0f7a4 {E : gs_E} {l : Launch} {x0 : Int32} {σ : gs_H} {g : Int64} {r0 : Int32} (h : f_J6_bitCount_0f7a4 x0 = r0) : gs_M l E yJ6_bitCount_0f7a4 cJ6_bitCount_0f7a4 1 (some .int) (0, 0) [.int x0] σ g (some (.int r0)) σ g := by
  refine x_enter (lv := [(0, .int x0)]) (by decide +kernel) (Nat.le_of_ble_eq_true rfl) rfl (fun p e s m args below meth c C hr => ?_)
  unfold f_J6_bitCount_0f7a4 at h
  refine x_iload_n C dJ6_bitCount_0f7a4_0 rfl 0 rfl ?_
  refine x_iload_n C dJ6_bitCount_0f7a4_1 rfl 0 rfl ?_
  refine x_iconst C dJ6_bitCount_0f7a4_2 (v := 1) (by decide) ?_
  refine x_iushr C dJ6_bitCount_0f7a4_3 ?_
  refine x_ldcw C kK_J6_265 dJ6_bitCount_0f7a4_4 ?_
  refine x_iand C dJ6_bitCount_0f7a4_7 ?_
  refine x_isub C dJ6_bitCount_0f7a4_8 ?_
  refine x_istore_n C dJ6_bitCount_0f7a4_9 rfl (lv2 := [(0, .int (x0 - ((x0.toUInt32 >>> ((1 : Int32).toUInt32 &&& Int32.toUInt32 31)).toInt32 &&& (1431655765 : Int32))))]) (by decide) rfl [0] rfl ?_
  refine x_iload_n C dJ6_bitCount_0f7a4_10 rfl 0 rfl ?_
  refine x_ldcw C kK_J6_266 dJ6_bitCount_0f7a4_11 ?_
  refine x_iand C dJ6_bitCount_0f7a4_14 ?_
  refine x_iload_n C dJ6_bitCount_0f7a4_15 rfl 0 rfl ?_
  refine x_iconst C dJ6_bitCount_0f7a4_16 (v := 2) (by decide) ?_
  refine x_iushr C dJ6_bitCount_0f7a4_17 ?_
  refine x_ldcw C kK_J6_266 dJ6_bitCount_0f7a4_18 ?_
  refine x_iand C dJ6_bitCount_0f7a4_21 ?_
  refine x_iadd C dJ6_bitCount_0f7a4_22 ?_
  refine x_istore_n C dJ6_bitCount_0f7a4_23 rfl (lv2 := [(0, .int (((x0 - ((x0.toUInt32 >>> ((1 : Int32).toUInt32 &&& Int32.toUInt32 31)).toInt32 &&& (1431655765 : Int32))) &&& (858993459 : Int32)) + (((x0 - ((x0.toUInt32 >>> ((1 : Int32).toUInt32 &&& Int32.toUInt32 31)).toInt32 &&& (1431655765 : Int32))).toUInt32 >>> ((2 : Int32).toUInt32 &&& Int32.toUInt32 31)).toInt32 &&& (858993459 : Int32))))]) (by decide) rfl [0] rfl ?_
  refine x_iload_n C dJ6_bitCount_0f7a4_24 rfl 0 rfl ?_
  refine x_iload_n C dJ6_bitCount_0f7a4_25 rfl 0 rfl ?_
  refine x_iconst C dJ6_bitCount_0f7a4_26 (v := 4) (by decide) ?_
  refine x_iushr C dJ6_bitCount_0f7a4_27 ?_
  refine x_iadd C dJ6_bitCount_0f7a4_28 ?_
  refine x_ldcw C kK_J6_267 dJ6_bitCount_0f7a4_29 ?_
  refine x_iand C dJ6_bitCount_0f7a4_32 ?_
  refine x_istore_n C dJ6_bitCount_0f7a4_33 rfl (lv2 := [(0, .int (((((x0 - ((x0.toUInt32 >>> ((1 : Int32).toUInt32 &&& Int32.toUInt32 31)).toInt32 &&& (1431655765 : Int32))) &&& (858993459 : Int32)) + (((x0 - ((x0.toUInt32 >>> ((1 : Int32).toUInt32 &&& Int32.toUInt32 31)).toInt32 &&& (1431655765 : Int32))).toUInt32 >>> ((2 : Int32).toUInt32 &&& Int32.toUInt32 31)).toInt32 &&& (858993459 : Int32))) + ((((x0 - ((x0.toUInt32 >>> ((1 : Int32).toUInt32 &&& Int32.toUInt32 31)).toInt32 &&& (1431655765 : Int32))) &&& (858993459 : Int32)) + (((x0 - ((x0.toUInt32 >>> ((1 : Int32).toUInt32 &&& Int32.toUInt32 31)).toInt32 &&& (1431655765 : Int32))).toUInt32 >>> ((2 : Int32).toUInt32 &&& Int32.toUInt32 31)).toInt32 &&& (858993459 : Int32))).toUInt32 >>> ((4 : Int32).toUInt32 &&& Int32.toUInt32 31)).toInt32) &&& (252645135 : Int32)))]) (by decide) rfl [0] rfl ?_
  refine x_iload_n C dJ6_bitCount_0f7a4_34 rfl 0 rfl ?_
  refine x_iload_n C dJ6_bitCount_0f7a4_35 rfl 0 rfl ?_
  refine x_bipush C dJ6_bitCount_0f7a4_36 (v := 8) (by decide) ?_
  refine x_iushr C dJ6_bitCount_0f7a4_38 ?_
  refine x_iadd C dJ6_bitCount_0f7a4_39 ?_
  refine x_istore_n C dJ6_bitCount_0f7a4_40 rfl (lv2 := [(0, .int ((((((x0 - ((x0.toUInt32 >>> ((1 : Int32).toUInt32 &&& Int32.toUInt32 31)).toInt32 &&& (1431655765 : Int32))) &&& (858993459 : Int32)) + (((x0 - ((x0.toUInt32 >>> ((1 : Int32).toUInt32 &&& Int32.toUInt32 31)).toInt32 &&& (1431655765 : Int32))).toUInt32 >>> ((2 : Int32).toUInt32 &&& Int32.toUInt32 31)).toInt32 &&& (858993459 : Int32))) + ((((x0 - ((x0.toUInt32 >>> ((1 : Int32).toUInt32 &&& Int32.toUInt32 31)).toInt32 &&& (1431655765 : Int32))) &&& (858993459 : Int32)) + (((x0 - ((x0.toUInt32 >>> ((1 : Int32).toUInt32 &&& Int32.toUInt32 31)).toInt32 &&& (1431655765 : Int32))).toUInt32 >>> ((2 : Int32).toUInt32 &&& Int32.toUInt32 31)).toInt32 &&& (858993459 : Int32))).toUInt32 >>> ((4 : Int32).toUInt32 &&& Int32.toUInt32 31)).toInt32) &&& (252645135 : Int32)) + ((((((x0 - ((x0.toUInt32 >>> ((1 : Int32).toUInt32 &&& Int32.toUInt32 31)).toInt32 &&& (1431655765 : Int32))) &&& (858993459 : Int32)) + (((x0 - ((x0.toUInt32 >>> ((1 : Int32).toUInt32 &&& Int32.toUInt32 31)).toInt32 &&& (1431655765 : Int32))).toUInt32 >>> ((2 : Int32).toUInt32 &&& Int32.toUInt32 31)).toInt32 &&& (858993459 : Int32))) + ((((x0 - ((x0.toUInt32 >>> ((1 : Int32).toUInt32 &&& Int32.toUInt32 31)).toInt32 &&& (1431655765 : Int32))) &&& (858993459 : Int32)) + (((x0 - ((x0.toUInt32 >>> ((1 : Int32).toUInt32 &&& Int32.toUInt32 31)).toInt32 &&& (1431655765 : Int32))).toUInt32 >>> ((2 : Int32).toUInt32 &&& Int32.toUInt32 31)).toInt32 &&& (858993459 : Int32))).toUInt32 >>> ((4 : Int32).toUInt32 &&& Int32.toUInt32 31)).toInt32) &&& (252645135 : Int32)).toUInt32 >>> ((8 : Int32).toUInt32 &&& Int32.toUInt32 31)).toInt32))]) (by decide) rfl [0] rfl ?_
  refine x_iload_n C dJ6_bitCount_0f7a4_41 rfl 0 rfl ?_
  refine x_iload_n C dJ6_bitCount_0f7a4_42 rfl 0 rfl ?_
  refine x_bipush C dJ6_bitCount_0f7a4_43 (v := 16) (by decide) ?_
  refine x_iushr C dJ6_bitCount_0f7a4_45 ?_
  refine x_iadd C dJ6_bitCount_0f7a4_46 ?_
  refine x_istore_n C dJ6_bitCount_0f7a4_47 rfl (lv2 := [(0, .int (((((((x0 - ((x0.toUInt32 >>> ((1 : Int32).toUInt32 &&& Int32.toUInt32 31)).toInt32 &&& (1431655765 : Int32))) &&& (858993459 : Int32)) + (((x0 - ((x0.toUInt32 >>> ((1 : Int32).toUInt32 &&& Int32.toUInt32 31)).toInt32 &&& (1431655765 : Int32))).toUInt32 >>> ((2 : Int32).toUInt32 &&& Int32.toUInt32 31)).toInt32 &&& (858993459 : Int32))) + ((((x0 - ((x0.toUInt32 >>> ((1 : Int32).toUInt32 &&& Int32.toUInt32 31)).toInt32 &&& (1431655765 : Int32))) &&& (858993459 : Int32)) + (((x0 - ((x0.toUInt32 >>> ((1 : Int32).toUInt32 &&& Int32.toUInt32 31)).toInt32 &&& (1431655765 : Int32))).toUInt32 >>> ((2 : Int32).toUInt32 &&& Int32.toUInt32 31)).toInt32 &&& (858993459 : Int32))).toUInt32 >>> ((4 : Int32).toUInt32 &&& Int32.toUInt32 31)).toInt32) &&& (252645135 : Int32)) + ((((((x0 - ((x0.toUInt32 >>> ((1 : Int32).toUInt32 &&& Int32.toUInt32 31)).toInt32 &&& (1431655765 : Int32))) &&& (858993459 : Int32)) + (((x0 - ((x0.toUInt32 >>> ((1 : Int32).toUInt32 &&& Int32.toUInt32 31)).toInt32 &&& (1431655765 : Int32))).toUInt32 >>> ((2 : Int32).toUInt32 &&& Int32.toUInt32 31)).toInt32 &&& (858993459 : Int32))) + ((((x0 - ((x0.toUInt32 >>> ((1 : Int32).toUInt32 &&& Int32.toUInt32 31)).toInt32 &&& (1431655765 : Int32))) &&& (858993459 : Int32)) + (((x0 - ((x0.toUInt32 >>> ((1 : Int32).toUInt32 &&& Int32.toUInt32 31)).toInt32 &&& (1431655765 : Int32))).toUInt32 >>> ((2 : Int32).toUInt32 &&& Int32.toUInt32 31)).toInt32 &&& (858993459 : Int32))).toUInt32 >>> ((4 : Int32).toUInt32 &&& Int32.toUInt32 31)).toInt32) &&& (252645135 : Int32)).toUInt32 >>> ((8 : Int32).toUInt32 &&& Int32.toUInt32 31)).toInt32) + (((((((x0 - ((x0.toUInt32 >>> ((1 : Int32).toUInt32 &&& Int32.toUInt32 31)).toInt32 &&& (1431655765 : Int32))) &&& (858993459 : Int32)) + (((x0 - ((x0.toUInt32 >>> ((1 : Int32).toUInt32 &&& Int32.toUInt32 31)).toInt32 &&& (1431655765 : Int32))).toUInt32 >>> ((2 : Int32).toUInt32 &&& Int32.toUInt32 31)).toInt32 &&& (858993459 : Int32))) + ((((x0 - ((x0.toUInt32 >>> ((1 : Int32).toUInt32 &&& Int32.toUInt32 31)).toInt32 &&& (1431655765 : Int32))) &&& (858993459 : Int32)) + (((x0 - ((x0.toUInt32 >>> ((1 : Int32).toUInt32 &&& Int32.toUInt32 31)).toInt32 &&& (1431655765 : Int32))).toUInt32 >>> ((2 : Int32).toUInt32 &&& Int32.toUInt32 31)).toInt32 &&& (858993459 : Int32))).toUInt32 >>> ((4 : Int32).toUInt32 &&& Int32.toUInt32 31)).toInt32) &&& (252645135 : Int32)) + ((((((x0 - ((x0.toUInt32 >>> ((1 : Int32).toUInt32 &&& Int32.toUInt32 31)).toInt32 &&& (1431655765 : Int32))) &&& (858993459 : Int32)) + (((x0 - ((x0.toUInt32 >>> ((1 : Int32).toUInt32 &&& Int32.toUInt32 31)).toInt32 &&& (1431655765 : Int32))).toUInt32 >>> ((2 : Int32).toUInt32 &&& Int32.toUInt32 31)).toInt32 &&& (858993459 : Int32))) + ((((x0 - ((x0.toUInt32 >>> ((1 : Int32).toUInt32 &&& Int32.toUInt32 31)).toInt32 &&& (1431655765 : Int32))) &&& (858993459 : Int32)) + (((x0 - ((x0.toUInt32 >>> ((1 : Int32).toUInt32 &&& Int32.toUInt32 31)).toInt32 &&& (1431655765 : Int32))).toUInt32 >>> ((2 : Int32).toUInt32 &&& Int32.toUInt32 31)).toInt32 &&& (858993459 : Int32))).toUInt32 >>> ((4 : Int32).toUInt32 &&& Int32.toUInt32 31)).toInt32) &&& (252645135 : Int32)).toUInt32 >>> ((8 : Int32).toUInt32 &&& Int32.toUInt32 31)).toInt32).toUInt32 >>> ((16 : Int32).toUInt32 &&& Int32.toUInt32 31)).toInt32))]) (by decide) rfl [0] rfl ?_
  refine x_iload_n C dJ6_bitCount_0f7a4_48 rfl 0 rfl ?_
  refine x_bipush C dJ6_bitCount_0f7a4_49 (v := 63) (by decide) ?_
  refine x_iand C dJ6_bitCount_0f7a4_51 ?_
  subst h
  exact x_ret C hr rfl rfl dJ6_bitCount_0f7a4_52
def f_X1_weight (x0 : Int32) (x1 : Int32) (x2 : Int32) : Int32 :=
if x0 = 1 then (
((2 : Int32) * x1))
else (
if x0 = 2 then (
(0 : Int32))
else (
if x0 = 3 then (
(-x1))
else (
if x0 = 4 then (
(if (0 : Int32) < (((2 : Int32) * x1) - x2) then (((2 : Int32) * x1) - x2) else (0 : Int32)))
else (
x1))))
set_option maxHeartbeats 4000000 in
set_option maxRecDepth 20000 in
theorem m_X1_weight {E : gs_E} {l : Launch} {x0 : Int32} {x1 : Int32} {x2 : Int32} {σ : gs_H} {g : Int64} {r0 : Int32} (h : f_X1_weight x0 x1 x2 = r0) : gs_M l E yX1_weight cX1_weight 3 (some .int) (1, 21) [.int x0, .int x1, .int x2] σ g (some (.int r0)) σ g := by
  refine x_enter (lv := [(0, .int x0), (1, .int x1), (2, .int x2)]) (by decide +kernel) (Nat.le_of_ble_eq_true rfl) rfl (fun p e s m args below meth c C hr => ?_)
  unfold f_X1_weight at h
  refine x_iload_n C dX1_weight_0 rfl 0 rfl ?_
  by_cases hs1_0 : x0 = 1
  · replace h := (if_pos hs1_0).symm.trans h
    refine x_tsw C dX1_weight_1 1 hs1_0 (by decide) (by decide) (off := 31) rfl (tgt := 32) (by decide) ?_
    refine x_iconst C dX1_weight_32 (v := 2) (by decide) ?_
    refine x_iload_n C dX1_weight_33 rfl 1 rfl ?_
    refine x_imul C dX1_weight_34 ?_
    subst h
    exact x_ret C hr rfl rfl dX1_weight_35
  · replace h := (if_neg hs1_0).symm.trans h
    by_cases hs1_1 : x0 = 2
    · replace h := (if_pos hs1_1).symm.trans h
      refine x_tsw C dX1_weight_1 2 hs1_1 (by decide) (by decide) (off := 35) rfl (tgt := 36) (by decide) ?_
      refine x_iconst C dX1_weight_36 (v := 0) (by decide) ?_
      subst h
      exact x_ret C hr rfl rfl dX1_weight_37
    · replace h := (if_neg hs1_1).symm.trans h
      by_cases hs1_2 : x0 = 3
      · replace h := (if_pos hs1_2).symm.trans h
        refine x_tsw C dX1_weight_1 3 hs1_2 (by decide) (by decide) (off := 37) rfl (tgt := 38) (by decide) ?_
        refine x_iload_n C dX1_weight_38 rfl 1 rfl ?_
        refine x_ineg C dX1_weight_39 ?_
        subst h
        exact x_ret C hr rfl rfl dX1_weight_40
      · replace h := (if_neg hs1_2).symm.trans h
        by_cases hs1_3 : x0 = 4
        · replace h := (if_pos hs1_3).symm.trans h
          refine x_tsw C dX1_weight_1 4 hs1_3 (by decide) (by decide) (off := 40) rfl (tgt := 41) (by decide) ?_
          refine x_iconst C dX1_weight_41 (v := 0) (by decide) ?_
          refine x_iconst C dX1_weight_42 (v := 2) (by decide) ?_
          refine x_iload_n C dX1_weight_43 rfl 1 rfl ?_
          refine x_imul C dX1_weight_44 ?_
          refine x_iload_n C dX1_weight_45 rfl 2 rfl ?_
          refine x_isub C dX1_weight_46 ?_
          refine x_mmax C kM_X1_9 kT_Math_max kN_J9 kC_Math_max (Nat.le_of_ble_eq_true rfl) (Nat.le_of_ble_eq_true rfl) ⟨Nat.le_refl _, Nat.le_refl _⟩ dX1_weight_47 ?_
          subst h
          exact x_ret C hr rfl rfl dX1_weight_50
        · replace h := (if_neg hs1_3).symm.trans h
          refine x_tswD C dX1_weight_1 (tgt := 51) (by have e0 := lv_neT hs1_0 (a := 1) rfl; have e1 := lv_neT hs1_1 (a := 2) rfl; have e2 := lv_neT hs1_2 (a := 3) rfl; have e3 := lv_neT hs1_3 (a := 4) rfl; omega) (by decide) ?_
          refine x_iload_n C dX1_weight_51 rfl 1 rfl ?_
          subst h
          exact x_ret C hr rfl rfl dX1_weight_52
def f_X1_isA (x0 : Int32) (x1 : Int32) : Int32 :=
if x1 = x0 then (
(1 : Int32))
else (
if x1 = 0 then (
(1 : Int32))
else (
if x0 = (4 : Int32) then (
if x1 = (1 : Int32) then (
(1 : Int32))
else (
(0 : Int32)))
else (
(0 : Int32))))
set_option maxHeartbeats 4000000 in
set_option maxRecDepth 20000 in
theorem m_X1_isA {E : gs_E} {l : Launch} {x0 : Int32} {x1 : Int32} {σ : gs_H} {g : Int64} {r0 : Int32} (h : f_X1_isA x0 x1 = r0) : gs_M l E yX1_isA cX1_isA 2 (some .boolean) (0, 0) [.int x0, .int x1] σ g (some (.int r0)) σ g := by
  refine x_enter (lv := [(0, .int x0), (1, .int x1)]) (by decide +kernel) (Nat.le_of_ble_eq_true rfl) rfl (fun p e s m args below meth c C hr => ?_)
  unfold f_X1_isA at h
  refine x_iload_n C dX1_isA_0 rfl 1 rfl ?_
  refine x_iload_n C dX1_isA_1 rfl 0 rfl ?_
  by_cases hc1 : x1 = x0
  · replace h := (if_pos hc1).symm.trans h
    refine x_icmp_eqT C dX1_isA_2 (tgt := 19) (by decide) hc1 ?_
    refine x_iconst C dX1_isA_19 (v := 1) (by decide) ?_
    refine x_goto C dX1_isA_20 (tgt := 24) (by decide) ?_
    subst h
    exact x_retb C hr (by decide) rfl dX1_isA_24
  · replace h := (if_neg hc1).symm.trans h
    refine x_icmp_eqF C dX1_isA_2 (tgt := 19) (by decide) hc1 ?_
    refine x_iload_n C dX1_isA_5 rfl 1 rfl ?_
    by_cases hc2 : x1 = 0
    · replace h := (if_pos hc2).symm.trans h
      refine x_if_eqT C dX1_isA_6 (tgt := 19) (by decide) hc2 ?_
      refine x_iconst C dX1_isA_19 (v := 1) (by decide) ?_
      refine x_goto C dX1_isA_20 (tgt := 24) (by decide) ?_
      subst h
      exact x_retb C hr (by decide) rfl dX1_isA_24
    · replace h := (if_neg hc2).symm.trans h
      refine x_if_eqF C dX1_isA_6 (tgt := 19) (by decide) hc2 ?_
      refine x_iload_n C dX1_isA_9 rfl 0 rfl ?_
      refine x_iconst C dX1_isA_10 (v := 4) (by decide) ?_
      by_cases hc3 : x0 = (4 : Int32)
      · replace h := (if_pos hc3).symm.trans h
        refine x_icmp_neF C dX1_isA_11 (tgt := 23) (by decide) hc3 ?_
        refine x_iload_n C dX1_isA_14 rfl 1 rfl ?_
        refine x_iconst C dX1_isA_15 (v := 1) (by decide) ?_
        by_cases hc4 : x1 = (1 : Int32)
        · replace h := (if_pos hc4).symm.trans h
          refine x_icmp_neF C dX1_isA_16 (tgt := 23) (by decide) hc4 ?_
          refine x_iconst C dX1_isA_19 (v := 1) (by decide) ?_
          refine x_goto C dX1_isA_20 (tgt := 24) (by decide) ?_
          subst h
          exact x_retb C hr (by decide) rfl dX1_isA_24
        · replace h := (if_neg hc4).symm.trans h
          refine x_icmp_neT C dX1_isA_16 (tgt := 23) (by decide) hc4 ?_
          refine x_iconst C dX1_isA_23 (v := 0) (by decide) ?_
          subst h
          exact x_retb C hr (by decide) rfl dX1_isA_24
      · replace h := (if_neg hc3).symm.trans h
        refine x_icmp_neT C dX1_isA_11 (tgt := 23) (by decide) hc3 ?_
        refine x_iconst C dX1_isA_23 (v := 0) (by decide) ?_
        subst h
        exact x_retb C hr (by decide) rfl dX1_isA_24
def f_X1_isKind (x0 : Int32) : Int32 :=
if x0 < 0 then (
(0 : Int32))
else (
if (4 : Int32) < x0 then (
(0 : Int32))
else (
(1 : Int32)))
set_option maxHeartbeats 4000000 in
set_option maxRecDepth 20000 in
theorem m_X1_isKind {E : gs_E} {l : Launch} {x0 : Int32} {σ : gs_H} {g : Int64} {r0 : Int32} (h : f_X1_isKind x0 = r0) : gs_M l E yX1_isKind cX1_isKind 1 (some .boolean) (0, 0) [.int x0] σ g (some (.int r0)) σ g := by
  refine x_enter (lv := [(0, .int x0)]) (by decide +kernel) (Nat.le_of_ble_eq_true rfl) rfl (fun p e s m args below meth c C hr => ?_)
  unfold f_X1_isKind at h
  refine x_iload_n C dX1_isKind_0 rfl 0 rfl ?_
  by_cases hc1 : x0 < 0
  · replace h := (if_pos hc1).symm.trans h
    refine x_if_ltT C dX1_isKind_1 (tgt := 13) (by decide) hc1 ?_
    refine x_iconst C dX1_isKind_13 (v := 0) (by decide) ?_
    subst h
    exact x_retb C hr (by decide) rfl dX1_isKind_14
  · replace h := (if_neg hc1).symm.trans h
    refine x_if_ltF C dX1_isKind_1 (tgt := 13) (by decide) hc1 ?_
    refine x_iload_n C dX1_isKind_4 rfl 0 rfl ?_
    refine x_iconst C dX1_isKind_5 (v := 4) (by decide) ?_
    by_cases hc2 : (4 : Int32) < x0
    · replace h := (if_pos hc2).symm.trans h
      refine x_icmp_gtT C dX1_isKind_6 (tgt := 13) (by decide) hc2 ?_
      refine x_iconst C dX1_isKind_13 (v := 0) (by decide) ?_
      subst h
      exact x_retb C hr (by decide) rfl dX1_isKind_14
    · replace h := (if_neg hc2).symm.trans h
      refine x_icmp_gtF C dX1_isKind_6 (tgt := 13) (by decide) hc2 ?_
      refine x_iconst C dX1_isKind_9 (v := 1) (by decide) ?_
      refine x_goto C dX1_isKind_10 (tgt := 14) (by decide) ?_
      subst h
      exact x_retb C hr (by decide) rfl dX1_isKind_14
def b_X8_swapThings_2 (ar : Nat) (x1 : Int32) (x2 : Int32) (y : Int32 × gs_H) : Option ((Int32 × gs_H) ⊕ ((gs_H))) :=
if (6 : Int32) ≤ y.1 then (
some (Sum.inr y.2))
else (
if inb y.1 6 then
if (y.2 ar y.1.toNatClampNeg) = x1 then (
if inb y.1 6 then
some (Sum.inl ((y.1 + (1 : Int32)), (up2 y.2 ar y.1.toNatClampNeg x2))) else none)
else (
if inb y.1 6 then
if (y.2 ar y.1.toNatClampNeg) = x2 then (
if inb y.1 6 then
some (Sum.inl ((y.1 + (1 : Int32)), (up2 y.2 ar y.1.toNatClampNeg x1))) else none)
else (
some (Sum.inl ((y.1 + (1 : Int32)), y.2))) else none) else none)
def f_X8_swapThings (ar : Nat) (x1 : Int32) (x2 : Int32) (σ : gs_H) : Option (gs_H) :=
(lp (b_X8_swapThings_2 ar x1 x2) 1000 ((0 : Int32), σ)).bind fun q1 =>
some q1
set_option maxHeartbeats 4000000 in
set_option maxRecDepth 20000 in
theorem wl_X8_swapThings_2_12 {E : gs_E} {l : Launch} {p : Program} {e : Env} {s : State} {m : MethodId} {args : Array Value} {below : List Frame} {meth : Method} {c : Code} (C : gs_X E RX8 cX8_swapThings 4 p s m args meth c) {ov : Option Value} {σ0 : gs_H} {g0 : Int64} {x1 : Int32} {x2 : Int32} {g : Int64} {q : (gs_H)} (hx0 : ∀ (zs : gs_H), q = zs → gs_V E 4 (0, 0) p l e s m args below meth c ov σ0 g0 39 [] [] zs g) : ∀ (n : Nat) (y3 : Int32) (ys : gs_H), lp (b_X8_swapThings_2 12 x1 x2) n (y3, ys) = some q → gs_V E 4 (0, 0) p l e s m args below meth c ov σ0 g0 2 [(0, .ref (gs_a E 12)), (1, .int x1), (2, .int x2), (3, .int y3)] [] ys g := by
  intro n
  induction n with
  | zero => intro y3 ys h; cases h
  | succ n ih =>
    intro y3 ys h
    obtain ⟨r, h, hl, he⟩ := lp_step h
    have hc := fun (y3 : Int32) (ys : gs_H) (hr : r = Sum.inl (y3, ys)) => ih y3 ys (hl _ hr)
    have hk0 := fun (zs : gs_H) (hr : r = Sum.inr zs) => hx0 zs (he _ hr).symm
    unfold b_X8_swapThings_2 at h
    try dsimp only at h
    refine x_iload_n C dX8_swapThings_2 rfl 3 rfl ?_
    refine x_aload_n C dX8_swapThings_3 rfl 0 rfl ?_
    refine x_alen C 12 rfl (v := (6 : Int32)) (by first | rfl | decide) dX8_swapThings_4 ?_
    by_cases hc1 : (6 : Int32) ≤ y3
    · replace h := (if_pos hc1).symm.trans h
      refine x_icmp_geT C dX8_swapThings_5 (tgt := 39) (by decide) hc1 ?_
      refine x_lv (lv' := []) [] rfl ?_
      obtain rfl := Option.some.inj h
      exact hk0 ys rfl
    · replace h := (if_neg hc1).symm.trans h
      refine x_icmp_geF C dX8_swapThings_5 (tgt := 39) (by decide) hc1 ?_
      refine x_aload_n C dX8_swapThings_8 rfl 0 rfl ?_
      refine x_iload_n C dX8_swapThings_9 rfl 3 rfl ?_
      obtain ⟨hb2, h⟩ := ck_some h
      refine x_iald C 12 rfl hb2 (v := (ys 12 y3.toNatClampNeg)) rfl dX8_swapThings_10 ?_
      refine x_iload_n C dX8_swapThings_11 rfl 1 rfl ?_
      by_cases hc3 : (ys 12 y3.toNatClampNeg) = x1
      · replace h := (if_pos hc3).symm.trans h
        refine x_icmp_neF C dX8_swapThings_12 (tgt := 22) (by decide) hc3 ?_
        refine x_aload_n C dX8_swapThings_15 rfl 0 rfl ?_
        refine x_iload_n C dX8_swapThings_16 rfl 3 rfl ?_
        refine x_iload_n C dX8_swapThings_17 rfl 2 rfl ?_
        obtain ⟨hb7, h⟩ := ck_some h
        refine x_iast C 12 rfl hb7 dX8_swapThings_18 ?_
        refine x_goto C dX8_swapThings_19 (tgt := 33) (by decide) ?_
        refine x_iinc C dX8_swapThings_33 3 rfl (v := (y3 + (1 : Int32))) rfl (lv2 := [(0, .ref (gs_a E 12)), (1, .int x1), (2, .int x2), (3, .int (y3 + (1 : Int32)))]) (by decide) rfl [1, 2, 3, 0] rfl ?_
        refine x_goto C dX8_swapThings_36 (tgt := 2) (by decide) ?_
        obtain rfl := Option.some.inj h
        exact hc (y3 + (1 : Int32)) (up2 ys 12 y3.toNatClampNeg x2) rfl
      · replace h := (if_neg hc3).symm.trans h
        refine x_icmp_neT C dX8_swapThings_12 (tgt := 22) (by decide) hc3 ?_
        refine x_aload_n C dX8_swapThings_22 rfl 0 rfl ?_
        refine x_iload_n C dX8_swapThings_23 rfl 3 rfl ?_
        obtain ⟨hb4, h⟩ := ck_some h
        refine x_iald C 12 rfl hb4 (v := (ys 12 y3.toNatClampNeg)) rfl dX8_swapThings_24 ?_
        refine x_iload_n C dX8_swapThings_25 rfl 2 rfl ?_
        by_cases hc5 : (ys 12 y3.toNatClampNeg) = x2
        · replace h := (if_pos hc5).symm.trans h
          refine x_icmp_neF C dX8_swapThings_26 (tgt := 33) (by decide) hc5 ?_
          refine x_aload_n C dX8_swapThings_29 rfl 0 rfl ?_
          refine x_iload_n C dX8_swapThings_30 rfl 3 rfl ?_
          refine x_iload_n C dX8_swapThings_31 rfl 1 rfl ?_
          obtain ⟨hb6, h⟩ := ck_some h
          refine x_iast C 12 rfl hb6 dX8_swapThings_32 ?_
          refine x_iinc C dX8_swapThings_33 3 rfl (v := (y3 + (1 : Int32))) rfl (lv2 := [(0, .ref (gs_a E 12)), (1, .int x1), (2, .int x2), (3, .int (y3 + (1 : Int32)))]) (by decide) rfl [1, 2, 3, 0] rfl ?_
          refine x_goto C dX8_swapThings_36 (tgt := 2) (by decide) ?_
          obtain rfl := Option.some.inj h
          exact hc (y3 + (1 : Int32)) (up2 ys 12 y3.toNatClampNeg x1) rfl
        · replace h := (if_neg hc5).symm.trans h
          refine x_icmp_neT C dX8_swapThings_26 (tgt := 33) (by decide) hc5 ?_
          refine x_iinc C dX8_swapThings_33 3 rfl (v := (y3 + (1 : Int32))) rfl (lv2 := [(0, .ref (gs_a E 12)), (1, .int x1), (2, .int x2), (3, .int (y3 + (1 : Int32)))]) (by decide) rfl [1, 2, 3, 0] rfl ?_
          refine x_goto C dX8_swapThings_36 (tgt := 2) (by decide) ?_
          obtain rfl := Option.some.inj h
          exact hc (y3 + (1 : Int32)) ys rfl
set_option maxHeartbeats 4000000 in
set_option maxRecDepth 20000 in
theorem m_X8_swapThings_12 {E : gs_E} {l : Launch} {x1 : Int32} {x2 : Int32} {σ : gs_H} {g : Int64} {σ0 : gs_H} (h : f_X8_swapThings 12 x1 x2 σ = some σ0) : gs_M l E yX8_swapThings cX8_swapThings 4 (none) (0, 0) [.ref (gs_a E 12), .int x1, .int x2] σ g (none) σ0 g := by
  refine x_enter (lv := [(0, .ref (gs_a E 12)), (1, .int x1), (2, .int x2)]) (by decide +kernel) (Nat.le_of_ble_eq_true rfl) rfl (fun p e s m args below meth c C hr => ?_)
  unfold f_X8_swapThings at h
  refine x_iconst C dX8_swapThings_0 (v := 0) (by decide) ?_
  refine x_istore_n C dX8_swapThings_1 rfl (lv2 := [(0, .ref (gs_a E 12)), (1, .int x1), (2, .int x2), (3, .int (0 : Int32))]) (by decide) rfl [1, 2, 3, 0] rfl ?_
  obtain ⟨q1, hq1, h⟩ := Option.bind_eq_some_iff.mp h
  refine wl_X8_swapThings_2_12 C (fun s1_0 hz => ?_) 1000 _ _ hq1
  subst hz
  try dsimp only at h
  replace h := Option.some.inj h
  subst h
  exact x_retv C hr rfl dX8_swapThings_39
set_option maxHeartbeats 4000000 in
set_option maxRecDepth 20000 in
theorem wl_X8_swapThings_2_56 {E : gs_E} {l : Launch} {p : Program} {e : Env} {s : State} {m : MethodId} {args : Array Value} {below : List Frame} {meth : Method} {c : Code} (C : gs_X E RX8 cX8_swapThings 4 p s m args meth c) {ov : Option Value} {σ0 : gs_H} {g0 : Int64} {x1 : Int32} {x2 : Int32} {g : Int64} {q : (gs_H)} (hx0 : ∀ (zs : gs_H), q = zs → gs_V E 4 (0, 0) p l e s m args below meth c ov σ0 g0 39 [] [] zs g) : ∀ (n : Nat) (y3 : Int32) (ys : gs_H), lp (b_X8_swapThings_2 56 x1 x2) n (y3, ys) = some q → gs_V E 4 (0, 0) p l e s m args below meth c ov σ0 g0 2 [(0, .ref (gs_a E 56)), (1, .int x1), (2, .int x2), (3, .int y3)] [] ys g := by
  intro n
  induction n with
  | zero => intro y3 ys h; cases h
  | succ n ih =>
    intro y3 ys h
    obtain ⟨r, h, hl, he⟩ := lp_step h
    have hc := fun (y3 : Int32) (ys : gs_H) (hr : r = Sum.inl (y3, ys)) => ih y3 ys (hl _ hr)
    have hk0 := fun (zs : gs_H) (hr : r = Sum.inr zs) => hx0 zs (he _ hr).symm
    unfold b_X8_swapThings_2 at h
    try dsimp only at h
    refine x_iload_n C dX8_swapThings_2 rfl 3 rfl ?_
    refine x_aload_n C dX8_swapThings_3 rfl 0 rfl ?_
    refine x_alen C 56 rfl (v := (6 : Int32)) (by first | rfl | decide) dX8_swapThings_4 ?_
    by_cases hc1 : (6 : Int32) ≤ y3
    · replace h := (if_pos hc1).symm.trans h
      refine x_icmp_geT C dX8_swapThings_5 (tgt := 39) (by decide) hc1 ?_
      refine x_lv (lv' := []) [] rfl ?_
      obtain rfl := Option.some.inj h
      exact hk0 ys rfl
    · replace h := (if_neg hc1).symm.trans h
      refine x_icmp_geF C dX8_swapThings_5 (tgt := 39) (by decide) hc1 ?_
      refine x_aload_n C dX8_swapThings_8 rfl 0 rfl ?_
      refine x_iload_n C dX8_swapThings_9 rfl 3 rfl ?_
      obtain ⟨hb2, h⟩ := ck_some h
      refine x_iald C 56 rfl hb2 (v := (ys 56 y3.toNatClampNeg)) rfl dX8_swapThings_10 ?_
      refine x_iload_n C dX8_swapThings_11 rfl 1 rfl ?_
      by_cases hc3 : (ys 56 y3.toNatClampNeg) = x1
      · replace h := (if_pos hc3).symm.trans h
        refine x_icmp_neF C dX8_swapThings_12 (tgt := 22) (by decide) hc3 ?_
        refine x_aload_n C dX8_swapThings_15 rfl 0 rfl ?_
        refine x_iload_n C dX8_swapThings_16 rfl 3 rfl ?_
        refine x_iload_n C dX8_swapThings_17 rfl 2 rfl ?_
        obtain ⟨hb7, h⟩ := ck_some h
        refine x_iast C 56 rfl hb7 dX8_swapThings_18 ?_
        refine x_goto C dX8_swapThings_19 (tgt := 33) (by decide) ?_
        refine x_iinc C dX8_swapThings_33 3 rfl (v := (y3 + (1 : Int32))) rfl (lv2 := [(0, .ref (gs_a E 56)), (1, .int x1), (2, .int x2), (3, .int (y3 + (1 : Int32)))]) (by decide) rfl [1, 2, 3, 0] rfl ?_
        refine x_goto C dX8_swapThings_36 (tgt := 2) (by decide) ?_
        obtain rfl := Option.some.inj h
        exact hc (y3 + (1 : Int32)) (up2 ys 56 y3.toNatClampNeg x2) rfl
      · replace h := (if_neg hc3).symm.trans h
        refine x_icmp_neT C dX8_swapThings_12 (tgt := 22) (by decide) hc3 ?_
        refine x_aload_n C dX8_swapThings_22 rfl 0 rfl ?_
        refine x_iload_n C dX8_swapThings_23 rfl 3 rfl ?_
        obtain ⟨hb4, h⟩ := ck_some h
        refine x_iald C 56 rfl hb4 (v := (ys 56 y3.toNatClampNeg)) rfl dX8_swapThings_24 ?_
        refine x_iload_n C dX8_swapThings_25 rfl 2 rfl ?_
        by_cases hc5 : (ys 56 y3.toNatClampNeg) = x2
        · replace h := (if_pos hc5).symm.trans h
          refine x_icmp_neF C dX8_swapThings_26 (tgt := 33) (by decide) hc5 ?_
          refine x_aload_n C dX8_swapThings_29 rfl 0 rfl ?_
          refine x_iload_n C dX8_swapThings_30 rfl 3 rfl ?_
          refine x_iload_n C dX8_swapThings_31 rfl 1 rfl ?_
          obtain ⟨hb6, h⟩ := ck_some h
          refine x_iast C 56 rfl hb6 dX8_swapThings_32 ?_
          refine x_iinc C dX8_swapThings_33 3 rfl (v := (y3 + (1 : Int32))) rfl (lv2 := [(0, .ref (gs_a E 56)), (1, .int x1), (2, .int x2), (3, .int (y3 + (1 : Int32)))]) (by decide) rfl [1, 2, 3, 0] rfl ?_
          refine x_goto C dX8_swapThings_36 (tgt := 2) (by decide) ?_
          obtain rfl := Option.some.inj h
          exact hc (y3 + (1 : Int32)) (up2 ys 56 y3.toNatClampNeg x1) rfl
        · replace h := (if_neg hc5).symm.trans h
          refine x_icmp_neT C dX8_swapThings_26 (tgt := 33) (by decide) hc5 ?_
          refine x_iinc C dX8_swapThings_33 3 rfl (v := (y3 + (1 : Int32))) rfl (lv2 := [(0, .ref (gs_a E 56)), (1, .int x1), (2, .int x2), (3, .int (y3 + (1 : Int32)))]) (by decide) rfl [1, 2, 3, 0] rfl ?_
          refine x_goto C dX8_swapThings_36 (tgt := 2) (by decide) ?_
          obtain rfl := Option.some.inj h
          exact hc (y3 + (1 : Int32)) ys rfl
set_option maxHeartbeats 4000000 in
set_option maxRecDepth 20000 in
theorem m_X8_swapThings_56 {E : gs_E} {l : Launch} {x1 : Int32} {x2 : Int32} {σ : gs_H} {g : Int64} {σ0 : gs_H} (h : f_X8_swapThings 56 x1 x2 σ = some σ0) : gs_M l E yX8_swapThings cX8_swapThings 4 (none) (0, 0) [.ref (gs_a E 56), .int x1, .int x2] σ g (none) σ0 g := by
  refine x_enter (lv := [(0, .ref (gs_a E 56)), (1, .int x1), (2, .int x2)]) (by decide +kernel) (Nat.le_of_ble_eq_true rfl) rfl (fun p e s m args below meth c C hr => ?_)
  unfold f_X8_swapThings at h
  refine x_iconst C dX8_swapThings_0 (v := 0) (by decide) ?_
  refine x_istore_n C dX8_swapThings_1 rfl (lv2 := [(0, .ref (gs_a E 56)), (1, .int x1), (2, .int x2), (3, .int (0 : Int32))]) (by decide) rfl [1, 2, 3, 0] rfl ?_
  obtain ⟨q1, hq1, h⟩ := Option.bind_eq_some_iff.mp h
  refine wl_X8_swapThings_2_56 C (fun s1_0 hz => ?_) 1000 _ _ hq1
  subst hz
  try dsimp only at h
  replace h := Option.some.inj h
  subst h
  exact x_retv C hr rfl dX8_swapThings_39
set_option maxHeartbeats 4000000 in
set_option maxRecDepth 20000 in
theorem wl_X8_swapThings_2_47 {E : gs_E} {l : Launch} {p : Program} {e : Env} {s : State} {m : MethodId} {args : Array Value} {below : List Frame} {meth : Method} {c : Code} (C : gs_X E RX8 cX8_swapThings 4 p s m args meth c) {ov : Option Value} {σ0 : gs_H} {g0 : Int64} {x1 : Int32} {x2 : Int32} {g : Int64} {q : (gs_H)} (hx0 : ∀ (zs : gs_H), q = zs → gs_V E 4 (0, 0) p l e s m args below meth c ov σ0 g0 39 [] [] zs g) : ∀ (n : Nat) (y3 : Int32) (ys : gs_H), lp (b_X8_swapThings_2 47 x1 x2) n (y3, ys) = some q → gs_V E 4 (0, 0) p l e s m args below meth c ov σ0 g0 2 [(0, .ref (gs_a E 47)), (1, .int x1), (2, .int x2), (3, .int y3)] [] ys g := by
  intro n
  induction n with
  | zero => intro y3 ys h; cases h
  | succ n ih =>
    intro y3 ys h
    obtain ⟨r, h, hl, he⟩ := lp_step h
    have hc := fun (y3 : Int32) (ys : gs_H) (hr : r = Sum.inl (y3, ys)) => ih y3 ys (hl _ hr)
    have hk0 := fun (zs : gs_H) (hr : r = Sum.inr zs) => hx0 zs (he _ hr).symm
    unfold b_X8_swapThings_2 at h
    try dsimp only at h
    refine x_iload_n C dX8_swapThings_2 rfl 3 rfl ?_
    refine x_aload_n C dX8_swapThings_3 rfl 0 rfl ?_
    refine x_alen C 47 rfl (v := (6 : Int32)) (by first | rfl | decide) dX8_swapThings_4 ?_
    by_cases hc1 : (6 : Int32) ≤ y3
    · replace h := (if_pos hc1).symm.trans h
      refine x_icmp_geT C dX8_swapThings_5 (tgt := 39) (by decide) hc1 ?_
      refine x_lv (lv' := []) [] rfl ?_
      obtain rfl := Option.some.inj h
      exact hk0 ys rfl
    · replace h := (if_neg hc1).symm.trans h
      refine x_icmp_geF C dX8_swapThings_5 (tgt := 39) (by decide) hc1 ?_
      refine x_aload_n C dX8_swapThings_8 rfl 0 rfl ?_
      refine x_iload_n C dX8_swapThings_9 rfl 3 rfl ?_
      obtain ⟨hb2, h⟩ := ck_some h
      refine x_iald C 47 rfl hb2 (v := (ys 47 y3.toNatClampNeg)) rfl dX8_swapThings_10 ?_
      refine x_iload_n C dX8_swapThings_11 rfl 1 rfl ?_
      by_cases hc3 : (ys 47 y3.toNatClampNeg) = x1
      · replace h := (if_pos hc3).symm.trans h
        refine x_icmp_neF C dX8_swapThings_12 (tgt := 22) (by decide) hc3 ?_
        refine x_aload_n C dX8_swapThings_15 rfl 0 rfl ?_
        refine x_iload_n C dX8_swapThings_16 rfl 3 rfl ?_
        refine x_iload_n C dX8_swapThings_17 rfl 2 rfl ?_
        obtain ⟨hb7, h⟩ := ck_some h
        refine x_iast C 47 rfl hb7 dX8_swapThings_18 ?_
        refine x_goto C dX8_swapThings_19 (tgt := 33) (by decide) ?_
        refine x_iinc C dX8_swapThings_33 3 rfl (v := (y3 + (1 : Int32))) rfl (lv2 := [(0, .ref (gs_a E 47)), (1, .int x1), (2, .int x2), (3, .int (y3 + (1 : Int32)))]) (by decide) rfl [1, 2, 3, 0] rfl ?_
        refine x_goto C dX8_swapThings_36 (tgt := 2) (by decide) ?_
        obtain rfl := Option.some.inj h
        exact hc (y3 + (1 : Int32)) (up2 ys 47 y3.toNatClampNeg x2) rfl
      · replace h := (if_neg hc3).symm.trans h
        refine x_icmp_neT C dX8_swapThings_12 (tgt := 22) (by decide) hc3 ?_
        refine x_aload_n C dX8_swapThings_22 rfl 0 rfl ?_
        refine x_iload_n C dX8_swapThings_23 rfl 3 rfl ?_
        obtain ⟨hb4, h⟩ := ck_some h
        refine x_iald C 47 rfl hb4 (v := (ys 47 y3.toNatClampNeg)) rfl dX8_swapThings_24 ?_
        refine x_iload_n C dX8_swapThings_25 rfl 2 rfl ?_
        by_cases hc5 : (ys 47 y3.toNatClampNeg) = x2
        · replace h := (if_pos hc5).symm.trans h
          refine x_icmp_neF C dX8_swapThings_26 (tgt := 33) (by decide) hc5 ?_
          refine x_aload_n C dX8_swapThings_29 rfl 0 rfl ?_
          refine x_iload_n C dX8_swapThings_30 rfl 3 rfl ?_
          refine x_iload_n C dX8_swapThings_31 rfl 1 rfl ?_
          obtain ⟨hb6, h⟩ := ck_some h
          refine x_iast C 47 rfl hb6 dX8_swapThings_32 ?_
          refine x_iinc C dX8_swapThings_33 3 rfl (v := (y3 + (1 : Int32))) rfl (lv2 := [(0, .ref (gs_a E 47)), (1, .int x1), (2, .int x2), (3, .int (y3 + (1 : Int32)))]) (by decide) rfl [1, 2, 3, 0] rfl ?_
          refine x_goto C dX8_swapThings_36 (tgt := 2) (by decide) ?_
          obtain rfl := Option.some.inj h
          exact hc (y3 + (1 : Int32)) (up2 ys 47 y3.toNatClampNeg x1) rfl
        · replace h := (if_neg hc5).symm.trans h
          refine x_icmp_neT C dX8_swapThings_26 (tgt := 33) (by decide) hc5 ?_
          refine x_iinc C dX8_swapThings_33 3 rfl (v := (y3 + (1 : Int32))) rfl (lv2 := [(0, .ref (gs_a E 47)), (1, .int x1), (2, .int x2), (3, .int (y3 + (1 : Int32)))]) (by decide) rfl [1, 2, 3, 0] rfl ?_
          refine x_goto C dX8_swapThings_36 (tgt := 2) (by decide) ?_
          obtain rfl := Option.some.inj h
          exact hc (y3 + (1 : Int32)) ys rfl
set_option maxHeartbeats 4000000 in
set_option maxRecDepth 20000 in
theorem m_X8_swapThings_47 {E : gs_E} {l : Launch} {x1 : Int32} {x2 : Int32} {σ : gs_H} {g : Int64} {σ0 : gs_H} (h : f_X8_swapThings 47 x1 x2 σ = some σ0) : gs_M l E yX8_swapThings cX8_swapThings 4 (none) (0, 0) [.ref (gs_a E 47), .int x1, .int x2] σ g (none) σ0 g := by
  refine x_enter (lv := [(0, .ref (gs_a E 47)), (1, .int x1), (2, .int x2)]) (by decide +kernel) (Nat.le_of_ble_eq_true rfl) rfl (fun p e s m args below meth c C hr => ?_)
  unfold f_X8_swapThings at h
  refine x_iconst C dX8_swapThings_0 (v := 0) (by decide) ?_
  refine x_istore_n C dX8_swapThings_1 rfl (lv2 := [(0, .ref (gs_a E 47)), (1, .int x1), (2, .int x2), (3, .int (0 : Int32))]) (by decide) rfl [1, 2, 3, 0] rfl ?_
  obtain ⟨q1, hq1, h⟩ := Option.bind_eq_some_iff.mp h
  refine wl_X8_swapThings_2_47 C (fun s1_0 hz => ?_) 1000 _ _ hq1
  subst hz
  try dsimp only at h
  replace h := Option.some.inj h
  subst h
  exact x_retv C hr rfl dX8_swapThings_39
end
