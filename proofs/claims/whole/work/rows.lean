section
-- ===== PART A: goes FIRST, ahead of the names: the tables' words, and 'selects' of the private methods out of them =====
/-- a private method of a class that the tables say can be made, by its rows of tables_1 -/
def lw_okq (q : MethodName × Nat) : Prop := (q.1.cls ≠ "java/lang/invoke/MethodHandle" ∧ q.1.cls ≠ "java/lang/invoke/VarHandle") ∧ Cond.instantiable q.1.cls q.2 ∈ tables_1 ∧ Cond.privateMethod q.1 ∈ tables_1 ∧ Cond.instanceMethod q.1 ∈ tables_1
theorem lw_p0 : lw_okq (⟨"DishLift", "found", "(I)I"⟩, 10) := ⟨⟨by decide +kernel, by decide +kernel⟩, List.mem_of_getElem? (i := 15) (by decide +kernel), List.mem_of_getElem? (i := 268) (by decide +kernel), List.mem_of_getElem? (i := 269) (by decide +kernel)⟩
theorem lw_p1 : lw_okq (⟨"DishLift", "foundNothing", "(I)I"⟩, 10) := ⟨⟨by decide +kernel, by decide +kernel⟩, List.mem_of_getElem? (i := 15) (by decide +kernel), List.mem_of_getElem? (i := 277) (by decide +kernel), List.mem_of_getElem? (i := 278) (by decide +kernel)⟩
theorem lw_p2 : lw_okq (⟨"DishLift$Tape", "readLaw", "(LDishLift$House;)Z"⟩, 5) := ⟨⟨by decide +kernel, by decide +kernel⟩, List.mem_of_getElem? (i := 47) (by decide +kernel), List.mem_of_getElem? (i := 333) (by decide +kernel), List.mem_of_getElem? (i := 334) (by decide +kernel)⟩
theorem lw_p3 : lw_okq (⟨"DishLift$Tape", "readByte", "(I)Z"⟩, 5) := ⟨⟨by decide +kernel, by decide +kernel⟩, List.mem_of_getElem? (i := 47) (by decide +kernel), List.mem_of_getElem? (i := 337) (by decide +kernel), List.mem_of_getElem? (i := 338) (by decide +kernel)⟩
theorem lw_p4 : lw_okq (⟨"DishLift$Tape", "fails", "(I)Z"⟩, 5) := ⟨⟨by decide +kernel, by decide +kernel⟩, List.mem_of_getElem? (i := 47) (by decide +kernel), List.mem_of_getElem? (i := 341) (by decide +kernel), List.mem_of_getElem? (i := 342) (by decide +kernel)⟩
theorem lw_p5 : lw_okq (⟨"DishLift$Tape", "readNumber", "(III)Z"⟩, 5) := ⟨⟨by decide +kernel, by decide +kernel⟩, List.mem_of_getElem? (i := 47) (by decide +kernel), List.mem_of_getElem? (i := 345) (by decide +kernel), List.mem_of_getElem? (i := 346) (by decide +kernel)⟩
theorem lw_p6 : lw_okq (⟨"DishLift$Tape", "readDishes", "(LDishLift$House;)Z"⟩, 5) := ⟨⟨by decide +kernel, by decide +kernel⟩, List.mem_of_getElem? (i := 47) (by decide +kernel), List.mem_of_getElem? (i := 356) (by decide +kernel), List.mem_of_getElem? (i := 357) (by decide +kernel)⟩
theorem lw_p7 : lw_okq (⟨"DishLift$Tape", "readDish", "(LDishLift$House;I)Z"⟩, 5) := ⟨⟨by decide +kernel, by decide +kernel⟩, List.mem_of_getElem? (i := 47) (by decide +kernel), List.mem_of_getElem? (i := 360) (by decide +kernel), List.mem_of_getElem? (i := 361) (by decide +kernel)⟩
theorem lw_p8 : lw_okq (⟨"DishLift$House", "letOut", "()V"⟩, 12) := ⟨⟨by decide +kernel, by decide +kernel⟩, List.mem_of_getElem? (i := 72) (by decide +kernel), List.mem_of_getElem? (i := 416) (by decide +kernel), List.mem_of_getElem? (i := 417) (by decide +kernel)⟩
theorem lw_p9 : lw_okq (⟨"DishLift$House", "takeIn", "([I)V"⟩, 12) := ⟨⟨by decide +kernel, by decide +kernel⟩, List.mem_of_getElem? (i := 72) (by decide +kernel), List.mem_of_getElem? (i := 420) (by decide +kernel), List.mem_of_getElem? (i := 421) (by decide +kernel)⟩
theorem lw_p10 : lw_okq (⟨"DishLift$House", "goOn", "()Z"⟩, 12) := ⟨⟨by decide +kernel, by decide +kernel⟩, List.mem_of_getElem? (i := 72) (by decide +kernel), List.mem_of_getElem? (i := 442) (by decide +kernel), List.mem_of_getElem? (i := 443) (by decide +kernel)⟩
theorem lw_p11 : lw_okq (⟨"DishLift$House", "age", "(IZ)V"⟩, 12) := ⟨⟨by decide +kernel, by decide +kernel⟩, List.mem_of_getElem? (i := 72) (by decide +kernel), List.mem_of_getElem? (i := 450) (by decide +kernel), List.mem_of_getElem? (i := 451) (by decide +kernel)⟩
theorem lw_p12 : lw_okq (⟨"DishLift$House", "cool", "(I)V"⟩, 12) := ⟨⟨by decide +kernel, by decide +kernel⟩, List.mem_of_getElem? (i := 72) (by decide +kernel), List.mem_of_getElem? (i := 454) (by decide +kernel), List.mem_of_getElem? (i := 455) (by decide +kernel)⟩
theorem lw_p13 : lw_okq (⟨"DishLift$House", "lose", "(I)V"⟩, 12) := ⟨⟨by decide +kernel, by decide +kernel⟩, List.mem_of_getElem? (i := 72) (by decide +kernel), List.mem_of_getElem? (i := 458) (by decide +kernel), List.mem_of_getElem? (i := 459) (by decide +kernel)⟩
theorem lw_p14 : lw_okq (⟨"DishLift$House", "warm", "(I)V"⟩, 12) := ⟨⟨by decide +kernel, by decide +kernel⟩, List.mem_of_getElem? (i := 72) (by decide +kernel), List.mem_of_getElem? (i := 462) (by decide +kernel), List.mem_of_getElem? (i := 463) (by decide +kernel)⟩
theorem lw_p15 : lw_okq (⟨"DishLift$Foretold", "passTrial", "(I)V"⟩, 2) := ⟨⟨by decide +kernel, by decide +kernel⟩, List.mem_of_getElem? (i := 166) (by decide +kernel), List.mem_of_getElem? (i := 530) (by decide +kernel), List.mem_of_getElem? (i := 531) (by decide +kernel)⟩
def lw_privs_1 : List (MethodName × Nat) := [(⟨"DishLift", "found", "(I)I"⟩, 10), (⟨"DishLift", "foundNothing", "(I)I"⟩, 10), (⟨"DishLift$Tape", "readLaw", "(LDishLift$House;)Z"⟩, 5), (⟨"DishLift$Tape", "readByte", "(I)Z"⟩, 5), (⟨"DishLift$Tape", "fails", "(I)Z"⟩, 5), (⟨"DishLift$Tape", "readNumber", "(III)Z"⟩, 5), (⟨"DishLift$Tape", "readDishes", "(LDishLift$House;)Z"⟩, 5), (⟨"DishLift$Tape", "readDish", "(LDishLift$House;I)Z"⟩, 5), (⟨"DishLift$House", "letOut", "()V"⟩, 12), (⟨"DishLift$House", "takeIn", "([I)V"⟩, 12), (⟨"DishLift$House", "goOn", "()Z"⟩, 12), (⟨"DishLift$House", "age", "(IZ)V"⟩, 12), (⟨"DishLift$House", "cool", "(I)V"⟩, 12), (⟨"DishLift$House", "lose", "(I)V"⟩, 12), (⟨"DishLift$House", "warm", "(I)V"⟩, 12), (⟨"DishLift$Foretold", "passTrial", "(I)V"⟩, 2)]
theorem lw_r1 : ∀ q ∈ lw_privs_1, lw_okq q := List.forall_mem_cons.mpr ⟨lw_p0, List.forall_mem_cons.mpr ⟨lw_p1, List.forall_mem_cons.mpr ⟨lw_p2, List.forall_mem_cons.mpr ⟨lw_p3, List.forall_mem_cons.mpr ⟨lw_p4, List.forall_mem_cons.mpr ⟨lw_p5, List.forall_mem_cons.mpr ⟨lw_p6, List.forall_mem_cons.mpr ⟨lw_p7, List.forall_mem_cons.mpr ⟨lw_p8, List.forall_mem_cons.mpr ⟨lw_p9, List.forall_mem_cons.mpr ⟨lw_p10, List.forall_mem_cons.mpr ⟨lw_p11, List.forall_mem_cons.mpr ⟨lw_p12, List.forall_mem_cons.mpr ⟨lw_p13, List.forall_mem_cons.mpr ⟨lw_p14, List.forall_mem_cons.mpr ⟨lw_p15, fun _ h => absurd h List.not_mem_nil⟩⟩⟩⟩⟩⟩⟩⟩⟩⟩⟩⟩⟩⟩⟩⟩
theorem lw_p16 : lw_okq (⟨"DishLift$Foretold", "servesAll", "(LDishLift$House;III)Z"⟩, 2) := ⟨⟨by decide +kernel, by decide +kernel⟩, List.mem_of_getElem? (i := 166) (by decide +kernel), List.mem_of_getElem? (i := 590) (by decide +kernel), List.mem_of_getElem? (i := 591) (by decide +kernel)⟩
theorem lw_p17 : lw_okq (⟨"DishLift$Orders", "fill", "(II)V"⟩, 6) := ⟨⟨by decide +kernel, by decide +kernel⟩, List.mem_of_getElem? (i := 182) (by decide +kernel), List.mem_of_getElem? (i := 614) (by decide +kernel), List.mem_of_getElem? (i := 615) (by decide +kernel)⟩
theorem lw_p18 : lw_okq (⟨"DishLift$Orders", "weigh", "()V"⟩, 6) := ⟨⟨by decide +kernel, by decide +kernel⟩, List.mem_of_getElem? (i := 182) (by decide +kernel), List.mem_of_getElem? (i := 618) (by decide +kernel), List.mem_of_getElem? (i := 619) (by decide +kernel)⟩
theorem lw_p19 : lw_okq (⟨"DishLift$Orders", "isNeedless", "(II)Z"⟩, 6) := ⟨⟨by decide +kernel, by decide +kernel⟩, List.mem_of_getElem? (i := 182) (by decide +kernel), List.mem_of_getElem? (i := 626) (by decide +kernel), List.mem_of_getElem? (i := 627) (by decide +kernel)⟩
theorem lw_p20 : lw_okq (⟨"DishLift$Foretold", "playedFrom", "(LDishLift$House;IIII)I"⟩, 2) := ⟨⟨by decide +kernel, by decide +kernel⟩, List.mem_of_getElem? (i := 166) (by decide +kernel), List.mem_of_getElem? (i := 666) (by decide +kernel), List.mem_of_getElem? (i := 667) (by decide +kernel)⟩
theorem lw_p21 : lw_okq (⟨"DishLift$Foretold", "heatServedFrom", "(LDishLift$House;II)I"⟩, 2) := ⟨⟨by decide +kernel, by decide +kernel⟩, List.mem_of_getElem? (i := 166) (by decide +kernel), List.mem_of_getElem? (i := 670) (by decide +kernel), List.mem_of_getElem? (i := 671) (by decide +kernel)⟩
theorem lw_p22 : lw_okq (⟨"DishLift$Foretold", "suppose", "(LDishLift$House;III)V"⟩, 2) := ⟨⟨by decide +kernel, by decide +kernel⟩, List.mem_of_getElem? (i := 166) (by decide +kernel), List.mem_of_getElem? (i := 690) (by decide +kernel), List.mem_of_getElem? (i := 691) (by decide +kernel)⟩
theorem lw_p23 : lw_okq (⟨"DishLift$Foretold", "isTold", "(I[III)Z"⟩, 2) := ⟨⟨by decide +kernel, by decide +kernel⟩, List.mem_of_getElem? (i := 166) (by decide +kernel), List.mem_of_getElem? (i := 694) (by decide +kernel), List.mem_of_getElem? (i := 695) (by decide +kernel)⟩
theorem lw_p24 : lw_okq (⟨"DishLift$Foretold", "lineAt", "(I)LDishLift$House;"⟩, 2) := ⟨⟨by decide +kernel, by decide +kernel⟩, List.mem_of_getElem? (i := 166) (by decide +kernel), List.mem_of_getElem? (i := 707) (by decide +kernel), List.mem_of_getElem? (i := 708) (by decide +kernel)⟩
theorem lw_p25 : lw_okq (⟨"DishLift$Foretold", "casesFrom", "(IIII)J"⟩, 2) := ⟨⟨by decide +kernel, by decide +kernel⟩, List.mem_of_getElem? (i := 166) (by decide +kernel), List.mem_of_getElem? (i := 711) (by decide +kernel), List.mem_of_getElem? (i := 712) (by decide +kernel)⟩
theorem lw_p26 : lw_okq (⟨"DishLift$Foretold", "branch", "(IIIIZ)J"⟩, 2) := ⟨⟨by decide +kernel, by decide +kernel⟩, List.mem_of_getElem? (i := 166) (by decide +kernel), List.mem_of_getElem? (i := 719) (by decide +kernel), List.mem_of_getElem? (i := 720) (by decide +kernel)⟩
theorem lw_p27 : lw_okq (⟨"DishLift$Asks", "begin", "(LDishLift$House;III)I"⟩, 2) := ⟨⟨by decide +kernel, by decide +kernel⟩, List.mem_of_getElem? (i := 211) (by decide +kernel), List.mem_of_getElem? (i := 776) (by decide +kernel), List.mem_of_getElem? (i := 777) (by decide +kernel)⟩
theorem lw_p28 : lw_okq (⟨"DishLift$Asks", "leave", "(I)V"⟩, 2) := ⟨⟨by decide +kernel, by decide +kernel⟩, List.mem_of_getElem? (i := 211) (by decide +kernel), List.mem_of_getElem? (i := 780) (by decide +kernel), List.mem_of_getElem? (i := 781) (by decide +kernel)⟩
theorem lw_p29 : lw_okq (⟨"DishLiftModel", "finds", "(I)I"⟩, 19) := ⟨⟨by decide +kernel, by decide +kernel⟩, List.mem_of_getElem? (i := 802) (by decide +kernel), List.mem_of_getElem? (i := 880) (by decide +kernel), List.mem_of_getElem? (i := 881) (by decide +kernel)⟩
theorem lw_p30 : lw_okq (⟨"DishLiftModel", "against", "(III)I"⟩, 19) := ⟨⟨by decide +kernel, by decide +kernel⟩, List.mem_of_getElem? (i := 802) (by decide +kernel), List.mem_of_getElem? (i := 889) (by decide +kernel), List.mem_of_getElem? (i := 890) (by decide +kernel)⟩
theorem lw_p31 : lw_okq (⟨"DishLiftModel", "takesAll", "()Z"⟩, 19) := ⟨⟨by decide +kernel, by decide +kernel⟩, List.mem_of_getElem? (i := 802) (by decide +kernel), List.mem_of_getElem? (i := 911) (by decide +kernel), List.mem_of_getElem? (i := 912) (by decide +kernel)⟩
def lw_privs_2 : List (MethodName × Nat) := [(⟨"DishLift$Foretold", "servesAll", "(LDishLift$House;III)Z"⟩, 2), (⟨"DishLift$Orders", "fill", "(II)V"⟩, 6), (⟨"DishLift$Orders", "weigh", "()V"⟩, 6), (⟨"DishLift$Orders", "isNeedless", "(II)Z"⟩, 6), (⟨"DishLift$Foretold", "playedFrom", "(LDishLift$House;IIII)I"⟩, 2), (⟨"DishLift$Foretold", "heatServedFrom", "(LDishLift$House;II)I"⟩, 2), (⟨"DishLift$Foretold", "suppose", "(LDishLift$House;III)V"⟩, 2), (⟨"DishLift$Foretold", "isTold", "(I[III)Z"⟩, 2), (⟨"DishLift$Foretold", "lineAt", "(I)LDishLift$House;"⟩, 2), (⟨"DishLift$Foretold", "casesFrom", "(IIII)J"⟩, 2), (⟨"DishLift$Foretold", "branch", "(IIIIZ)J"⟩, 2), (⟨"DishLift$Asks", "begin", "(LDishLift$House;III)I"⟩, 2), (⟨"DishLift$Asks", "leave", "(I)V"⟩, 2), (⟨"DishLiftModel", "finds", "(I)I"⟩, 19), (⟨"DishLiftModel", "against", "(III)I"⟩, 19), (⟨"DishLiftModel", "takesAll", "()Z"⟩, 19)]
theorem lw_r2 : ∀ q ∈ lw_privs_2, lw_okq q := List.forall_mem_cons.mpr ⟨lw_p16, List.forall_mem_cons.mpr ⟨lw_p17, List.forall_mem_cons.mpr ⟨lw_p18, List.forall_mem_cons.mpr ⟨lw_p19, List.forall_mem_cons.mpr ⟨lw_p20, List.forall_mem_cons.mpr ⟨lw_p21, List.forall_mem_cons.mpr ⟨lw_p22, List.forall_mem_cons.mpr ⟨lw_p23, List.forall_mem_cons.mpr ⟨lw_p24, List.forall_mem_cons.mpr ⟨lw_p25, List.forall_mem_cons.mpr ⟨lw_p26, List.forall_mem_cons.mpr ⟨lw_p27, List.forall_mem_cons.mpr ⟨lw_p28, List.forall_mem_cons.mpr ⟨lw_p29, List.forall_mem_cons.mpr ⟨lw_p30, List.forall_mem_cons.mpr ⟨lw_p31, fun _ h => absurd h List.not_mem_nil⟩⟩⟩⟩⟩⟩⟩⟩⟩⟩⟩⟩⟩⟩⟩⟩
theorem lw_p32 : lw_okq (⟨"DishLiftModel", "takesLaw", "()Z"⟩, 19) := ⟨⟨by decide +kernel, by decide +kernel⟩, List.mem_of_getElem? (i := 802) (by decide +kernel), List.mem_of_getElem? (i := 915) (by decide +kernel), List.mem_of_getElem? (i := 916) (by decide +kernel)⟩
theorem lw_p33 : lw_okq (⟨"DishLiftModel", "takes", "(I)Z"⟩, 19) := ⟨⟨by decide +kernel, by decide +kernel⟩, List.mem_of_getElem? (i := 802) (by decide +kernel), List.mem_of_getElem? (i := 919) (by decide +kernel), List.mem_of_getElem? (i := 920) (by decide +kernel)⟩
theorem lw_p34 : lw_okq (⟨"DishLiftModel", "here", "()I"⟩, 19) := ⟨⟨by decide +kernel, by decide +kernel⟩, List.mem_of_getElem? (i := 802) (by decide +kernel), List.mem_of_getElem? (i := 923) (by decide +kernel), List.mem_of_getElem? (i := 924) (by decide +kernel)⟩
theorem lw_p35 : lw_okq (⟨"DishLiftModel", "fails", "(II)Z"⟩, 19) := ⟨⟨by decide +kernel, by decide +kernel⟩, List.mem_of_getElem? (i := 802) (by decide +kernel), List.mem_of_getElem? (i := 927) (by decide +kernel), List.mem_of_getElem? (i := 928) (by decide +kernel)⟩
theorem lw_p36 : lw_okq (⟨"DishLiftModel", "takesNumber", "(II)Z"⟩, 19) := ⟨⟨by decide +kernel, by decide +kernel⟩, List.mem_of_getElem? (i := 802) (by decide +kernel), List.mem_of_getElem? (i := 931) (by decide +kernel), List.mem_of_getElem? (i := 932) (by decide +kernel)⟩
theorem lw_p37 : lw_okq (⟨"DishLiftModel", "takesDish", "()Z"⟩, 19) := ⟨⟨by decide +kernel, by decide +kernel⟩, List.mem_of_getElem? (i := 802) (by decide +kernel), List.mem_of_getElem? (i := 937) (by decide +kernel), List.mem_of_getElem? (i := 938) (by decide +kernel)⟩
theorem lw_p38 : lw_okq (⟨"DishLiftModel", "copyOf", "(II)V"⟩, 19) := ⟨⟨by decide +kernel, by decide +kernel⟩, List.mem_of_getElem? (i := 802) (by decide +kernel), List.mem_of_getElem? (i := 945) (by decide +kernel), List.mem_of_getElem? (i := 946) (by decide +kernel)⟩
theorem lw_p39 : lw_okq (⟨"DishLiftModel", "isHouse", "()Z"⟩, 19) := ⟨⟨by decide +kernel, by decide +kernel⟩, List.mem_of_getElem? (i := 802) (by decide +kernel), List.mem_of_getElem? (i := 962) (by decide +kernel), List.mem_of_getElem? (i := 963) (by decide +kernel)⟩
theorem lw_p40 : lw_okq (⟨"DishLiftModel", "minds", "()V"⟩, 19) := ⟨⟨by decide +kernel, by decide +kernel⟩, List.mem_of_getElem? (i := 802) (by decide +kernel), List.mem_of_getElem? (i := 967) (by decide +kernel), List.mem_of_getElem? (i := 968) (by decide +kernel)⟩
theorem lw_p41 : lw_okq (⟨"DishLiftModel", "passes", "(I)V"⟩, 19) := ⟨⟨by decide +kernel, by decide +kernel⟩, List.mem_of_getElem? (i := 802) (by decide +kernel), List.mem_of_getElem? (i := 971) (by decide +kernel), List.mem_of_getElem? (i := 972) (by decide +kernel)⟩
theorem lw_p42 : lw_okq (⟨"DishLiftModel", "serves", "(I)V"⟩, 19) := ⟨⟨by decide +kernel, by decide +kernel⟩, List.mem_of_getElem? (i := 802) (by decide +kernel), List.mem_of_getElem? (i := 975) (by decide +kernel), List.mem_of_getElem? (i := 976) (by decide +kernel)⟩
theorem lw_p43 : lw_okq (⟨"DishLiftModel", "insideOf", "(I)I"⟩, 19) := ⟨⟨by decide +kernel, by decide +kernel⟩, List.mem_of_getElem? (i := 802) (by decide +kernel), List.mem_of_getElem? (i := 979) (by decide +kernel), List.mem_of_getElem? (i := 980) (by decide +kernel)⟩
theorem lw_p44 : lw_okq (⟨"DishLiftModel", "weightOf", "(II)I"⟩, 19) := ⟨⟨by decide +kernel, by decide +kernel⟩, List.mem_of_getElem? (i := 802) (by decide +kernel), List.mem_of_getElem? (i := 986) (by decide +kernel), List.mem_of_getElem? (i := 987) (by decide +kernel)⟩
theorem lw_p45 : lw_okq (⟨"DishLiftModel", "goes", "(I)Z"⟩, 19) := ⟨⟨by decide +kernel, by decide +kernel⟩, List.mem_of_getElem? (i := 802) (by decide +kernel), List.mem_of_getElem? (i := 993) (by decide +kernel), List.mem_of_getElem? (i := 994) (by decide +kernel)⟩
theorem lw_p46 : lw_okq (⟨"DishLiftModel", "calledOf", "(I)I"⟩, 19) := ⟨⟨by decide +kernel, by decide +kernel⟩, List.mem_of_getElem? (i := 802) (by decide +kernel), List.mem_of_getElem? (i := 997) (by decide +kernel), List.mem_of_getElem? (i := 998) (by decide +kernel)⟩
theorem lw_p47 : lw_okq (⟨"DishLiftModel", "cools", "(IZ)V"⟩, 19) := ⟨⟨by decide +kernel, by decide +kernel⟩, List.mem_of_getElem? (i := 802) (by decide +kernel), List.mem_of_getElem? (i := 1001) (by decide +kernel), List.mem_of_getElem? (i := 1002) (by decide +kernel)⟩
def lw_privs_3 : List (MethodName × Nat) := [(⟨"DishLiftModel", "takesLaw", "()Z"⟩, 19), (⟨"DishLiftModel", "takes", "(I)Z"⟩, 19), (⟨"DishLiftModel", "here", "()I"⟩, 19), (⟨"DishLiftModel", "fails", "(II)Z"⟩, 19), (⟨"DishLiftModel", "takesNumber", "(II)Z"⟩, 19), (⟨"DishLiftModel", "takesDish", "()Z"⟩, 19), (⟨"DishLiftModel", "copyOf", "(II)V"⟩, 19), (⟨"DishLiftModel", "isHouse", "()Z"⟩, 19), (⟨"DishLiftModel", "minds", "()V"⟩, 19), (⟨"DishLiftModel", "passes", "(I)V"⟩, 19), (⟨"DishLiftModel", "serves", "(I)V"⟩, 19), (⟨"DishLiftModel", "insideOf", "(I)I"⟩, 19), (⟨"DishLiftModel", "weightOf", "(II)I"⟩, 19), (⟨"DishLiftModel", "goes", "(I)Z"⟩, 19), (⟨"DishLiftModel", "calledOf", "(I)I"⟩, 19), (⟨"DishLiftModel", "cools", "(IZ)V"⟩, 19)]
theorem lw_r3 : ∀ q ∈ lw_privs_3, lw_okq q := List.forall_mem_cons.mpr ⟨lw_p32, List.forall_mem_cons.mpr ⟨lw_p33, List.forall_mem_cons.mpr ⟨lw_p34, List.forall_mem_cons.mpr ⟨lw_p35, List.forall_mem_cons.mpr ⟨lw_p36, List.forall_mem_cons.mpr ⟨lw_p37, List.forall_mem_cons.mpr ⟨lw_p38, List.forall_mem_cons.mpr ⟨lw_p39, List.forall_mem_cons.mpr ⟨lw_p40, List.forall_mem_cons.mpr ⟨lw_p41, List.forall_mem_cons.mpr ⟨lw_p42, List.forall_mem_cons.mpr ⟨lw_p43, List.forall_mem_cons.mpr ⟨lw_p44, List.forall_mem_cons.mpr ⟨lw_p45, List.forall_mem_cons.mpr ⟨lw_p46, List.forall_mem_cons.mpr ⟨lw_p47, fun _ h => absurd h List.not_mem_nil⟩⟩⟩⟩⟩⟩⟩⟩⟩⟩⟩⟩⟩⟩⟩⟩
theorem lw_p48 : lw_okq (⟨"DishLiftModel", "coolsOne", "(IIZ)V"⟩, 19) := ⟨⟨by decide +kernel, by decide +kernel⟩, List.mem_of_getElem? (i := 802) (by decide +kernel), List.mem_of_getElem? (i := 1005) (by decide +kernel), List.mem_of_getElem? (i := 1006) (by decide +kernel)⟩
theorem lw_p49 : lw_okq (⟨"DishLiftModel", "servedOf", "(I)I"⟩, 19) := ⟨⟨by decide +kernel, by decide +kernel⟩, List.mem_of_getElem? (i := 802) (by decide +kernel), List.mem_of_getElem? (i := 1009) (by decide +kernel), List.mem_of_getElem? (i := 1010) (by decide +kernel)⟩
theorem lw_p50 : lw_okq (⟨"DishLiftModel", "isFloor", "(I)Z"⟩, 19) := ⟨⟨by decide +kernel, by decide +kernel⟩, List.mem_of_getElem? (i := 802) (by decide +kernel), List.mem_of_getElem? (i := 1017) (by decide +kernel), List.mem_of_getElem? (i := 1018) (by decide +kernel)⟩
theorem lw_p51 : lw_okq (⟨"DishLiftModel", "isDish", "(I)Z"⟩, 19) := ⟨⟨by decide +kernel, by decide +kernel⟩, List.mem_of_getElem? (i := 802) (by decide +kernel), List.mem_of_getElem? (i := 1035) (by decide +kernel), List.mem_of_getElem? (i := 1036) (by decide +kernel)⟩
theorem lw_p52 : lw_okq (⟨"DishLiftModel", "sendsBack", "(IIII)V"⟩, 19) := ⟨⟨by decide +kernel, by decide +kernel⟩, List.mem_of_getElem? (i := 802) (by decide +kernel), List.mem_of_getElem? (i := 1040) (by decide +kernel), List.mem_of_getElem? (i := 1041) (by decide +kernel)⟩
theorem lw_p53 : lw_okq (⟨"DishLiftModel", "tries", "()V"⟩, 19) := ⟨⟨by decide +kernel, by decide +kernel⟩, List.mem_of_getElem? (i := 802) (by decide +kernel), List.mem_of_getElem? (i := 1059) (by decide +kernel), List.mem_of_getElem? (i := 1060) (by decide +kernel)⟩
theorem lw_p54 : lw_okq (⟨"DishLiftModel", "goesOn", "(I)V"⟩, 19) := ⟨⟨by decide +kernel, by decide +kernel⟩, List.mem_of_getElem? (i := 802) (by decide +kernel), List.mem_of_getElem? (i := 1063) (by decide +kernel), List.mem_of_getElem? (i := 1064) (by decide +kernel)⟩
theorem lw_p55 : lw_okq (⟨"DishLiftModel", "allServed", "(I)I"⟩, 19) := ⟨⟨by decide +kernel, by decide +kernel⟩, List.mem_of_getElem? (i := 802) (by decide +kernel), List.mem_of_getElem? (i := 1075) (by decide +kernel), List.mem_of_getElem? (i := 1076) (by decide +kernel)⟩
theorem lw_p56 : lw_okq (⟨"DishLiftModel", "fineOf", "(I)I"⟩, 19) := ⟨⟨by decide +kernel, by decide +kernel⟩, List.mem_of_getElem? (i := 802) (by decide +kernel), List.mem_of_getElem? (i := 1088) (by decide +kernel), List.mem_of_getElem? (i := 1089) (by decide +kernel)⟩
theorem lw_p57 : lw_okq (⟨"DishLiftModel", "bestRanks", "(I)I"⟩, 19) := ⟨⟨by decide +kernel, by decide +kernel⟩, List.mem_of_getElem? (i := 802) (by decide +kernel), List.mem_of_getElem? (i := 1104) (by decide +kernel), List.mem_of_getElem? (i := 1105) (by decide +kernel)⟩
theorem lw_p58 : lw_okq (⟨"DishLiftModel", "waitsBy", "(I)I"⟩, 19) := ⟨⟨by decide +kernel, by decide +kernel⟩, List.mem_of_getElem? (i := 802) (by decide +kernel), List.mem_of_getElem? (i := 1109) (by decide +kernel), List.mem_of_getElem? (i := 1110) (by decide +kernel)⟩
theorem lw_p59 : lw_okq (⟨"DishLiftModel", "heatOf", "(I)I"⟩, 19) := ⟨⟨by decide +kernel, by decide +kernel⟩, List.mem_of_getElem? (i := 802) (by decide +kernel), List.mem_of_getElem? (i := 1122) (by decide +kernel), List.mem_of_getElem? (i := 1123) (by decide +kernel)⟩
theorem lw_p60 : lw_okq (⟨"DishLiftModel", "heatServed", "(I)I"⟩, 19) := ⟨⟨by decide +kernel, by decide +kernel⟩, List.mem_of_getElem? (i := 802) (by decide +kernel), List.mem_of_getElem? (i := 1126) (by decide +kernel), List.mem_of_getElem? (i := 1127) (by decide +kernel)⟩
theorem lw_p61 : lw_okq (⟨"DishLiftModel", "heatFrom", "(II)I"⟩, 19) := ⟨⟨by decide +kernel, by decide +kernel⟩, List.mem_of_getElem? (i := 802) (by decide +kernel), List.mem_of_getElem? (i := 1135) (by decide +kernel), List.mem_of_getElem? (i := 1136) (by decide +kernel)⟩
theorem lw_p62 : lw_okq (⟨"DishLiftModel", "isSo", "(III)Z"⟩, 19) := ⟨⟨by decide +kernel, by decide +kernel⟩, List.mem_of_getElem? (i := 802) (by decide +kernel), List.mem_of_getElem? (i := 1145) (by decide +kernel), List.mem_of_getElem? (i := 1146) (by decide +kernel)⟩
theorem lw_p63 : lw_okq (⟨"DishLiftModel", "sizeOf", "(I)I"⟩, 19) := ⟨⟨by decide +kernel, by decide +kernel⟩, List.mem_of_getElem? (i := 802) (by decide +kernel), List.mem_of_getElem? (i := 1187) (by decide +kernel), List.mem_of_getElem? (i := 1188) (by decide +kernel)⟩
def lw_privs_4 : List (MethodName × Nat) := [(⟨"DishLiftModel", "coolsOne", "(IIZ)V"⟩, 19), (⟨"DishLiftModel", "servedOf", "(I)I"⟩, 19), (⟨"DishLiftModel", "isFloor", "(I)Z"⟩, 19), (⟨"DishLiftModel", "isDish", "(I)Z"⟩, 19), (⟨"DishLiftModel", "sendsBack", "(IIII)V"⟩, 19), (⟨"DishLiftModel", "tries", "()V"⟩, 19), (⟨"DishLiftModel", "goesOn", "(I)V"⟩, 19), (⟨"DishLiftModel", "allServed", "(I)I"⟩, 19), (⟨"DishLiftModel", "fineOf", "(I)I"⟩, 19), (⟨"DishLiftModel", "bestRanks", "(I)I"⟩, 19), (⟨"DishLiftModel", "waitsBy", "(I)I"⟩, 19), (⟨"DishLiftModel", "heatOf", "(I)I"⟩, 19), (⟨"DishLiftModel", "heatServed", "(I)I"⟩, 19), (⟨"DishLiftModel", "heatFrom", "(II)I"⟩, 19), (⟨"DishLiftModel", "isSo", "(III)Z"⟩, 19), (⟨"DishLiftModel", "sizeOf", "(I)I"⟩, 19)]
theorem lw_r4 : ∀ q ∈ lw_privs_4, lw_okq q := List.forall_mem_cons.mpr ⟨lw_p48, List.forall_mem_cons.mpr ⟨lw_p49, List.forall_mem_cons.mpr ⟨lw_p50, List.forall_mem_cons.mpr ⟨lw_p51, List.forall_mem_cons.mpr ⟨lw_p52, List.forall_mem_cons.mpr ⟨lw_p53, List.forall_mem_cons.mpr ⟨lw_p54, List.forall_mem_cons.mpr ⟨lw_p55, List.forall_mem_cons.mpr ⟨lw_p56, List.forall_mem_cons.mpr ⟨lw_p57, List.forall_mem_cons.mpr ⟨lw_p58, List.forall_mem_cons.mpr ⟨lw_p59, List.forall_mem_cons.mpr ⟨lw_p60, List.forall_mem_cons.mpr ⟨lw_p61, List.forall_mem_cons.mpr ⟨lw_p62, List.forall_mem_cons.mpr ⟨lw_p63, fun _ h => absurd h List.not_mem_nil⟩⟩⟩⟩⟩⟩⟩⟩⟩⟩⟩⟩⟩⟩⟩⟩
theorem lw_p64 : lw_okq (⟨"DishLiftModel", "traces", "(I)V"⟩, 19) := ⟨⟨by decide +kernel, by decide +kernel⟩, List.mem_of_getElem? (i := 802) (by decide +kernel), List.mem_of_getElem? (i := 1191) (by decide +kernel), List.mem_of_getElem? (i := 1192) (by decide +kernel)⟩
theorem lw_p65 : lw_okq (⟨"DishLiftModel", "size11", "(I)I"⟩, 19) := ⟨⟨by decide +kernel, by decide +kernel⟩, List.mem_of_getElem? (i := 802) (by decide +kernel), List.mem_of_getElem? (i := 1195) (by decide +kernel), List.mem_of_getElem? (i := 1196) (by decide +kernel)⟩
theorem lw_p66 : lw_okq (⟨"DishLiftModel", "size10", "(I)I"⟩, 19) := ⟨⟨by decide +kernel, by decide +kernel⟩, List.mem_of_getElem? (i := 802) (by decide +kernel), List.mem_of_getElem? (i := 1199) (by decide +kernel), List.mem_of_getElem? (i := 1200) (by decide +kernel)⟩
theorem lw_p67 : lw_okq (⟨"DishLiftModel", "markOf", "(I)I"⟩, 19) := ⟨⟨by decide +kernel, by decide +kernel⟩, List.mem_of_getElem? (i := 802) (by decide +kernel), List.mem_of_getElem? (i := 1203) (by decide +kernel), List.mem_of_getElem? (i := 1204) (by decide +kernel)⟩
theorem lw_p68 : lw_okq (⟨"DishLiftModel", "mark21", "(I)I"⟩, 19) := ⟨⟨by decide +kernel, by decide +kernel⟩, List.mem_of_getElem? (i := 802) (by decide +kernel), List.mem_of_getElem? (i := 1207) (by decide +kernel), List.mem_of_getElem? (i := 1208) (by decide +kernel)⟩
theorem lw_p69 : lw_okq (⟨"DishLiftModel", "mark20", "(I)I"⟩, 19) := ⟨⟨by decide +kernel, by decide +kernel⟩, List.mem_of_getElem? (i := 802) (by decide +kernel), List.mem_of_getElem? (i := 1211) (by decide +kernel), List.mem_of_getElem? (i := 1212) (by decide +kernel)⟩
theorem lw_p70 : lw_okq (⟨"DishLiftModel", "size13", "(I)I"⟩, 19) := ⟨⟨by decide +kernel, by decide +kernel⟩, List.mem_of_getElem? (i := 802) (by decide +kernel), List.mem_of_getElem? (i := 1215) (by decide +kernel), List.mem_of_getElem? (i := 1216) (by decide +kernel)⟩
theorem lw_p71 : lw_okq (⟨"DishLiftModel", "mark23", "(I)I"⟩, 19) := ⟨⟨by decide +kernel, by decide +kernel⟩, List.mem_of_getElem? (i := 802) (by decide +kernel), List.mem_of_getElem? (i := 1219) (by decide +kernel), List.mem_of_getElem? (i := 1220) (by decide +kernel)⟩
theorem lw_p72 : lw_okq (⟨"DishLiftModel", "rowsThere", "()I"⟩, 19) := ⟨⟨by decide +kernel, by decide +kernel⟩, List.mem_of_getElem? (i := 802) (by decide +kernel), List.mem_of_getElem? (i := 1231) (by decide +kernel), List.mem_of_getElem? (i := 1232) (by decide +kernel)⟩
theorem lw_p73 : lw_okq (⟨"DishLiftModel", "waiting", "()I"⟩, 19) := ⟨⟨by decide +kernel, by decide +kernel⟩, List.mem_of_getElem? (i := 802) (by decide +kernel), List.mem_of_getElem? (i := 1235) (by decide +kernel), List.mem_of_getElem? (i := 1236) (by decide +kernel)⟩
def lw_privs_5 : List (MethodName × Nat) := [(⟨"DishLiftModel", "traces", "(I)V"⟩, 19), (⟨"DishLiftModel", "size11", "(I)I"⟩, 19), (⟨"DishLiftModel", "size10", "(I)I"⟩, 19), (⟨"DishLiftModel", "markOf", "(I)I"⟩, 19), (⟨"DishLiftModel", "mark21", "(I)I"⟩, 19), (⟨"DishLiftModel", "mark20", "(I)I"⟩, 19), (⟨"DishLiftModel", "size13", "(I)I"⟩, 19), (⟨"DishLiftModel", "mark23", "(I)I"⟩, 19), (⟨"DishLiftModel", "rowsThere", "()I"⟩, 19), (⟨"DishLiftModel", "waiting", "()I"⟩, 19)]
theorem lw_r5 : ∀ q ∈ lw_privs_5, lw_okq q := List.forall_mem_cons.mpr ⟨lw_p64, List.forall_mem_cons.mpr ⟨lw_p65, List.forall_mem_cons.mpr ⟨lw_p66, List.forall_mem_cons.mpr ⟨lw_p67, List.forall_mem_cons.mpr ⟨lw_p68, List.forall_mem_cons.mpr ⟨lw_p69, List.forall_mem_cons.mpr ⟨lw_p70, List.forall_mem_cons.mpr ⟨lw_p71, List.forall_mem_cons.mpr ⟨lw_p72, List.forall_mem_cons.mpr ⟨lw_p73, fun _ h => absurd h List.not_mem_nil⟩⟩⟩⟩⟩⟩⟩⟩⟩⟩
def lw_privs : List (MethodName × Nat) := lw_privs_1 ++ (lw_privs_2 ++ (lw_privs_3 ++ (lw_privs_4 ++ (lw_privs_5))))
def lw_tbl : List Cond := k2_sels lw_privs ++ tables_1
theorem lw_privs_ok : ∀ q ∈ lw_privs, lw_okq q := by
  show ∀ q ∈ lw_privs_1 ++ (lw_privs_2 ++ (lw_privs_3 ++ (lw_privs_4 ++ (lw_privs_5)))), lw_okq q
  exact List.forall_mem_append.mpr ⟨lw_r1, List.forall_mem_append.mpr ⟨lw_r2, List.forall_mem_append.mpr ⟨lw_r3, List.forall_mem_append.mpr ⟨lw_r4, lw_r5⟩⟩⟩⟩
-- ===== end of PART A; then your names; then what follows =====
end
section
def RX0 : String := "DishLift$Acts"
def TX0 : u_T := fun k => match k with
  | 0 => ("DishLift$Acts", "before", "[LDishLift$House;", true)
  | 1 => ("DishLift$Acts", "next", "I", false)
  | _ => ("DishLift$Acts", "kept", "I", false)
def tyX0 : Nat → FieldType := fun k => match k with
  | 0 => .array (.object "DishLift$House")
  | 1 => .int
  | _ => .int
abbrev wsX00 : List Cond := u_ws RX0 TX0 3
theorem nmX0 : ∀ a, a < 3 → ∀ b, b < 3 → a ≠ b → (TX0 a).2.1 ≠ (TX0 b).2.1 := by decide +kernel
theorem tyX0_ok : ∀ k, k < 3 → parseFieldDescriptor (TX0 k).2.2.1 = some (tyX0 k) := by decide +kernel
abbrev cX0_init : ByteArray := prog_2_method_1_code
def yX0_init : MethodName := ⟨RX0, "<init>", "()V"⟩
abbrev cX0_isEmpty : ByteArray := prog_2_method_2_code
def yX0_isEmpty : MethodName := ⟨RX0, "isEmpty", "()Z"⟩
abbrev cX0_forget : ByteArray := prog_2_method_3_code
def yX0_forget : MethodName := ⟨RX0, "forget", "()V"⟩
abbrev cX0_keep : ByteArray := prog_2_method_4_code
def yX0_keep : MethodName := ⟨RX0, "keep", "(LDishLift$House;)V"⟩
abbrev cX0_takeBack : ByteArray := prog_2_method_5_code
def yX0_takeBack : MethodName := ⟨RX0, "takeBack", "(LDishLift$House;)I"⟩
def RX1 : String := "DishLift$Asks"
def TX1 : u_T := fun k => match k with
  | 0 => ("DishLift$Asks", "numbers", "[I", true)
  | _ => ("DishLift$Asks", "left", "I", false)
def tyX1 : Nat → FieldType := fun k => match k with
  | 0 => .array .int
  | _ => .int
abbrev wsX10 : List Cond := u_ws RX1 TX1 2
theorem nmX1 : ∀ a, a < 2 → ∀ b, b < 2 → a ≠ b → (TX1 a).2.1 ≠ (TX1 b).2.1 := by decide +kernel
theorem tyX1_ok : ∀ k, k < 2 → parseFieldDescriptor (TX1 k).2.2.1 = some (tyX1 k) := by decide +kernel
abbrev cX1_init : ByteArray := prog_3_method_1_code
def yX1_init : MethodName := ⟨RX1, "<init>", "()V"⟩
abbrev cX1_isKind : ByteArray := prog_3_method_2_code
def yX1_isKind : MethodName := ⟨RX1, "isKind", "(I)Z"⟩
abbrev cX1_isOne : ByteArray := prog_3_method_3_code
def yX1_isOne : MethodName := ⟨RX1, "isOne", "(II)Z"⟩
abbrev cX1_answer : ByteArray := prog_3_method_4_code
def yX1_answer : MethodName := ⟨RX1, "answer", "(LDishLift$House;II)I"⟩
abbrev cX1_bodyFor : ByteArray := prog_3_method_5_code
def yX1_bodyFor : MethodName := ⟨RX1, "bodyFor", "(LDishLift$House;II)I"⟩
abbrev cX1_begin : ByteArray := prog_3_method_6_code
def yX1_begin : MethodName := ⟨RX1, "begin", "(LDishLift$House;III)I"⟩
abbrev cX1_leave : ByteArray := prog_3_method_7_code
def yX1_leave : MethodName := ⟨RX1, "leave", "(I)V"⟩
def RX2 : String := "DishLift$Foretold"
def TX2 : u_T := fun k => match k with
  | 0 => ("DishLift$Foretold", "trial", "LDishLift$House;", true)
  | _ => ("DishLift$Foretold", "line", "[LDishLift$House;", true)
def tyX2 : Nat → FieldType := fun k => match k with
  | 0 => .object "DishLift$House"
  | _ => .array (.object "DishLift$House")
abbrev wsX20 : List Cond := u_ws RX2 TX2 2
theorem nmX2 : ∀ a, a < 2 → ∀ b, b < 2 → a ≠ b → (TX2 a).2.1 ≠ (TX2 b).2.1 := by decide +kernel
theorem tyX2_ok : ∀ k, k < 2 → parseFieldDescriptor (TX2 k).2.2.1 = some (tyX2 k) := by decide +kernel
abbrev cX2_init : ByteArray := prog_4_method_1_code
def yX2_init : MethodName := ⟨RX2, "<init>", "()V"⟩
abbrev cX2_behind : ByteArray := prog_4_method_2_code
def yX2_behind : MethodName := ⟨RX2, "behind", "(LDishLift$House;I)LDishLift$House;"⟩
abbrev cX2_passTrial : ByteArray := prog_4_method_3_code
def yX2_passTrial : MethodName := ⟨RX2, "passTrial", "(I)V"⟩
abbrev cX2_firstServed : ByteArray := prog_4_method_4_code
def yX2_firstServed : MethodName := ⟨RX2, "firstServed", "(LDishLift$House;II)I"⟩
abbrev cX2_bestStand : ByteArray := prog_4_method_5_code
def yX2_bestStand : MethodName := ⟨RX2, "bestStand", "(LDishLift$House;I)I"⟩
abbrev cX2_goodFrom : ByteArray := prog_4_method_6_code
def yX2_goodFrom : MethodName := ⟨RX2, "goodFrom", "(LDishLift$House;II)I"⟩
abbrev cX2_leastRoom : ByteArray := prog_4_method_7_code
def yX2_leastRoom : MethodName := ⟨RX2, "leastRoom", "(LDishLift$House;I)I"⟩
abbrev cX2_leastRope : ByteArray := prog_4_method_8_code
def yX2_leastRope : MethodName := ⟨RX2, "leastRope", "(LDishLift$House;I)I"⟩
abbrev cX2_servesAll : ByteArray := prog_4_method_9_code
def yX2_servesAll : MethodName := ⟨RX2, "servesAll", "(LDishLift$House;III)Z"⟩
abbrev cX2_isLoad : ByteArray := prog_4_method_10_code
def yX2_isLoad : MethodName := ⟨RX2, "isLoad", "(LDishLift$House;I)Z"⟩
abbrev cX2_loads : ByteArray := prog_4_method_11_code
def yX2_loads : MethodName := ⟨RX2, "loads", "(LDishLift$House;)I"⟩
abbrev cX2_fullestLoad : ByteArray := prog_4_method_12_code
def yX2_fullestLoad : MethodName := ⟨RX2, "fullestLoad", "(LDishLift$House;)I"⟩
abbrev cX2_isFuller : ByteArray := prog_4_method_13_code
def yX2_isFuller : MethodName := ⟨RX2, "isFuller", "(LDishLift$House;II)Z"⟩
abbrev cX2_shareOf : ByteArray := prog_4_method_14_code
def yX2_shareOf : MethodName := ⟨RX2, "shareOf", "(LDishLift$House;II)I"⟩
abbrev cX2_played : ByteArray := prog_4_method_15_code
def yX2_played : MethodName := ⟨RX2, "played", "(LDishLift$House;II)I"⟩
abbrev cX2_playedFrom : ByteArray := prog_4_method_16_code
def yX2_playedFrom : MethodName := ⟨RX2, "playedFrom", "(LDishLift$House;IIII)I"⟩
abbrev cX2_heatServedFrom : ByteArray := prog_4_method_17_code
def yX2_heatServedFrom : MethodName := ⟨RX2, "heatServedFrom", "(LDishLift$House;II)I"⟩
abbrev cX2_allThatFits : ByteArray := prog_4_method_18_code
def yX2_allThatFits : MethodName := ⟨RX2, "allThatFits", "(LDishLift$House;II[III)I"⟩
abbrev cX2_lastOf : ByteArray := prog_4_method_19_code
def yX2_lastOf : MethodName := ⟨RX2, "lastOf", "(LDishLift$House;I)I"⟩
abbrev cX2_suppose : ByteArray := prog_4_method_20_code
def yX2_suppose : MethodName := ⟨RX2, "suppose", "(LDishLift$House;III)V"⟩
abbrev cX2_isTold : ByteArray := prog_4_method_21_code
def yX2_isTold : MethodName := ⟨RX2, "isTold", "(I[III)Z"⟩
abbrev cX2_casesInAll : ByteArray := prog_4_method_22_code
def yX2_casesInAll : MethodName := ⟨RX2, "casesInAll", "(I)J"⟩
abbrev cX2_commonDivisor : ByteArray := prog_4_method_23_code
def yX2_commonDivisor : MethodName := ⟨RX2, "commonDivisor", "(JJ)J"⟩
abbrev cX2_casesServed : ByteArray := prog_4_method_24_code
def yX2_casesServed : MethodName := ⟨RX2, "casesServed", "(LDishLift$House;III)J"⟩
abbrev cX2_casesFrom : ByteArray := prog_4_method_25_code
def yX2_casesFrom : MethodName := ⟨RX2, "casesFrom", "(IIII)J"⟩
abbrev cX2_branch : ByteArray := prog_4_method_26_code
def yX2_branch : MethodName := ⟨RX2, "branch", "(IIIIZ)J"⟩
abbrev cX2_lineAt : ByteArray := prog_4_method_27_code
def yX2_lineAt : MethodName := ⟨RX2, "lineAt", "(I)LDishLift$House;"⟩
abbrev cX2_draw : ByteArray := prog_4_method_28_code
def yX2_draw : MethodName := ⟨RX2, "draw", "(LDishLift$House;II)I"⟩
def RX3 : String := "DishLift$House"
def TX3 : u_T := fun k => match k with
  | 0 => ("DishLift$House", "floors", "I", false)
  | 1 => ("DishLift$House", "room", "I", false)
  | 2 => ("DishLift$House", "rope", "I", false)
  | 3 => ("DishLift$House", "minute", "I", false)
  | 4 => ("DishLift$House", "floor", "I", false)
  | 5 => ("DishLift$House", "way", "I", false)
  | 6 => ("DishLift$House", "dishes", "I", false)
  | 7 => ("DishLift$House", "kind", "[I", true)
  | 8 => ("DishLift$House", "at", "[I", true)
  | 9 => ("DishLift$House", "to", "[I", true)
  | 10 => ("DishLift$House", "weight", "[I", true)
  | _ => ("DishLift$House", "heat", "[I", true)
def tyX3 : Nat → FieldType := fun k => match k with
  | 0 => .int
  | 1 => .int
  | 2 => .int
  | 3 => .int
  | 4 => .int
  | 5 => .int
  | 6 => .int
  | 7 => .array .int
  | 8 => .array .int
  | 9 => .array .int
  | 10 => .array .int
  | _ => .array .int
abbrev wsX30 : List Cond := u_ws RX3 TX3 12
theorem nmX3 : ∀ a, a < 12 → ∀ b, b < 12 → a ≠ b → (TX3 a).2.1 ≠ (TX3 b).2.1 := by decide +kernel
theorem tyX3_ok : ∀ k, k < 12 → parseFieldDescriptor (TX3 k).2.2.1 = some (tyX3 k) := by decide +kernel
abbrev cX3_init : ByteArray := prog_5_method_1_code
def yX3_init : MethodName := ⟨RX3, "<init>", "()V"⟩
abbrev cX3_build : ByteArray := prog_5_method_2_code
def yX3_build : MethodName := ⟨RX3, "build", "(III)V"⟩
abbrev cX3_become : ByteArray := prog_5_method_3_code
def yX3_become : MethodName := ⟨RX3, "become", "(LDishLift$House;)V"⟩
abbrev cX3_isAs : ByteArray := prog_5_method_4_code
def yX3_isAs : MethodName := ⟨RX3, "isAs", "(LDishLift$House;)Z"⟩
abbrev cX3_stands : ByteArray := prog_5_method_5_code
def yX3_stands : MethodName := ⟨RX3, "stands", "()Z"⟩
abbrev cX3_isDish : ByteArray := prog_5_method_6_code
def yX3_isDish : MethodName := ⟨RX3, "isDish", "(I)Z"⟩
abbrev cX3_isFloor : ByteArray := prog_5_method_7_code
def yX3_isFloor : MethodName := ⟨RX3, "isFloor", "(I)Z"⟩
abbrev cX3_all : ByteArray := prog_5_method_8_code
def yX3_all : MethodName := ⟨RX3, "all", "()I"⟩
abbrev cX3_those : ByteArray := prog_5_method_9_code
def yX3_those : MethodName := ⟨RX3, "those", "(I)I"⟩
abbrev cX3_served : ByteArray := prog_5_method_10_code
def yX3_served : MethodName := ⟨RX3, "served", "()I"⟩
abbrev cX3_servedGood : ByteArray := prog_5_method_11_code
def yX3_servedGood : MethodName := ⟨RX3, "servedGood", "()I"⟩
abbrev cX3_isGood : ByteArray := prog_5_method_12_code
def yX3_isGood : MethodName := ⟨RX3, "isGood", "(I)Z"⟩
abbrev cX3_weightOf : ByteArray := prog_5_method_13_code
def yX3_weightOf : MethodName := ⟨RX3, "weightOf", "(I)I"⟩
abbrev cX3_heatOf : ByteArray := prog_5_method_14_code
def yX3_heatOf : MethodName := ⟨RX3, "heatOf", "(I)I"⟩
abbrev cX3_sendBack : ByteArray := prog_5_method_15_code
def yX3_sendBack : MethodName := ⟨RX3, "sendBack", "(III)V"⟩
abbrev cX3_pass : ByteArray := prog_5_method_16_code
def yX3_pass : MethodName := ⟨RX3, "pass", "([IZ)V"⟩
abbrev cX3_letOut : ByteArray := prog_5_method_17_code
def yX3_letOut : MethodName := ⟨RX3, "letOut", "()V"⟩
abbrev cX3_takeIn : ByteArray := prog_5_method_18_code
def yX3_takeIn : MethodName := ⟨RX3, "takeIn", "([I)V"⟩
abbrev cX3_called : ByteArray := prog_5_method_19_code
def yX3_called : MethodName := ⟨RX3, "called", "()I"⟩
abbrev cX3_goOn : ByteArray := prog_5_method_20_code
def yX3_goOn : MethodName := ⟨RX3, "goOn", "()Z"⟩
abbrev cX3_age : ByteArray := prog_5_method_21_code
def yX3_age : MethodName := ⟨RX3, "age", "(IZ)V"⟩
abbrev cX3_cool : ByteArray := prog_5_method_22_code
def yX3_cool : MethodName := ⟨RX3, "cool", "(I)V"⟩
abbrev cX3_warm : ByteArray := prog_5_method_23_code
def yX3_warm : MethodName := ⟨RX3, "warm", "(I)V"⟩
abbrev cX3_lose : ByteArray := prog_5_method_24_code
def yX3_lose : MethodName := ⟨RX3, "lose", "(I)V"⟩
def RX4 : String := "DishLift$Orders"
def TX4 : u_T := fun k => match k with
  | 0 => ("DishLift$Orders", "trial", "LDishLift$House;", true)
  | 1 => ("DishLift$Orders", "searched", "LDishLift$House;", true)
  | 2 => ("DishLift$Orders", "order", "[I", true)
  | 3 => ("DishLift$Orders", "best", "[I", true)
  | 4 => ("DishLift$Orders", "minutes", "I", false)
  | _ => ("DishLift$Orders", "least", "I", false)
def tyX4 : Nat → FieldType := fun k => match k with
  | 0 => .object "DishLift$House"
  | 1 => .object "DishLift$House"
  | 2 => .array .int
  | 3 => .array .int
  | 4 => .int
  | _ => .int
abbrev wsX40 : List Cond := u_ws RX4 TX4 6
theorem nmX4 : ∀ a, a < 6 → ∀ b, b < 6 → a ≠ b → (TX4 a).2.1 ≠ (TX4 b).2.1 := by decide +kernel
theorem tyX4_ok : ∀ k, k < 6 → parseFieldDescriptor (TX4 k).2.2.1 = some (tyX4 k) := by decide +kernel
abbrev cX4_init : ByteArray := prog_6_method_1_code
def yX4_init : MethodName := ⟨RX4, "<init>", "()V"⟩
abbrev cX4_search : ByteArray := prog_6_method_2_code
def yX4_search : MethodName := ⟨RX4, "search", "(LDishLift$House;I)V"⟩
abbrev cX4_fill : ByteArray := prog_6_method_3_code
def yX4_fill : MethodName := ⟨RX4, "fill", "(II)V"⟩
abbrev cX4_isNeedless : ByteArray := prog_6_method_4_code
def yX4_isNeedless : MethodName := ⟨RX4, "isNeedless", "(II)Z"⟩
abbrev cX4_weigh : ByteArray := prog_6_method_5_code
def yX4_weigh : MethodName := ⟨RX4, "weigh", "()V"⟩
def RX5 : String := "DishLift$Rows"
def TX5 : u_T := fun k => match k with
  | 0 => ("DishLift$Rows", "lane", "[I", true)
  | 1 => ("DishLift$Rows", "length", "[I", true)
  | _ => ("DishLift$Rows", "items", "[[I", true)
def tyX5 : Nat → FieldType := fun k => match k with
  | 0 => .array .int
  | 1 => .array .int
  | _ => .array (.array .int)
abbrev wsX50 : List Cond := u_ws RX5 TX5 3
theorem nmX5 : ∀ a, a < 3 → ∀ b, b < 3 → a ≠ b → (TX5 a).2.1 ≠ (TX5 b).2.1 := by decide +kernel
theorem tyX5_ok : ∀ k, k < 3 → parseFieldDescriptor (TX5 k).2.2.1 = some (tyX5 k) := by decide +kernel
abbrev cX5_init : ByteArray := prog_7_method_1_code
def yX5_init : MethodName := ⟨RX5, "<init>", "()V"⟩
abbrev cX5_isRow : ByteArray := prog_7_method_2_code
def yX5_isRow : MethodName := ⟨RX5, "isRow", "(I)Z"⟩
abbrev cX5_isLane : ByteArray := prog_7_method_3_code
def yX5_isLane : MethodName := ⟨RX5, "isLane", "(I)Z"⟩
abbrev cX5_isMissing : ByteArray := prog_7_method_4_code
def yX5_isMissing : MethodName := ⟨RX5, "isMissing", "(I)Z"⟩
abbrev cX5_covers : ByteArray := prog_7_method_5_code
def yX5_covers : MethodName := ⟨RX5, "covers", "(III)Z"⟩
abbrev cX5_begin : ByteArray := prog_7_method_6_code
def yX5_begin : MethodName := ⟨RX5, "begin", "(III)V"⟩
abbrev cX5_put : ByteArray := prog_7_method_7_code
def yX5_put : MethodName := ⟨RX5, "put", "(III)I"⟩
abbrev cX5_lose : ByteArray := prog_7_method_8_code
def yX5_lose : MethodName := ⟨RX5, "lose", "(I)I"⟩
abbrev cX5_present : ByteArray := prog_7_method_9_code
def yX5_present : MethodName := ⟨RX5, "present", "()I"⟩
def RX6 : String := "DishLift$Tape"
def TX6 : u_T := fun k => match k with
  | 0 => ("DishLift$Tape", "bytes", "[I", true)
  | 1 => ("DishLift$Tape", "length", "I", false)
  | 2 => ("DishLift$Tape", "place", "I", false)
  | 3 => ("DishLift$Tape", "fault", "I", false)
  | _ => ("DishLift$Tape", "value", "I", false)
def tyX6 : Nat → FieldType := fun k => match k with
  | 0 => .array .int
  | 1 => .int
  | 2 => .int
  | 3 => .int
  | _ => .int
abbrev wsX60 : List Cond := u_ws RX6 TX6 5
theorem nmX6 : ∀ a, a < 5 → ∀ b, b < 5 → a ≠ b → (TX6 a).2.1 ≠ (TX6 b).2.1 := by decide +kernel
theorem tyX6_ok : ∀ k, k < 5 → parseFieldDescriptor (TX6 k).2.2.1 = some (tyX6 k) := by decide +kernel
abbrev cX6_init : ByteArray := prog_8_method_1_code
def yX6_init : MethodName := ⟨RX6, "<init>", "()V"⟩
abbrev cX6_isFull : ByteArray := prog_8_method_2_code
def yX6_isFull : MethodName := ⟨RX6, "isFull", "()Z"⟩
abbrev cX6_add : ByteArray := prog_8_method_3_code
def yX6_add : MethodName := ⟨RX6, "add", "(I)I"⟩
abbrev cX6_tells : ByteArray := prog_8_method_4_code
def yX6_tells : MethodName := ⟨RX6, "tells", "(LDishLift$House;)Z"⟩
abbrev cX6_readLaw : ByteArray := prog_8_method_5_code
def yX6_readLaw : MethodName := ⟨RX6, "readLaw", "(LDishLift$House;)Z"⟩
abbrev cX6_readDishes : ByteArray := prog_8_method_6_code
def yX6_readDishes : MethodName := ⟨RX6, "readDishes", "(LDishLift$House;)Z"⟩
abbrev cX6_readDish : ByteArray := prog_8_method_7_code
def yX6_readDish : MethodName := ⟨RX6, "readDish", "(LDishLift$House;I)Z"⟩
abbrev cX6_kindOf : ByteArray := prog_8_method_8_code
def yX6_kindOf : MethodName := ⟨RX6, "kindOf", "(I)I"⟩
abbrev cX6_readNumber : ByteArray := prog_8_method_9_code
def yX6_readNumber : MethodName := ⟨RX6, "readNumber", "(III)Z"⟩
abbrev cX6_isFigure : ByteArray := prog_8_method_10_code
def yX6_isFigure : MethodName := ⟨RX6, "isFigure", "(I)Z"⟩
abbrev cX6_readByte : ByteArray := prog_8_method_11_code
def yX6_readByte : MethodName := ⟨RX6, "readByte", "(I)Z"⟩
abbrev cX6_fails : ByteArray := prog_8_method_12_code
def yX6_fails : MethodName := ⟨RX6, "fails", "(I)Z"⟩
def RX7 : String := "DishLift"
def TX7 : u_T := fun k => match k with
  | 0 => ("DishLift", "rows", "LDishLift$Rows;", true)
  | 1 => ("DishLift", "tape", "LDishLift$Tape;", true)
  | 2 => ("DishLift", "now", "LDishLift$House;", true)
  | 3 => ("DishLift", "told", "LDishLift$House;", true)
  | 4 => ("DishLift", "acts", "LDishLift$Acts;", true)
  | 5 => ("DishLift", "images", "[LDishLift$House;", true)
  | 6 => ("DishLift", "foretold", "LDishLift$Foretold;", true)
  | 7 => ("DishLift", "orders", "LDishLift$Orders;", true)
  | 8 => ("DishLift", "asks", "LDishLift$Asks;", true)
  | _ => ("DishLift", "finding", "I", false)
def tyX7 : Nat → FieldType := fun k => match k with
  | 0 => .object "DishLift$Rows"
  | 1 => .object "DishLift$Tape"
  | 2 => .object "DishLift$House"
  | 3 => .object "DishLift$House"
  | 4 => .object "DishLift$Acts"
  | 5 => .array (.object "DishLift$House")
  | 6 => .object "DishLift$Foretold"
  | 7 => .object "DishLift$Orders"
  | 8 => .object "DishLift$Asks"
  | _ => .int
abbrev wsX70 : List Cond := u_ws RX7 TX7 10
theorem nmX7 : ∀ a, a < 10 → ∀ b, b < 10 → a ≠ b → (TX7 a).2.1 ≠ (TX7 b).2.1 := by decide +kernel
theorem tyX7_ok : ∀ k, k < 10 → parseFieldDescriptor (TX7 k).2.2.1 = some (tyX7 k) := by decide +kernel
abbrev cX7_init : ByteArray := prog_1_method_1_code
def yX7_init : MethodName := ⟨RX7, "<init>", "()V"⟩
abbrev cX7_row : ByteArray := prog_1_method_2_code
def yX7_row : MethodName := ⟨RX7, "row", "(III)I"⟩
abbrev cX7_set : ByteArray := prog_1_method_3_code
def yX7_set : MethodName := ⟨RX7, "set", "(III)I"⟩
abbrev cX7_copy : ByteArray := prog_1_method_4_code
def yX7_copy : MethodName := ⟨RX7, "copy", "(IIIII)I"⟩
abbrev cX7_drop : ByteArray := prog_1_method_5_code
def yX7_drop : MethodName := ⟨RX7, "drop", "(I)I"⟩
abbrev cX7_feed : ByteArray := prog_1_method_6_code
def yX7_feed : MethodName := ⟨RX7, "feed", "(I)I"⟩
abbrev cX7_house : ByteArray := prog_1_method_7_code
def yX7_house : MethodName := ⟨RX7, "house", "()I"⟩
abbrev cX7_fault : ByteArray := prog_1_method_8_code
def yX7_fault : MethodName := ⟨RX7, "fault", "()I"⟩
abbrev cX7_undo : ByteArray := prog_1_method_9_code
def yX7_undo : MethodName := ⟨RX7, "undo", "()I"⟩
abbrev cX7_minutes : ByteArray := prog_1_method_10_code
def yX7_minutes : MethodName := ⟨RX7, "minutes", "(I)I"⟩
abbrev cX7_pull : ByteArray := prog_1_method_11_code
def yX7_pull : MethodName := ⟨RX7, "pull", "(I)I"⟩
abbrev cX7_rope : ByteArray := prog_1_method_12_code
def yX7_rope : MethodName := ⟨RX7, "rope", "(I)I"⟩
abbrev cX7_room : ByteArray := prog_1_method_13_code
def yX7_room : MethodName := ⟨RX7, "room", "(I)I"⟩
abbrev cX7_send : ByteArray := prog_1_method_14_code
def yX7_send : MethodName := ⟨RX7, "send", "(III)I"⟩
abbrev cX7_dish : ByteArray := prog_1_method_15_code
def yX7_dish : MethodName := ⟨RX7, "dish", "(II)I"⟩
abbrev cX7_car : ByteArray := prog_1_method_16_code
def yX7_car : MethodName := ⟨RX7, "car", "(I)I"⟩
abbrev cX7_ahead : ByteArray := prog_1_method_17_code
def yX7_ahead : MethodName := ⟨RX7, "ahead", "(III)I"⟩
abbrev cX7_later : ByteArray := prog_1_method_18_code
def yX7_later : MethodName := ⟨RX7, "later", "(I)I"⟩
abbrev cX7_when : ByteArray := prog_1_method_19_code
def yX7_when : MethodName := ⟨RX7, "when", "(I)I"⟩
abbrev cX7_done : ByteArray := prog_1_method_20_code
def yX7_done : MethodName := ⟨RX7, "done", "()I"⟩
abbrev cX7_fine : ByteArray := prog_1_method_21_code
def yX7_fine : MethodName := ⟨RX7, "fine", "(I)I"⟩
abbrev cX7_site : ByteArray := prog_1_method_22_code
def yX7_site : MethodName := ⟨RX7, "site", "(II)I"⟩
abbrev cX7_need : ByteArray := prog_1_method_23_code
def yX7_need : MethodName := ⟨RX7, "need", "(II)I"⟩
abbrev cX7_ranks : ByteArray := prog_1_method_24_code
def yX7_ranks : MethodName := ⟨RX7, "ranks", "(II)I"⟩
abbrev cX7_holds : ByteArray := prog_1_method_25_code
def yX7_holds : MethodName := ⟨RX7, "holds", "(I)I"⟩
abbrev cX7_share : ByteArray := prog_1_method_26_code
def yX7_share : MethodName := ⟨RX7, "share", "(II)I"⟩
abbrev cX7_byTurns : ByteArray := prog_1_method_27_code
def yX7_byTurns : MethodName := ⟨RX7, "byTurns", "(II)I"⟩
abbrev cX7_who : ByteArray := prog_1_method_28_code
def yX7_who : MethodName := ⟨RX7, "who", "(IIIII)I"⟩
abbrev cX7_stuck : ByteArray := prog_1_method_29_code
def yX7_stuck : MethodName := ⟨RX7, "stuck", "(IIII)J"⟩
abbrev cX7_drawn : ByteArray := prog_1_method_30_code
def yX7_drawn : MethodName := ⟨RX7, "drawn", "(III)I"⟩
abbrev cX7_image : ByteArray := prog_1_method_31_code
def yX7_image : MethodName := ⟨RX7, "image", "(I)I"⟩
abbrev cX7_restore : ByteArray := prog_1_method_32_code
def yX7_restore : MethodName := ⟨RX7, "restore", "(I)I"⟩
abbrev cX7_kind : ByteArray := prog_1_method_33_code
def yX7_kind : MethodName := ⟨RX7, "kind", "(I)I"⟩
abbrev cX7_as : ByteArray := prog_1_method_34_code
def yX7_as : MethodName := ⟨RX7, "as", "(II)I"⟩
abbrev cX7_ask : ByteArray := prog_1_method_35_code
def yX7_ask : MethodName := ⟨RX7, "ask", "(II)I"⟩
abbrev cX7_trace : ByteArray := prog_1_method_36_code
def yX7_trace : MethodName := ⟨RX7, "trace", "(I)I"⟩
abbrev cX7_count : ByteArray := prog_1_method_37_code
def yX7_count : MethodName := ⟨RX7, "count", "(I)I"⟩
abbrev cX7_status : ByteArray := prog_1_method_38_code
def yX7_status : MethodName := ⟨RX7, "status", "()I"⟩
abbrev cX7_found : ByteArray := prog_1_method_39_code
def yX7_found : MethodName := ⟨RX7, "found", "(I)I"⟩
abbrev cX7_foundNothing : ByteArray := prog_1_method_40_code
def yX7_foundNothing : MethodName := ⟨RX7, "foundNothing", "(I)I"⟩
abbrev cX7_isOutside : ByteArray := prog_1_method_41_code
def yX7_isOutside : MethodName := ⟨RX7, "isOutside", "(III)Z"⟩
def RX8 : String := "DishLiftModel"
def TX8 : u_T := fun k => match k with
  | 0 => ("DishLiftModel", "w", "[I", true)
  | 1 => ("DishLiftModel", "undoes", "I", false)
  | 2 => ("DishLiftModel", "tape", "[I", true)
  | 3 => ("DishLiftModel", "taped", "I", false)
  | 4 => ("DishLiftModel", "faulty", "I", false)
  | 5 => ("DishLiftModel", "status", "I", false)
  | 6 => ("DishLiftModel", "many", "[I", true)
  | 7 => ("DishLiftModel", "lane", "[I", true)
  | 8 => ("DishLiftModel", "items", "[I", true)
  | 9 => ("DishLiftModel", "held", "[I", true)
  | 10 => ("DishLiftModel", "at", "I", false)
  | 11 => ("DishLiftModel", "start", "I", false)
  | 12 => ("DishLiftModel", "number", "I", false)
  | 13 => ("DishLiftModel", "order", "[I", true)
  | 14 => ("DishLiftModel", "bestOrder", "[I", true)
  | 15 => ("DishLiftModel", "value", "[I", true)
  | 16 => ("DishLiftModel", "isKept", "[Z", true)
  | 17 => ("DishLiftModel", "trace", "[I", true)
  | _ => ("DishLiftModel", "traced", "I", false)
def tyX8 : Nat → FieldType := fun k => match k with
  | 0 => .array .int
  | 1 => .int
  | 2 => .array .int
  | 3 => .int
  | 4 => .int
  | 5 => .int
  | 6 => .array .int
  | 7 => .array .int
  | 8 => .array .int
  | 9 => .array .int
  | 10 => .int
  | 11 => .int
  | 12 => .int
  | 13 => .array .int
  | 14 => .array .int
  | 15 => .array .int
  | 16 => .array .boolean
  | 17 => .array .int
  | _ => .int
abbrev wsX80 : List Cond := u_ws RX8 TX8 19
theorem nmX8 : ∀ a, a < 19 → ∀ b, b < 19 → a ≠ b → (TX8 a).2.1 ≠ (TX8 b).2.1 := by decide +kernel
theorem tyX8_ok : ∀ k, k < 19 → parseFieldDescriptor (TX8 k).2.2.1 = some (tyX8 k) := by decide +kernel
abbrev cX8_init : ByteArray := prog_10_method_1_code
def yX8_init : MethodName := ⟨RX8, "<init>", "()V"⟩
abbrev cX8_in : ByteArray := prog_10_method_3_code
def yX8_in : MethodName := ⟨RX8, "in", "(JJJ)Z"⟩
abbrev cX8_has : ByteArray := prog_10_method_4_code
def yX8_has : MethodName := ⟨RX8, "has", "(II)Z"⟩
abbrev cX8_ones : ByteArray := prog_10_method_5_code
def yX8_ones : MethodName := ⟨RX8, "ones", "(I)I"⟩
abbrev cX8_copyOf : ByteArray := prog_10_method_6_code
def yX8_copyOf : MethodName := ⟨RX8, "copyOf", "(II)V"⟩
abbrev cX8_isDish : ByteArray := prog_10_method_7_code
def yX8_isDish : MethodName := ⟨RX8, "isDish", "(I)Z"⟩
abbrev cX8_isFloor : ByteArray := prog_10_method_8_code
def yX8_isFloor : MethodName := ⟨RX8, "isFloor", "(I)Z"⟩
abbrev cX8_isHouse : ByteArray := prog_10_method_9_code
def yX8_isHouse : MethodName := ⟨RX8, "isHouse", "()Z"⟩
abbrev cX8_isRow : ByteArray := prog_10_method_10_code
def yX8_isRow : MethodName := ⟨RX8, "isRow", "(I)Z"⟩
abbrev cX8_finds : ByteArray := prog_10_method_11_code
def yX8_finds : MethodName := ⟨RX8, "finds", "(I)I"⟩
abbrev cX8_against : ByteArray := prog_10_method_12_code
def yX8_against : MethodName := ⟨RX8, "against", "(III)I"⟩
abbrev cX8_row : ByteArray := prog_10_method_13_code
def yX8_row : MethodName := ⟨RX8, "row", "(III)I"⟩
abbrev cX8_set : ByteArray := prog_10_method_14_code
def yX8_set : MethodName := ⟨RX8, "set", "(III)I"⟩
abbrev cX8_copy : ByteArray := prog_10_method_15_code
def yX8_copy : MethodName := ⟨RX8, "copy", "(IIIII)I"⟩
abbrev cX8_drop : ByteArray := prog_10_method_16_code
def yX8_drop : MethodName := ⟨RX8, "drop", "(I)I"⟩
abbrev cX8_feed : ByteArray := prog_10_method_17_code
def yX8_feed : MethodName := ⟨RX8, "feed", "(I)I"⟩
abbrev cX8_here : ByteArray := prog_10_method_18_code
def yX8_here : MethodName := ⟨RX8, "here", "()I"⟩
abbrev cX8_fails : ByteArray := prog_10_method_19_code
def yX8_fails : MethodName := ⟨RX8, "fails", "(II)Z"⟩
abbrev cX8_takes : ByteArray := prog_10_method_20_code
def yX8_takes : MethodName := ⟨RX8, "takes", "(I)Z"⟩
abbrev cX8_takesNumber : ByteArray := prog_10_method_21_code
def yX8_takesNumber : MethodName := ⟨RX8, "takesNumber", "(II)Z"⟩
abbrev cX8_kindOf : ByteArray := prog_10_method_22_code
def yX8_kindOf : MethodName := ⟨RX8, "kindOf", "(I)I"⟩
abbrev cX8_takesLaw : ByteArray := prog_10_method_23_code
def yX8_takesLaw : MethodName := ⟨RX8, "takesLaw", "()Z"⟩
abbrev cX8_takesDish : ByteArray := prog_10_method_24_code
def yX8_takesDish : MethodName := ⟨RX8, "takesDish", "()Z"⟩
abbrev cX8_takesAll : ByteArray := prog_10_method_25_code
def yX8_takesAll : MethodName := ⟨RX8, "takesAll", "()Z"⟩
abbrev cX8_house : ByteArray := prog_10_method_26_code
def yX8_house : MethodName := ⟨RX8, "house", "()I"⟩
abbrev cX8_fault : ByteArray := prog_10_method_27_code
def yX8_fault : MethodName := ⟨RX8, "fault", "()I"⟩
abbrev cX8_insideOf : ByteArray := prog_10_method_28_code
def yX8_insideOf : MethodName := ⟨RX8, "insideOf", "(I)I"⟩
abbrev cX8_servedOf : ByteArray := prog_10_method_29_code
def yX8_servedOf : MethodName := ⟨RX8, "servedOf", "(I)I"⟩
abbrev cX8_weightOf : ByteArray := prog_10_method_30_code
def yX8_weightOf : MethodName := ⟨RX8, "weightOf", "(II)I"⟩
abbrev cX8_serves : ByteArray := prog_10_method_31_code
def yX8_serves : MethodName := ⟨RX8, "serves", "(I)V"⟩
abbrev cX8_calledOf : ByteArray := prog_10_method_32_code
def yX8_calledOf : MethodName := ⟨RX8, "calledOf", "(I)I"⟩
abbrev cX8_goes : ByteArray := prog_10_method_33_code
def yX8_goes : MethodName := ⟨RX8, "goes", "(I)Z"⟩
abbrev cX8_cools : ByteArray := prog_10_method_34_code
def yX8_cools : MethodName := ⟨RX8, "cools", "(IZ)V"⟩
abbrev cX8_coolsOne : ByteArray := prog_10_method_35_code
def yX8_coolsOne : MethodName := ⟨RX8, "coolsOne", "(IIZ)V"⟩
abbrev cX8_passes : ByteArray := prog_10_method_36_code
def yX8_passes : MethodName := ⟨RX8, "passes", "(I)V"⟩
abbrev cX8_isGood : ByteArray := prog_10_method_37_code
def yX8_isGood : MethodName := ⟨RX8, "isGood", "(II)Z"⟩
abbrev cX8_fineOf : ByteArray := prog_10_method_38_code
def yX8_fineOf : MethodName := ⟨RX8, "fineOf", "(I)I"⟩
abbrev cX8_heatServed : ByteArray := prog_10_method_39_code
def yX8_heatServed : MethodName := ⟨RX8, "heatServed", "(I)I"⟩
abbrev cX8_heatOf : ByteArray := prog_10_method_40_code
def yX8_heatOf : MethodName := ⟨RX8, "heatOf", "(I)I"⟩
abbrev cX8_minds : ByteArray := prog_10_method_41_code
def yX8_minds : MethodName := ⟨RX8, "minds", "()V"⟩
abbrev cX8_undo : ByteArray := prog_10_method_42_code
def yX8_undo : MethodName := ⟨RX8, "undo", "()I"⟩
abbrev cX8_minutes : ByteArray := prog_10_method_43_code
def yX8_minutes : MethodName := ⟨RX8, "minutes", "(I)I"⟩
abbrev cX8_pull : ByteArray := prog_10_method_44_code
def yX8_pull : MethodName := ⟨RX8, "pull", "(I)I"⟩
abbrev cX8_rope : ByteArray := prog_10_method_45_code
def yX8_rope : MethodName := ⟨RX8, "rope", "(I)I"⟩
abbrev cX8_room : ByteArray := prog_10_method_46_code
def yX8_room : MethodName := ⟨RX8, "room", "(I)I"⟩
abbrev cX8_sendsBack : ByteArray := prog_10_method_47_code
def yX8_sendsBack : MethodName := ⟨RX8, "sendsBack", "(IIII)V"⟩
abbrev cX8_send : ByteArray := prog_10_method_48_code
def yX8_send : MethodName := ⟨RX8, "send", "(III)I"⟩
abbrev cX8_dish : ByteArray := prog_10_method_49_code
def yX8_dish : MethodName := ⟨RX8, "dish", "(II)I"⟩
abbrev cX8_car : ByteArray := prog_10_method_50_code
def yX8_car : MethodName := ⟨RX8, "car", "(I)I"⟩
abbrev cX8_tries : ByteArray := prog_10_method_51_code
def yX8_tries : MethodName := ⟨RX8, "tries", "()V"⟩
abbrev cX8_goesOn : ByteArray := prog_10_method_52_code
def yX8_goesOn : MethodName := ⟨RX8, "goesOn", "(I)V"⟩
abbrev cX8_ahead : ByteArray := prog_10_method_53_code
def yX8_ahead : MethodName := ⟨RX8, "ahead", "(III)I"⟩
abbrev cX8_later : ByteArray := prog_10_method_54_code
def yX8_later : MethodName := ⟨RX8, "later", "(I)I"⟩
abbrev cX8_allServed : ByteArray := prog_10_method_55_code
def yX8_allServed : MethodName := ⟨RX8, "allServed", "(I)I"⟩
abbrev cX8_when : ByteArray := prog_10_method_56_code
def yX8_when : MethodName := ⟨RX8, "when", "(I)I"⟩
abbrev cX8_done : ByteArray := prog_10_method_57_code
def yX8_done : MethodName := ⟨RX8, "done", "()I"⟩
abbrev cX8_fine : ByteArray := prog_10_method_58_code
def yX8_fine : MethodName := ⟨RX8, "fine", "(I)I"⟩
abbrev cX8_site : ByteArray := prog_10_method_59_code
def yX8_site : MethodName := ⟨RX8, "site", "(II)I"⟩
abbrev cX8_need : ByteArray := prog_10_method_60_code
def yX8_need : MethodName := ⟨RX8, "need", "(II)I"⟩
abbrev cX8_waitsBy : ByteArray := prog_10_method_61_code
def yX8_waitsBy : MethodName := ⟨RX8, "waitsBy", "(I)I"⟩
abbrev cX8_bestRanks : ByteArray := prog_10_method_62_code
def yX8_bestRanks : MethodName := ⟨RX8, "bestRanks", "(I)I"⟩
abbrev cX8_ranks : ByteArray := prog_10_method_63_code
def yX8_ranks : MethodName := ⟨RX8, "ranks", "(II)I"⟩
abbrev cX8_holds : ByteArray := prog_10_method_64_code
def yX8_holds : MethodName := ⟨RX8, "holds", "(I)I"⟩
abbrev cX8_share : ByteArray := prog_10_method_65_code
def yX8_share : MethodName := ⟨RX8, "share", "(II)I"⟩
abbrev cX8_heatFrom : ByteArray := prog_10_method_66_code
def yX8_heatFrom : MethodName := ⟨RX8, "heatFrom", "(II)I"⟩
abbrev cX8_byTurns : ByteArray := prog_10_method_67_code
def yX8_byTurns : MethodName := ⟨RX8, "byTurns", "(II)I"⟩
abbrev cX8_isSo : ByteArray := prog_10_method_68_code
def yX8_isSo : MethodName := ⟨RX8, "isSo", "(III)Z"⟩
abbrev cX8_who : ByteArray := prog_10_method_69_code
def yX8_who : MethodName := ⟨RX8, "who", "(IIIII)I"⟩
abbrev cX8_stuck : ByteArray := prog_10_method_70_code
def yX8_stuck : MethodName := ⟨RX8, "stuck", "(IIII)J"⟩
abbrev cX8_drawn : ByteArray := prog_10_method_71_code
def yX8_drawn : MethodName := ⟨RX8, "drawn", "(III)I"⟩
abbrev cX8_image : ByteArray := prog_10_method_72_code
def yX8_image : MethodName := ⟨RX8, "image", "(I)I"⟩
abbrev cX8_restore : ByteArray := prog_10_method_73_code
def yX8_restore : MethodName := ⟨RX8, "restore", "(I)I"⟩
abbrev cX8_kind : ByteArray := prog_10_method_74_code
def yX8_kind : MethodName := ⟨RX8, "kind", "(I)I"⟩
abbrev cX8_isA : ByteArray := prog_10_method_75_code
def yX8_isA : MethodName := ⟨RX8, "isA", "(II)Z"⟩
abbrev cX8_as : ByteArray := prog_10_method_76_code
def yX8_as : MethodName := ⟨RX8, "as", "(II)I"⟩
abbrev cX8_traces : ByteArray := prog_10_method_77_code
def yX8_traces : MethodName := ⟨RX8, "traces", "(I)V"⟩
abbrev cX8_size10 : ByteArray := prog_10_method_78_code
def yX8_size10 : MethodName := ⟨RX8, "size10", "(I)I"⟩
abbrev cX8_size11 : ByteArray := prog_10_method_79_code
def yX8_size11 : MethodName := ⟨RX8, "size11", "(I)I"⟩
abbrev cX8_size13 : ByteArray := prog_10_method_80_code
def yX8_size13 : MethodName := ⟨RX8, "size13", "(I)I"⟩
abbrev cX8_sizeOf : ByteArray := prog_10_method_81_code
def yX8_sizeOf : MethodName := ⟨RX8, "sizeOf", "(I)I"⟩
abbrev cX8_mark20 : ByteArray := prog_10_method_82_code
def yX8_mark20 : MethodName := ⟨RX8, "mark20", "(I)I"⟩
abbrev cX8_mark21 : ByteArray := prog_10_method_83_code
def yX8_mark21 : MethodName := ⟨RX8, "mark21", "(I)I"⟩
abbrev cX8_markOf : ByteArray := prog_10_method_84_code
def yX8_markOf : MethodName := ⟨RX8, "markOf", "(I)I"⟩
abbrev cX8_mark23 : ByteArray := prog_10_method_85_code
def yX8_mark23 : MethodName := ⟨RX8, "mark23", "(I)I"⟩
abbrev cX8_ask : ByteArray := prog_10_method_86_code
def yX8_ask : MethodName := ⟨RX8, "ask", "(II)I"⟩
abbrev cX8_trace : ByteArray := prog_10_method_87_code
def yX8_trace : MethodName := ⟨RX8, "trace", "(I)I"⟩
abbrev cX8_rowsThere : ByteArray := prog_10_method_88_code
def yX8_rowsThere : MethodName := ⟨RX8, "rowsThere", "()I"⟩
abbrev cX8_waiting : ByteArray := prog_10_method_89_code
def yX8_waiting : MethodName := ⟨RX8, "waiting", "()I"⟩
abbrev cX8_count : ByteArray := prog_10_method_90_code
def yX8_count : MethodName := ⟨RX8, "count", "(I)I"⟩
abbrev cX8_status : ByteArray := prog_10_method_91_code
def yX8_status : MethodName := ⟨RX8, "status", "()I"⟩
def RJ6 : String := "java/lang/Integer"
def TJ6 : u_T := fun k => match k with
  | _ => ("", "", "", false)
def tyJ6 : Nat → FieldType := fun k => match k with
  | _ => .int
abbrev wsJ60 : List Cond := u_ws RJ6 TJ6 0
theorem nmJ6 : ∀ a, a < 0 → ∀ b, b < 0 → a ≠ b → (TJ6 a).2.1 ≠ (TJ6 b).2.1 := by decide +kernel
theorem tyJ6_ok : ∀ k, k < 0 → parseFieldDescriptor (TJ6 k).2.2.1 = some (tyJ6 k) := by decide +kernel
abbrev cJ6_bitCount_0f7a4 : ByteArray := prog_11_method_49_code
def yJ6_bitCount_0f7a4 : MethodName := ⟨RJ6, "bitCount", "(I)I"⟩
def RJ9 : String := "java/lang/Math"
def TJ9 : u_T := fun k => match k with
  | _ => ("", "", "", false)
def tyJ9 : Nat → FieldType := fun k => match k with
  | _ => .int
abbrev wsJ90 : List Cond := u_ws RJ9 TJ9 0
theorem nmJ9 : ∀ a, a < 0 → ∀ b, b < 0 → a ≠ b → (TJ9 a).2.1 ≠ (TJ9 b).2.1 := by decide +kernel
theorem tyJ9_ok : ∀ k, k < 0 → parseFieldDescriptor (TJ9 k).2.2.1 = some (tyJ9 k) := by decide +kernel
abbrev cJ9_max_7cf53 : ByteArray := prog_12_method_65_code
def yJ9_max_7cf53 : MethodName := ⟨RJ9, "max", "(II)I"⟩
abbrev cJ9_min_7cf53 : ByteArray := prog_12_method_69_code
def yJ9_min_7cf53 : MethodName := ⟨RJ9, "min", "(II)I"⟩
def RJ10 : String := "java/lang/System"
def TJ10 : u_T := fun k => match k with
  | _ => ("", "", "", false)
def tyJ10 : Nat → FieldType := fun k => match k with
  | _ => .int
abbrev wsJ100 : List Cond := u_ws RJ10 TJ10 0
theorem nmJ10 : ∀ a, a < 0 → ∀ b, b < 0 → a ≠ b → (TJ10 a).2.1 ≠ (TJ10 b).2.1 := by decide +kernel
theorem tyJ10_ok : ∀ k, k < 0 → parseFieldDescriptor (TJ10 k).2.2.1 = some (tyJ10 k) := by decide +kernel
def RJ7 : String := "java/util/Arrays"
def TJ7 : u_T := fun k => match k with
  | _ => ("", "", "", false)
def tyJ7 : Nat → FieldType := fun k => match k with
  | _ => .int
abbrev wsJ70 : List Cond := u_ws RJ7 TJ7 0
theorem nmJ7 : ∀ a, a < 0 → ∀ b, b < 0 → a ≠ b → (TJ7 a).2.1 ≠ (TJ7 b).2.1 := by decide +kernel
theorem tyJ7_ok : ∀ k, k < 0 → parseFieldDescriptor (TJ7 k).2.2.1 = some (tyJ7 k) := by decide +kernel
abbrev cJ7_fill_53178 : ByteArray := prog_14_method_103_code
def yJ7_fill_53178 : MethodName := ⟨RJ7, "fill", "([II)V"⟩
def RL : String := "DishLiftLaw"
abbrev cL_law : ByteArray := code
abbrev vwCl : List vw_C := [(RX0, TX0, 3), (RX1, TX1, 2), (RX2, TX2, 2), (RX3, TX3, 12), (RX4, TX4, 6), (RX5, TX5, 3), (RX6, TX6, 5), (RX7, TX7, 10), (RX8, TX8, 19)]
end
section
/-! THE LOGICAL MEMORY. An id is its own flat base address; kd: its kind (0..8 an object of the class of that number in vwCl, 9 int[], 10 boolean[], 11 House[], 12 int[][], 13 an int[] that is only read). -/
/-- a row of a method's code: pc, instruction, its length, head of a loop (1), three numbers, pairs -/
abbrev zR : Type := Nat × Instr × Nat × Nat × Nat × Nat × Nat × List (Nat × Nat)
/-- a method: name, code, locals, answer, rows, [mode (0 instance, 1 static, 2 init), makes (1), parameters, places of its words: code, instance or static, selects, initialized; the number of its type among the worlds' and among all] -/
abbrev zMt : Type := MethodName × ByteArray × Nat × Option FieldType × List zR × List Nat
/-- the static ids: id, kind, length -/
def zZ : List (Nat × Nat × Nat) := [(100, 7, 10), (120, 5, 3), (130, 9, 8), (140, 9, 8), (150, 12, 8),
  (200, 9, 40), (240, 9, 40), (280, 9, 40), (320, 9, 40), (360, 9, 40), (400, 9, 40), (440, 9, 40), (480, 9, 40),
  (530, 6, 5), (540, 9, 110), (660, 0, 3), (670, 11, 24), (700, 11, 2), (710, 2, 2), (720, 11, 9), (740, 4, 6), (750, 9, 6), (760, 9, 6), (770, 1, 2), (780, 9, 16),
  (1000, 8, 19), (2000, 9, 1247), (3300, 9, 110), (3420, 9, 8), (3430, 9, 8), (3440, 9, 320), (3760, 9, 40), (3800, 9, 7), (3810, 9, 6), (3820, 9, 45), (3870, 10, 2), (3880, 9, 16),
  (4000, 13, 6), (4010, 13, 6), (4020, 13, 6), (4030, 13, 6), (5000, 13, 3072)]
def zfind : List (Nat × Nat × Nat) → Nat → Option (Nat × Nat)
  | [], _ => none
  | (i, k, n) :: l, x => bif Nat.beq i x then some (k, n) else zfind l x
/-- the kind of an id (99: none) -/
def kd (x : Nat) : Nat := bif Nat.blt x 10000 then (match zfind zZ x with | some (k, _) => k | none => 99) else
  (bif Nat.beq ((x - 10000) % 64) 0 then 3 else bif Nat.beq ((x - 10000) % 64) 7 || Nat.beq ((x - 10000) % 64) 13 || Nat.beq ((x - 10000) % 64) 19 || Nat.beq ((x - 10000) % 64) 25 || Nat.beq ((x - 10000) % 64) 31 then 9 else 99)
/-- the length of an array's id; X: the script's -/
def ln (X x : Nat) : Nat := bif Nat.blt x 10000 then (bif Nat.beq x 5000 then X else match zfind zZ x with | some (_, n) => n | none => 0) else 6
/-- the owner of a flat address -/
def zmoS : List (Nat × Nat × Nat) → Nat → Nat
  | [], _ => 0
  | (i, k, n) :: l, x => bif Nat.ble i x && Nat.blt x (i + n) then i else zmoS l x
def mo (x : Nat) : Nat := bif Nat.blt x 10000 then zmoS zZ x else
  (bif Nat.blt ((x - 10000) % 64) 7 || Nat.ble 37 ((x - 10000) % 64) then x - (x - 10000) % 64 else x - (x - 10000) % 64 + 7 + ((x - 10000) % 64 - 7) / 6 * 6)
/-- the offset of a field, and whether it is a number -/
def zoff (c k : Nat) : Nat := bif Nat.beq c 3 then ([1, 2, 3, 6, 4, 5, 0, 40, 41, 42, 43, 44].getD k 0) else k
def zisI (c k : Nat) : Bool := match c with
  | 0 => Nat.ble 1 k
  | 1 => Nat.beq k 1
  | 2 => false
  | 3 => Nat.blt k 7
  | 4 => Nat.ble 4 k
  | 5 => false
  | 6 => Nat.ble 1 k
  | 7 => Nat.beq k 9
  | 8 => !(Nat.beq k 0 || Nat.beq k 2 || Nat.beq k 6 || Nat.beq k 7 || Nat.beq k 8 || Nat.beq k 9 || Nat.beq k 13 || Nat.beq k 14 || Nat.beq k 15 || Nat.beq k 16 || Nat.beq k 17)
  | _ => false
/-- how many fields -/
def znf (c : Nat) : Nat := [3, 2, 2, 12, 6, 3, 5, 10, 19].getD c 0
/-- the type of an array's parts, by its kind -/
def zaty (k : Nat) : Option FieldType := match k with
  | 9 => some .int
  | 10 => some .boolean
  | 11 => some (.object "DishLift$House")
  | 12 => some (.array .int)
  | _ => none
/-- which words an id of a kind has -/
def zhas (X o j : Nat) : Prop := (kd o < 9 ∧ ∃ k, k < znf (kd o) ∧ j = zoff (kd o) k) ∨ (9 ≤ kd o ∧ kd o ≤ 13 ∧ j < ln X o)
theorem kd_house (i : Nat) : kd (10000 + 64 * i) = 3 := by
  unfold kd
  have h1 : Nat.blt (10000 + 64 * i) 10000 = false := by rw [Bool.eq_false_iff, ne_eq, Nat.blt_eq]; omega
  have h2 : (10000 + 64 * i - 10000) % 64 = 0 := by omega
  rw [h1, h2]; rfl
theorem kd_harr (i j : Nat) (hj : j < 5) : kd (10000 + 64 * i + (7 + 6 * j)) = 9 := by
  unfold kd
  have h1 : Nat.blt (10000 + 64 * i + (7 + 6 * j)) 10000 = false := by rw [Bool.eq_false_iff, ne_eq, Nat.blt_eq]; omega
  have h2 : (10000 + 64 * i + (7 + 6 * j) - 10000) % 64 = 7 + 6 * j := by omega
  rw [h1, h2]
  rcases (show j = 0 ∨ j = 1 ∨ j = 2 ∨ j = 3 ∨ j = 4 by omega) with rfl | rfl | rfl | rfl | rfl <;> rfl
theorem ln_house (X x : Nat) (h : 10000 ≤ x) : ln X x = 6 := by
  unfold ln
  have h1 : Nat.blt x 10000 = false := by rw [Bool.eq_false_iff, ne_eq, Nat.blt_eq]; omega
  rw [h1]; rfl
theorem kd_ge {x : Nat} (h : 10000 ≤ x) : (kd x = 3 ∧ (x - 10000) % 64 = 0) ∨ (kd x = 9 ∧ ∃ j, j < 5 ∧ (x - 10000) % 64 = 7 + 6 * j) ∨ kd x = 99 := by
  unfold kd
  have h1 : Nat.blt x 10000 = false := by rw [Bool.eq_false_iff, ne_eq, Nat.blt_eq]; omega
  rw [h1]
  generalize (x - 10000) % 64 = r
  by_cases e0 : r = 0
  · subst e0; exact Or.inl ⟨rfl, rfl⟩
  · by_cases e1 : r = 7
    · subst e1; exact Or.inr (Or.inl ⟨rfl, 0, by omega, rfl⟩)
    · by_cases e2 : r = 13
      · subst e2; exact Or.inr (Or.inl ⟨rfl, 1, by omega, rfl⟩)
      · by_cases e3 : r = 19
        · subst e3; exact Or.inr (Or.inl ⟨rfl, 2, by omega, rfl⟩)
        · by_cases e4 : r = 25
          · subst e4; exact Or.inr (Or.inl ⟨rfl, 3, by omega, rfl⟩)
          · by_cases e5 : r = 31
            · subst e5; exact Or.inr (Or.inl ⟨rfl, 4, by omega, rfl⟩)
            · refine Or.inr (Or.inr ?_)
              have f : ∀ n : Nat, r ≠ n → Nat.beq r n = false := fun n hn => by
                rw [Bool.eq_false_iff, ne_eq, Nat.beq_eq]; exact hn
              rw [f 0 e0, f 7 e1, f 13 e2, f 19 e3, f 25 e4, f 31 e5]; rfl
theorem kd_lt {x : Nat} (h : x < 10000) : kd x = 99 ∨ ∃ k n, zfind zZ x = some (k, n) ∧ kd x = k ∧ (x, k, n) ∈ zZ := by
  have h1 : Nat.blt x 10000 = true := by rw [Nat.blt_eq]; exact h
  have g : ∀ l : List (Nat × Nat × Nat), zfind l x = none ∨ ∃ k n, zfind l x = some (k, n) ∧ (x, k, n) ∈ l := by
    intro l
    induction l with
    | nil => exact Or.inl rfl
    | cons q l ih =>
      obtain ⟨i, k, n⟩ := q
      by_cases e : i = x
      · subst e
        refine Or.inr ⟨k, n, ?_, List.mem_cons_self⟩
        show (bif Nat.beq i i then some (k, n) else zfind l i) = _
        rw [show Nat.beq i i = true from by rw [Nat.beq_eq]]; rfl
      · have e' : Nat.beq i x = false := by rw [Bool.eq_false_iff, ne_eq, Nat.beq_eq]; exact e
        have hz : zfind ((i, k, n) :: l) x = zfind l x := by
          show (bif Nat.beq i x then some (k, n) else zfind l x) = _
          rw [e']; rfl
        rw [hz]
        rcases ih with h | ⟨k', n', h1, h2⟩
        · exact Or.inl h
        · exact Or.inr ⟨k', n', h1, List.mem_cons_of_mem _ h2⟩
  rcases g zZ with h2 | ⟨k, n, h2, h3⟩
  · left; unfold kd; rw [h1, h2]; rfl
  · right; exact ⟨k, n, h2, by unfold kd; rw [h1, h2]; rfl, h3⟩
theorem zZ_mo : zZ.all (fun q => (List.range q.2.2).all (fun j => Nat.beq (mo (q.1 + j)) q.1)) = true := by decide +kernel
theorem zZ_nf : zZ.all (fun q => (Nat.ble 9 q.2.1 && Nat.ble q.2.1 13) || (Nat.blt q.2.1 9 && !(Nat.beq q.2.1 3) && Nat.beq q.2.2 (znf q.2.1))) = true := by decide +kernel
set_option maxRecDepth 100000 in
/-- every word has one owner -/
theorem mo_has {X o j : Nat} (hX : X ≤ 3072) (h : zhas X o j) : mo (o + j) = o := by
  by_cases ho : o < 10000
  · rcases kd_lt ho with h9 | ⟨k, n, hz, hk, hm⟩
    · rcases h with ⟨h1, -⟩ | ⟨-, h1, -⟩ <;> omega
    · have hmo := List.all_eq_true.mp zZ_mo _ hm
      have hnf := List.all_eq_true.mp zZ_nf _ hm
      have key : j < n → mo (o + j) = o := fun hj => by
        have := List.all_eq_true.mp hmo j (List.mem_range.mpr hj)
        exact Nat.eq_of_beq_eq_true this
      simp only [Bool.or_eq_true, Bool.and_eq_true, Nat.ble_eq, Nat.blt_eq, Bool.not_eq_true', Nat.beq_eq] at hnf
      rcases h with ⟨h1, k', hk', rfl⟩ | ⟨h1, h2, h3⟩
      · rw [hk] at h1 hk'
        rcases hnf with ⟨g1, -⟩ | ⟨⟨g1, g2⟩, g3⟩
        · omega
        · have hc3 : Nat.beq (kd o) 3 = false := by rw [hk]; exact g2
          have : zoff (kd o) k' = k' := by unfold zoff; rw [hc3]; rfl
          rw [this]; rw [this] at key; exact key (by rw [g3]; exact hk')
      · apply key
        have h1' : Nat.blt o 10000 = true := by rw [Nat.blt_eq]; exact ho
        unfold ln at h3
        rw [h1', hz] at h3
        by_cases e : o = 5000
        · subst e
          have hn : n = 3072 := by
            have : zfind zZ 5000 = some (13, 3072) := by decide +kernel
            rw [this] at hz; cases hz; rfl
          rw [hn]
          have : Nat.beq 5000 5000 = true := rfl
          rw [this] at h3
          exact Nat.lt_of_lt_of_le h3 hX
        · have e' : Nat.beq o 5000 = false := by rw [Bool.eq_false_iff, ne_eq, Nat.beq_eq]; exact e
          rw [e'] at h3
          exact h3
  · have ho' : 10000 ≤ o := by omega
    have hb : Nat.blt (o + j) 10000 = false := by rw [Bool.eq_false_iff, ne_eq, Nat.blt_eq]; omega
    rcases kd_ge ho' with ⟨hk, hm⟩ | ⟨hk, i, hi, hm⟩ | hk
    · rcases h with ⟨-, k', hk', rfl⟩ | ⟨h1, -⟩
      · rw [hk] at hk' ⊢
        have hk'' : k' < 12 := hk'
        have hoff : zoff 3 k' < 7 ∨ (37 ≤ zoff 3 k' ∧ zoff 3 k' < 64) := by
          rcases (show k' = 0 ∨ k' = 1 ∨ k' = 2 ∨ k' = 3 ∨ k' = 4 ∨ k' = 5 ∨ k' = 6 ∨ k' = 7 ∨ k' = 8 ∨ k' = 9 ∨ k' = 10 ∨ k' = 11 by omega) with rfl | rfl | rfl | rfl | rfl | rfl | rfl | rfl | rfl | rfl | rfl | rfl <;> decide
        rw [hk] at hb
        generalize zoff 3 k' = z at hoff hb ⊢
        unfold mo
        have hr : (o + z - 10000) % 64 = z := by omega
        rw [hb, hr]
        have hc : (Nat.blt z 7 || Nat.ble 37 z) = true := by
          rw [Bool.or_eq_true, Nat.blt_eq, Nat.ble_eq]
          rcases hoff with h | h
          · exact Or.inl h
          · exact Or.inr h.1
        rw [hc]
        show o + z - z = o
        omega
      · omega
    · rcases h with ⟨h1, -⟩ | ⟨-, -, h3⟩
      · omega
      · rw [ln_house X o ho'] at h3
        unfold mo
        have hr : (o + j - 10000) % 64 = 7 + 6 * i + j := by omega
        rw [hb, hr]
        have hc : (Nat.blt (7 + 6 * i + j) 7 || Nat.ble 37 (7 + 6 * i + j)) = false := by
          rw [Bool.or_eq_false_iff]
          constructor
          · rw [Bool.eq_false_iff, ne_eq, Nat.blt_eq]; omega
          · rw [Bool.eq_false_iff, ne_eq, Nat.ble_eq]; omega
        rw [hc]
        show o + j - (7 + 6 * i + j) + 7 + (7 + 6 * i + j - 7) / 6 * 6 = o
        omega
    · rcases h with ⟨h1, -⟩ | ⟨-, h1, -⟩ <;> omega
end
section
def tX0_init : List zR := [(0, .aload_n 0, 1, 0, 0, 0, 0, []),
  (1, .invokespecial 1, 3, 0, 0, 4, 0, []),
  (4, .aload_n 0, 1, 0, 0, 0, 0, []),
  (5, .bipush 24, 2, 0, 24, 0, 0, []),
  (7, .anewarray 9, 3, 0, 0, 0, 1, []),
  (10, .putfield 11, 3, 0, 0, 0, 2, [(0, 0)]),
  (13, .return_, 1, 0, 0, 0, 0, [])]
def tX0_isEmpty : List zR := [(0, .aload_n 0, 1, 0, 0, 0, 0, []),
  (1, .getfield 15, 3, 0, 0, 2, 3, [(2, 1)]),
  (4, .ifCond .ne 7, 3, 0, 11, 0, 0, []),
  (7, .iconst 1, 1, 0, 1, 0, 0, []),
  (8, .goto 4, 3, 0, 12, 0, 0, []),
  (11, .iconst 0, 1, 0, 0, 0, 0, []),
  (12, .ireturn, 1, 0, 0, 1, 0, [])]
def tX0_forget : List zR := [(0, .aload_n 0, 1, 0, 0, 0, 0, []),
  (1, .iconst 0, 1, 0, 0, 0, 0, []),
  (2, .putfield 15, 3, 0, 0, 2, 3, [(2, 1)]),
  (5, .return_, 1, 0, 0, 0, 0, [])]
def tX0_keep : List zR := [(0, .aload_n 0, 1, 0, 0, 0, 0, []),
  (1, .getfield 11, 3, 0, 0, 0, 2, [(0, 0)]),
  (4, .aload_n 0, 1, 0, 0, 0, 0, []),
  (5, .getfield 19, 3, 0, 0, 1, 4, [(1, 1)]),
  (8, .aaload, 1, 0, 0, 0, 0, []),
  (9, .ifnonnull 19, 3, 0, 28, 0, 0, []),
  (12, .aload_n 0, 1, 0, 0, 0, 0, []),
  (13, .getfield 11, 3, 0, 0, 0, 2, [(0, 0)]),
  (16, .aload_n 0, 1, 0, 0, 0, 0, []),
  (17, .getfield 19, 3, 0, 0, 1, 4, [(1, 1)]),
  (20, .new 9, 3, 0, 3, 0, 1, []),
  (23, .dup, 1, 0, 0, 0, 0, []),
  (24, .invokespecial 22, 3, 0, 40, 3, 5, [(0, 1)]),
  (27, .aastore, 1, 0, 0, 0, 0, []),
  (28, .aload_n 0, 1, 0, 0, 0, 0, []),
  (29, .getfield 11, 3, 0, 0, 0, 2, [(0, 0)]),
  (32, .aload_n 0, 1, 0, 0, 0, 0, []),
  (33, .getfield 19, 3, 0, 0, 1, 4, [(1, 1)]),
  (36, .aaload, 1, 0, 0, 0, 0, []),
  (37, .aload_n 1, 1, 0, 0, 0, 0, []),
  (38, .invokevirtual 23, 3, 0, 42, 1, 6, [(1, 0)]),
  (41, .aload_n 0, 1, 0, 0, 0, 0, []),
  (42, .aload_n 0, 1, 0, 0, 0, 0, []),
  (43, .getfield 19, 3, 0, 0, 1, 4, [(1, 1)]),
  (46, .iconst 1, 1, 0, 1, 0, 0, []),
  (47, .iadd, 1, 0, 0, 0, 0, []),
  (48, .bipush 24, 2, 0, 24, 0, 0, []),
  (50, .irem, 1, 0, 0, 0, 0, []),
  (51, .putfield 19, 3, 0, 0, 1, 4, [(1, 1)]),
  (54, .aload_n 0, 1, 0, 0, 0, 0, []),
  (55, .bipush 24, 2, 0, 24, 0, 0, []),
  (57, .aload_n 0, 1, 0, 0, 0, 0, []),
  (58, .getfield 15, 3, 0, 0, 2, 3, [(2, 1)]),
  (61, .iconst 1, 1, 0, 1, 0, 0, []),
  (62, .iadd, 1, 0, 0, 0, 0, []),
  (63, .invokestatic 27, 3, 0, 223, 7, 7, []),
  (66, .putfield 15, 3, 0, 0, 2, 3, [(2, 1)]),
  (69, .return_, 1, 0, 0, 0, 0, [])]
def tX0_takeBack : List zR := [(0, .aload_n 0, 1, 0, 0, 0, 0, []),
  (1, .getfield 19, 3, 0, 0, 1, 4, [(1, 1)]),
  (4, .bipush 24, 2, 0, 24, 0, 0, []),
  (6, .iadd, 1, 0, 0, 0, 0, []),
  (7, .iconst 1, 1, 0, 1, 0, 0, []),
  (8, .isub, 1, 0, 0, 0, 0, []),
  (9, .bipush 24, 2, 0, 24, 0, 0, []),
  (11, .irem, 1, 0, 0, 0, 0, []),
  (12, .istore_n 2, 1, 0, 0, 0, 0, []),
  (13, .aload_n 0, 1, 0, 0, 0, 0, []),
  (14, .getfield 15, 3, 0, 0, 2, 3, [(2, 1)]),
  (17, .ifCond .le 37, 3, 0, 54, 0, 0, []),
  (20, .aload_n 0, 1, 0, 0, 0, 0, []),
  (21, .getfield 11, 3, 0, 0, 0, 2, [(0, 0)]),
  (24, .iload_n 2, 1, 0, 0, 0, 0, []),
  (25, .aaload, 1, 0, 0, 0, 0, []),
  (26, .ifnull 28, 3, 0, 54, 0, 0, []),
  (29, .aload_n 1, 1, 0, 0, 0, 0, []),
  (30, .aload_n 0, 1, 0, 0, 0, 0, []),
  (31, .getfield 11, 3, 0, 0, 0, 2, [(0, 0)]),
  (34, .iload_n 2, 1, 0, 0, 0, 0, []),
  (35, .aaload, 1, 0, 0, 0, 0, []),
  (36, .invokevirtual 23, 3, 0, 42, 1, 6, [(1, 0)]),
  (39, .aload_n 0, 1, 0, 0, 0, 0, []),
  (40, .iload_n 2, 1, 0, 0, 0, 0, []),
  (41, .putfield 19, 3, 0, 0, 1, 4, [(1, 1)]),
  (44, .aload_n 0, 1, 0, 0, 0, 0, []),
  (45, .dup, 1, 0, 0, 0, 0, []),
  (46, .getfield 15, 3, 0, 0, 2, 3, [(2, 1)]),
  (49, .iconst 1, 1, 0, 1, 0, 0, []),
  (50, .isub, 1, 0, 0, 0, 0, []),
  (51, .putfield 15, 3, 0, 0, 2, 3, [(2, 1)]),
  (54, .aload_n 0, 1, 0, 0, 0, 0, []),
  (55, .getfield 15, 3, 0, 0, 2, 3, [(2, 1)]),
  (58, .ireturn, 1, 0, 0, 0, 0, [])]
def tX1_init : List zR := [(0, .aload_n 0, 1, 0, 0, 0, 0, []),
  (1, .invokespecial 1, 3, 0, 0, 4, 8, []),
  (4, .aload_n 0, 1, 0, 0, 0, 0, []),
  (5, .bipush 16, 2, 0, 16, 0, 0, []),
  (7, .newarray .int, 2, 0, 0, 0, 0, []),
  (9, .putfield 9, 3, 0, 1, 0, 9, [(0, 0)]),
  (12, .return_, 1, 0, 0, 0, 0, [])]
def tX1_isKind : List zR := [(0, .iload_n 0, 1, 0, 0, 0, 0, []),
  (1, .ifCond .lt 15, 3, 0, 16, 0, 0, []),
  (4, .iload_n 0, 1, 0, 0, 0, 0, []),
  (5, .getstatic 13, 3, 0, 4010, 0, 10, []),
  (8, .arraylength, 1, 0, 0, 0, 0, []),
  (9, .if_icmp .ge 7, 3, 0, 16, 0, 0, []),
  (12, .iconst 1, 1, 0, 1, 0, 0, []),
  (13, .goto 4, 3, 0, 17, 0, 0, []),
  (16, .iconst 0, 1, 0, 0, 0, 0, []),
  (17, .ireturn, 1, 0, 0, 1, 0, [])]
def tX1_isOne : List zR := [(0, .iload_n 1, 1, 0, 0, 0, 0, []),
  (1, .ifCond .eq 24, 3, 0, 25, 0, 0, []),
  (4, .iload_n 0, 1, 0, 0, 0, 0, []),
  (5, .iload_n 1, 1, 0, 0, 0, 0, []),
  (6, .if_icmp .eq 19, 3, 0, 25, 0, 0, []),
  (9, .iload_n 0, 1, 0, 0, 0, 0, []),
  (10, .invokestatic 16, 3, 0, 6, 0, 11, [(1, 0)]),
  (13, .ifCond .eq 16, 3, 0, 29, 0, 0, []),
  (16, .getstatic 13, 3, 0, 4010, 0, 10, []),
  (19, .iload_n 0, 1, 0, 0, 0, 0, []),
  (20, .iaload, 1, 0, 0, 0, 0, []),
  (21, .iload_n 1, 1, 0, 0, 0, 0, []),
  (22, .if_icmp .ne 7, 3, 0, 29, 0, 0, []),
  (25, .iconst 1, 1, 0, 1, 0, 0, []),
  (26, .goto 4, 3, 0, 30, 0, 0, []),
  (29, .iconst 0, 1, 0, 0, 0, 0, []),
  (30, .ireturn, 1, 0, 0, 1, 0, [])]
def tX1_answer : List zR := [(0, .aload_n 0, 1, 0, 0, 0, 0, []),
  (1, .iconst 0, 1, 0, 0, 0, 0, []),
  (2, .putfield 20, 3, 0, 1, 1, 12, [(1, 1)]),
  (5, .aload_n 0, 1, 0, 0, 0, 0, []),
  (6, .aload_n 1, 1, 0, 0, 0, 0, []),
  (7, .aload_n 1, 1, 0, 0, 0, 0, []),
  (8, .iload_n 2, 1, 0, 0, 0, 0, []),
  (9, .iload_n 3, 1, 0, 0, 0, 0, []),
  (10, .invokestatic 24, 3, 0, 9, 0, 13, [(3, 0)]),
  (13, .iload_n 2, 1, 0, 0, 0, 0, []),
  (14, .iconst 0, 1, 0, 0, 0, 0, []),
  (15, .invokevirtual 28, 3, 0, 10, 1, 14, [(4, 0)]),
  (18, .ireturn, 1, 0, 0, 0, 0, [])]
def tX1_bodyFor : List zR := [(0, .aload_n 0, 1, 0, 0, 0, 0, []),
  (1, .getfield 32, 3, 0, 3, 40, 15, [(7, 0)]),
  (4, .iload_n 1, 1, 0, 0, 0, 0, []),
  (5, .iaload, 1, 0, 0, 0, 0, []),
  (6, .istore_n 3, 1, 0, 0, 0, 0, []),
  (7, .iload_n 3, 1, 0, 0, 0, 0, []),
  (8, .invokestatic 16, 3, 0, 6, 0, 11, [(1, 0)]),
  (11, .ifCond .ne 5, 3, 0, 16, 0, 0, []),
  (14, .iconst 0, 1, 0, 0, 0, 0, []),
  (15, .ireturn, 1, 0, 0, 0, 0, []),
  (16, .iload_n 2, 1, 0, 0, 0, 0, []),
  (17, .ifCond .ne 11, 3, 0, 28, 0, 0, []),
  (20, .getstatic 37, 3, 0, 4020, 0, 16, []),
  (23, .iload_n 3, 1, 0, 0, 0, 0, []),
  (24, .iaload, 1, 0, 0, 0, 0, []),
  (25, .goto 8, 3, 0, 33, 0, 0, []),
  (28, .getstatic 40, 3, 0, 4030, 0, 17, []),
  (31, .iload_n 3, 1, 0, 0, 0, 0, []),
  (32, .iaload, 1, 0, 0, 0, 0, []),
  (33, .ireturn, 1, 0, 0, 0, 0, [])]
def tX1_begin : List zR := [(0, .iload 4, 2, 0, 0, 0, 0, []),
  (2, .bipush 16, 2, 0, 16, 0, 0, []),
  (4, .if_icmp .le 5, 3, 0, 9, 0, 0, []),
  (7, .iconst 0, 1, 0, 0, 0, 0, []),
  (8, .ireturn, 1, 0, 0, 0, 0, []),
  (9, .aload_n 0, 1, 0, 0, 0, 0, []),
  (10, .iload_n 2, 1, 0, 0, 0, 0, []),
  (11, .invokevirtual 43, 3, 0, 11, 1, 18, [(1, 0)]),
  (14, .iload 4, 2, 0, 0, 0, 0, []),
  (16, .iconst 1, 1, 0, 1, 0, 0, []),
  (17, .iadd, 1, 0, 0, 0, 0, []),
  (18, .istore 5, 2, 0, 0, 0, 0, []),
  (20, .iload_n 2, 1, 0, 0, 0, 0, []),
  (21, .tableswitch 221 10 24 #[75, 82, 108, 120, 134, 221, 221, 221, 221, 221, 147, 149, 167, 182, 208], 75, 0, 242, 0, 0, [(10, 96), (11, 103), (12, 129), (13, 141), (14, 155), (15, 242), (16, 242), (17, 242), (18, 242), (19, 242), (20, 168), (21, 170), (22, 188), (23, 203), (24, 229)]),
  (96, .aload_n 1, 1, 0, 0, 0, 0, []),
  (97, .getfield 47, 3, 0, 3, 43, 19, [(10, 0)]),
  (100, .iload_n 3, 1, 0, 0, 0, 0, []),
  (101, .iaload, 1, 0, 0, 0, 0, []),
  (102, .ireturn, 1, 0, 0, 0, 0, []),
  (103, .aload_n 0, 1, 0, 0, 0, 0, []),
  (104, .aload_n 1, 1, 0, 0, 0, 0, []),
  (105, .bipush 10, 2, 0, 10, 0, 0, []),
  (107, .iload_n 3, 1, 0, 0, 0, 0, []),
  (108, .iload 5, 2, 0, 0, 0, 0, []),
  (110, .invokevirtual 28, 3, 0, 10, 1, 14, [(4, 0)]),
  (113, .aload_n 0, 1, 0, 0, 0, 0, []),
  (114, .aload_n 1, 1, 0, 0, 0, 0, []),
  (115, .aload_n 1, 1, 0, 0, 0, 0, []),
  (116, .iload_n 3, 1, 0, 0, 0, 0, []),
  (117, .iconst 1, 1, 0, 1, 0, 0, []),
  (118, .invokestatic 24, 3, 0, 9, 0, 13, [(3, 0)]),
  (121, .iload_n 3, 1, 0, 0, 0, 0, []),
  (122, .iload 5, 2, 0, 0, 0, 0, []),
  (124, .invokevirtual 28, 3, 0, 10, 1, 14, [(4, 0)]),
  (127, .iadd, 1, 0, 0, 0, 0, []),
  (128, .ireturn, 1, 0, 0, 0, 0, []),
  (129, .aload_n 0, 1, 0, 0, 0, 0, []),
  (130, .aload_n 1, 1, 0, 0, 0, 0, []),
  (131, .bipush 11, 2, 0, 11, 0, 0, []),
  (133, .iload_n 3, 1, 0, 0, 0, 0, []),
  (134, .iload 5, 2, 0, 0, 0, 0, []),
  (136, .invokevirtual 28, 3, 0, 10, 1, 14, [(4, 0)]),
  (139, .ineg, 1, 0, 0, 0, 0, []),
  (140, .ireturn, 1, 0, 0, 0, 0, []),
  (141, .aload_n 0, 1, 0, 0, 0, 0, []),
  (142, .aload_n 1, 1, 0, 0, 0, 0, []),
  (143, .bipush 10, 2, 0, 10, 0, 0, []),
  (145, .iload_n 3, 1, 0, 0, 0, 0, []),
  (146, .iload 5, 2, 0, 0, 0, 0, []),
  (148, .invokevirtual 28, 3, 0, 10, 1, 14, [(4, 0)]),
  (151, .bipush 100, 2, 0, 100, 0, 0, []),
  (153, .isub, 1, 0, 0, 0, 0, []),
  (154, .ireturn, 1, 0, 0, 0, 0, []),
  (155, .iconst 2, 1, 0, 2, 0, 0, []),
  (156, .aload_n 0, 1, 0, 0, 0, 0, []),
  (157, .aload_n 1, 1, 0, 0, 0, 0, []),
  (158, .bipush 13, 2, 0, 13, 0, 0, []),
  (160, .iload_n 3, 1, 0, 0, 0, 0, []),
  (161, .iload 5, 2, 0, 0, 0, 0, []),
  (163, .invokevirtual 28, 3, 0, 10, 1, 14, [(4, 0)]),
  (166, .imul, 1, 0, 0, 0, 0, []),
  (167, .ireturn, 1, 0, 0, 0, 0, []),
  (168, .iload_n 3, 1, 0, 0, 0, 0, []),
  (169, .ireturn, 1, 0, 0, 0, 0, []),
  (170, .aload_n 0, 1, 0, 0, 0, 0, []),
  (171, .aload_n 1, 1, 0, 0, 0, 0, []),
  (172, .bipush 20, 2, 0, 20, 0, 0, []),
  (174, .iload_n 3, 1, 0, 0, 0, 0, []),
  (175, .iload 5, 2, 0, 0, 0, 0, []),
  (177, .invokevirtual 28, 3, 0, 10, 1, 14, [(4, 0)]),
  (180, .aload_n 1, 1, 0, 0, 0, 0, []),
  (181, .getfield 50, 3, 0, 3, 44, 20, [(11, 0)]),
  (184, .iload_n 3, 1, 0, 0, 0, 0, []),
  (185, .iaload, 1, 0, 0, 0, 0, []),
  (186, .iadd, 1, 0, 0, 0, 0, []),
  (187, .ireturn, 1, 0, 0, 0, 0, []),
  (188, .aload_n 0, 1, 0, 0, 0, 0, []),
  (189, .aload_n 1, 1, 0, 0, 0, 0, []),
  (190, .bipush 21, 2, 0, 21, 0, 0, []),
  (192, .iload_n 3, 1, 0, 0, 0, 0, []),
  (193, .iload 5, 2, 0, 0, 0, 0, []),
  (195, .invokevirtual 28, 3, 0, 10, 1, 14, [(4, 0)]),
  (198, .sipush 1000, 3, 0, 1000, 0, 0, []),
  (201, .isub, 1, 0, 0, 0, 0, []),
  (202, .ireturn, 1, 0, 0, 0, 0, []),
  (203, .aload_n 0, 1, 0, 0, 0, 0, []),
  (204, .aload_n 1, 1, 0, 0, 0, 0, []),
  (205, .bipush 20, 2, 0, 20, 0, 0, []),
  (207, .iload_n 3, 1, 0, 0, 0, 0, []),
  (208, .iload 5, 2, 0, 0, 0, 0, []),
  (210, .invokevirtual 28, 3, 0, 10, 1, 14, [(4, 0)]),
  (213, .aload_n 0, 1, 0, 0, 0, 0, []),
  (214, .aload_n 1, 1, 0, 0, 0, 0, []),
  (215, .aload_n 1, 1, 0, 0, 0, 0, []),
  (216, .iload_n 3, 1, 0, 0, 0, 0, []),
  (217, .iconst 0, 1, 0, 0, 0, 0, []),
  (218, .invokestatic 24, 3, 0, 9, 0, 13, [(3, 0)]),
  (221, .iload_n 3, 1, 0, 0, 0, 0, []),
  (222, .iload 5, 2, 0, 0, 0, 0, []),
  (224, .invokevirtual 28, 3, 0, 10, 1, 14, [(4, 0)]),
  (227, .isub, 1, 0, 0, 0, 0, []),
  (228, .ireturn, 1, 0, 0, 0, 0, []),
  (229, .iconst 2, 1, 0, 2, 0, 0, []),
  (230, .aload_n 0, 1, 0, 0, 0, 0, []),
  (231, .aload_n 1, 1, 0, 0, 0, 0, []),
  (232, .bipush 21, 2, 0, 21, 0, 0, []),
  (234, .iload_n 3, 1, 0, 0, 0, 0, []),
  (235, .iload 5, 2, 0, 0, 0, 0, []),
  (237, .invokevirtual 28, 3, 0, 10, 1, 14, [(4, 0)]),
  (240, .imul, 1, 0, 0, 0, 0, []),
  (241, .ireturn, 1, 0, 0, 0, 0, []),
  (242, .iconst 0, 1, 0, 0, 0, 0, []),
  (243, .ireturn, 1, 0, 0, 0, 0, [])]
def tX1_leave : List zR := [(0, .aload_n 0, 1, 0, 0, 0, 0, []),
  (1, .getfield 20, 3, 0, 1, 1, 12, [(1, 1)]),
  (4, .bipush 16, 2, 0, 16, 0, 0, []),
  (6, .if_icmp .ge 23, 3, 0, 29, 0, 0, []),
  (9, .aload_n 0, 1, 0, 0, 0, 0, []),
  (10, .getfield 9, 3, 0, 1, 0, 9, [(0, 0)]),
  (13, .aload_n 0, 1, 0, 0, 0, 0, []),
  (14, .getfield 20, 3, 0, 1, 1, 12, [(1, 1)]),
  (17, .iload_n 1, 1, 0, 0, 0, 0, []),
  (18, .iastore, 1, 0, 0, 0, 0, []),
  (19, .aload_n 0, 1, 0, 0, 0, 0, []),
  (20, .dup, 1, 0, 0, 0, 0, []),
  (21, .getfield 20, 3, 0, 1, 1, 12, [(1, 1)]),
  (24, .iconst 1, 1, 0, 1, 0, 0, []),
  (25, .iadd, 1, 0, 0, 0, 0, []),
  (26, .putfield 20, 3, 0, 1, 1, 12, [(1, 1)]),
  (29, .return_, 1, 0, 0, 0, 0, [])]
def tX2_init : List zR := [(0, .aload_n 0, 1, 0, 0, 0, 0, []),
  (1, .invokespecial 3, 3, 0, 0, 4, 21, []),
  (4, .aload_n 0, 1, 0, 0, 0, 0, []),
  (5, .new 9, 3, 0, 3, 0, 22, []),
  (8, .dup, 1, 0, 0, 0, 0, []),
  (9, .invokespecial 11, 3, 0, 40, 3, 23, [(0, 1)]),
  (12, .putfield 12, 3, 0, 2, 0, 24, [(0, 0)]),
  (15, .aload_n 0, 1, 0, 0, 0, 0, []),
  (16, .bipush 9, 2, 0, 9, 0, 0, []),
  (18, .anewarray 9, 3, 0, 0, 0, 22, []),
  (21, .putfield 18, 3, 0, 2, 1, 25, [(1, 0)]),
  (24, .return_, 1, 0, 0, 0, 0, [])]
def tX2_behind : List zR := [(0, .aload_n 0, 1, 0, 0, 0, 0, []),
  (1, .getfield 12, 3, 0, 2, 0, 24, [(0, 0)]),
  (4, .aload_n 1, 1, 0, 0, 0, 0, []),
  (5, .invokevirtual 22, 3, 0, 42, 1, 26, [(1, 0)]),
  (8, .aload_n 0, 1, 0, 0, 0, 0, []),
  (9, .iload_n 2, 1, 0, 0, 0, 0, []),
  (10, .invokevirtual 26, 3, 0, 14, 1, 27, [(1, 0)]),
  (13, .aload_n 0, 1, 0, 0, 0, 0, []),
  (14, .getfield 12, 3, 0, 2, 0, 24, [(0, 0)]),
  (17, .areturn, 1, 0, 0, 0, 0, [])]
def tX2_passTrial : List zR := [(0, .iconst 0, 1, 0, 0, 0, 0, []),
  (1, .istore_n 2, 1, 0, 0, 0, 0, []),
  (2, .iload_n 2, 1, 1, 0, 0, 0, []),
  (3, .iload_n 1, 1, 0, 0, 0, 0, []),
  (4, .if_icmp .ge 20, 3, 0, 24, 0, 0, []),
  (7, .aload_n 0, 1, 0, 0, 0, 0, []),
  (8, .getfield 12, 3, 0, 2, 0, 24, [(0, 0)]),
  (11, .getstatic 30, 3, 0, 4000, 0, 28, []),
  (14, .iconst 0, 1, 0, 0, 0, 0, []),
  (15, .invokevirtual 34, 3, 0, 55, 1, 29, [(2, 0)]),
  (18, .iinc 2 1, 3, 0, 1, 0, 0, []),
  (21, .goto (-19), 3, 0, 2, 0, 0, []),
  (24, .return_, 1, 0, 0, 0, 0, [])]
def tX2_firstServed : List zR := [(0, .aload_n 0, 1, 0, 0, 0, 0, []),
  (1, .getfield 12, 3, 0, 2, 0, 24, [(0, 0)]),
  (4, .aload_n 1, 1, 0, 0, 0, 0, []),
  (5, .invokevirtual 22, 3, 0, 42, 1, 26, [(1, 0)]),
  (8, .iconst 0, 1, 0, 0, 0, 0, []),
  (9, .istore 4, 2, 0, 0, 0, 0, []),
  (11, .iload 4, 2, 1, 0, 0, 0, []),
  (13, .iload_n 3, 1, 0, 0, 0, 0, []),
  (14, .if_icmp .gt 36, 3, 0, 50, 0, 0, []),
  (17, .aload_n 0, 1, 0, 0, 0, 0, []),
  (18, .getfield 12, 3, 0, 2, 0, 24, [(0, 0)]),
  (21, .invokevirtual 38, 3, 0, 49, 1, 30, [(0, 0)]),
  (24, .iload_n 2, 1, 0, 0, 0, 0, []),
  (25, .iand, 1, 0, 0, 0, 0, []),
  (26, .iload_n 2, 1, 0, 0, 0, 0, []),
  (27, .if_icmp .ne 6, 3, 0, 33, 0, 0, []),
  (30, .iload 4, 2, 0, 0, 0, 0, []),
  (32, .ireturn, 1, 0, 0, 0, 0, []),
  (33, .aload_n 0, 1, 0, 0, 0, 0, []),
  (34, .getfield 12, 3, 0, 2, 0, 24, [(0, 0)]),
  (37, .getstatic 30, 3, 0, 4000, 0, 28, []),
  (40, .iconst 0, 1, 0, 0, 0, 0, []),
  (41, .invokevirtual 34, 3, 0, 55, 1, 29, [(2, 0)]),
  (44, .iinc 4 1, 3, 0, 1, 0, 0, []),
  (47, .goto (-36), 3, 0, 11, 0, 0, []),
  (50, .ldc 42, 2, 0, 1000000, 1, 31, []),
  (52, .ireturn, 1, 0, 0, 0, 0, [])]
def tX2_bestStand : List zR := [(0, .iconst 0, 1, 0, 0, 0, 0, []),
  (1, .istore_n 3, 1, 0, 0, 0, 0, []),
  (2, .iconst (-1), 1, 0, 1, 1, 0, []),
  (3, .istore 4, 2, 0, 0, 0, 0, []),
  (5, .iconst 0, 1, 0, 0, 0, 0, []),
  (6, .istore 5, 2, 0, 0, 0, 0, []),
  (8, .iload 5, 2, 1, 0, 0, 0, []),
  (10, .aload_n 1, 1, 0, 0, 0, 0, []),
  (11, .getfield 43, 3, 0, 3, 1, 32, [(0, 1)]),
  (14, .if_icmp .ge 33, 3, 0, 47, 0, 0, []),
  (17, .aload_n 0, 1, 0, 0, 0, 0, []),
  (18, .aload_n 1, 1, 0, 0, 0, 0, []),
  (19, .iload 5, 2, 0, 0, 0, 0, []),
  (21, .iload_n 2, 1, 0, 0, 0, 0, []),
  (22, .invokevirtual 47, 3, 0, 17, 1, 33, [(3, 0)]),
  (25, .istore 6, 2, 0, 0, 0, 0, []),
  (27, .iload 6, 2, 0, 0, 0, 0, []),
  (29, .iload 4, 2, 0, 0, 0, 0, []),
  (31, .if_icmp .le 10, 3, 0, 41, 0, 0, []),
  (34, .iload 6, 2, 0, 0, 0, 0, []),
  (36, .istore 4, 2, 0, 0, 0, 0, []),
  (38, .iload 5, 2, 0, 0, 0, 0, []),
  (40, .istore_n 3, 1, 0, 0, 0, 0, []),
  (41, .iinc 5 1, 3, 0, 1, 0, 0, []),
  (44, .goto (-36), 3, 0, 8, 0, 0, []),
  (47, .iload_n 3, 1, 0, 0, 0, 0, []),
  (48, .ireturn, 1, 0, 0, 0, 0, [])]
def tX2_goodFrom : List zR := [(0, .aload_n 0, 1, 0, 0, 0, 0, []),
  (1, .getfield 12, 3, 0, 2, 0, 24, [(0, 0)]),
  (4, .aload_n 1, 1, 0, 0, 0, 0, []),
  (5, .invokevirtual 22, 3, 0, 42, 1, 26, [(1, 0)]),
  (8, .aload_n 0, 1, 0, 0, 0, 0, []),
  (9, .getfield 12, 3, 0, 2, 0, 24, [(0, 0)]),
  (12, .iload_n 2, 1, 0, 0, 0, 0, []),
  (13, .putfield 51, 3, 0, 3, 4, 34, [(4, 1)]),
  (16, .aload_n 0, 1, 0, 0, 0, 0, []),
  (17, .iload_n 3, 1, 0, 0, 0, 0, []),
  (18, .invokevirtual 26, 3, 0, 14, 1, 27, [(1, 0)]),
  (21, .aload_n 0, 1, 0, 0, 0, 0, []),
  (22, .getfield 12, 3, 0, 2, 0, 24, [(0, 0)]),
  (25, .invokevirtual 54, 3, 0, 50, 1, 35, [(0, 0)]),
  (28, .invokestatic 57, 3, 0, 221, 0, 36, [(1, 0)]),
  (31, .ireturn, 1, 0, 0, 0, 0, [])]
def tX2_leastRoom : List zR := [(0, .iconst 1, 1, 0, 1, 0, 0, []),
  (1, .istore_n 3, 1, 0, 0, 0, 0, []),
  (2, .iload_n 3, 1, 1, 0, 0, 0, []),
  (3, .iconst 4, 1, 0, 4, 0, 0, []),
  (4, .if_icmp .gt 25, 3, 0, 29, 0, 0, []),
  (7, .aload_n 0, 1, 0, 0, 0, 0, []),
  (8, .aload_n 1, 1, 0, 0, 0, 0, []),
  (9, .iload_n 3, 1, 0, 0, 0, 0, []),
  (10, .aload_n 1, 1, 0, 0, 0, 0, []),
  (11, .getfield 63, 3, 0, 3, 3, 37, [(2, 1)]),
  (14, .iload_n 2, 1, 0, 0, 0, 0, []),
  (15, .invokevirtual 66, 3, 0, 20, 1, 38, [(4, 0)]),
  (18, .ifCond .eq 5, 3, 0, 23, 0, 0, []),
  (21, .iload_n 3, 1, 0, 0, 0, 0, []),
  (22, .ireturn, 1, 0, 0, 0, 0, []),
  (23, .iinc 3 1, 3, 0, 1, 0, 0, []),
  (26, .goto (-24), 3, 0, 2, 0, 0, []),
  (29, .ldc 42, 2, 0, 1000000, 1, 31, []),
  (31, .ireturn, 1, 0, 0, 0, 0, [])]
def tX2_leastRope : List zR := [(0, .iconst 1, 1, 0, 1, 0, 0, []),
  (1, .istore_n 3, 1, 0, 0, 0, 0, []),
  (2, .iload_n 3, 1, 1, 0, 0, 0, []),
  (3, .bipush 40, 2, 0, 40, 0, 0, []),
  (5, .if_icmp .gt 25, 3, 0, 30, 0, 0, []),
  (8, .aload_n 0, 1, 0, 0, 0, 0, []),
  (9, .aload_n 1, 1, 0, 0, 0, 0, []),
  (10, .aload_n 1, 1, 0, 0, 0, 0, []),
  (11, .getfield 70, 3, 0, 3, 2, 39, [(1, 1)]),
  (14, .iload_n 3, 1, 0, 0, 0, 0, []),
  (15, .iload_n 2, 1, 0, 0, 0, 0, []),
  (16, .invokevirtual 66, 3, 0, 20, 1, 38, [(4, 0)]),
  (19, .ifCond .eq 5, 3, 0, 24, 0, 0, []),
  (22, .iload_n 3, 1, 0, 0, 0, 0, []),
  (23, .ireturn, 1, 0, 0, 0, 0, []),
  (24, .iinc 3 1, 3, 0, 1, 0, 0, []),
  (27, .goto (-25), 3, 0, 2, 0, 0, []),
  (30, .ldc 42, 2, 0, 1000000, 1, 31, []),
  (32, .ireturn, 1, 0, 0, 0, 0, [])]
def tX2_servesAll : List zR := [(0, .aload_n 0, 1, 0, 0, 0, 0, []),
  (1, .getfield 12, 3, 0, 2, 0, 24, [(0, 0)]),
  (4, .aload_n 1, 1, 0, 0, 0, 0, []),
  (5, .invokevirtual 22, 3, 0, 42, 1, 26, [(1, 0)]),
  (8, .aload_n 0, 1, 0, 0, 0, 0, []),
  (9, .getfield 12, 3, 0, 2, 0, 24, [(0, 0)]),
  (12, .iload_n 2, 1, 0, 0, 0, 0, []),
  (13, .putfield 70, 3, 0, 3, 2, 39, [(1, 1)]),
  (16, .aload_n 0, 1, 0, 0, 0, 0, []),
  (17, .getfield 12, 3, 0, 2, 0, 24, [(0, 0)]),
  (20, .iload_n 3, 1, 0, 0, 0, 0, []),
  (21, .putfield 63, 3, 0, 3, 3, 37, [(2, 1)]),
  (24, .aload_n 0, 1, 0, 0, 0, 0, []),
  (25, .iload 4, 2, 0, 0, 0, 0, []),
  (27, .invokevirtual 26, 3, 0, 14, 1, 27, [(1, 0)]),
  (30, .aload_n 0, 1, 0, 0, 0, 0, []),
  (31, .getfield 12, 3, 0, 2, 0, 24, [(0, 0)]),
  (34, .invokevirtual 38, 3, 0, 49, 1, 30, [(0, 0)]),
  (37, .aload_n 0, 1, 0, 0, 0, 0, []),
  (38, .getfield 12, 3, 0, 2, 0, 24, [(0, 0)]),
  (41, .invokevirtual 73, 3, 0, 47, 1, 40, [(0, 0)]),
  (44, .if_icmp .ne 7, 3, 0, 51, 0, 0, []),
  (47, .iconst 1, 1, 0, 1, 0, 0, []),
  (48, .goto 4, 3, 0, 52, 0, 0, []),
  (51, .iconst 0, 1, 0, 0, 0, 0, []),
  (52, .ireturn, 1, 0, 0, 1, 0, [])]
def tX2_isLoad : List zR := [(0, .iload_n 1, 1, 0, 0, 0, 0, []),
  (1, .aload_n 0, 1, 0, 0, 0, 0, []),
  (2, .invokevirtual 38, 3, 0, 49, 1, 30, [(0, 0)]),
  (5, .iand, 1, 0, 0, 0, 0, []),
  (6, .ifCond .ne 30, 3, 0, 36, 0, 0, []),
  (9, .iload_n 1, 1, 0, 0, 0, 0, []),
  (10, .invokestatic 57, 3, 0, 221, 0, 36, [(1, 0)]),
  (13, .aload_n 0, 1, 0, 0, 0, 0, []),
  (14, .getfield 70, 3, 0, 3, 2, 39, [(1, 1)]),
  (17, .if_icmp .gt 19, 3, 0, 36, 0, 0, []),
  (20, .aload_n 0, 1, 0, 0, 0, 0, []),
  (21, .iload_n 1, 1, 0, 0, 0, 0, []),
  (22, .invokevirtual 76, 3, 0, 52, 1, 41, [(1, 0)]),
  (25, .aload_n 0, 1, 0, 0, 0, 0, []),
  (26, .getfield 63, 3, 0, 3, 3, 37, [(2, 1)]),
  (29, .if_icmp .gt 7, 3, 0, 36, 0, 0, []),
  (32, .iconst 1, 1, 0, 1, 0, 0, []),
  (33, .goto 4, 3, 0, 37, 0, 0, []),
  (36, .iconst 0, 1, 0, 0, 0, 0, []),
  (37, .ireturn, 1, 0, 0, 1, 0, [])]
def tX2_loads : List zR := [(0, .iconst 0, 1, 0, 0, 0, 0, []),
  (1, .istore_n 1, 1, 0, 0, 0, 0, []),
  (2, .iconst 0, 1, 0, 0, 0, 0, []),
  (3, .istore_n 2, 1, 0, 0, 0, 0, []),
  (4, .iload_n 2, 1, 1, 0, 0, 0, []),
  (5, .aload_n 0, 1, 0, 0, 0, 0, []),
  (6, .invokevirtual 73, 3, 0, 47, 1, 40, [(0, 0)]),
  (9, .if_icmp .gt 25, 3, 0, 34, 0, 0, []),
  (12, .iload_n 1, 1, 0, 0, 0, 0, []),
  (13, .aload_n 0, 1, 0, 0, 0, 0, []),
  (14, .iload_n 2, 1, 0, 0, 0, 0, []),
  (15, .invokestatic 79, 3, 0, 21, 0, 42, [(2, 0)]),
  (18, .ifCond .eq 7, 3, 0, 25, 0, 0, []),
  (21, .iconst 1, 1, 0, 1, 0, 0, []),
  (22, .goto 4, 3, 0, 26, 0, 0, []),
  (25, .iconst 0, 1, 0, 0, 0, 0, []),
  (26, .iadd, 1, 0, 0, 0, 0, []),
  (27, .istore_n 1, 1, 0, 0, 0, 0, []),
  (28, .iinc 2 1, 3, 0, 1, 0, 0, []),
  (31, .goto (-27), 3, 0, 4, 0, 0, []),
  (34, .iload_n 1, 1, 0, 0, 0, 0, []),
  (35, .ireturn, 1, 0, 0, 0, 0, [])]
def tX2_fullestLoad : List zR := [(0, .iconst 0, 1, 0, 0, 0, 0, []),
  (1, .istore_n 1, 1, 0, 0, 0, 0, []),
  (2, .iconst 1, 1, 0, 1, 0, 0, []),
  (3, .istore_n 2, 1, 0, 0, 0, 0, []),
  (4, .iload_n 2, 1, 1, 0, 0, 0, []),
  (5, .aload_n 0, 1, 0, 0, 0, 0, []),
  (6, .invokevirtual 73, 3, 0, 47, 1, 40, [(0, 0)]),
  (9, .if_icmp .gt 28, 3, 0, 37, 0, 0, []),
  (12, .aload_n 0, 1, 0, 0, 0, 0, []),
  (13, .iload_n 2, 1, 0, 0, 0, 0, []),
  (14, .invokestatic 79, 3, 0, 21, 0, 42, [(2, 0)]),
  (17, .ifCond .eq 14, 3, 0, 31, 0, 0, []),
  (20, .aload_n 0, 1, 0, 0, 0, 0, []),
  (21, .iload_n 2, 1, 0, 0, 0, 0, []),
  (22, .iload_n 1, 1, 0, 0, 0, 0, []),
  (23, .invokestatic 83, 3, 0, 24, 0, 43, [(3, 0)]),
  (26, .ifCond .eq 5, 3, 0, 31, 0, 0, []),
  (29, .iload_n 2, 1, 0, 0, 0, 0, []),
  (30, .istore_n 1, 1, 0, 0, 0, 0, []),
  (31, .iinc 2 1, 3, 0, 1, 0, 0, []),
  (34, .goto (-30), 3, 0, 4, 0, 0, []),
  (37, .iload_n 1, 1, 0, 0, 0, 0, []),
  (38, .ireturn, 1, 0, 0, 0, 0, [])]
def tX2_isFuller : List zR := [(0, .aload_n 0, 1, 0, 0, 0, 0, []),
  (1, .iload_n 1, 1, 0, 0, 0, 0, []),
  (2, .invokevirtual 76, 3, 0, 52, 1, 41, [(1, 0)]),
  (5, .aload_n 0, 1, 0, 0, 0, 0, []),
  (6, .iload_n 2, 1, 0, 0, 0, 0, []),
  (7, .invokevirtual 76, 3, 0, 52, 1, 41, [(1, 0)]),
  (10, .isub, 1, 0, 0, 0, 0, []),
  (11, .istore_n 3, 1, 0, 0, 0, 0, []),
  (12, .iload_n 3, 1, 0, 0, 0, 0, []),
  (13, .ifCond .gt 18, 3, 0, 31, 0, 0, []),
  (16, .iload_n 3, 1, 0, 0, 0, 0, []),
  (17, .ifCond .ne 18, 3, 0, 35, 0, 0, []),
  (20, .iload_n 1, 1, 0, 0, 0, 0, []),
  (21, .invokestatic 57, 3, 0, 221, 0, 36, [(1, 0)]),
  (24, .iload_n 2, 1, 0, 0, 0, 0, []),
  (25, .invokestatic 57, 3, 0, 221, 0, 36, [(1, 0)]),
  (28, .if_icmp .le 7, 3, 0, 35, 0, 0, []),
  (31, .iconst 1, 1, 0, 1, 0, 0, []),
  (32, .goto 4, 3, 0, 36, 0, 0, []),
  (35, .iconst 0, 1, 0, 0, 0, 0, []),
  (36, .ireturn, 1, 0, 0, 1, 0, [])]
def tX2_shareOf : List zR := [(0, .aload_n 0, 1, 0, 0, 0, 0, []),
  (1, .invokevirtual 73, 3, 0, 47, 1, 40, [(0, 0)]),
  (4, .aload_n 0, 1, 0, 0, 0, 0, []),
  (5, .invokevirtual 38, 3, 0, 49, 1, 30, [(0, 0)]),
  (8, .iconst (-1), 1, 0, 1, 1, 0, []),
  (9, .ixor, 1, 0, 0, 0, 0, []),
  (10, .iand, 1, 0, 0, 0, 0, []),
  (11, .istore_n 3, 1, 0, 0, 0, 0, []),
  (12, .aload_n 0, 1, 0, 0, 0, 0, []),
  (13, .iload_n 3, 1, 0, 0, 0, 0, []),
  (14, .invokevirtual 87, 3, 0, 53, 1, 44, [(1, 0)]),
  (17, .istore 4, 2, 0, 0, 0, 0, []),
  (19, .iload 4, 2, 0, 0, 0, 0, []),
  (21, .ifCond .eq 20, 3, 0, 41, 0, 0, []),
  (24, .iload_n 3, 1, 0, 0, 0, 0, []),
  (25, .iload_n 1, 1, 0, 0, 0, 0, []),
  (26, .ishr, 1, 0, 0, 0, 0, []),
  (27, .iconst 1, 1, 0, 1, 0, 0, []),
  (28, .iand, 1, 0, 0, 0, 0, []),
  (29, .ifCond .eq 12, 3, 0, 41, 0, 0, []),
  (32, .aload_n 0, 1, 0, 0, 0, 0, []),
  (33, .getfield 90, 3, 0, 3, 44, 45, [(11, 0)]),
  (36, .iload_n 1, 1, 0, 0, 0, 0, []),
  (37, .iaload, 1, 0, 0, 0, 0, []),
  (38, .ifCond .ne 5, 3, 0, 43, 0, 0, []),
  (41, .iconst 0, 1, 0, 0, 0, 0, []),
  (42, .ireturn, 1, 0, 0, 0, 0, []),
  (43, .iload_n 2, 1, 0, 0, 0, 0, []),
  (44, .istore 5, 2, 0, 0, 0, 0, []),
  (46, .iconst 0, 1, 0, 0, 0, 0, []),
  (47, .istore 6, 2, 0, 0, 0, 0, []),
  (49, .iconst 0, 1, 0, 0, 0, 0, []),
  (50, .istore 7, 2, 0, 0, 0, 0, []),
  (52, .iload 7, 2, 1, 0, 0, 0, []),
  (54, .aload_n 0, 1, 0, 0, 0, 0, []),
  (55, .getfield 93, 3, 0, 3, 0, 46, [(6, 1)]),
  (58, .if_icmp .ge 61, 3, 0, 119, 0, 0, []),
  (61, .iload_n 3, 1, 0, 0, 0, 0, []),
  (62, .iload 7, 2, 0, 0, 0, 0, []),
  (64, .ishr, 1, 0, 0, 0, 0, []),
  (65, .iconst 1, 1, 0, 1, 0, 0, []),
  (66, .iand, 1, 0, 0, 0, 0, []),
  (67, .ifCond .eq 46, 3, 0, 113, 0, 0, []),
  (70, .aload_n 0, 1, 0, 0, 0, 0, []),
  (71, .getfield 90, 3, 0, 3, 44, 45, [(11, 0)]),
  (74, .iload 7, 2, 0, 0, 0, 0, []),
  (76, .iaload, 1, 0, 0, 0, 0, []),
  (77, .ifCond .le 36, 3, 0, 113, 0, 0, []),
  (80, .iload 5, 2, 0, 0, 0, 0, []),
  (82, .iload_n 2, 1, 0, 0, 0, 0, []),
  (83, .aload_n 0, 1, 0, 0, 0, 0, []),
  (84, .getfield 90, 3, 0, 3, 44, 45, [(11, 0)]),
  (87, .iload 7, 2, 0, 0, 0, 0, []),
  (89, .iaload, 1, 0, 0, 0, 0, []),
  (90, .imul, 1, 0, 0, 0, 0, []),
  (91, .iload 4, 2, 0, 0, 0, 0, []),
  (93, .idiv, 1, 0, 0, 0, 0, []),
  (94, .isub, 1, 0, 0, 0, 0, []),
  (95, .istore 5, 2, 0, 0, 0, 0, []),
  (97, .iload 6, 2, 0, 0, 0, 0, []),
  (99, .iload 7, 2, 0, 0, 0, 0, []),
  (101, .iload_n 1, 1, 0, 0, 0, 0, []),
  (102, .if_icmp .ge 7, 3, 0, 109, 0, 0, []),
  (105, .iconst 1, 1, 0, 1, 0, 0, []),
  (106, .goto 4, 3, 0, 110, 0, 0, []),
  (109, .iconst 0, 1, 0, 0, 0, 0, []),
  (110, .iadd, 1, 0, 0, 0, 0, []),
  (111, .istore 6, 2, 0, 0, 0, 0, []),
  (113, .iinc 7 1, 3, 0, 1, 0, 0, []),
  (116, .goto (-64), 3, 0, 52, 0, 0, []),
  (119, .iload_n 2, 1, 0, 0, 0, 0, []),
  (120, .aload_n 0, 1, 0, 0, 0, 0, []),
  (121, .getfield 90, 3, 0, 3, 44, 45, [(11, 0)]),
  (124, .iload_n 1, 1, 0, 0, 0, 0, []),
  (125, .iaload, 1, 0, 0, 0, 0, []),
  (126, .imul, 1, 0, 0, 0, 0, []),
  (127, .iload 4, 2, 0, 0, 0, 0, []),
  (129, .idiv, 1, 0, 0, 0, 0, []),
  (130, .iload 6, 2, 0, 0, 0, 0, []),
  (132, .iload 5, 2, 0, 0, 0, 0, []),
  (134, .if_icmp .ge 7, 3, 0, 141, 0, 0, []),
  (137, .iconst 1, 1, 0, 1, 0, 0, []),
  (138, .goto 4, 3, 0, 142, 0, 0, []),
  (141, .iconst 0, 1, 0, 0, 0, 0, []),
  (142, .iadd, 1, 0, 0, 0, 0, []),
  (143, .ireturn, 1, 0, 0, 0, 0, [])]
def tX2_played : List zR := [(0, .aload_n 0, 1, 0, 0, 0, 0, []),
  (1, .aload_n 1, 1, 0, 0, 0, 0, []),
  (2, .aload_n 1, 1, 0, 0, 0, 0, []),
  (3, .getfield 51, 3, 0, 3, 4, 34, [(4, 1)]),
  (6, .iconst 0, 1, 0, 0, 0, 0, []),
  (7, .iload_n 2, 1, 0, 0, 0, 0, []),
  (8, .iload_n 3, 1, 0, 0, 0, 0, []),
  (9, .invokevirtual 96, 3, 0, 27, 1, 47, [(5, 0)]),
  (12, .ireturn, 1, 0, 0, 0, 0, [])]
def tX2_playedFrom : List zR := [(0, .iload_n 3, 1, 0, 0, 0, 0, []),
  (1, .iload 4, 2, 0, 0, 0, 0, []),
  (3, .if_icmp .ge 8, 3, 0, 11, 0, 0, []),
  (6, .iload_n 3, 1, 0, 0, 0, 0, []),
  (7, .iconst 4, 1, 0, 4, 0, 0, []),
  (8, .if_icmp .lt 12, 3, 0, 20, 0, 0, []),
  (11, .aload_n 0, 1, 0, 0, 0, 0, []),
  (12, .aload_n 1, 1, 0, 0, 0, 0, []),
  (13, .iload_n 2, 1, 0, 0, 0, 0, []),
  (14, .iload 5, 2, 0, 0, 0, 0, []),
  (16, .invokevirtual 100, 3, 0, 28, 1, 48, [(3, 0)]),
  (19, .ireturn, 1, 0, 0, 0, 0, []),
  (20, .iload_n 3, 1, 0, 0, 0, 0, []),
  (21, .iconst 2, 1, 0, 2, 0, 0, []),
  (22, .irem, 1, 0, 0, 0, 0, []),
  (23, .ifCond .ne 7, 3, 0, 30, 0, 0, []),
  (26, .iconst 1, 1, 0, 1, 0, 0, []),
  (27, .goto 4, 3, 0, 31, 0, 0, []),
  (30, .iconst 0, 1, 0, 0, 0, 0, []),
  (31, .istore 6, 2, 0, 0, 0, 0, []),
  (33, .aload_n 0, 1, 0, 0, 0, 0, []),
  (34, .aload_n 1, 1, 0, 0, 0, 0, []),
  (35, .iload_n 2, 1, 0, 0, 0, 0, []),
  (36, .iload_n 3, 1, 0, 0, 0, 0, []),
  (37, .iconst 1, 1, 0, 1, 0, 0, []),
  (38, .iadd, 1, 0, 0, 0, 0, []),
  (39, .iload 4, 2, 0, 0, 0, 0, []),
  (41, .iload 5, 2, 0, 0, 0, 0, []),
  (43, .invokevirtual 96, 3, 0, 27, 1, 47, [(5, 0)]),
  (46, .istore 7, 2, 0, 0, 0, 0, []),
  (48, .iload 6, 2, 0, 0, 0, 0, []),
  (50, .ifCond .eq 9, 3, 0, 59, 0, 0, []),
  (53, .iload_n 2, 1, 0, 0, 0, 0, []),
  (54, .iconst 1, 1, 0, 1, 0, 0, []),
  (55, .isub, 1, 0, 0, 0, 0, []),
  (56, .goto 6, 3, 0, 62, 0, 0, []),
  (59, .iload_n 2, 1, 0, 0, 0, 0, []),
  (60, .iconst 1, 1, 0, 1, 0, 0, []),
  (61, .iadd, 1, 0, 0, 0, 0, []),
  (62, .istore 8, 2, 0, 0, 0, 0, []),
  (64, .aload_n 1, 1, 0, 0, 0, 0, []),
  (65, .iload 8, 2, 0, 0, 0, 0, []),
  (67, .invokevirtual 103, 3, 0, 46, 1, 49, [(1, 0)]),
  (70, .ifCond .ne 6, 3, 0, 76, 0, 0, []),
  (73, .iload 7, 2, 0, 0, 0, 0, []),
  (75, .ireturn, 1, 0, 0, 0, 0, []),
  (76, .aload_n 0, 1, 0, 0, 0, 0, []),
  (77, .aload_n 1, 1, 0, 0, 0, 0, []),
  (78, .iload 8, 2, 0, 0, 0, 0, []),
  (80, .iload_n 3, 1, 0, 0, 0, 0, []),
  (81, .iconst 1, 1, 0, 1, 0, 0, []),
  (82, .iadd, 1, 0, 0, 0, 0, []),
  (83, .iload 4, 2, 0, 0, 0, 0, []),
  (85, .iload 5, 2, 0, 0, 0, 0, []),
  (87, .invokevirtual 96, 3, 0, 27, 1, 47, [(5, 0)]),
  (90, .istore 9, 2, 0, 0, 0, 0, []),
  (92, .iload 6, 2, 0, 0, 0, 0, []),
  (94, .ifCond .eq 13, 3, 0, 107, 0, 0, []),
  (97, .iload 7, 2, 0, 0, 0, 0, []),
  (99, .iload 9, 2, 0, 0, 0, 0, []),
  (101, .invokestatic 107, 3, 0, 222, 6, 50, []),
  (104, .goto 10, 3, 0, 114, 0, 0, []),
  (107, .iload 7, 2, 0, 0, 0, 0, []),
  (109, .iload 9, 2, 0, 0, 0, 0, []),
  (111, .invokestatic 113, 3, 0, 223, 7, 51, []),
  (114, .ireturn, 1, 0, 0, 0, 0, [])]
def tX2_heatServedFrom : List zR := [(0, .aload_n 0, 1, 0, 0, 0, 0, []),
  (1, .getfield 12, 3, 0, 2, 0, 24, [(0, 0)]),
  (4, .aload_n 1, 1, 0, 0, 0, 0, []),
  (5, .invokevirtual 22, 3, 0, 42, 1, 26, [(1, 0)]),
  (8, .aload_n 0, 1, 0, 0, 0, 0, []),
  (9, .getfield 12, 3, 0, 2, 0, 24, [(0, 0)]),
  (12, .iload_n 2, 1, 0, 0, 0, 0, []),
  (13, .putfield 51, 3, 0, 3, 4, 34, [(4, 1)]),
  (16, .aload_n 0, 1, 0, 0, 0, 0, []),
  (17, .iload_n 3, 1, 0, 0, 0, 0, []),
  (18, .invokevirtual 26, 3, 0, 14, 1, 27, [(1, 0)]),
  (21, .aload_n 0, 1, 0, 0, 0, 0, []),
  (22, .getfield 12, 3, 0, 2, 0, 24, [(0, 0)]),
  (25, .aload_n 0, 1, 0, 0, 0, 0, []),
  (26, .getfield 12, 3, 0, 2, 0, 24, [(0, 0)]),
  (29, .invokevirtual 38, 3, 0, 49, 1, 30, [(0, 0)]),
  (32, .invokevirtual 87, 3, 0, 53, 1, 44, [(1, 0)]),
  (35, .ireturn, 1, 0, 0, 0, 0, [])]
def tX2_allThatFits : List zR := [(0, .iload_n 3, 1, 0, 0, 0, 0, []),
  (1, .iconst 2, 1, 0, 2, 0, 0, []),
  (2, .if_icmp .ge 7, 3, 0, 9, 0, 0, []),
  (5, .iload_n 3, 1, 0, 0, 0, 0, []),
  (6, .goto 8, 3, 0, 14, 0, 0, []),
  (9, .iload_n 3, 1, 0, 0, 0, 0, []),
  (10, .iconst 2, 1, 0, 2, 0, 0, []),
  (11, .idiv, 1, 0, 0, 0, 0, []),
  (12, .iconst 1, 1, 0, 1, 0, 0, []),
  (13, .iadd, 1, 0, 0, 0, 0, []),
  (14, .istore 7, 2, 0, 0, 0, 0, []),
  (16, .iconst 0, 1, 0, 0, 0, 0, []),
  (17, .istore 8, 2, 0, 0, 0, 0, []),
  (19, .iconst 0, 1, 0, 0, 0, 0, []),
  (20, .istore 9, 2, 0, 0, 0, 0, []),
  (22, .ldc 42, 2, 0, 1000000, 1, 31, []),
  (24, .istore 10, 2, 0, 0, 0, 0, []),
  (26, .aload_n 1, 1, 0, 0, 0, 0, []),
  (27, .iload 7, 2, 0, 0, 0, 0, []),
  (29, .invokestatic 116, 3, 0, 30, 0, 52, [(2, 0)]),
  (32, .istore 11, 2, 0, 0, 0, 0, []),
  (34, .iload 7, 2, 0, 0, 0, 0, []),
  (36, .ifCond .eq 9, 3, 0, 45, 0, 0, []),
  (39, .iload 7, 2, 0, 0, 0, 0, []),
  (41, .iconst 3, 1, 0, 3, 0, 0, []),
  (42, .if_icmp .ne 7, 3, 0, 49, 0, 0, []),
  (45, .iconst 1, 1, 0, 1, 0, 0, []),
  (46, .goto 4, 3, 0, 50, 0, 0, []),
  (49, .iconst 0, 1, 0, 0, 0, 0, []),
  (50, .istore 12, 2, 0, 0, 0, 0, []),
  (52, .iload 12, 2, 1, 0, 0, 0, []),
  (54, .iload 11, 2, 0, 0, 0, 0, []),
  (56, .if_icmp .gt 74, 3, 0, 130, 0, 0, []),
  (59, .aload_n 0, 1, 0, 0, 0, 0, []),
  (60, .aload_n 1, 1, 0, 0, 0, 0, []),
  (61, .iload 7, 2, 0, 0, 0, 0, []),
  (63, .iload_n 2, 1, 0, 0, 0, 0, []),
  (64, .iload 12, 2, 0, 0, 0, 0, []),
  (66, .invokevirtual 120, 3, 0, 31, 1, 53, [(4, 0)]),
  (69, .aload_n 0, 1, 0, 0, 0, 0, []),
  (70, .iload_n 2, 1, 0, 0, 0, 0, []),
  (71, .aload 4, 2, 0, 0, 0, 0, []),
  (73, .iload 5, 2, 0, 0, 0, 0, []),
  (75, .iload 6, 2, 0, 0, 0, 0, []),
  (77, .invokevirtual 124, 3, 0, 32, 1, 54, [(4, 0)]),
  (80, .ifCond .eq 44, 3, 0, 124, 0, 0, []),
  (83, .iload 8, 2, 0, 0, 0, 0, []),
  (85, .iload 7, 2, 0, 0, 0, 0, []),
  (87, .ifCond .eq 9, 3, 0, 96, 0, 0, []),
  (90, .iload 7, 2, 0, 0, 0, 0, []),
  (92, .iconst 1, 1, 0, 1, 0, 0, []),
  (93, .if_icmp .ne 10, 3, 0, 103, 0, 0, []),
  (96, .iconst 1, 1, 0, 1, 0, 0, []),
  (97, .iload 12, 2, 0, 0, 0, 0, []),
  (99, .ishl, 1, 0, 0, 0, 0, []),
  (100, .goto 4, 3, 0, 104, 0, 0, []),
  (103, .iconst 0, 1, 0, 0, 0, 0, []),
  (104, .ior, 1, 0, 0, 0, 0, []),
  (105, .istore 8, 2, 0, 0, 0, 0, []),
  (107, .iload 9, 2, 0, 0, 0, 0, []),
  (109, .ifCond .ne 8, 3, 0, 117, 0, 0, []),
  (112, .iload 12, 2, 0, 0, 0, 0, []),
  (114, .goto 5, 3, 0, 119, 0, 0, []),
  (117, .iload 10, 2, 0, 0, 0, 0, []),
  (119, .istore 10, 2, 0, 0, 0, 0, []),
  (121, .iinc 9 1, 3, 0, 1, 0, 0, []),
  (124, .iinc 12 1, 3, 0, 1, 0, 0, []),
  (127, .goto (-75), 3, 0, 52, 0, 0, []),
  (130, .iload_n 3, 1, 0, 0, 0, 0, []),
  (131, .iconst 2, 1, 0, 2, 0, 0, []),
  (132, .if_icmp .ge 6, 3, 0, 138, 0, 0, []),
  (135, .iload 8, 2, 0, 0, 0, 0, []),
  (137, .ireturn, 1, 0, 0, 0, 0, []),
  (138, .iload_n 3, 1, 0, 0, 0, 0, []),
  (139, .iconst 2, 1, 0, 2, 0, 0, []),
  (140, .irem, 1, 0, 0, 0, 0, []),
  (141, .ifCond .ne 8, 3, 0, 149, 0, 0, []),
  (144, .iload 9, 2, 0, 0, 0, 0, []),
  (146, .goto 5, 3, 0, 151, 0, 0, []),
  (149, .iload 10, 2, 0, 0, 0, 0, []),
  (151, .ireturn, 1, 0, 0, 0, 0, [])]
def tX2_lastOf : List zR := [(0, .iload_n 1, 1, 0, 0, 0, 0, []),
  (1, .tableswitch 39 0 2 #[27, 29, 36], 27, 0, 40, 0, 0, [(0, 28), (1, 30), (2, 37)]),
  (28, .iconst 5, 1, 0, 5, 0, 0, []),
  (29, .ireturn, 1, 0, 0, 0, 0, []),
  (30, .aload_n 0, 1, 0, 0, 0, 0, []),
  (31, .getfield 43, 3, 0, 3, 1, 32, [(0, 1)]),
  (34, .iconst 1, 1, 0, 1, 0, 0, []),
  (35, .isub, 1, 0, 0, 0, 0, []),
  (36, .ireturn, 1, 0, 0, 0, 0, []),
  (37, .bipush 60, 2, 0, 60, 0, 0, []),
  (39, .ireturn, 1, 0, 0, 0, 0, []),
  (40, .bipush 40, 2, 0, 40, 0, 0, []),
  (42, .ireturn, 1, 0, 0, 0, 0, [])]
def tX2_suppose : List zR := [(0, .aload_n 0, 1, 0, 0, 0, 0, []),
  (1, .getfield 12, 3, 0, 2, 0, 24, [(0, 0)]),
  (4, .aload_n 1, 1, 0, 0, 0, 0, []),
  (5, .invokevirtual 22, 3, 0, 42, 1, 26, [(1, 0)]),
  (8, .iload_n 2, 1, 0, 0, 0, 0, []),
  (9, .tableswitch 67 0 2 #[27, 41, 53], 27, 0, 76, 0, 0, [(0, 36), (1, 50), (2, 62)]),
  (36, .aload_n 0, 1, 0, 0, 0, 0, []),
  (37, .getfield 12, 3, 0, 2, 0, 24, [(0, 0)]),
  (40, .getfield 130, 3, 0, 3, 40, 55, [(7, 0)]),
  (43, .iload_n 3, 1, 0, 0, 0, 0, []),
  (44, .iload 4, 2, 0, 0, 0, 0, []),
  (46, .iastore, 1, 0, 0, 0, 0, []),
  (47, .goto 38, 3, 0, 85, 0, 0, []),
  (50, .aload_n 0, 1, 0, 0, 0, 0, []),
  (51, .getfield 12, 3, 0, 2, 0, 24, [(0, 0)]),
  (54, .iload 4, 2, 0, 0, 0, 0, []),
  (56, .putfield 51, 3, 0, 3, 4, 34, [(4, 1)]),
  (59, .goto 26, 3, 0, 85, 0, 0, []),
  (62, .aload_n 0, 1, 0, 0, 0, 0, []),
  (63, .getfield 12, 3, 0, 2, 0, 24, [(0, 0)]),
  (66, .getfield 90, 3, 0, 3, 44, 45, [(11, 0)]),
  (69, .iload_n 3, 1, 0, 0, 0, 0, []),
  (70, .iload 4, 2, 0, 0, 0, 0, []),
  (72, .iastore, 1, 0, 0, 0, 0, []),
  (73, .goto 12, 3, 0, 85, 0, 0, []),
  (76, .aload_n 0, 1, 0, 0, 0, 0, []),
  (77, .getfield 12, 3, 0, 2, 0, 24, [(0, 0)]),
  (80, .iload 4, 2, 0, 0, 0, 0, []),
  (82, .putfield 63, 3, 0, 3, 3, 37, [(2, 1)]),
  (85, .return_, 1, 0, 0, 0, 0, [])]
def tX2_isTold : List zR := [(0, .iconst 0, 1, 0, 0, 0, 0, []),
  (1, .istore 5, 2, 0, 0, 0, 0, []),
  (3, .iload 5, 2, 1, 0, 0, 0, []),
  (5, .iload 4, 2, 0, 0, 0, 0, []),
  (7, .if_icmp .ge 49, 3, 0, 56, 0, 0, []),
  (10, .iload_n 3, 1, 0, 0, 0, 0, []),
  (11, .iload 5, 2, 0, 0, 0, 0, []),
  (13, .iadd, 1, 0, 0, 0, 0, []),
  (14, .aload_n 2, 1, 0, 0, 0, 0, []),
  (15, .arraylength, 1, 0, 0, 0, 0, []),
  (16, .if_icmp .ge 40, 3, 0, 56, 0, 0, []),
  (19, .aload_n 0, 1, 0, 0, 0, 0, []),
  (20, .getfield 12, 3, 0, 2, 0, 24, [(0, 0)]),
  (23, .getstatic 30, 3, 0, 4000, 0, 28, []),
  (26, .iconst 0, 1, 0, 0, 0, 0, []),
  (27, .invokevirtual 34, 3, 0, 55, 1, 29, [(2, 0)]),
  (30, .aload_n 0, 1, 0, 0, 0, 0, []),
  (31, .getfield 12, 3, 0, 2, 0, 24, [(0, 0)]),
  (34, .getfield 90, 3, 0, 3, 44, 45, [(11, 0)]),
  (37, .iload_n 1, 1, 0, 0, 0, 0, []),
  (38, .iaload, 1, 0, 0, 0, 0, []),
  (39, .aload_n 2, 1, 0, 0, 0, 0, []),
  (40, .iload_n 3, 1, 0, 0, 0, 0, []),
  (41, .iload 5, 2, 0, 0, 0, 0, []),
  (43, .iadd, 1, 0, 0, 0, 0, []),
  (44, .iaload, 1, 0, 0, 0, 0, []),
  (45, .if_icmp .eq 5, 3, 0, 50, 0, 0, []),
  (48, .iconst 0, 1, 0, 0, 0, 0, []),
  (49, .ireturn, 1, 0, 0, 1, 0, []),
  (50, .iinc 5 1, 3, 0, 1, 0, 0, []),
  (53, .goto (-50), 3, 0, 3, 0, 0, []),
  (56, .iconst 1, 1, 0, 1, 0, 0, []),
  (57, .ireturn, 1, 0, 0, 1, 0, [])]
def tX2_casesInAll : List zR := [(0, .lconst 1, 1, 0, 1, 0, 0, []),
  (1, .lstore_n 1, 1, 0, 0, 0, 0, []),
  (2, .iconst 0, 1, 0, 0, 0, 0, []),
  (3, .istore_n 3, 1, 0, 0, 0, 0, []),
  (4, .iload_n 3, 1, 1, 0, 0, 0, []),
  (5, .iload_n 0, 1, 0, 0, 0, 0, []),
  (6, .if_icmp .ge 15, 3, 0, 21, 0, 0, []),
  (9, .lload_n 1, 1, 0, 0, 0, 0, []),
  (10, .ldc2_w 133, 3, 0, 10, 0, 56, []),
  (13, .lmul, 1, 0, 0, 0, 0, []),
  (14, .lstore_n 1, 1, 0, 0, 0, 0, []),
  (15, .iinc 3 1, 3, 0, 1, 0, 0, []),
  (18, .goto (-14), 3, 0, 4, 0, 0, []),
  (21, .lload_n 1, 1, 0, 0, 0, 0, []),
  (22, .lreturn, 1, 0, 0, 0, 0, [])]
def tX2_commonDivisor : List zR := [(0, .lload_n 0, 1, 0, 0, 0, 0, []),
  (1, .lstore 4, 2, 0, 0, 0, 0, []),
  (3, .lload_n 2, 1, 0, 0, 0, 0, []),
  (4, .lstore 6, 2, 0, 0, 0, 0, []),
  (6, .iconst 0, 1, 0, 0, 0, 0, []),
  (7, .istore 8, 2, 0, 0, 0, 0, []),
  (9, .iload 8, 2, 1, 0, 0, 0, []),
  (11, .bipush 100, 2, 0, 100, 0, 0, []),
  (13, .if_icmp .ge 31, 3, 0, 44, 0, 0, []),
  (16, .lload 4, 2, 0, 0, 0, 0, []),
  (18, .lconst 0, 1, 0, 0, 0, 0, []),
  (19, .lcmp, 1, 0, 0, 0, 0, []),
  (20, .ifCond .eq 24, 3, 0, 44, 0, 0, []),
  (23, .lload 6, 2, 0, 0, 0, 0, []),
  (25, .lload 4, 2, 0, 0, 0, 0, []),
  (27, .lrem, 1, 0, 0, 0, 0, []),
  (28, .lstore 9, 2, 0, 0, 0, 0, []),
  (30, .lload 4, 2, 0, 0, 0, 0, []),
  (32, .lstore 6, 2, 0, 0, 0, 0, []),
  (34, .lload 9, 2, 0, 0, 0, 0, []),
  (36, .lstore 4, 2, 0, 0, 0, 0, []),
  (38, .iinc 8 1, 3, 0, 1, 0, 0, []),
  (41, .goto (-32), 3, 0, 9, 0, 0, []),
  (44, .lload 6, 2, 0, 0, 0, 0, []),
  (46, .lreturn, 1, 0, 0, 0, 0, [])]
def tX2_casesServed : List zR := [(0, .aload_n 0, 1, 0, 0, 0, 0, []),
  (1, .iconst 0, 1, 0, 0, 0, 0, []),
  (2, .invokevirtual 135, 3, 0, 38, 1, 57, [(1, 1)]),
  (5, .aload_n 1, 1, 0, 0, 0, 0, []),
  (6, .invokevirtual 22, 3, 0, 42, 1, 26, [(1, 0)]),
  (9, .aload_n 0, 1, 0, 0, 0, 0, []),
  (10, .iconst 0, 1, 0, 0, 0, 0, []),
  (11, .iload_n 2, 1, 0, 0, 0, 0, []),
  (12, .iload_n 3, 1, 0, 0, 0, 0, []),
  (13, .iload 4, 2, 0, 0, 0, 0, []),
  (15, .invokevirtual 139, 3, 0, 36, 1, 58, [(4, 1)]),
  (18, .lreturn, 1, 0, 0, 0, 0, [])]
def tX2_casesFrom : List zR := [(0, .aload_n 0, 1, 0, 0, 0, 0, []),
  (1, .iload_n 1, 1, 0, 0, 0, 0, []),
  (2, .invokevirtual 135, 3, 0, 38, 1, 57, [(1, 1)]),
  (5, .astore 5, 2, 0, 0, 0, 0, []),
  (7, .aload 5, 2, 0, 0, 0, 0, []),
  (9, .getfield 143, 3, 0, 3, 41, 59, [(8, 0)]),
  (12, .iload_n 2, 1, 0, 0, 0, 0, []),
  (13, .iaload, 1, 0, 0, 0, 0, []),
  (14, .bipush 11, 2, 0, 11, 0, 0, []),
  (16, .if_icmp .ne 10, 3, 0, 26, 0, 0, []),
  (19, .iload_n 3, 1, 0, 0, 0, 0, []),
  (20, .iload_n 1, 1, 0, 0, 0, 0, []),
  (21, .isub, 1, 0, 0, 0, 0, []),
  (22, .invokestatic 146, 3, 0, 33, 0, 60, [(1, 0)]),
  (25, .lreturn, 1, 0, 0, 0, 0, []),
  (26, .iload_n 1, 1, 0, 0, 0, 0, []),
  (27, .iload_n 3, 1, 0, 0, 0, 0, []),
  (28, .if_icmp .ge 9, 3, 0, 37, 0, 0, []),
  (31, .iload_n 1, 1, 0, 0, 0, 0, []),
  (32, .bipush 8, 2, 0, 8, 0, 0, []),
  (34, .if_icmp .lt 5, 3, 0, 39, 0, 0, []),
  (37, .lconst 0, 1, 0, 0, 0, 0, []),
  (38, .lreturn, 1, 0, 0, 0, 0, []),
  (39, .aload_n 0, 1, 0, 0, 0, 0, []),
  (40, .iload_n 1, 1, 0, 0, 0, 0, []),
  (41, .iload_n 2, 1, 0, 0, 0, 0, []),
  (42, .iload_n 3, 1, 0, 0, 0, 0, []),
  (43, .iload 4, 2, 0, 0, 0, 0, []),
  (45, .iconst 1, 1, 0, 1, 0, 0, []),
  (46, .invokevirtual 150, 3, 0, 37, 1, 61, [(5, 1)]),
  (49, .aload_n 0, 1, 0, 0, 0, 0, []),
  (50, .iload_n 1, 1, 0, 0, 0, 0, []),
  (51, .iload_n 2, 1, 0, 0, 0, 0, []),
  (52, .iload_n 3, 1, 0, 0, 0, 0, []),
  (53, .iload 4, 2, 0, 0, 0, 0, []),
  (55, .iconst 0, 1, 0, 0, 0, 0, []),
  (56, .invokevirtual 150, 3, 0, 37, 1, 61, [(5, 1)]),
  (59, .ladd, 1, 0, 0, 0, 0, []),
  (60, .lreturn, 1, 0, 0, 0, 0, [])]
def tX2_branch : List zR := [(0, .iload 5, 2, 0, 0, 0, 0, []),
  (2, .ifCond .eq 8, 3, 0, 10, 0, 0, []),
  (5, .iload 4, 2, 0, 0, 0, 0, []),
  (7, .goto 8, 3, 0, 15, 0, 0, []),
  (10, .bipush 10, 2, 0, 10, 0, 0, []),
  (12, .iload 4, 2, 0, 0, 0, 0, []),
  (14, .isub, 1, 0, 0, 0, 0, []),
  (15, .istore 6, 2, 0, 0, 0, 0, []),
  (17, .iload 6, 2, 0, 0, 0, 0, []),
  (19, .ifCond .ne 5, 3, 0, 24, 0, 0, []),
  (22, .lconst 0, 1, 0, 0, 0, 0, []),
  (23, .lreturn, 1, 0, 0, 0, 0, []),
  (24, .aload_n 0, 1, 0, 0, 0, 0, []),
  (25, .iload_n 1, 1, 0, 0, 0, 0, []),
  (26, .iconst 1, 1, 0, 1, 0, 0, []),
  (27, .iadd, 1, 0, 0, 0, 0, []),
  (28, .invokevirtual 135, 3, 0, 38, 1, 57, [(1, 1)]),
  (31, .astore 7, 2, 0, 0, 0, 0, []),
  (33, .aload 7, 2, 0, 0, 0, 0, []),
  (35, .aload_n 0, 1, 0, 0, 0, 0, []),
  (36, .iload_n 1, 1, 0, 0, 0, 0, []),
  (37, .invokevirtual 135, 3, 0, 38, 1, 57, [(1, 1)]),
  (40, .invokevirtual 22, 3, 0, 42, 1, 26, [(1, 0)]),
  (43, .aload 7, 2, 0, 0, 0, 0, []),
  (45, .getstatic 30, 3, 0, 4000, 0, 28, []),
  (48, .iload 5, 2, 0, 0, 0, 0, []),
  (50, .invokevirtual 34, 3, 0, 55, 1, 29, [(2, 0)]),
  (53, .iload 6, 2, 0, 0, 0, 0, []),
  (55, .i2l, 1, 0, 0, 0, 0, []),
  (56, .aload_n 0, 1, 0, 0, 0, 0, []),
  (57, .iload_n 1, 1, 0, 0, 0, 0, []),
  (58, .iconst 1, 1, 0, 1, 0, 0, []),
  (59, .iadd, 1, 0, 0, 0, 0, []),
  (60, .iload_n 2, 1, 0, 0, 0, 0, []),
  (61, .iload_n 3, 1, 0, 0, 0, 0, []),
  (62, .iload 4, 2, 0, 0, 0, 0, []),
  (64, .invokevirtual 139, 3, 0, 36, 1, 58, [(4, 1)]),
  (67, .lmul, 1, 0, 0, 0, 0, []),
  (68, .lreturn, 1, 0, 0, 0, 0, [])]
def tX2_lineAt : List zR := [(0, .aload_n 0, 1, 0, 0, 0, 0, []),
  (1, .getfield 18, 3, 0, 2, 1, 25, [(1, 0)]),
  (4, .iload_n 1, 1, 0, 0, 0, 0, []),
  (5, .aaload, 1, 0, 0, 0, 0, []),
  (6, .ifnonnull 16, 3, 0, 22, 0, 0, []),
  (9, .aload_n 0, 1, 0, 0, 0, 0, []),
  (10, .getfield 18, 3, 0, 2, 1, 25, [(1, 0)]),
  (13, .iload_n 1, 1, 0, 0, 0, 0, []),
  (14, .new 9, 3, 0, 3, 0, 22, []),
  (17, .dup, 1, 0, 0, 0, 0, []),
  (18, .invokespecial 11, 3, 0, 40, 3, 23, [(0, 1)]),
  (21, .aastore, 1, 0, 0, 0, 0, []),
  (22, .aload_n 0, 1, 0, 0, 0, 0, []),
  (23, .getfield 18, 3, 0, 2, 1, 25, [(1, 0)]),
  (26, .iload_n 1, 1, 0, 0, 0, 0, []),
  (27, .aaload, 1, 0, 0, 0, 0, []),
  (28, .areturn, 1, 0, 0, 0, 0, [])]
def tX2_draw : List zR := [(0, .aload_n 0, 1, 0, 0, 0, 0, []),
  (1, .getfield 12, 3, 0, 2, 0, 24, [(0, 0)]),
  (4, .aload_n 1, 1, 0, 0, 0, 0, []),
  (5, .invokevirtual 22, 3, 0, 42, 1, 26, [(1, 0)]),
  (8, .aload_n 0, 1, 0, 0, 0, 0, []),
  (9, .getfield 12, 3, 0, 2, 0, 24, [(0, 0)]),
  (12, .invokevirtual 154, 3, 0, 44, 1, 62, [(0, 0)]),
  (15, .ifCond .eq 14, 3, 0, 29, 0, 0, []),
  (18, .aload_n 0, 1, 0, 0, 0, 0, []),
  (19, .getfield 12, 3, 0, 2, 0, 24, [(0, 0)]),
  (22, .getfield 43, 3, 0, 3, 1, 32, [(0, 1)]),
  (25, .iconst 1, 1, 0, 1, 0, 0, []),
  (26, .if_icmp .ge 5, 3, 0, 31, 0, 0, []),
  (29, .iconst 0, 1, 0, 0, 0, 0, []),
  (30, .ireturn, 1, 0, 0, 0, 0, []),
  (31, .iload_n 3, 1, 0, 0, 0, 0, []),
  (32, .i2l, 1, 0, 0, 0, 0, []),
  (33, .lstore 4, 2, 0, 0, 0, 0, []),
  (35, .iconst 0, 1, 0, 0, 0, 0, []),
  (36, .istore 6, 2, 0, 0, 0, 0, []),
  (38, .iconst 0, 1, 0, 0, 0, 0, []),
  (39, .istore 7, 2, 0, 0, 0, 0, []),
  (41, .iload 7, 2, 1, 0, 0, 0, []),
  (43, .iload_n 2, 1, 0, 0, 0, 0, []),
  (44, .if_icmp .ge 145, 3, 0, 189, 0, 0, []),
  (47, .lload 4, 2, 0, 0, 0, 0, []),
  (49, .ldc2_w 158, 3, 0, 16807, 0, 63, []),
  (52, .lmul, 1, 0, 0, 0, 0, []),
  (53, .ldc2_w 160, 3, 0, 2147483647, 0, 64, []),
  (56, .lrem, 1, 0, 0, 0, 0, []),
  (57, .lstore 4, 2, 0, 0, 0, 0, []),
  (59, .lload 4, 2, 0, 0, 0, 0, []),
  (61, .aload_n 0, 1, 0, 0, 0, 0, []),
  (62, .getfield 12, 3, 0, 2, 0, 24, [(0, 0)]),
  (65, .getfield 93, 3, 0, 3, 0, 46, [(6, 1)]),
  (68, .i2l, 1, 0, 0, 0, 0, []),
  (69, .lrem, 1, 0, 0, 0, 0, []),
  (70, .l2i, 1, 0, 0, 0, 0, []),
  (71, .istore 8, 2, 0, 0, 0, 0, []),
  (73, .lload 4, 2, 0, 0, 0, 0, []),
  (75, .aload_n 0, 1, 0, 0, 0, 0, []),
  (76, .getfield 12, 3, 0, 2, 0, 24, [(0, 0)]),
  (79, .getfield 43, 3, 0, 3, 1, 32, [(0, 1)]),
  (82, .i2l, 1, 0, 0, 0, 0, []),
  (83, .lrem, 1, 0, 0, 0, 0, []),
  (84, .l2i, 1, 0, 0, 0, 0, []),
  (85, .istore 9, 2, 0, 0, 0, 0, []),
  (87, .aload_n 0, 1, 0, 0, 0, 0, []),
  (88, .getfield 12, 3, 0, 2, 0, 24, [(0, 0)]),
  (91, .getfield 143, 3, 0, 3, 41, 59, [(8, 0)]),
  (94, .iload 8, 2, 0, 0, 0, 0, []),
  (96, .iaload, 1, 0, 0, 0, 0, []),
  (97, .bipush 11, 2, 0, 11, 0, 0, []),
  (99, .if_icmp .ne 24, 3, 0, 123, 0, 0, []),
  (102, .aload_n 0, 1, 0, 0, 0, 0, []),
  (103, .getfield 12, 3, 0, 2, 0, 24, [(0, 0)]),
  (106, .iload 8, 2, 0, 0, 0, 0, []),
  (108, .iload 9, 2, 0, 0, 0, 0, []),
  (110, .lload 4, 2, 0, 0, 0, 0, []),
  (112, .ldc2_w 162, 3, 0, 61, 0, 65, []),
  (115, .lrem, 1, 0, 0, 0, 0, []),
  (116, .l2i, 1, 0, 0, 0, 0, []),
  (117, .invokevirtual 164, 3, 0, 54, 1, 66, [(3, 0)]),
  (120, .goto 23, 3, 0, 143, 0, 0, []),
  (123, .lload 4, 2, 0, 0, 0, 0, []),
  (125, .ldc2_w 168, 3, 0, 4, 0, 67, []),
  (128, .lrem, 1, 0, 0, 0, 0, []),
  (129, .lconst 0, 1, 0, 0, 0, 0, []),
  (130, .lcmp, 1, 0, 0, 0, 0, []),
  (131, .ifCond .ne 12, 3, 0, 143, 0, 0, []),
  (134, .aload_n 0, 1, 0, 0, 0, 0, []),
  (135, .getfield 12, 3, 0, 2, 0, 24, [(0, 0)]),
  (138, .iload 9, 2, 0, 0, 0, 0, []),
  (140, .putfield 51, 3, 0, 3, 4, 34, [(4, 1)]),
  (143, .aload_n 0, 1, 0, 0, 0, 0, []),
  (144, .getfield 12, 3, 0, 2, 0, 24, [(0, 0)]),
  (147, .invokevirtual 38, 3, 0, 49, 1, 30, [(0, 0)]),
  (150, .istore 10, 2, 0, 0, 0, 0, []),
  (152, .aload_n 0, 1, 0, 0, 0, 0, []),
  (153, .getfield 12, 3, 0, 2, 0, 24, [(0, 0)]),
  (156, .getstatic 30, 3, 0, 4000, 0, 28, []),
  (159, .iconst 0, 1, 0, 0, 0, 0, []),
  (160, .invokevirtual 34, 3, 0, 55, 1, 29, [(2, 0)]),
  (163, .iload 6, 2, 0, 0, 0, 0, []),
  (165, .aload_n 0, 1, 0, 0, 0, 0, []),
  (166, .getfield 12, 3, 0, 2, 0, 24, [(0, 0)]),
  (169, .invokevirtual 38, 3, 0, 49, 1, 30, [(0, 0)]),
  (172, .iload 10, 2, 0, 0, 0, 0, []),
  (174, .iconst (-1), 1, 0, 1, 1, 0, []),
  (175, .ixor, 1, 0, 0, 0, 0, []),
  (176, .iand, 1, 0, 0, 0, 0, []),
  (177, .invokestatic 57, 3, 0, 221, 0, 36, [(1, 0)]),
  (180, .iadd, 1, 0, 0, 0, 0, []),
  (181, .istore 6, 2, 0, 0, 0, 0, []),
  (183, .iinc 7 1, 3, 0, 1, 0, 0, []),
  (186, .goto (-145), 3, 0, 41, 0, 0, []),
  (189, .iload 6, 2, 0, 0, 0, 0, []),
  (191, .ireturn, 1, 0, 0, 0, 0, [])]
def tX3_init : List zR := [(0, .aload_n 0, 1, 0, 0, 0, 0, []),
  (1, .invokespecial 1, 3, 0, 0, 4, 68, []),
  (4, .aload_n 0, 1, 0, 0, 0, 0, []),
  (5, .bipush 6, 2, 0, 6, 0, 0, []),
  (7, .newarray .int, 2, 0, 0, 0, 0, []),
  (9, .putfield 9, 3, 0, 3, 40, 69, [(7, 0)]),
  (12, .aload_n 0, 1, 0, 0, 0, 0, []),
  (13, .bipush 6, 2, 0, 6, 0, 0, []),
  (15, .newarray .int, 2, 0, 0, 0, 0, []),
  (17, .putfield 13, 3, 0, 3, 41, 70, [(8, 0)]),
  (20, .aload_n 0, 1, 0, 0, 0, 0, []),
  (21, .bipush 6, 2, 0, 6, 0, 0, []),
  (23, .newarray .int, 2, 0, 0, 0, 0, []),
  (25, .putfield 16, 3, 0, 3, 42, 71, [(9, 0)]),
  (28, .aload_n 0, 1, 0, 0, 0, 0, []),
  (29, .bipush 6, 2, 0, 6, 0, 0, []),
  (31, .newarray .int, 2, 0, 0, 0, 0, []),
  (33, .putfield 19, 3, 0, 3, 43, 72, [(10, 0)]),
  (36, .aload_n 0, 1, 0, 0, 0, 0, []),
  (37, .bipush 6, 2, 0, 6, 0, 0, []),
  (39, .newarray .int, 2, 0, 0, 0, 0, []),
  (41, .putfield 22, 3, 0, 3, 44, 73, [(11, 0)]),
  (44, .return_, 1, 0, 0, 0, 0, [])]
def tX3_build : List zR := [(0, .aload_n 0, 1, 0, 0, 0, 0, []),
  (1, .iload_n 1, 1, 0, 0, 0, 0, []),
  (2, .putfield 25, 3, 0, 3, 1, 74, [(0, 1)]),
  (5, .aload_n 0, 1, 0, 0, 0, 0, []),
  (6, .iload_n 2, 1, 0, 0, 0, 0, []),
  (7, .putfield 29, 3, 0, 3, 2, 75, [(1, 1)]),
  (10, .aload_n 0, 1, 0, 0, 0, 0, []),
  (11, .iload_n 3, 1, 0, 0, 0, 0, []),
  (12, .putfield 32, 3, 0, 3, 3, 76, [(2, 1)]),
  (15, .aload_n 0, 1, 0, 0, 0, 0, []),
  (16, .iconst 0, 1, 0, 0, 0, 0, []),
  (17, .putfield 35, 3, 0, 3, 6, 77, [(3, 1)]),
  (20, .aload_n 0, 1, 0, 0, 0, 0, []),
  (21, .iconst 0, 1, 0, 0, 0, 0, []),
  (22, .putfield 38, 3, 0, 3, 4, 78, [(4, 1)]),
  (25, .aload_n 0, 1, 0, 0, 0, 0, []),
  (26, .iconst 1, 1, 0, 1, 0, 0, []),
  (27, .putfield 41, 3, 0, 3, 5, 79, [(5, 1)]),
  (30, .aload_n 0, 1, 0, 0, 0, 0, []),
  (31, .iconst 0, 1, 0, 0, 0, 0, []),
  (32, .putfield 44, 3, 0, 3, 0, 80, [(6, 1)]),
  (35, .return_, 1, 0, 0, 0, 0, [])]
def tX3_become : List zR := [(0, .aload_n 0, 1, 0, 0, 0, 0, []),
  (1, .aload_n 1, 1, 0, 0, 0, 0, []),
  (2, .getfield 25, 3, 0, 3, 1, 74, [(0, 1)]),
  (5, .putfield 25, 3, 0, 3, 1, 74, [(0, 1)]),
  (8, .aload_n 0, 1, 0, 0, 0, 0, []),
  (9, .aload_n 1, 1, 0, 0, 0, 0, []),
  (10, .getfield 29, 3, 0, 3, 2, 75, [(1, 1)]),
  (13, .putfield 29, 3, 0, 3, 2, 75, [(1, 1)]),
  (16, .aload_n 0, 1, 0, 0, 0, 0, []),
  (17, .aload_n 1, 1, 0, 0, 0, 0, []),
  (18, .getfield 32, 3, 0, 3, 3, 76, [(2, 1)]),
  (21, .putfield 32, 3, 0, 3, 3, 76, [(2, 1)]),
  (24, .aload_n 0, 1, 0, 0, 0, 0, []),
  (25, .aload_n 1, 1, 0, 0, 0, 0, []),
  (26, .getfield 35, 3, 0, 3, 6, 77, [(3, 1)]),
  (29, .putfield 35, 3, 0, 3, 6, 77, [(3, 1)]),
  (32, .aload_n 0, 1, 0, 0, 0, 0, []),
  (33, .aload_n 1, 1, 0, 0, 0, 0, []),
  (34, .getfield 38, 3, 0, 3, 4, 78, [(4, 1)]),
  (37, .putfield 38, 3, 0, 3, 4, 78, [(4, 1)]),
  (40, .aload_n 0, 1, 0, 0, 0, 0, []),
  (41, .aload_n 1, 1, 0, 0, 0, 0, []),
  (42, .getfield 41, 3, 0, 3, 5, 79, [(5, 1)]),
  (45, .putfield 41, 3, 0, 3, 5, 79, [(5, 1)]),
  (48, .aload_n 0, 1, 0, 0, 0, 0, []),
  (49, .aload_n 1, 1, 0, 0, 0, 0, []),
  (50, .getfield 44, 3, 0, 3, 0, 80, [(6, 1)]),
  (53, .putfield 44, 3, 0, 3, 0, 80, [(6, 1)]),
  (56, .iconst 0, 1, 0, 0, 0, 0, []),
  (57, .istore_n 2, 1, 0, 0, 0, 0, []),
  (58, .iload_n 2, 1, 1, 0, 0, 0, []),
  (59, .aload_n 0, 1, 0, 0, 0, 0, []),
  (60, .getfield 44, 3, 0, 3, 0, 80, [(6, 1)]),
  (63, .if_icmp .ge 69, 3, 0, 132, 0, 0, []),
  (66, .aload_n 0, 1, 0, 0, 0, 0, []),
  (67, .getfield 9, 3, 0, 3, 40, 69, [(7, 0)]),
  (70, .iload_n 2, 1, 0, 0, 0, 0, []),
  (71, .aload_n 1, 1, 0, 0, 0, 0, []),
  (72, .getfield 9, 3, 0, 3, 40, 69, [(7, 0)]),
  (75, .iload_n 2, 1, 0, 0, 0, 0, []),
  (76, .iaload, 1, 0, 0, 0, 0, []),
  (77, .iastore, 1, 0, 0, 0, 0, []),
  (78, .aload_n 0, 1, 0, 0, 0, 0, []),
  (79, .getfield 13, 3, 0, 3, 41, 70, [(8, 0)]),
  (82, .iload_n 2, 1, 0, 0, 0, 0, []),
  (83, .aload_n 1, 1, 0, 0, 0, 0, []),
  (84, .getfield 13, 3, 0, 3, 41, 70, [(8, 0)]),
  (87, .iload_n 2, 1, 0, 0, 0, 0, []),
  (88, .iaload, 1, 0, 0, 0, 0, []),
  (89, .iastore, 1, 0, 0, 0, 0, []),
  (90, .aload_n 0, 1, 0, 0, 0, 0, []),
  (91, .getfield 16, 3, 0, 3, 42, 71, [(9, 0)]),
  (94, .iload_n 2, 1, 0, 0, 0, 0, []),
  (95, .aload_n 1, 1, 0, 0, 0, 0, []),
  (96, .getfield 16, 3, 0, 3, 42, 71, [(9, 0)]),
  (99, .iload_n 2, 1, 0, 0, 0, 0, []),
  (100, .iaload, 1, 0, 0, 0, 0, []),
  (101, .iastore, 1, 0, 0, 0, 0, []),
  (102, .aload_n 0, 1, 0, 0, 0, 0, []),
  (103, .getfield 19, 3, 0, 3, 43, 72, [(10, 0)]),
  (106, .iload_n 2, 1, 0, 0, 0, 0, []),
  (107, .aload_n 1, 1, 0, 0, 0, 0, []),
  (108, .getfield 19, 3, 0, 3, 43, 72, [(10, 0)]),
  (111, .iload_n 2, 1, 0, 0, 0, 0, []),
  (112, .iaload, 1, 0, 0, 0, 0, []),
  (113, .iastore, 1, 0, 0, 0, 0, []),
  (114, .aload_n 0, 1, 0, 0, 0, 0, []),
  (115, .getfield 22, 3, 0, 3, 44, 73, [(11, 0)]),
  (118, .iload_n 2, 1, 0, 0, 0, 0, []),
  (119, .aload_n 1, 1, 0, 0, 0, 0, []),
  (120, .getfield 22, 3, 0, 3, 44, 73, [(11, 0)]),
  (123, .iload_n 2, 1, 0, 0, 0, 0, []),
  (124, .iaload, 1, 0, 0, 0, 0, []),
  (125, .iastore, 1, 0, 0, 0, 0, []),
  (126, .iinc 2 1, 3, 0, 1, 0, 0, []),
  (129, .goto (-71), 3, 0, 58, 0, 0, []),
  (132, .return_, 1, 0, 0, 0, 0, [])]
def tX3_isAs : List zR := [(0, .aload_n 0, 1, 0, 0, 0, 0, []),
  (1, .getfield 25, 3, 0, 3, 1, 74, [(0, 1)]),
  (4, .aload_n 1, 1, 0, 0, 0, 0, []),
  (5, .getfield 25, 3, 0, 3, 1, 74, [(0, 1)]),
  (8, .if_icmp .ne 69, 3, 0, 77, 0, 0, []),
  (11, .aload_n 0, 1, 0, 0, 0, 0, []),
  (12, .getfield 29, 3, 0, 3, 2, 75, [(1, 1)]),
  (15, .aload_n 1, 1, 0, 0, 0, 0, []),
  (16, .getfield 29, 3, 0, 3, 2, 75, [(1, 1)]),
  (19, .if_icmp .ne 58, 3, 0, 77, 0, 0, []),
  (22, .aload_n 0, 1, 0, 0, 0, 0, []),
  (23, .getfield 32, 3, 0, 3, 3, 76, [(2, 1)]),
  (26, .aload_n 1, 1, 0, 0, 0, 0, []),
  (27, .getfield 32, 3, 0, 3, 3, 76, [(2, 1)]),
  (30, .if_icmp .ne 47, 3, 0, 77, 0, 0, []),
  (33, .aload_n 0, 1, 0, 0, 0, 0, []),
  (34, .getfield 35, 3, 0, 3, 6, 77, [(3, 1)]),
  (37, .aload_n 1, 1, 0, 0, 0, 0, []),
  (38, .getfield 35, 3, 0, 3, 6, 77, [(3, 1)]),
  (41, .if_icmp .ne 36, 3, 0, 77, 0, 0, []),
  (44, .aload_n 0, 1, 0, 0, 0, 0, []),
  (45, .getfield 38, 3, 0, 3, 4, 78, [(4, 1)]),
  (48, .aload_n 1, 1, 0, 0, 0, 0, []),
  (49, .getfield 38, 3, 0, 3, 4, 78, [(4, 1)]),
  (52, .if_icmp .ne 25, 3, 0, 77, 0, 0, []),
  (55, .aload_n 0, 1, 0, 0, 0, 0, []),
  (56, .getfield 41, 3, 0, 3, 5, 79, [(5, 1)]),
  (59, .aload_n 1, 1, 0, 0, 0, 0, []),
  (60, .getfield 41, 3, 0, 3, 5, 79, [(5, 1)]),
  (63, .if_icmp .ne 14, 3, 0, 77, 0, 0, []),
  (66, .aload_n 0, 1, 0, 0, 0, 0, []),
  (67, .getfield 44, 3, 0, 3, 0, 80, [(6, 1)]),
  (70, .aload_n 1, 1, 0, 0, 0, 0, []),
  (71, .getfield 44, 3, 0, 3, 0, 80, [(6, 1)]),
  (74, .if_icmp .eq 5, 3, 0, 79, 0, 0, []),
  (77, .iconst 0, 1, 0, 0, 0, 0, []),
  (78, .ireturn, 1, 0, 0, 1, 0, []),
  (79, .iconst 0, 1, 0, 0, 0, 0, []),
  (80, .istore_n 2, 1, 0, 0, 0, 0, []),
  (81, .iload_n 2, 1, 1, 0, 0, 0, []),
  (82, .aload_n 0, 1, 0, 0, 0, 0, []),
  (83, .getfield 44, 3, 0, 3, 0, 80, [(6, 1)]),
  (86, .if_icmp .ge 86, 3, 0, 172, 0, 0, []),
  (89, .aload_n 0, 1, 0, 0, 0, 0, []),
  (90, .getfield 9, 3, 0, 3, 40, 69, [(7, 0)]),
  (93, .iload_n 2, 1, 0, 0, 0, 0, []),
  (94, .iaload, 1, 0, 0, 0, 0, []),
  (95, .aload_n 1, 1, 0, 0, 0, 0, []),
  (96, .getfield 9, 3, 0, 3, 40, 69, [(7, 0)]),
  (99, .iload_n 2, 1, 0, 0, 0, 0, []),
  (100, .iaload, 1, 0, 0, 0, 0, []),
  (101, .if_icmp .ne 63, 3, 0, 164, 0, 0, []),
  (104, .aload_n 0, 1, 0, 0, 0, 0, []),
  (105, .getfield 13, 3, 0, 3, 41, 70, [(8, 0)]),
  (108, .iload_n 2, 1, 0, 0, 0, 0, []),
  (109, .iaload, 1, 0, 0, 0, 0, []),
  (110, .aload_n 1, 1, 0, 0, 0, 0, []),
  (111, .getfield 13, 3, 0, 3, 41, 70, [(8, 0)]),
  (114, .iload_n 2, 1, 0, 0, 0, 0, []),
  (115, .iaload, 1, 0, 0, 0, 0, []),
  (116, .if_icmp .ne 48, 3, 0, 164, 0, 0, []),
  (119, .aload_n 0, 1, 0, 0, 0, 0, []),
  (120, .getfield 16, 3, 0, 3, 42, 71, [(9, 0)]),
  (123, .iload_n 2, 1, 0, 0, 0, 0, []),
  (124, .iaload, 1, 0, 0, 0, 0, []),
  (125, .aload_n 1, 1, 0, 0, 0, 0, []),
  (126, .getfield 16, 3, 0, 3, 42, 71, [(9, 0)]),
  (129, .iload_n 2, 1, 0, 0, 0, 0, []),
  (130, .iaload, 1, 0, 0, 0, 0, []),
  (131, .if_icmp .ne 33, 3, 0, 164, 0, 0, []),
  (134, .aload_n 0, 1, 0, 0, 0, 0, []),
  (135, .getfield 19, 3, 0, 3, 43, 72, [(10, 0)]),
  (138, .iload_n 2, 1, 0, 0, 0, 0, []),
  (139, .iaload, 1, 0, 0, 0, 0, []),
  (140, .aload_n 1, 1, 0, 0, 0, 0, []),
  (141, .getfield 19, 3, 0, 3, 43, 72, [(10, 0)]),
  (144, .iload_n 2, 1, 0, 0, 0, 0, []),
  (145, .iaload, 1, 0, 0, 0, 0, []),
  (146, .if_icmp .ne 18, 3, 0, 164, 0, 0, []),
  (149, .aload_n 0, 1, 0, 0, 0, 0, []),
  (150, .getfield 22, 3, 0, 3, 44, 73, [(11, 0)]),
  (153, .iload_n 2, 1, 0, 0, 0, 0, []),
  (154, .iaload, 1, 0, 0, 0, 0, []),
  (155, .aload_n 1, 1, 0, 0, 0, 0, []),
  (156, .getfield 22, 3, 0, 3, 44, 73, [(11, 0)]),
  (159, .iload_n 2, 1, 0, 0, 0, 0, []),
  (160, .iaload, 1, 0, 0, 0, 0, []),
  (161, .if_icmp .eq 5, 3, 0, 166, 0, 0, []),
  (164, .iconst 0, 1, 0, 0, 0, 0, []),
  (165, .ireturn, 1, 0, 0, 1, 0, []),
  (166, .iinc 2 1, 3, 0, 1, 0, 0, []),
  (169, .goto (-88), 3, 0, 81, 0, 0, []),
  (172, .iconst 1, 1, 0, 1, 0, 0, []),
  (173, .ireturn, 1, 0, 0, 1, 0, [])]
def tX3_stands : List zR := [(0, .aload_n 0, 1, 0, 0, 0, 0, []),
  (1, .getfield 44, 3, 0, 3, 0, 80, [(6, 1)]),
  (4, .ifCond .le 7, 3, 0, 11, 0, 0, []),
  (7, .iconst 1, 1, 0, 1, 0, 0, []),
  (8, .goto 4, 3, 0, 12, 0, 0, []),
  (11, .iconst 0, 1, 0, 0, 0, 0, []),
  (12, .ireturn, 1, 0, 0, 1, 0, [])]
def tX3_isDish : List zR := [(0, .iload_n 1, 1, 0, 0, 0, 0, []),
  (1, .ifCond .lt 15, 3, 0, 16, 0, 0, []),
  (4, .iload_n 1, 1, 0, 0, 0, 0, []),
  (5, .aload_n 0, 1, 0, 0, 0, 0, []),
  (6, .getfield 44, 3, 0, 3, 0, 80, [(6, 1)]),
  (9, .if_icmp .ge 7, 3, 0, 16, 0, 0, []),
  (12, .iconst 1, 1, 0, 1, 0, 0, []),
  (13, .goto 4, 3, 0, 17, 0, 0, []),
  (16, .iconst 0, 1, 0, 0, 0, 0, []),
  (17, .ireturn, 1, 0, 0, 1, 0, [])]
def tX3_isFloor : List zR := [(0, .iload_n 1, 1, 0, 0, 0, 0, []),
  (1, .ifCond .lt 15, 3, 0, 16, 0, 0, []),
  (4, .iload_n 1, 1, 0, 0, 0, 0, []),
  (5, .aload_n 0, 1, 0, 0, 0, 0, []),
  (6, .getfield 25, 3, 0, 3, 1, 74, [(0, 1)]),
  (9, .if_icmp .ge 7, 3, 0, 16, 0, 0, []),
  (12, .iconst 1, 1, 0, 1, 0, 0, []),
  (13, .goto 4, 3, 0, 17, 0, 0, []),
  (16, .iconst 0, 1, 0, 0, 0, 0, []),
  (17, .ireturn, 1, 0, 0, 1, 0, [])]
def tX3_all : List zR := [(0, .iconst 1, 1, 0, 1, 0, 0, []),
  (1, .aload_n 0, 1, 0, 0, 0, 0, []),
  (2, .getfield 44, 3, 0, 3, 0, 80, [(6, 1)]),
  (5, .ishl, 1, 0, 0, 0, 0, []),
  (6, .iconst 1, 1, 0, 1, 0, 0, []),
  (7, .isub, 1, 0, 0, 0, 0, []),
  (8, .ireturn, 1, 0, 0, 0, 0, [])]
def tX3_those : List zR := [(0, .iconst 0, 1, 0, 0, 0, 0, []),
  (1, .istore_n 2, 1, 0, 0, 0, 0, []),
  (2, .iconst 0, 1, 0, 0, 0, 0, []),
  (3, .istore_n 3, 1, 0, 0, 0, 0, []),
  (4, .iload_n 3, 1, 1, 0, 0, 0, []),
  (5, .aload_n 0, 1, 0, 0, 0, 0, []),
  (6, .getfield 44, 3, 0, 3, 0, 80, [(6, 1)]),
  (9, .if_icmp .ge 25, 3, 0, 34, 0, 0, []),
  (12, .aload_n 0, 1, 0, 0, 0, 0, []),
  (13, .getfield 13, 3, 0, 3, 41, 70, [(8, 0)]),
  (16, .iload_n 3, 1, 0, 0, 0, 0, []),
  (17, .iaload, 1, 0, 0, 0, 0, []),
  (18, .iload_n 1, 1, 0, 0, 0, 0, []),
  (19, .if_icmp .ne 9, 3, 0, 28, 0, 0, []),
  (22, .iload_n 2, 1, 0, 0, 0, 0, []),
  (23, .iconst 1, 1, 0, 1, 0, 0, []),
  (24, .iload_n 3, 1, 0, 0, 0, 0, []),
  (25, .ishl, 1, 0, 0, 0, 0, []),
  (26, .ior, 1, 0, 0, 0, 0, []),
  (27, .istore_n 2, 1, 0, 0, 0, 0, []),
  (28, .iinc 3 1, 3, 0, 1, 0, 0, []),
  (31, .goto (-27), 3, 0, 4, 0, 0, []),
  (34, .iload_n 2, 1, 0, 0, 0, 0, []),
  (35, .ireturn, 1, 0, 0, 0, 0, [])]
def tX3_served : List zR := [(0, .aload_n 0, 1, 0, 0, 0, 0, []),
  (1, .bipush 11, 2, 0, 11, 0, 0, []),
  (3, .invokevirtual 47, 3, 0, 48, 1, 81, [(1, 0)]),
  (6, .ireturn, 1, 0, 0, 0, 0, [])]
def tX3_servedGood : List zR := [(0, .iconst 0, 1, 0, 0, 0, 0, []),
  (1, .istore_n 1, 1, 0, 0, 0, 0, []),
  (2, .iconst 0, 1, 0, 0, 0, 0, []),
  (3, .istore_n 2, 1, 0, 0, 0, 0, []),
  (4, .iload_n 2, 1, 1, 0, 0, 0, []),
  (5, .aload_n 0, 1, 0, 0, 0, 0, []),
  (6, .getfield 44, 3, 0, 3, 0, 80, [(6, 1)]),
  (9, .if_icmp .ge 34, 3, 0, 43, 0, 0, []),
  (12, .aload_n 0, 1, 0, 0, 0, 0, []),
  (13, .getfield 13, 3, 0, 3, 41, 70, [(8, 0)]),
  (16, .iload_n 2, 1, 0, 0, 0, 0, []),
  (17, .iaload, 1, 0, 0, 0, 0, []),
  (18, .bipush 11, 2, 0, 11, 0, 0, []),
  (20, .if_icmp .ne 17, 3, 0, 37, 0, 0, []),
  (23, .aload_n 0, 1, 0, 0, 0, 0, []),
  (24, .iload_n 2, 1, 0, 0, 0, 0, []),
  (25, .invokevirtual 51, 3, 0, 51, 1, 82, [(1, 0)]),
  (28, .ifCond .eq 9, 3, 0, 37, 0, 0, []),
  (31, .iload_n 1, 1, 0, 0, 0, 0, []),
  (32, .iconst 1, 1, 0, 1, 0, 0, []),
  (33, .iload_n 2, 1, 0, 0, 0, 0, []),
  (34, .ishl, 1, 0, 0, 0, 0, []),
  (35, .ior, 1, 0, 0, 0, 0, []),
  (36, .istore_n 1, 1, 0, 0, 0, 0, []),
  (37, .iinc 2 1, 3, 0, 1, 0, 0, []),
  (40, .goto (-36), 3, 0, 4, 0, 0, []),
  (43, .iload_n 1, 1, 0, 0, 0, 0, []),
  (44, .ireturn, 1, 0, 0, 0, 0, [])]
def tX3_isGood : List zR := [(0, .aload_n 0, 1, 0, 0, 0, 0, []),
  (1, .getfield 9, 3, 0, 3, 40, 69, [(7, 0)]),
  (4, .iload_n 1, 1, 0, 0, 0, 0, []),
  (5, .iaload, 1, 0, 0, 0, 0, []),
  (6, .iconst 1, 1, 0, 1, 0, 0, []),
  (7, .invokestatic 57, 3, 0, 7, 0, 83, [(2, 0)]),
  (10, .ifCond .eq 22, 3, 0, 32, 0, 0, []),
  (13, .aload_n 0, 1, 0, 0, 0, 0, []),
  (14, .getfield 22, 3, 0, 3, 44, 73, [(11, 0)]),
  (17, .iload_n 1, 1, 0, 0, 0, 0, []),
  (18, .iaload, 1, 0, 0, 0, 0, []),
  (19, .bipush 20, 2, 0, 20, 0, 0, []),
  (21, .if_icmp .lt 7, 3, 0, 28, 0, 0, []),
  (24, .iconst 1, 1, 0, 1, 0, 0, []),
  (25, .goto 23, 3, 0, 48, 0, 0, []),
  (28, .iconst 0, 1, 0, 0, 0, 0, []),
  (29, .goto 19, 3, 0, 48, 0, 0, []),
  (32, .aload_n 0, 1, 0, 0, 0, 0, []),
  (33, .getfield 22, 3, 0, 3, 44, 73, [(11, 0)]),
  (36, .iload_n 1, 1, 0, 0, 0, 0, []),
  (37, .iaload, 1, 0, 0, 0, 0, []),
  (38, .bipush 10, 2, 0, 10, 0, 0, []),
  (40, .if_icmp .gt 7, 3, 0, 47, 0, 0, []),
  (43, .iconst 1, 1, 0, 1, 0, 0, []),
  (44, .goto 4, 3, 0, 48, 0, 0, []),
  (47, .iconst 0, 1, 0, 0, 0, 0, []),
  (48, .ireturn, 1, 0, 0, 1, 0, [])]
def tX3_weightOf : List zR := [(0, .iconst 0, 1, 0, 0, 0, 0, []),
  (1, .istore_n 2, 1, 0, 0, 0, 0, []),
  (2, .iconst 0, 1, 0, 0, 0, 0, []),
  (3, .istore_n 3, 1, 0, 0, 0, 0, []),
  (4, .iload_n 3, 1, 1, 0, 0, 0, []),
  (5, .aload_n 0, 1, 0, 0, 0, 0, []),
  (6, .getfield 44, 3, 0, 3, 0, 80, [(6, 1)]),
  (9, .if_icmp .ge 24, 3, 0, 33, 0, 0, []),
  (12, .iload_n 2, 1, 0, 0, 0, 0, []),
  (13, .iload_n 1, 1, 0, 0, 0, 0, []),
  (14, .iload_n 3, 1, 0, 0, 0, 0, []),
  (15, .ishr, 1, 0, 0, 0, 0, []),
  (16, .iconst 1, 1, 0, 1, 0, 0, []),
  (17, .iand, 1, 0, 0, 0, 0, []),
  (18, .aload_n 0, 1, 0, 0, 0, 0, []),
  (19, .getfield 19, 3, 0, 3, 43, 72, [(10, 0)]),
  (22, .iload_n 3, 1, 0, 0, 0, 0, []),
  (23, .iaload, 1, 0, 0, 0, 0, []),
  (24, .imul, 1, 0, 0, 0, 0, []),
  (25, .iadd, 1, 0, 0, 0, 0, []),
  (26, .istore_n 2, 1, 0, 0, 0, 0, []),
  (27, .iinc 3 1, 3, 0, 1, 0, 0, []),
  (30, .goto (-26), 3, 0, 4, 0, 0, []),
  (33, .iload_n 2, 1, 0, 0, 0, 0, []),
  (34, .ireturn, 1, 0, 0, 0, 0, [])]
def tX3_heatOf : List zR := [(0, .iconst 0, 1, 0, 0, 0, 0, []),
  (1, .istore_n 2, 1, 0, 0, 0, 0, []),
  (2, .iconst 0, 1, 0, 0, 0, 0, []),
  (3, .istore_n 3, 1, 0, 0, 0, 0, []),
  (4, .iload_n 3, 1, 1, 0, 0, 0, []),
  (5, .aload_n 0, 1, 0, 0, 0, 0, []),
  (6, .getfield 44, 3, 0, 3, 0, 80, [(6, 1)]),
  (9, .if_icmp .ge 24, 3, 0, 33, 0, 0, []),
  (12, .iload_n 2, 1, 0, 0, 0, 0, []),
  (13, .iload_n 1, 1, 0, 0, 0, 0, []),
  (14, .iload_n 3, 1, 0, 0, 0, 0, []),
  (15, .ishr, 1, 0, 0, 0, 0, []),
  (16, .iconst 1, 1, 0, 1, 0, 0, []),
  (17, .iand, 1, 0, 0, 0, 0, []),
  (18, .aload_n 0, 1, 0, 0, 0, 0, []),
  (19, .getfield 22, 3, 0, 3, 44, 73, [(11, 0)]),
  (22, .iload_n 3, 1, 0, 0, 0, 0, []),
  (23, .iaload, 1, 0, 0, 0, 0, []),
  (24, .imul, 1, 0, 0, 0, 0, []),
  (25, .iadd, 1, 0, 0, 0, 0, []),
  (26, .istore_n 2, 1, 0, 0, 0, 0, []),
  (27, .iinc 3 1, 3, 0, 1, 0, 0, []),
  (30, .goto (-26), 3, 0, 4, 0, 0, []),
  (33, .iload_n 2, 1, 0, 0, 0, 0, []),
  (34, .ireturn, 1, 0, 0, 0, 0, [])]
def tX3_sendBack : List zR := [(0, .aload_n 0, 1, 0, 0, 0, 0, []),
  (1, .getfield 13, 3, 0, 3, 41, 70, [(8, 0)]),
  (4, .iload_n 1, 1, 0, 0, 0, 0, []),
  (5, .aload_n 0, 1, 0, 0, 0, 0, []),
  (6, .getfield 16, 3, 0, 3, 42, 71, [(9, 0)]),
  (9, .iload_n 1, 1, 0, 0, 0, 0, []),
  (10, .iaload, 1, 0, 0, 0, 0, []),
  (11, .iastore, 1, 0, 0, 0, 0, []),
  (12, .aload_n 0, 1, 0, 0, 0, 0, []),
  (13, .getfield 16, 3, 0, 3, 42, 71, [(9, 0)]),
  (16, .iload_n 1, 1, 0, 0, 0, 0, []),
  (17, .iload_n 2, 1, 0, 0, 0, 0, []),
  (18, .iastore, 1, 0, 0, 0, 0, []),
  (19, .aload_n 0, 1, 0, 0, 0, 0, []),
  (20, .getfield 22, 3, 0, 3, 44, 73, [(11, 0)]),
  (23, .iload_n 1, 1, 0, 0, 0, 0, []),
  (24, .iload_n 3, 1, 0, 0, 0, 0, []),
  (25, .iastore, 1, 0, 0, 0, 0, []),
  (26, .return_, 1, 0, 0, 0, 0, [])]
def tX3_pass : List zR := [(0, .iconst 0, 1, 0, 0, 0, 0, []),
  (1, .istore_n 3, 1, 0, 0, 0, 0, []),
  (2, .iload_n 2, 1, 0, 0, 0, 0, []),
  (3, .ifCond .ne 17, 3, 0, 20, 0, 0, []),
  (6, .aload_n 0, 1, 0, 0, 0, 0, []),
  (7, .invokevirtual 61, 3, 0, 56, 1, 84, [(0, 0)]),
  (10, .aload_n 0, 1, 0, 0, 0, 0, []),
  (11, .aload_n 1, 1, 0, 0, 0, 0, []),
  (12, .invokevirtual 64, 3, 0, 57, 1, 85, [(1, 0)]),
  (15, .aload_n 0, 1, 0, 0, 0, 0, []),
  (16, .invokevirtual 68, 3, 0, 59, 1, 86, [(0, 0)]),
  (19, .istore_n 3, 1, 0, 0, 0, 0, []),
  (20, .iconst 0, 1, 0, 0, 0, 0, []),
  (21, .istore 4, 2, 0, 0, 0, 0, []),
  (23, .iload 4, 2, 1, 0, 0, 0, []),
  (25, .aload_n 0, 1, 0, 0, 0, 0, []),
  (26, .getfield 44, 3, 0, 3, 0, 80, [(6, 1)]),
  (29, .if_icmp .ge 48, 3, 0, 77, 0, 0, []),
  (32, .aload_n 0, 1, 0, 0, 0, 0, []),
  (33, .getfield 13, 3, 0, 3, 41, 70, [(8, 0)]),
  (36, .iload 4, 2, 0, 0, 0, 0, []),
  (38, .iaload, 1, 0, 0, 0, 0, []),
  (39, .bipush 11, 2, 0, 11, 0, 0, []),
  (41, .if_icmp .eq 30, 3, 0, 71, 0, 0, []),
  (44, .aload_n 0, 1, 0, 0, 0, 0, []),
  (45, .iload 4, 2, 0, 0, 0, 0, []),
  (47, .iload_n 3, 1, 0, 0, 0, 0, []),
  (48, .ifCond .eq 19, 3, 0, 67, 0, 0, []),
  (51, .aload_n 0, 1, 0, 0, 0, 0, []),
  (52, .getfield 13, 3, 0, 3, 41, 70, [(8, 0)]),
  (55, .iload 4, 2, 0, 0, 0, 0, []),
  (57, .iaload, 1, 0, 0, 0, 0, []),
  (58, .bipush 10, 2, 0, 10, 0, 0, []),
  (60, .if_icmp .ne 7, 3, 0, 67, 0, 0, []),
  (63, .iconst 1, 1, 0, 1, 0, 0, []),
  (64, .goto 4, 3, 0, 68, 0, 0, []),
  (67, .iconst 0, 1, 0, 0, 0, 0, []),
  (68, .invokevirtual 72, 3, 0, 60, 1, 87, [(2, 0)]),
  (71, .iinc 4 1, 3, 0, 1, 0, 0, []),
  (74, .goto (-51), 3, 0, 23, 0, 0, []),
  (77, .aload_n 0, 1, 0, 0, 0, 0, []),
  (78, .dup, 1, 0, 0, 0, 0, []),
  (79, .getfield 35, 3, 0, 3, 6, 77, [(3, 1)]),
  (82, .iconst 1, 1, 0, 1, 0, 0, []),
  (83, .iadd, 1, 0, 0, 0, 0, []),
  (84, .putfield 35, 3, 0, 3, 6, 77, [(3, 1)]),
  (87, .return_, 1, 0, 0, 0, 0, [])]
def tX3_letOut : List zR := [(0, .iconst 0, 1, 0, 0, 0, 0, []),
  (1, .istore_n 1, 1, 0, 0, 0, 0, []),
  (2, .iload_n 1, 1, 1, 0, 0, 0, []),
  (3, .aload_n 0, 1, 0, 0, 0, 0, []),
  (4, .getfield 44, 3, 0, 3, 0, 80, [(6, 1)]),
  (7, .if_icmp .ge 54, 3, 0, 61, 0, 0, []),
  (10, .aload_n 0, 1, 0, 0, 0, 0, []),
  (11, .getfield 16, 3, 0, 3, 42, 71, [(9, 0)]),
  (14, .iload_n 1, 1, 0, 0, 0, 0, []),
  (15, .iaload, 1, 0, 0, 0, 0, []),
  (16, .aload_n 0, 1, 0, 0, 0, 0, []),
  (17, .getfield 38, 3, 0, 3, 4, 78, [(4, 1)]),
  (20, .if_icmp .ne 35, 3, 0, 55, 0, 0, []),
  (23, .aload_n 0, 1, 0, 0, 0, 0, []),
  (24, .getfield 13, 3, 0, 3, 41, 70, [(8, 0)]),
  (27, .iload_n 1, 1, 0, 0, 0, 0, []),
  (28, .iaload, 1, 0, 0, 0, 0, []),
  (29, .bipush 10, 2, 0, 10, 0, 0, []),
  (31, .if_icmp .eq 16, 3, 0, 47, 0, 0, []),
  (34, .aload_n 0, 1, 0, 0, 0, 0, []),
  (35, .getfield 13, 3, 0, 3, 41, 70, [(8, 0)]),
  (38, .iload_n 1, 1, 0, 0, 0, 0, []),
  (39, .iaload, 1, 0, 0, 0, 0, []),
  (40, .aload_n 0, 1, 0, 0, 0, 0, []),
  (41, .getfield 38, 3, 0, 3, 4, 78, [(4, 1)]),
  (44, .if_icmp .ne 11, 3, 0, 55, 0, 0, []),
  (47, .aload_n 0, 1, 0, 0, 0, 0, []),
  (48, .getfield 13, 3, 0, 3, 41, 70, [(8, 0)]),
  (51, .iload_n 1, 1, 0, 0, 0, 0, []),
  (52, .bipush 11, 2, 0, 11, 0, 0, []),
  (54, .iastore, 1, 0, 0, 0, 0, []),
  (55, .iinc 1 1, 3, 0, 1, 0, 0, []),
  (58, .goto (-56), 3, 0, 2, 0, 0, []),
  (61, .return_, 1, 0, 0, 0, 0, [])]
def tX3_takeIn : List zR := [(0, .aload_n 0, 1, 0, 0, 0, 0, []),
  (1, .bipush 10, 2, 0, 10, 0, 0, []),
  (3, .invokevirtual 47, 3, 0, 48, 1, 81, [(1, 0)]),
  (6, .istore_n 2, 1, 0, 0, 0, 0, []),
  (7, .aload_n 0, 1, 0, 0, 0, 0, []),
  (8, .iload_n 2, 1, 0, 0, 0, 0, []),
  (9, .invokevirtual 76, 3, 0, 52, 1, 88, [(1, 0)]),
  (12, .istore_n 3, 1, 0, 0, 0, 0, []),
  (13, .aload_n 0, 1, 0, 0, 0, 0, []),
  (14, .getfield 29, 3, 0, 3, 2, 75, [(1, 1)]),
  (17, .iload_n 2, 1, 0, 0, 0, 0, []),
  (18, .invokestatic 79, 3, 0, 221, 0, 89, [(1, 0)]),
  (21, .isub, 1, 0, 0, 0, 0, []),
  (22, .istore 4, 2, 0, 0, 0, 0, []),
  (24, .iconst 0, 1, 0, 0, 0, 0, []),
  (25, .istore 5, 2, 0, 0, 0, 0, []),
  (27, .iload 5, 2, 1, 0, 0, 0, []),
  (29, .aload_n 0, 1, 0, 0, 0, 0, []),
  (30, .getfield 44, 3, 0, 3, 0, 80, [(6, 1)]),
  (33, .if_icmp .ge 88, 3, 0, 121, 0, 0, []),
  (36, .iload 5, 2, 0, 0, 0, 0, []),
  (38, .aload_n 1, 1, 0, 0, 0, 0, []),
  (39, .arraylength, 1, 0, 0, 0, 0, []),
  (40, .if_icmp .ge 81, 3, 0, 121, 0, 0, []),
  (43, .iload 4, 2, 0, 0, 0, 0, []),
  (45, .ifCond .le 76, 3, 0, 121, 0, 0, []),
  (48, .aload_n 1, 1, 0, 0, 0, 0, []),
  (49, .iload 5, 2, 0, 0, 0, 0, []),
  (51, .iaload, 1, 0, 0, 0, 0, []),
  (52, .istore 6, 2, 0, 0, 0, 0, []),
  (54, .aload_n 0, 1, 0, 0, 0, 0, []),
  (55, .iload 6, 2, 0, 0, 0, 0, []),
  (57, .invokevirtual 84, 3, 0, 45, 1, 90, [(1, 0)]),
  (60, .ifCond .eq 55, 3, 0, 115, 0, 0, []),
  (63, .aload_n 0, 1, 0, 0, 0, 0, []),
  (64, .getfield 13, 3, 0, 3, 41, 70, [(8, 0)]),
  (67, .iload 6, 2, 0, 0, 0, 0, []),
  (69, .iaload, 1, 0, 0, 0, 0, []),
  (70, .aload_n 0, 1, 0, 0, 0, 0, []),
  (71, .getfield 38, 3, 0, 3, 4, 78, [(4, 1)]),
  (74, .if_icmp .ne 41, 3, 0, 115, 0, 0, []),
  (77, .iload_n 3, 1, 0, 0, 0, 0, []),
  (78, .aload_n 0, 1, 0, 0, 0, 0, []),
  (79, .getfield 19, 3, 0, 3, 43, 72, [(10, 0)]),
  (82, .iload 6, 2, 0, 0, 0, 0, []),
  (84, .iaload, 1, 0, 0, 0, 0, []),
  (85, .iadd, 1, 0, 0, 0, 0, []),
  (86, .aload_n 0, 1, 0, 0, 0, 0, []),
  (87, .getfield 32, 3, 0, 3, 3, 76, [(2, 1)]),
  (90, .if_icmp .gt 25, 3, 0, 115, 0, 0, []),
  (93, .aload_n 0, 1, 0, 0, 0, 0, []),
  (94, .getfield 13, 3, 0, 3, 41, 70, [(8, 0)]),
  (97, .iload 6, 2, 0, 0, 0, 0, []),
  (99, .bipush 10, 2, 0, 10, 0, 0, []),
  (101, .iastore, 1, 0, 0, 0, 0, []),
  (102, .iload_n 3, 1, 0, 0, 0, 0, []),
  (103, .aload_n 0, 1, 0, 0, 0, 0, []),
  (104, .getfield 19, 3, 0, 3, 43, 72, [(10, 0)]),
  (107, .iload 6, 2, 0, 0, 0, 0, []),
  (109, .iaload, 1, 0, 0, 0, 0, []),
  (110, .iadd, 1, 0, 0, 0, 0, []),
  (111, .istore_n 3, 1, 0, 0, 0, 0, []),
  (112, .iinc 4 (-1), 3, 0, 1, 1, 0, []),
  (115, .iinc 5 1, 3, 0, 1, 0, 0, []),
  (118, .goto (-91), 3, 0, 27, 0, 0, []),
  (121, .return_, 1, 0, 0, 0, 0, [])]
def tX3_called : List zR := [(0, .iconst 0, 1, 0, 0, 0, 0, []),
  (1, .istore_n 1, 1, 0, 0, 0, 0, []),
  (2, .iconst 0, 1, 0, 0, 0, 0, []),
  (3, .istore_n 2, 1, 0, 0, 0, 0, []),
  (4, .iload_n 2, 1, 1, 0, 0, 0, []),
  (5, .aload_n 0, 1, 0, 0, 0, 0, []),
  (6, .getfield 44, 3, 0, 3, 0, 80, [(6, 1)]),
  (9, .if_icmp .ge 69, 3, 0, 78, 0, 0, []),
  (12, .aload_n 0, 1, 0, 0, 0, 0, []),
  (13, .getfield 13, 3, 0, 3, 41, 70, [(8, 0)]),
  (16, .iload_n 2, 1, 0, 0, 0, 0, []),
  (17, .iaload, 1, 0, 0, 0, 0, []),
  (18, .bipush 10, 2, 0, 10, 0, 0, []),
  (20, .if_icmp .ne 17, 3, 0, 37, 0, 0, []),
  (23, .iload_n 1, 1, 0, 0, 0, 0, []),
  (24, .iconst 1, 1, 0, 1, 0, 0, []),
  (25, .aload_n 0, 1, 0, 0, 0, 0, []),
  (26, .getfield 16, 3, 0, 3, 42, 71, [(9, 0)]),
  (29, .iload_n 2, 1, 0, 0, 0, 0, []),
  (30, .iaload, 1, 0, 0, 0, 0, []),
  (31, .ishl, 1, 0, 0, 0, 0, []),
  (32, .ior, 1, 0, 0, 0, 0, []),
  (33, .istore_n 1, 1, 0, 0, 0, 0, []),
  (34, .goto 38, 3, 0, 72, 0, 0, []),
  (37, .aload_n 0, 1, 0, 0, 0, 0, []),
  (38, .getfield 13, 3, 0, 3, 41, 70, [(8, 0)]),
  (41, .iload_n 2, 1, 0, 0, 0, 0, []),
  (42, .iaload, 1, 0, 0, 0, 0, []),
  (43, .bipush 11, 2, 0, 11, 0, 0, []),
  (45, .if_icmp .eq 27, 3, 0, 72, 0, 0, []),
  (48, .aload_n 0, 1, 0, 0, 0, 0, []),
  (49, .getfield 19, 3, 0, 3, 43, 72, [(10, 0)]),
  (52, .iload_n 2, 1, 0, 0, 0, 0, []),
  (53, .iaload, 1, 0, 0, 0, 0, []),
  (54, .aload_n 0, 1, 0, 0, 0, 0, []),
  (55, .getfield 32, 3, 0, 3, 3, 76, [(2, 1)]),
  (58, .if_icmp .gt 14, 3, 0, 72, 0, 0, []),
  (61, .iload_n 1, 1, 0, 0, 0, 0, []),
  (62, .iconst 1, 1, 0, 1, 0, 0, []),
  (63, .aload_n 0, 1, 0, 0, 0, 0, []),
  (64, .getfield 13, 3, 0, 3, 41, 70, [(8, 0)]),
  (67, .iload_n 2, 1, 0, 0, 0, 0, []),
  (68, .iaload, 1, 0, 0, 0, 0, []),
  (69, .ishl, 1, 0, 0, 0, 0, []),
  (70, .ior, 1, 0, 0, 0, 0, []),
  (71, .istore_n 1, 1, 0, 0, 0, 0, []),
  (72, .iinc 2 1, 3, 0, 1, 0, 0, []),
  (75, .goto (-71), 3, 0, 4, 0, 0, []),
  (78, .iload_n 1, 1, 0, 0, 0, 0, []),
  (79, .iconst 1, 1, 0, 1, 0, 0, []),
  (80, .aload_n 0, 1, 0, 0, 0, 0, []),
  (81, .getfield 38, 3, 0, 3, 4, 78, [(4, 1)]),
  (84, .ishl, 1, 0, 0, 0, 0, []),
  (85, .iconst (-1), 1, 0, 1, 1, 0, []),
  (86, .ixor, 1, 0, 0, 0, 0, []),
  (87, .iand, 1, 0, 0, 0, 0, []),
  (88, .ireturn, 1, 0, 0, 0, 0, [])]
def tX3_goOn : List zR := [(0, .aload_n 0, 1, 0, 0, 0, 0, []),
  (1, .invokevirtual 87, 3, 0, 58, 1, 91, [(0, 0)]),
  (4, .istore_n 1, 1, 0, 0, 0, 0, []),
  (5, .iload_n 1, 1, 0, 0, 0, 0, []),
  (6, .ifCond .ne 5, 3, 0, 11, 0, 0, []),
  (9, .iconst 0, 1, 0, 0, 0, 0, []),
  (10, .ireturn, 1, 0, 0, 1, 0, []),
  (11, .iload_n 1, 1, 0, 0, 0, 0, []),
  (12, .aload_n 0, 1, 0, 0, 0, 0, []),
  (13, .getfield 38, 3, 0, 3, 4, 78, [(4, 1)]),
  (16, .ishr, 1, 0, 0, 0, 0, []),
  (17, .istore_n 2, 1, 0, 0, 0, 0, []),
  (18, .iload_n 1, 1, 0, 0, 0, 0, []),
  (19, .iconst 1, 1, 0, 1, 0, 0, []),
  (20, .aload_n 0, 1, 0, 0, 0, 0, []),
  (21, .getfield 38, 3, 0, 3, 4, 78, [(4, 1)]),
  (24, .ishl, 1, 0, 0, 0, 0, []),
  (25, .iconst 1, 1, 0, 1, 0, 0, []),
  (26, .isub, 1, 0, 0, 0, 0, []),
  (27, .iand, 1, 0, 0, 0, 0, []),
  (28, .istore_n 3, 1, 0, 0, 0, 0, []),
  (29, .aload_n 0, 1, 0, 0, 0, 0, []),
  (30, .getfield 41, 3, 0, 3, 5, 79, [(5, 1)]),
  (33, .iconst 1, 1, 0, 1, 0, 0, []),
  (34, .if_icmp .ne 7, 3, 0, 41, 0, 0, []),
  (37, .iload_n 2, 1, 0, 0, 0, 0, []),
  (38, .goto 4, 3, 0, 42, 0, 0, []),
  (41, .iload_n 3, 1, 0, 0, 0, 0, []),
  (42, .ifCond .ne 20, 3, 0, 62, 0, 0, []),
  (45, .aload_n 0, 1, 0, 0, 0, 0, []),
  (46, .aload_n 0, 1, 0, 0, 0, 0, []),
  (47, .getfield 41, 3, 0, 3, 5, 79, [(5, 1)]),
  (50, .iconst 1, 1, 0, 1, 0, 0, []),
  (51, .if_icmp .ne 7, 3, 0, 58, 0, 0, []),
  (54, .iconst 0, 1, 0, 0, 0, 0, []),
  (55, .goto 4, 3, 0, 59, 0, 0, []),
  (58, .iconst 1, 1, 0, 1, 0, 0, []),
  (59, .putfield 41, 3, 0, 3, 5, 79, [(5, 1)]),
  (62, .aload_n 0, 1, 0, 0, 0, 0, []),
  (63, .dup, 1, 0, 0, 0, 0, []),
  (64, .getfield 38, 3, 0, 3, 4, 78, [(4, 1)]),
  (67, .aload_n 0, 1, 0, 0, 0, 0, []),
  (68, .getfield 41, 3, 0, 3, 5, 79, [(5, 1)]),
  (71, .iconst 1, 1, 0, 1, 0, 0, []),
  (72, .if_icmp .ne 7, 3, 0, 79, 0, 0, []),
  (75, .iconst 1, 1, 0, 1, 0, 0, []),
  (76, .goto 4, 3, 0, 80, 0, 0, []),
  (79, .iconst (-1), 1, 0, 1, 1, 0, []),
  (80, .iadd, 1, 0, 0, 0, 0, []),
  (81, .putfield 38, 3, 0, 3, 4, 78, [(4, 1)]),
  (84, .iconst 1, 1, 0, 1, 0, 0, []),
  (85, .ireturn, 1, 0, 0, 1, 0, [])]
def tX3_age : List zR := [(0, .aload_n 0, 1, 0, 0, 0, 0, []),
  (1, .getfield 9, 3, 0, 3, 40, 69, [(7, 0)]),
  (4, .iload_n 1, 1, 0, 0, 0, 0, []),
  (5, .iaload, 1, 0, 0, 0, 0, []),
  (6, .tableswitch 96 2 5 #[47, 30, 64, 72], 30, 0, 102, 0, 0, [(2, 53), (3, 36), (4, 70), (5, 78)]),
  (36, .aload_n 0, 1, 0, 0, 0, 0, []),
  (37, .getfield 35, 3, 0, 3, 6, 77, [(3, 1)]),
  (40, .iconst 2, 1, 0, 2, 0, 0, []),
  (41, .irem, 1, 0, 0, 0, 0, []),
  (42, .ifCond .eq 65, 3, 0, 107, 0, 0, []),
  (45, .aload_n 0, 1, 0, 0, 0, 0, []),
  (46, .iload_n 1, 1, 0, 0, 0, 0, []),
  (47, .invokevirtual 91, 3, 0, 61, 1, 92, [(1, 0)]),
  (50, .goto 57, 3, 0, 107, 0, 0, []),
  (53, .aload_n 0, 1, 0, 0, 0, 0, []),
  (54, .iload_n 1, 1, 0, 0, 0, 0, []),
  (55, .invokevirtual 91, 3, 0, 61, 1, 92, [(1, 0)]),
  (58, .iload_n 2, 1, 0, 0, 0, 0, []),
  (59, .ifCond .eq 48, 3, 0, 107, 0, 0, []),
  (62, .aload_n 0, 1, 0, 0, 0, 0, []),
  (63, .iload_n 1, 1, 0, 0, 0, 0, []),
  (64, .invokevirtual 95, 3, 0, 63, 1, 93, [(1, 0)]),
  (67, .goto 40, 3, 0, 107, 0, 0, []),
  (70, .aload_n 0, 1, 0, 0, 0, 0, []),
  (71, .iload_n 1, 1, 0, 0, 0, 0, []),
  (72, .invokevirtual 98, 3, 0, 62, 1, 94, [(1, 0)]),
  (75, .goto 32, 3, 0, 107, 0, 0, []),
  (78, .aload_n 0, 1, 0, 0, 0, 0, []),
  (79, .iload_n 1, 1, 0, 0, 0, 0, []),
  (80, .invokevirtual 98, 3, 0, 62, 1, 94, [(1, 0)]),
  (83, .aload_n 0, 1, 0, 0, 0, 0, []),
  (84, .getfield 22, 3, 0, 3, 44, 73, [(11, 0)]),
  (87, .iload_n 1, 1, 0, 0, 0, 0, []),
  (88, .iaload, 1, 0, 0, 0, 0, []),
  (89, .bipush 10, 2, 0, 10, 0, 0, []),
  (91, .if_icmp .lt 16, 3, 0, 107, 0, 0, []),
  (94, .aload_n 0, 1, 0, 0, 0, 0, []),
  (95, .iload_n 1, 1, 0, 0, 0, 0, []),
  (96, .invokevirtual 95, 3, 0, 63, 1, 93, [(1, 0)]),
  (99, .goto 8, 3, 0, 107, 0, 0, []),
  (102, .aload_n 0, 1, 0, 0, 0, 0, []),
  (103, .iload_n 1, 1, 0, 0, 0, 0, []),
  (104, .invokevirtual 91, 3, 0, 61, 1, 92, [(1, 0)]),
  (107, .return_, 1, 0, 0, 0, 0, [])]
def tX3_cool : List zR := [(0, .aload_n 0, 1, 0, 0, 0, 0, []),
  (1, .getfield 22, 3, 0, 3, 44, 73, [(11, 0)]),
  (4, .iload_n 1, 1, 0, 0, 0, 0, []),
  (5, .iaload, 1, 0, 0, 0, 0, []),
  (6, .ifCond .le 13, 3, 0, 19, 0, 0, []),
  (9, .aload_n 0, 1, 0, 0, 0, 0, []),
  (10, .getfield 22, 3, 0, 3, 44, 73, [(11, 0)]),
  (13, .iload_n 1, 1, 0, 0, 0, 0, []),
  (14, .dup2, 1, 0, 0, 0, 0, []),
  (15, .iaload, 1, 0, 0, 0, 0, []),
  (16, .iconst 1, 1, 0, 1, 0, 0, []),
  (17, .isub, 1, 0, 0, 0, 0, []),
  (18, .iastore, 1, 0, 0, 0, 0, []),
  (19, .return_, 1, 0, 0, 0, 0, [])]
def tX3_warm : List zR := [(0, .aload_n 0, 1, 0, 0, 0, 0, []),
  (1, .getfield 22, 3, 0, 3, 44, 73, [(11, 0)]),
  (4, .iload_n 1, 1, 0, 0, 0, 0, []),
  (5, .iaload, 1, 0, 0, 0, 0, []),
  (6, .bipush 60, 2, 0, 60, 0, 0, []),
  (8, .if_icmp .ge 13, 3, 0, 21, 0, 0, []),
  (11, .aload_n 0, 1, 0, 0, 0, 0, []),
  (12, .getfield 22, 3, 0, 3, 44, 73, [(11, 0)]),
  (15, .iload_n 1, 1, 0, 0, 0, 0, []),
  (16, .dup2, 1, 0, 0, 0, 0, []),
  (17, .iaload, 1, 0, 0, 0, 0, []),
  (18, .iconst 1, 1, 0, 1, 0, 0, []),
  (19, .iadd, 1, 0, 0, 0, 0, []),
  (20, .iastore, 1, 0, 0, 0, 0, []),
  (21, .return_, 1, 0, 0, 0, 0, [])]
def tX3_lose : List zR := [(0, .aload_n 0, 1, 0, 0, 0, 0, []),
  (1, .getfield 19, 3, 0, 3, 43, 72, [(10, 0)]),
  (4, .iload_n 1, 1, 0, 0, 0, 0, []),
  (5, .iaload, 1, 0, 0, 0, 0, []),
  (6, .iconst 1, 1, 0, 1, 0, 0, []),
  (7, .if_icmp .le 13, 3, 0, 20, 0, 0, []),
  (10, .aload_n 0, 1, 0, 0, 0, 0, []),
  (11, .getfield 19, 3, 0, 3, 43, 72, [(10, 0)]),
  (14, .iload_n 1, 1, 0, 0, 0, 0, []),
  (15, .dup2, 1, 0, 0, 0, 0, []),
  (16, .iaload, 1, 0, 0, 0, 0, []),
  (17, .iconst 1, 1, 0, 1, 0, 0, []),
  (18, .isub, 1, 0, 0, 0, 0, []),
  (19, .iastore, 1, 0, 0, 0, 0, []),
  (20, .return_, 1, 0, 0, 0, 0, [])]
def tX4_init : List zR := [(0, .aload_n 0, 1, 0, 0, 0, 0, []),
  (1, .invokespecial 1, 3, 0, 0, 4, 95, []),
  (4, .aload_n 0, 1, 0, 0, 0, 0, []),
  (5, .new 7, 3, 0, 3, 0, 96, []),
  (8, .dup, 1, 0, 0, 0, 0, []),
  (9, .invokespecial 9, 3, 0, 40, 3, 97, [(0, 1)]),
  (12, .putfield 10, 3, 0, 4, 0, 98, [(0, 0)]),
  (15, .aload_n 0, 1, 0, 0, 0, 0, []),
  (16, .new 7, 3, 0, 3, 0, 96, []),
  (19, .dup, 1, 0, 0, 0, 0, []),
  (20, .invokespecial 9, 3, 0, 40, 3, 97, [(0, 1)]),
  (23, .putfield 16, 3, 0, 4, 1, 99, [(1, 0)]),
  (26, .aload_n 0, 1, 0, 0, 0, 0, []),
  (27, .bipush 6, 2, 0, 6, 0, 0, []),
  (29, .newarray .int, 2, 0, 0, 0, 0, []),
  (31, .putfield 19, 3, 0, 4, 2, 100, [(2, 0)]),
  (34, .aload_n 0, 1, 0, 0, 0, 0, []),
  (35, .bipush 6, 2, 0, 6, 0, 0, []),
  (37, .newarray .int, 2, 0, 0, 0, 0, []),
  (39, .putfield 23, 3, 0, 4, 3, 101, [(3, 0)]),
  (42, .return_, 1, 0, 0, 0, 0, [])]
def tX4_search : List zR := [(0, .iload_n 2, 1, 0, 0, 0, 0, []),
  (1, .aload_n 0, 1, 0, 0, 0, 0, []),
  (2, .getfield 26, 3, 0, 4, 4, 102, [(4, 1)]),
  (5, .if_icmp .ne 15, 3, 0, 20, 0, 0, []),
  (8, .aload_n 1, 1, 0, 0, 0, 0, []),
  (9, .aload_n 0, 1, 0, 0, 0, 0, []),
  (10, .getfield 16, 3, 0, 4, 1, 99, [(1, 0)]),
  (13, .invokevirtual 30, 3, 0, 43, 1, 103, [(1, 0)]),
  (16, .ifCond .eq 4, 3, 0, 20, 0, 0, []),
  (19, .return_, 1, 0, 0, 0, 0, []),
  (20, .aload_n 0, 1, 0, 0, 0, 0, []),
  (21, .getfield 16, 3, 0, 4, 1, 99, [(1, 0)]),
  (24, .aload_n 1, 1, 0, 0, 0, 0, []),
  (25, .invokevirtual 34, 3, 0, 42, 1, 104, [(1, 0)]),
  (28, .aload_n 0, 1, 0, 0, 0, 0, []),
  (29, .iload_n 2, 1, 0, 0, 0, 0, []),
  (30, .putfield 26, 3, 0, 4, 4, 102, [(4, 1)]),
  (33, .aload_n 0, 1, 0, 0, 0, 0, []),
  (34, .ldc 40, 2, 0, 2147483647, 0, 105, []),
  (36, .putfield 41, 3, 0, 4, 5, 106, [(5, 1)]),
  (39, .aload_n 0, 1, 0, 0, 0, 0, []),
  (40, .iconst 0, 1, 0, 0, 0, 0, []),
  (41, .iconst 0, 1, 0, 0, 0, 0, []),
  (42, .invokevirtual 44, 3, 0, 66, 1, 107, [(2, 0)]),
  (45, .return_, 1, 0, 0, 0, 0, [])]
def tX4_fill : List zR := [(0, .iload_n 1, 1, 0, 0, 0, 0, []),
  (1, .aload_n 0, 1, 0, 0, 0, 0, []),
  (2, .getfield 16, 3, 0, 4, 1, 99, [(1, 0)]),
  (5, .getfield 48, 3, 0, 3, 0, 108, [(6, 1)]),
  (8, .if_icmp .ge 9, 3, 0, 17, 0, 0, []),
  (11, .iload_n 1, 1, 0, 0, 0, 0, []),
  (12, .bipush 6, 2, 0, 6, 0, 0, []),
  (14, .if_icmp .lt 8, 3, 0, 22, 0, 0, []),
  (17, .aload_n 0, 1, 0, 0, 0, 0, []),
  (18, .invokevirtual 51, 3, 0, 68, 1, 109, [(0, 0)]),
  (21, .return_, 1, 0, 0, 0, 0, []),
  (22, .iconst 0, 1, 0, 0, 0, 0, []),
  (23, .istore_n 3, 1, 0, 0, 0, 0, []),
  (24, .iload_n 3, 1, 1, 0, 0, 0, []),
  (25, .aload_n 0, 1, 0, 0, 0, 0, []),
  (26, .getfield 16, 3, 0, 4, 1, 99, [(1, 0)]),
  (29, .getfield 48, 3, 0, 3, 0, 108, [(6, 1)]),
  (32, .if_icmp .ge 45, 3, 0, 77, 0, 0, []),
  (35, .iload_n 2, 1, 0, 0, 0, 0, []),
  (36, .iload_n 3, 1, 0, 0, 0, 0, []),
  (37, .ishr, 1, 0, 0, 0, 0, []),
  (38, .iconst 1, 1, 0, 1, 0, 0, []),
  (39, .iand, 1, 0, 0, 0, 0, []),
  (40, .ifCond .ne 31, 3, 0, 71, 0, 0, []),
  (43, .aload_n 0, 1, 0, 0, 0, 0, []),
  (44, .iload_n 1, 1, 0, 0, 0, 0, []),
  (45, .iload_n 3, 1, 0, 0, 0, 0, []),
  (46, .invokevirtual 54, 3, 0, 67, 1, 110, [(2, 0)]),
  (49, .ifCond .ne 22, 3, 0, 71, 0, 0, []),
  (52, .aload_n 0, 1, 0, 0, 0, 0, []),
  (53, .getfield 19, 3, 0, 4, 2, 100, [(2, 0)]),
  (56, .iload_n 1, 1, 0, 0, 0, 0, []),
  (57, .iload_n 3, 1, 0, 0, 0, 0, []),
  (58, .iastore, 1, 0, 0, 0, 0, []),
  (59, .aload_n 0, 1, 0, 0, 0, 0, []),
  (60, .iload_n 1, 1, 0, 0, 0, 0, []),
  (61, .iconst 1, 1, 0, 1, 0, 0, []),
  (62, .iadd, 1, 0, 0, 0, 0, []),
  (63, .iload_n 2, 1, 0, 0, 0, 0, []),
  (64, .iconst 1, 1, 0, 1, 0, 0, []),
  (65, .iload_n 3, 1, 0, 0, 0, 0, []),
  (66, .ishl, 1, 0, 0, 0, 0, []),
  (67, .ior, 1, 0, 0, 0, 0, []),
  (68, .invokevirtual 44, 3, 0, 66, 1, 107, [(2, 0)]),
  (71, .iinc 3 1, 3, 0, 1, 0, 0, []),
  (74, .goto (-50), 3, 0, 24, 0, 0, []),
  (77, .return_, 1, 0, 0, 0, 0, [])]
def tX4_isNeedless : List zR := [(0, .iload_n 1, 1, 0, 0, 0, 0, []),
  (1, .ifCond .ne 5, 3, 0, 6, 0, 0, []),
  (4, .iconst 0, 1, 0, 0, 0, 0, []),
  (5, .ireturn, 1, 0, 0, 1, 0, []),
  (6, .aload_n 0, 1, 0, 0, 0, 0, []),
  (7, .getfield 19, 3, 0, 4, 2, 100, [(2, 0)]),
  (10, .iload_n 1, 1, 0, 0, 0, 0, []),
  (11, .iconst 1, 1, 0, 1, 0, 0, []),
  (12, .isub, 1, 0, 0, 0, 0, []),
  (13, .iaload, 1, 0, 0, 0, 0, []),
  (14, .istore_n 3, 1, 0, 0, 0, 0, []),
  (15, .iload_n 3, 1, 0, 0, 0, 0, []),
  (16, .iload_n 2, 1, 0, 0, 0, 0, []),
  (17, .if_icmp .le 42, 3, 0, 59, 0, 0, []),
  (20, .aload_n 0, 1, 0, 0, 0, 0, []),
  (21, .getfield 16, 3, 0, 4, 1, 99, [(1, 0)]),
  (24, .getfield 58, 3, 0, 3, 41, 111, [(8, 0)]),
  (27, .iload_n 3, 1, 0, 0, 0, 0, []),
  (28, .iaload, 1, 0, 0, 0, 0, []),
  (29, .aload_n 0, 1, 0, 0, 0, 0, []),
  (30, .getfield 16, 3, 0, 4, 1, 99, [(1, 0)]),
  (33, .getfield 58, 3, 0, 3, 41, 111, [(8, 0)]),
  (36, .iload_n 2, 1, 0, 0, 0, 0, []),
  (37, .iaload, 1, 0, 0, 0, 0, []),
  (38, .if_icmp .ne 17, 3, 0, 55, 0, 0, []),
  (41, .aload_n 0, 1, 0, 0, 0, 0, []),
  (42, .getfield 16, 3, 0, 4, 1, 99, [(1, 0)]),
  (45, .getfield 58, 3, 0, 3, 41, 111, [(8, 0)]),
  (48, .iload_n 2, 1, 0, 0, 0, 0, []),
  (49, .iaload, 1, 0, 0, 0, 0, []),
  (50, .bipush 10, 2, 0, 10, 0, 0, []),
  (52, .if_icmp .lt 7, 3, 0, 59, 0, 0, []),
  (55, .iconst 1, 1, 0, 1, 0, 0, []),
  (56, .goto 4, 3, 0, 60, 0, 0, []),
  (59, .iconst 0, 1, 0, 0, 0, 0, []),
  (60, .ireturn, 1, 0, 0, 1, 0, [])]
def tX4_weigh : List zR := [(0, .aload_n 0, 1, 0, 0, 0, 0, []),
  (1, .getfield 10, 3, 0, 4, 0, 98, [(0, 0)]),
  (4, .aload_n 0, 1, 0, 0, 0, 0, []),
  (5, .getfield 16, 3, 0, 4, 1, 99, [(1, 0)]),
  (8, .invokevirtual 34, 3, 0, 42, 1, 104, [(1, 0)]),
  (11, .iconst 0, 1, 0, 0, 0, 0, []),
  (12, .istore_n 1, 1, 0, 0, 0, 0, []),
  (13, .iconst 0, 1, 0, 0, 0, 0, []),
  (14, .istore_n 2, 1, 0, 0, 0, 0, []),
  (15, .iload_n 2, 1, 1, 0, 0, 0, []),
  (16, .aload_n 0, 1, 0, 0, 0, 0, []),
  (17, .getfield 26, 3, 0, 4, 4, 102, [(4, 1)]),
  (20, .if_icmp .gt 60, 3, 0, 80, 0, 0, []),
  (23, .aload_n 0, 1, 0, 0, 0, 0, []),
  (24, .getfield 10, 3, 0, 4, 0, 98, [(0, 0)]),
  (27, .getfield 48, 3, 0, 3, 0, 108, [(6, 1)]),
  (30, .aload_n 0, 1, 0, 0, 0, 0, []),
  (31, .getfield 10, 3, 0, 4, 0, 98, [(0, 0)]),
  (34, .invokevirtual 61, 3, 0, 49, 1, 112, [(0, 0)]),
  (37, .invokestatic 65, 3, 0, 221, 0, 113, [(1, 0)]),
  (40, .isub, 1, 0, 0, 0, 0, []),
  (41, .istore_n 3, 1, 0, 0, 0, 0, []),
  (42, .iload_n 1, 1, 0, 0, 0, 0, []),
  (43, .iload_n 3, 1, 0, 0, 0, 0, []),
  (44, .iadd, 1, 0, 0, 0, 0, []),
  (45, .istore_n 1, 1, 0, 0, 0, 0, []),
  (46, .iload_n 1, 1, 0, 0, 0, 0, []),
  (47, .aload_n 0, 1, 0, 0, 0, 0, []),
  (48, .getfield 41, 3, 0, 4, 5, 106, [(5, 1)]),
  (51, .if_icmp .lt 4, 3, 0, 55, 0, 0, []),
  (54, .return_, 1, 0, 0, 0, 0, []),
  (55, .iload_n 3, 1, 0, 0, 0, 0, []),
  (56, .ifCond .ne 6, 3, 0, 62, 0, 0, []),
  (59, .goto 21, 3, 0, 80, 0, 0, []),
  (62, .aload_n 0, 1, 0, 0, 0, 0, []),
  (63, .getfield 10, 3, 0, 4, 0, 98, [(0, 0)]),
  (66, .aload_n 0, 1, 0, 0, 0, 0, []),
  (67, .getfield 19, 3, 0, 4, 2, 100, [(2, 0)]),
  (70, .iconst 0, 1, 0, 0, 0, 0, []),
  (71, .invokevirtual 69, 3, 0, 55, 1, 114, [(2, 0)]),
  (74, .iinc 2 1, 3, 0, 1, 0, 0, []),
  (77, .goto (-62), 3, 0, 15, 0, 0, []),
  (80, .aload_n 0, 1, 0, 0, 0, 0, []),
  (81, .iload_n 1, 1, 0, 0, 0, 0, []),
  (82, .putfield 41, 3, 0, 4, 5, 106, [(5, 1)]),
  (85, .aload_n 0, 1, 0, 0, 0, 0, []),
  (86, .getfield 19, 3, 0, 4, 2, 100, [(2, 0)]),
  (89, .iconst 0, 1, 0, 0, 0, 0, []),
  (90, .aload_n 0, 1, 0, 0, 0, 0, []),
  (91, .getfield 23, 3, 0, 4, 3, 101, [(3, 0)]),
  (94, .iconst 0, 1, 0, 0, 0, 0, []),
  (95, .bipush 6, 2, 0, 6, 0, 0, []),
  (97, .invokestatic 73, 3, 0, 0, 5, 115, []),
  (100, .return_, 1, 0, 0, 0, 0, [])]
def tX5_init : List zR := [(0, .aload_n 0, 1, 0, 0, 0, 0, []),
  (1, .invokespecial 1, 3, 0, 0, 4, 116, []),
  (4, .aload_n 0, 1, 0, 0, 0, 0, []),
  (5, .bipush 8, 2, 0, 8, 0, 0, []),
  (7, .newarray .int, 2, 0, 0, 0, 0, []),
  (9, .putfield 9, 3, 0, 5, 0, 117, [(0, 0)]),
  (12, .aload_n 0, 1, 0, 0, 0, 0, []),
  (13, .bipush 8, 2, 0, 8, 0, 0, []),
  (15, .newarray .int, 2, 0, 0, 0, 0, []),
  (17, .putfield 13, 3, 0, 5, 1, 118, [(1, 0)]),
  (20, .aload_n 0, 1, 0, 0, 0, 0, []),
  (21, .bipush 8, 2, 0, 8, 0, 0, []),
  (23, .bipush 40, 2, 0, 40, 0, 0, []),
  (25, .multianewarray 16 2, 4, 0, 0, 0, 102, []),
  (29, .putfield 18, 3, 0, 5, 2, 119, [(2, 0)]),
  (32, .aload_n 0, 1, 0, 0, 0, 0, []),
  (33, .getfield 9, 3, 0, 5, 0, 117, [(0, 0)]),
  (36, .iconst (-1), 1, 0, 1, 1, 0, []),
  (37, .invokestatic 21, 3, 0, 224, 0, 120, [(2, 0)]),
  (40, .return_, 1, 0, 0, 0, 0, [])]
def tX5_isRow : List zR := [(0, .iload_n 0, 1, 0, 0, 0, 0, []),
  (1, .ifCond .lt 13, 3, 0, 14, 0, 0, []),
  (4, .iload_n 0, 1, 0, 0, 0, 0, []),
  (5, .bipush 8, 2, 0, 8, 0, 0, []),
  (7, .if_icmp .ge 7, 3, 0, 14, 0, 0, []),
  (10, .iconst 1, 1, 0, 1, 0, 0, []),
  (11, .goto 4, 3, 0, 15, 0, 0, []),
  (14, .iconst 0, 1, 0, 0, 0, 0, []),
  (15, .ireturn, 1, 0, 0, 1, 0, [])]
def tX5_isLane : List zR := [(0, .iload_n 0, 1, 0, 0, 0, 0, []),
  (1, .ifCond .lt 12, 3, 0, 13, 0, 0, []),
  (4, .iload_n 0, 1, 0, 0, 0, 0, []),
  (5, .iconst 2, 1, 0, 2, 0, 0, []),
  (6, .if_icmp .gt 7, 3, 0, 13, 0, 0, []),
  (9, .iconst 1, 1, 0, 1, 0, 0, []),
  (10, .goto 4, 3, 0, 14, 0, 0, []),
  (13, .iconst 0, 1, 0, 0, 0, 0, []),
  (14, .ireturn, 1, 0, 0, 1, 0, [])]
def tX5_isMissing : List zR := [(0, .aload_n 0, 1, 0, 0, 0, 0, []),
  (1, .getfield 9, 3, 0, 5, 0, 117, [(0, 0)]),
  (4, .iload_n 1, 1, 0, 0, 0, 0, []),
  (5, .iaload, 1, 0, 0, 0, 0, []),
  (6, .iconst (-1), 1, 0, 1, 1, 0, []),
  (7, .if_icmp .ne 7, 3, 0, 14, 0, 0, []),
  (10, .iconst 1, 1, 0, 1, 0, 0, []),
  (11, .goto 4, 3, 0, 15, 0, 0, []),
  (14, .iconst 0, 1, 0, 0, 0, 0, []),
  (15, .ireturn, 1, 0, 0, 1, 0, [])]
def tX5_covers : List zR := [(0, .iload_n 3, 1, 0, 0, 0, 0, []),
  (1, .ifCond .lt 23, 3, 0, 24, 0, 0, []),
  (4, .iload_n 2, 1, 0, 0, 0, 0, []),
  (5, .ifCond .lt 19, 3, 0, 24, 0, 0, []),
  (8, .iload_n 2, 1, 0, 0, 0, 0, []),
  (9, .aload_n 0, 1, 0, 0, 0, 0, []),
  (10, .getfield 13, 3, 0, 5, 1, 118, [(1, 0)]),
  (13, .iload_n 1, 1, 0, 0, 0, 0, []),
  (14, .iaload, 1, 0, 0, 0, 0, []),
  (15, .iload_n 3, 1, 0, 0, 0, 0, []),
  (16, .isub, 1, 0, 0, 0, 0, []),
  (17, .if_icmp .gt 7, 3, 0, 24, 0, 0, []),
  (20, .iconst 1, 1, 0, 1, 0, 0, []),
  (21, .goto 4, 3, 0, 25, 0, 0, []),
  (24, .iconst 0, 1, 0, 0, 0, 0, []),
  (25, .ireturn, 1, 0, 0, 1, 0, [])]
def tX5_begin : List zR := [(0, .aload_n 0, 1, 0, 0, 0, 0, []),
  (1, .getfield 9, 3, 0, 5, 0, 117, [(0, 0)]),
  (4, .iload_n 1, 1, 0, 0, 0, 0, []),
  (5, .iload_n 2, 1, 0, 0, 0, 0, []),
  (6, .iastore, 1, 0, 0, 0, 0, []),
  (7, .aload_n 0, 1, 0, 0, 0, 0, []),
  (8, .getfield 13, 3, 0, 5, 1, 118, [(1, 0)]),
  (11, .iload_n 1, 1, 0, 0, 0, 0, []),
  (12, .iload_n 3, 1, 0, 0, 0, 0, []),
  (13, .iastore, 1, 0, 0, 0, 0, []),
  (14, .aload_n 0, 1, 0, 0, 0, 0, []),
  (15, .getfield 18, 3, 0, 5, 2, 119, [(2, 0)]),
  (18, .iload_n 1, 1, 0, 0, 0, 0, []),
  (19, .aaload, 1, 0, 0, 0, 0, []),
  (20, .iconst 0, 1, 0, 0, 0, 0, []),
  (21, .invokestatic 21, 3, 0, 224, 0, 120, [(2, 0)]),
  (24, .return_, 1, 0, 0, 0, 0, [])]
def tX5_put : List zR := [(0, .iload_n 3, 1, 0, 0, 0, 0, []),
  (1, .istore 4, 2, 0, 0, 0, 0, []),
  (3, .aload_n 0, 1, 0, 0, 0, 0, []),
  (4, .getfield 9, 3, 0, 5, 0, 117, [(0, 0)]),
  (7, .iload_n 1, 1, 0, 0, 0, 0, []),
  (8, .iaload, 1, 0, 0, 0, 0, []),
  (9, .ifCond .ne 10, 3, 0, 19, 0, 0, []),
  (12, .iload_n 3, 1, 0, 0, 0, 0, []),
  (13, .i2b, 1, 0, 0, 0, 0, []),
  (14, .istore 4, 2, 0, 0, 0, 0, []),
  (16, .goto 17, 3, 0, 33, 0, 0, []),
  (19, .aload_n 0, 1, 0, 0, 0, 0, []),
  (20, .getfield 9, 3, 0, 5, 0, 117, [(0, 0)]),
  (23, .iload_n 1, 1, 0, 0, 0, 0, []),
  (24, .iaload, 1, 0, 0, 0, 0, []),
  (25, .iconst 1, 1, 0, 1, 0, 0, []),
  (26, .if_icmp .ne 7, 3, 0, 33, 0, 0, []),
  (29, .iload_n 3, 1, 0, 0, 0, 0, []),
  (30, .i2s, 1, 0, 0, 0, 0, []),
  (31, .istore 4, 2, 0, 0, 0, 0, []),
  (33, .aload_n 0, 1, 0, 0, 0, 0, []),
  (34, .getfield 18, 3, 0, 5, 2, 119, [(2, 0)]),
  (37, .iload_n 1, 1, 0, 0, 0, 0, []),
  (38, .aaload, 1, 0, 0, 0, 0, []),
  (39, .iload_n 2, 1, 0, 0, 0, 0, []),
  (40, .iload 4, 2, 0, 0, 0, 0, []),
  (42, .iastore, 1, 0, 0, 0, 0, []),
  (43, .iload 4, 2, 0, 0, 0, 0, []),
  (45, .ireturn, 1, 0, 0, 0, 0, [])]
def tX5_lose : List zR := [(0, .aload_n 0, 1, 0, 0, 0, 0, []),
  (1, .getfield 9, 3, 0, 5, 0, 117, [(0, 0)]),
  (4, .iload_n 1, 1, 0, 0, 0, 0, []),
  (5, .iconst (-1), 1, 0, 1, 1, 0, []),
  (6, .iastore, 1, 0, 0, 0, 0, []),
  (7, .aload_n 0, 1, 0, 0, 0, 0, []),
  (8, .getfield 13, 3, 0, 5, 1, 118, [(1, 0)]),
  (11, .iload_n 1, 1, 0, 0, 0, 0, []),
  (12, .iaload, 1, 0, 0, 0, 0, []),
  (13, .ireturn, 1, 0, 0, 0, 0, [])]
def tX5_present : List zR := [(0, .iconst 0, 1, 0, 0, 0, 0, []),
  (1, .istore_n 1, 1, 0, 0, 0, 0, []),
  (2, .iconst 0, 1, 0, 0, 0, 0, []),
  (3, .istore_n 2, 1, 0, 0, 0, 0, []),
  (4, .iload_n 2, 1, 1, 0, 0, 0, []),
  (5, .bipush 8, 2, 0, 8, 0, 0, []),
  (7, .if_icmp .ge 25, 3, 0, 32, 0, 0, []),
  (10, .iload_n 1, 1, 0, 0, 0, 0, []),
  (11, .aload_n 0, 1, 0, 0, 0, 0, []),
  (12, .iload_n 2, 1, 0, 0, 0, 0, []),
  (13, .invokevirtual 27, 3, 0, 72, 1, 121, [(1, 0)]),
  (16, .ifCond .eq 7, 3, 0, 23, 0, 0, []),
  (19, .iconst 0, 1, 0, 0, 0, 0, []),
  (20, .goto 4, 3, 0, 24, 0, 0, []),
  (23, .iconst 1, 1, 0, 1, 0, 0, []),
  (24, .iadd, 1, 0, 0, 0, 0, []),
  (25, .istore_n 1, 1, 0, 0, 0, 0, []),
  (26, .iinc 2 1, 3, 0, 1, 0, 0, []),
  (29, .goto (-25), 3, 0, 4, 0, 0, []),
  (32, .iload_n 1, 1, 0, 0, 0, 0, []),
  (33, .ireturn, 1, 0, 0, 0, 0, [])]
def tX6_init : List zR := [(0, .aload_n 0, 1, 0, 0, 0, 0, []),
  (1, .invokespecial 1, 3, 0, 0, 4, 122, []),
  (4, .aload_n 0, 1, 0, 0, 0, 0, []),
  (5, .bipush 110, 2, 0, 110, 0, 0, []),
  (7, .newarray .int, 2, 0, 0, 0, 0, []),
  (9, .putfield 9, 3, 0, 6, 0, 123, [(0, 0)]),
  (12, .return_, 1, 0, 0, 0, 0, [])]
def tX6_isFull : List zR := [(0, .aload_n 0, 1, 0, 0, 0, 0, []),
  (1, .getfield 13, 3, 0, 6, 1, 124, [(1, 1)]),
  (4, .bipush 110, 2, 0, 110, 0, 0, []),
  (6, .if_icmp .lt 7, 3, 0, 13, 0, 0, []),
  (9, .iconst 1, 1, 0, 1, 0, 0, []),
  (10, .goto 4, 3, 0, 14, 0, 0, []),
  (13, .iconst 0, 1, 0, 0, 0, 0, []),
  (14, .ireturn, 1, 0, 0, 1, 0, [])]
def tX6_add : List zR := [(0, .aload_n 0, 1, 0, 0, 0, 0, []),
  (1, .getfield 13, 3, 0, 6, 1, 124, [(1, 1)]),
  (4, .bipush 110, 2, 0, 110, 0, 0, []),
  (6, .if_icmp .ge 23, 3, 0, 29, 0, 0, []),
  (9, .aload_n 0, 1, 0, 0, 0, 0, []),
  (10, .getfield 9, 3, 0, 6, 0, 123, [(0, 0)]),
  (13, .aload_n 0, 1, 0, 0, 0, 0, []),
  (14, .getfield 13, 3, 0, 6, 1, 124, [(1, 1)]),
  (17, .iload_n 1, 1, 0, 0, 0, 0, []),
  (18, .iastore, 1, 0, 0, 0, 0, []),
  (19, .aload_n 0, 1, 0, 0, 0, 0, []),
  (20, .dup, 1, 0, 0, 0, 0, []),
  (21, .getfield 13, 3, 0, 6, 1, 124, [(1, 1)]),
  (24, .iconst 1, 1, 0, 1, 0, 0, []),
  (25, .iadd, 1, 0, 0, 0, 0, []),
  (26, .putfield 13, 3, 0, 6, 1, 124, [(1, 1)]),
  (29, .aload_n 0, 1, 0, 0, 0, 0, []),
  (30, .getfield 13, 3, 0, 6, 1, 124, [(1, 1)]),
  (33, .ireturn, 1, 0, 0, 0, 0, [])]
def tX6_tells : List zR := [(0, .aload_n 0, 1, 0, 0, 0, 0, []),
  (1, .iconst 0, 1, 0, 0, 0, 0, []),
  (2, .putfield 17, 3, 0, 6, 2, 125, [(2, 1)]),
  (5, .aload_n 0, 1, 0, 0, 0, 0, []),
  (6, .aload_n 1, 1, 0, 0, 0, 0, []),
  (7, .invokevirtual 20, 3, 0, 82, 1, 126, [(1, 0)]),
  (10, .ifCond .eq 15, 3, 0, 25, 0, 0, []),
  (13, .aload_n 0, 1, 0, 0, 0, 0, []),
  (14, .aload_n 1, 1, 0, 0, 0, 0, []),
  (15, .invokevirtual 24, 3, 0, 83, 1, 127, [(1, 0)]),
  (18, .ifCond .eq 7, 3, 0, 25, 0, 0, []),
  (21, .iconst 1, 1, 0, 1, 0, 0, []),
  (22, .goto 4, 3, 0, 26, 0, 0, []),
  (25, .iconst 0, 1, 0, 0, 0, 0, []),
  (26, .istore_n 2, 1, 0, 0, 0, 0, []),
  (27, .aload_n 0, 1, 0, 0, 0, 0, []),
  (28, .iconst 0, 1, 0, 0, 0, 0, []),
  (29, .putfield 13, 3, 0, 6, 1, 124, [(1, 1)]),
  (32, .iload_n 2, 1, 0, 0, 0, 0, []),
  (33, .ireturn, 1, 0, 0, 1, 0, [])]
def tX6_readLaw : List zR := [(0, .aload_n 0, 1, 0, 0, 0, 0, []),
  (1, .bipush 100, 2, 0, 100, 0, 0, []),
  (3, .invokevirtual 27, 3, 0, 88, 1, 128, [(1, 0)]),
  (6, .ifCond .eq 15, 3, 0, 21, 0, 0, []),
  (9, .aload_n 0, 1, 0, 0, 0, 0, []),
  (10, .iconst 2, 1, 0, 2, 0, 0, []),
  (11, .bipush 9, 2, 0, 9, 0, 0, []),
  (13, .bipush 44, 2, 0, 44, 0, 0, []),
  (15, .invokevirtual 33, 3, 0, 86, 1, 129, [(3, 0)]),
  (18, .ifCond .ne 5, 3, 0, 23, 0, 0, []),
  (21, .iconst 0, 1, 0, 0, 0, 0, []),
  (22, .ireturn, 1, 0, 0, 1, 0, []),
  (23, .aload_n 0, 1, 0, 0, 0, 0, []),
  (24, .getfield 37, 3, 0, 6, 4, 130, [(4, 1)]),
  (27, .istore_n 2, 1, 0, 0, 0, 0, []),
  (28, .aload_n 0, 1, 0, 0, 0, 0, []),
  (29, .iconst 1, 1, 0, 1, 0, 0, []),
  (30, .iconst 4, 1, 0, 4, 0, 0, []),
  (31, .bipush 44, 2, 0, 44, 0, 0, []),
  (33, .invokevirtual 33, 3, 0, 86, 1, 129, [(3, 0)]),
  (36, .ifCond .ne 5, 3, 0, 41, 0, 0, []),
  (39, .iconst 0, 1, 0, 0, 0, 0, []),
  (40, .ireturn, 1, 0, 0, 1, 0, []),
  (41, .aload_n 0, 1, 0, 0, 0, 0, []),
  (42, .getfield 37, 3, 0, 6, 4, 130, [(4, 1)]),
  (45, .istore_n 3, 1, 0, 0, 0, 0, []),
  (46, .aload_n 0, 1, 0, 0, 0, 0, []),
  (47, .iconst 1, 1, 0, 1, 0, 0, []),
  (48, .bipush 40, 2, 0, 40, 0, 0, []),
  (50, .bipush 59, 2, 0, 59, 0, 0, []),
  (52, .invokevirtual 33, 3, 0, 86, 1, 129, [(3, 0)]),
  (55, .ifCond .ne 5, 3, 0, 60, 0, 0, []),
  (58, .iconst 0, 1, 0, 0, 0, 0, []),
  (59, .ireturn, 1, 0, 0, 1, 0, []),
  (60, .aload_n 1, 1, 0, 0, 0, 0, []),
  (61, .iload_n 2, 1, 0, 0, 0, 0, []),
  (62, .iload_n 3, 1, 0, 0, 0, 0, []),
  (63, .aload_n 0, 1, 0, 0, 0, 0, []),
  (64, .getfield 37, 3, 0, 6, 4, 130, [(4, 1)]),
  (67, .invokevirtual 40, 3, 0, 41, 1, 131, [(3, 0)]),
  (70, .iconst 1, 1, 0, 1, 0, 0, []),
  (71, .ireturn, 1, 0, 0, 1, 0, [])]
def tX6_readDishes : List zR := [(0, .iconst 0, 1, 0, 0, 0, 0, []),
  (1, .istore_n 2, 1, 0, 0, 0, 0, []),
  (2, .iload_n 2, 1, 1, 0, 0, 0, []),
  (3, .bipush 6, 2, 0, 6, 0, 0, []),
  (5, .if_icmp .gt 33, 3, 0, 38, 0, 0, []),
  (8, .aload_n 0, 1, 0, 0, 0, 0, []),
  (9, .aload_n 1, 1, 0, 0, 0, 0, []),
  (10, .iload_n 2, 1, 0, 0, 0, 0, []),
  (11, .invokevirtual 44, 3, 0, 84, 1, 132, [(2, 0)]),
  (14, .ifCond .ne 5, 3, 0, 19, 0, 0, []),
  (17, .iconst 0, 1, 0, 0, 0, 0, []),
  (18, .ireturn, 1, 0, 0, 1, 0, []),
  (19, .aload_n 0, 1, 0, 0, 0, 0, []),
  (20, .getfield 17, 3, 0, 6, 2, 125, [(2, 1)]),
  (23, .aload_n 0, 1, 0, 0, 0, 0, []),
  (24, .getfield 13, 3, 0, 6, 1, 124, [(1, 1)]),
  (27, .if_icmp .lt 5, 3, 0, 32, 0, 0, []),
  (30, .iconst 1, 1, 0, 1, 0, 0, []),
  (31, .ireturn, 1, 0, 0, 1, 0, []),
  (32, .iinc 2 1, 3, 0, 1, 0, 0, []),
  (35, .goto (-33), 3, 0, 2, 0, 0, []),
  (38, .iconst 0, 1, 0, 0, 0, 0, []),
  (39, .ireturn, 1, 0, 0, 1, 0, [])]
def tX6_readDish : List zR := [(0, .aload_n 0, 1, 0, 0, 0, 0, []),
  (1, .getfield 17, 3, 0, 6, 2, 125, [(2, 1)]),
  (4, .aload_n 0, 1, 0, 0, 0, 0, []),
  (5, .getfield 13, 3, 0, 6, 1, 124, [(1, 1)]),
  (8, .if_icmp .ge 18, 3, 0, 26, 0, 0, []),
  (11, .aload_n 0, 1, 0, 0, 0, 0, []),
  (12, .getfield 9, 3, 0, 6, 0, 123, [(0, 0)]),
  (15, .aload_n 0, 1, 0, 0, 0, 0, []),
  (16, .getfield 17, 3, 0, 6, 2, 125, [(2, 1)]),
  (19, .iaload, 1, 0, 0, 0, 0, []),
  (20, .invokestatic 48, 3, 0, 85, 0, 133, [(1, 0)]),
  (23, .goto 4, 3, 0, 27, 0, 0, []),
  (26, .iconst 0, 1, 0, 0, 0, 0, []),
  (27, .istore_n 3, 1, 0, 0, 0, 0, []),
  (28, .iload_n 3, 1, 0, 0, 0, 0, []),
  (29, .ifCond .ne 9, 3, 0, 38, 0, 0, []),
  (32, .aload_n 0, 1, 0, 0, 0, 0, []),
  (33, .iconst 1, 1, 0, 1, 0, 0, []),
  (34, .invokevirtual 52, 3, 0, 89, 1, 134, [(1, 0)]),
  (37, .ireturn, 1, 0, 0, 1, 0, []),
  (38, .iload_n 2, 1, 0, 0, 0, 0, []),
  (39, .bipush 6, 2, 0, 6, 0, 0, []),
  (41, .if_icmp .lt 9, 3, 0, 50, 0, 0, []),
  (44, .aload_n 0, 1, 0, 0, 0, 0, []),
  (45, .iconst 3, 1, 0, 3, 0, 0, []),
  (46, .invokevirtual 52, 3, 0, 89, 1, 134, [(1, 0)]),
  (49, .ireturn, 1, 0, 0, 1, 0, []),
  (50, .aload_n 0, 1, 0, 0, 0, 0, []),
  (51, .dup, 1, 0, 0, 0, 0, []),
  (52, .getfield 17, 3, 0, 6, 2, 125, [(2, 1)]),
  (55, .iconst 1, 1, 0, 1, 0, 0, []),
  (56, .iadd, 1, 0, 0, 0, 0, []),
  (57, .putfield 17, 3, 0, 6, 2, 125, [(2, 1)]),
  (60, .aload_n 1, 1, 0, 0, 0, 0, []),
  (61, .getfield 55, 3, 0, 3, 40, 135, [(7, 0)]),
  (64, .iload_n 2, 1, 0, 0, 0, 0, []),
  (65, .iload_n 3, 1, 0, 0, 0, 0, []),
  (66, .iastore, 1, 0, 0, 0, 0, []),
  (67, .aload_n 0, 1, 0, 0, 0, 0, []),
  (68, .iconst 0, 1, 0, 0, 0, 0, []),
  (69, .aload_n 1, 1, 0, 0, 0, 0, []),
  (70, .getfield 58, 3, 0, 3, 1, 136, [(0, 1)]),
  (73, .iconst 1, 1, 0, 1, 0, 0, []),
  (74, .isub, 1, 0, 0, 0, 0, []),
  (75, .bipush 44, 2, 0, 44, 0, 0, []),
  (77, .invokevirtual 33, 3, 0, 86, 1, 129, [(3, 0)]),
  (80, .ifCond .ne 5, 3, 0, 85, 0, 0, []),
  (83, .iconst 0, 1, 0, 0, 0, 0, []),
  (84, .ireturn, 1, 0, 0, 1, 0, []),
  (85, .aload_n 1, 1, 0, 0, 0, 0, []),
  (86, .getfield 61, 3, 0, 3, 41, 137, [(8, 0)]),
  (89, .iload_n 2, 1, 0, 0, 0, 0, []),
  (90, .aload_n 0, 1, 0, 0, 0, 0, []),
  (91, .getfield 37, 3, 0, 6, 4, 130, [(4, 1)]),
  (94, .iastore, 1, 0, 0, 0, 0, []),
  (95, .aload_n 0, 1, 0, 0, 0, 0, []),
  (96, .iconst 0, 1, 0, 0, 0, 0, []),
  (97, .aload_n 1, 1, 0, 0, 0, 0, []),
  (98, .getfield 58, 3, 0, 3, 1, 136, [(0, 1)]),
  (101, .iconst 1, 1, 0, 1, 0, 0, []),
  (102, .isub, 1, 0, 0, 0, 0, []),
  (103, .bipush 44, 2, 0, 44, 0, 0, []),
  (105, .invokevirtual 33, 3, 0, 86, 1, 129, [(3, 0)]),
  (108, .ifCond .ne 5, 3, 0, 113, 0, 0, []),
  (111, .iconst 0, 1, 0, 0, 0, 0, []),
  (112, .ireturn, 1, 0, 0, 1, 0, []),
  (113, .aload_n 1, 1, 0, 0, 0, 0, []),
  (114, .getfield 64, 3, 0, 3, 42, 138, [(9, 0)]),
  (117, .iload_n 2, 1, 0, 0, 0, 0, []),
  (118, .aload_n 0, 1, 0, 0, 0, 0, []),
  (119, .getfield 37, 3, 0, 6, 4, 130, [(4, 1)]),
  (122, .iastore, 1, 0, 0, 0, 0, []),
  (123, .aload_n 0, 1, 0, 0, 0, 0, []),
  (124, .iconst 1, 1, 0, 1, 0, 0, []),
  (125, .bipush 9, 2, 0, 9, 0, 0, []),
  (127, .bipush 44, 2, 0, 44, 0, 0, []),
  (129, .invokevirtual 33, 3, 0, 86, 1, 129, [(3, 0)]),
  (132, .ifCond .ne 5, 3, 0, 137, 0, 0, []),
  (135, .iconst 0, 1, 0, 0, 0, 0, []),
  (136, .ireturn, 1, 0, 0, 1, 0, []),
  (137, .aload_n 1, 1, 0, 0, 0, 0, []),
  (138, .getfield 67, 3, 0, 3, 43, 139, [(10, 0)]),
  (141, .iload_n 2, 1, 0, 0, 0, 0, []),
  (142, .aload_n 0, 1, 0, 0, 0, 0, []),
  (143, .getfield 37, 3, 0, 6, 4, 130, [(4, 1)]),
  (146, .iastore, 1, 0, 0, 0, 0, []),
  (147, .aload_n 0, 1, 0, 0, 0, 0, []),
  (148, .iconst 0, 1, 0, 0, 0, 0, []),
  (149, .bipush 60, 2, 0, 60, 0, 0, []),
  (151, .bipush 59, 2, 0, 59, 0, 0, []),
  (153, .invokevirtual 33, 3, 0, 86, 1, 129, [(3, 0)]),
  (156, .ifCond .ne 5, 3, 0, 161, 0, 0, []),
  (159, .iconst 0, 1, 0, 0, 0, 0, []),
  (160, .ireturn, 1, 0, 0, 1, 0, []),
  (161, .aload_n 1, 1, 0, 0, 0, 0, []),
  (162, .getfield 70, 3, 0, 3, 44, 140, [(11, 0)]),
  (165, .iload_n 2, 1, 0, 0, 0, 0, []),
  (166, .aload_n 0, 1, 0, 0, 0, 0, []),
  (167, .getfield 37, 3, 0, 6, 4, 130, [(4, 1)]),
  (170, .iastore, 1, 0, 0, 0, 0, []),
  (171, .aload_n 1, 1, 0, 0, 0, 0, []),
  (172, .iload_n 2, 1, 0, 0, 0, 0, []),
  (173, .iconst 1, 1, 0, 1, 0, 0, []),
  (174, .iadd, 1, 0, 0, 0, 0, []),
  (175, .putfield 73, 3, 0, 3, 0, 141, [(6, 1)]),
  (178, .iconst 1, 1, 0, 1, 0, 0, []),
  (179, .ireturn, 1, 0, 0, 1, 0, [])]
def tX6_kindOf : List zR := [(0, .iload_n 0, 1, 0, 0, 0, 0, []),
  (1, .lookupswitch 61 #[(99, 57), (104, 51), (105, 59), (114, 55), (115, 53)], 51, 0, 62, 0, 0, [(99, 58), (104, 52), (105, 60), (114, 56), (115, 54)]),
  (52, .iconst 1, 1, 0, 1, 0, 0, []),
  (53, .ireturn, 1, 0, 0, 0, 0, []),
  (54, .iconst 2, 1, 0, 2, 0, 0, []),
  (55, .ireturn, 1, 0, 0, 0, 0, []),
  (56, .iconst 3, 1, 0, 3, 0, 0, []),
  (57, .ireturn, 1, 0, 0, 0, 0, []),
  (58, .iconst 4, 1, 0, 4, 0, 0, []),
  (59, .ireturn, 1, 0, 0, 0, 0, []),
  (60, .iconst 5, 1, 0, 5, 0, 0, []),
  (61, .ireturn, 1, 0, 0, 0, 0, []),
  (62, .iconst 0, 1, 0, 0, 0, 0, []),
  (63, .ireturn, 1, 0, 0, 0, 0, [])]
def tX6_readNumber : List zR := [(0, .iconst 0, 1, 0, 0, 0, 0, []),
  (1, .istore 4, 2, 0, 0, 0, 0, []),
  (3, .iconst 0, 1, 0, 0, 0, 0, []),
  (4, .istore 5, 2, 0, 0, 0, 0, []),
  (6, .aload_n 0, 1, 1, 0, 0, 0, []),
  (7, .getfield 17, 3, 0, 6, 2, 125, [(2, 1)]),
  (10, .iload 4, 2, 0, 0, 0, 0, []),
  (12, .iadd, 1, 0, 0, 0, 0, []),
  (13, .aload_n 0, 1, 0, 0, 0, 0, []),
  (14, .getfield 13, 3, 0, 6, 1, 124, [(1, 1)]),
  (17, .if_icmp .ge 56, 3, 0, 73, 0, 0, []),
  (20, .iload 4, 2, 0, 0, 0, 0, []),
  (22, .iconst 2, 1, 0, 2, 0, 0, []),
  (23, .if_icmp .gt 50, 3, 0, 73, 0, 0, []),
  (26, .aload_n 0, 1, 0, 0, 0, 0, []),
  (27, .getfield 9, 3, 0, 6, 0, 123, [(0, 0)]),
  (30, .aload_n 0, 1, 0, 0, 0, 0, []),
  (31, .getfield 17, 3, 0, 6, 2, 125, [(2, 1)]),
  (34, .iload 4, 2, 0, 0, 0, 0, []),
  (36, .iadd, 1, 0, 0, 0, 0, []),
  (37, .iaload, 1, 0, 0, 0, 0, []),
  (38, .invokestatic 78, 3, 0, 87, 0, 142, [(1, 0)]),
  (41, .ifCond .eq 32, 3, 0, 73, 0, 0, []),
  (44, .bipush 10, 2, 0, 10, 0, 0, []),
  (46, .iload 5, 2, 0, 0, 0, 0, []),
  (48, .imul, 1, 0, 0, 0, 0, []),
  (49, .aload_n 0, 1, 0, 0, 0, 0, []),
  (50, .getfield 9, 3, 0, 6, 0, 123, [(0, 0)]),
  (53, .aload_n 0, 1, 0, 0, 0, 0, []),
  (54, .getfield 17, 3, 0, 6, 2, 125, [(2, 1)]),
  (57, .iload 4, 2, 0, 0, 0, 0, []),
  (59, .iadd, 1, 0, 0, 0, 0, []),
  (60, .iaload, 1, 0, 0, 0, 0, []),
  (61, .iadd, 1, 0, 0, 0, 0, []),
  (62, .bipush 48, 2, 0, 48, 0, 0, []),
  (64, .isub, 1, 0, 0, 0, 0, []),
  (65, .istore 5, 2, 0, 0, 0, 0, []),
  (67, .iinc 4 1, 3, 0, 1, 0, 0, []),
  (70, .goto (-64), 3, 0, 6, 0, 0, []),
  (73, .iload 4, 2, 0, 0, 0, 0, []),
  (75, .ifCond .eq 9, 3, 0, 84, 0, 0, []),
  (78, .iload 4, 2, 0, 0, 0, 0, []),
  (80, .iconst 2, 1, 0, 2, 0, 0, []),
  (81, .if_icmp .le 9, 3, 0, 90, 0, 0, []),
  (84, .aload_n 0, 1, 0, 0, 0, 0, []),
  (85, .iconst 1, 1, 0, 1, 0, 0, []),
  (86, .invokevirtual 52, 3, 0, 89, 1, 134, [(1, 0)]),
  (89, .ireturn, 1, 0, 0, 1, 0, []),
  (90, .iload 5, 2, 0, 0, 0, 0, []),
  (92, .iload_n 1, 1, 0, 0, 0, 0, []),
  (93, .if_icmp .lt 9, 3, 0, 102, 0, 0, []),
  (96, .iload 5, 2, 0, 0, 0, 0, []),
  (98, .iload_n 2, 1, 0, 0, 0, 0, []),
  (99, .if_icmp .le 9, 3, 0, 108, 0, 0, []),
  (102, .aload_n 0, 1, 0, 0, 0, 0, []),
  (103, .iconst 2, 1, 0, 2, 0, 0, []),
  (104, .invokevirtual 52, 3, 0, 89, 1, 134, [(1, 0)]),
  (107, .ireturn, 1, 0, 0, 1, 0, []),
  (108, .aload_n 0, 1, 0, 0, 0, 0, []),
  (109, .iload 5, 2, 0, 0, 0, 0, []),
  (111, .putfield 37, 3, 0, 6, 4, 130, [(4, 1)]),
  (114, .aload_n 0, 1, 0, 0, 0, 0, []),
  (115, .dup, 1, 0, 0, 0, 0, []),
  (116, .getfield 17, 3, 0, 6, 2, 125, [(2, 1)]),
  (119, .iload 4, 2, 0, 0, 0, 0, []),
  (121, .iadd, 1, 0, 0, 0, 0, []),
  (122, .putfield 17, 3, 0, 6, 2, 125, [(2, 1)]),
  (125, .aload_n 0, 1, 0, 0, 0, 0, []),
  (126, .iload_n 3, 1, 0, 0, 0, 0, []),
  (127, .invokevirtual 27, 3, 0, 88, 1, 128, [(1, 0)]),
  (130, .ireturn, 1, 0, 0, 1, 0, [])]
def tX6_isFigure : List zR := [(0, .iload_n 0, 1, 0, 0, 0, 0, []),
  (1, .bipush 48, 2, 0, 48, 0, 0, []),
  (3, .if_icmp .lt 13, 3, 0, 16, 0, 0, []),
  (6, .iload_n 0, 1, 0, 0, 0, 0, []),
  (7, .bipush 57, 2, 0, 57, 0, 0, []),
  (9, .if_icmp .gt 7, 3, 0, 16, 0, 0, []),
  (12, .iconst 1, 1, 0, 1, 0, 0, []),
  (13, .goto 4, 3, 0, 17, 0, 0, []),
  (16, .iconst 0, 1, 0, 0, 0, 0, []),
  (17, .ireturn, 1, 0, 0, 1, 0, [])]
def tX6_readByte : List zR := [(0, .aload_n 0, 1, 0, 0, 0, 0, []),
  (1, .getfield 17, 3, 0, 6, 2, 125, [(2, 1)]),
  (4, .aload_n 0, 1, 0, 0, 0, 0, []),
  (5, .getfield 13, 3, 0, 6, 1, 124, [(1, 1)]),
  (8, .if_icmp .ge 16, 3, 0, 24, 0, 0, []),
  (11, .aload_n 0, 1, 0, 0, 0, 0, []),
  (12, .getfield 9, 3, 0, 6, 0, 123, [(0, 0)]),
  (15, .aload_n 0, 1, 0, 0, 0, 0, []),
  (16, .getfield 17, 3, 0, 6, 2, 125, [(2, 1)]),
  (19, .iaload, 1, 0, 0, 0, 0, []),
  (20, .iload_n 1, 1, 0, 0, 0, 0, []),
  (21, .if_icmp .eq 9, 3, 0, 30, 0, 0, []),
  (24, .aload_n 0, 1, 0, 0, 0, 0, []),
  (25, .iconst 1, 1, 0, 1, 0, 0, []),
  (26, .invokevirtual 52, 3, 0, 89, 1, 134, [(1, 0)]),
  (29, .ireturn, 1, 0, 0, 1, 0, []),
  (30, .aload_n 0, 1, 0, 0, 0, 0, []),
  (31, .dup, 1, 0, 0, 0, 0, []),
  (32, .getfield 17, 3, 0, 6, 2, 125, [(2, 1)]),
  (35, .iconst 1, 1, 0, 1, 0, 0, []),
  (36, .iadd, 1, 0, 0, 0, 0, []),
  (37, .putfield 17, 3, 0, 6, 2, 125, [(2, 1)]),
  (40, .iconst 1, 1, 0, 1, 0, 0, []),
  (41, .ireturn, 1, 0, 0, 1, 0, [])]
def tX6_fails : List zR := [(0, .aload_n 0, 1, 0, 0, 0, 0, []),
  (1, .iload_n 1, 1, 0, 0, 0, 0, []),
  (2, .putfield 81, 3, 0, 6, 3, 143, [(3, 1)]),
  (5, .iconst 0, 1, 0, 0, 0, 0, []),
  (6, .ireturn, 1, 0, 0, 1, 0, [])]
def tX7_init : List zR := [(0, .aload_n 0, 1, 0, 0, 0, 0, []),
  (1, .invokespecial 1, 3, 0, 0, 4, 144, []),
  (4, .aload_n 0, 1, 0, 0, 0, 0, []),
  (5, .new 7, 3, 0, 5, 0, 145, []),
  (8, .dup, 1, 0, 0, 0, 0, []),
  (9, .invokespecial 9, 3, 0, 69, 2, 146, [(0, 1)]),
  (12, .putfield 10, 3, 0, 7, 0, 147, [(0, 0)]),
  (15, .aload_n 0, 1, 0, 0, 0, 0, []),
  (16, .new 16, 3, 0, 6, 0, 148, []),
  (19, .dup, 1, 0, 0, 0, 0, []),
  (20, .invokespecial 18, 3, 0, 78, 3, 149, [(0, 1)]),
  (23, .putfield 19, 3, 0, 7, 1, 150, [(1, 0)]),
  (26, .aload_n 0, 1, 0, 0, 0, 0, []),
  (27, .new 23, 3, 0, 3, 0, 151, []),
  (30, .dup, 1, 0, 0, 0, 0, []),
  (31, .invokespecial 25, 3, 0, 40, 3, 152, [(0, 1)]),
  (34, .putfield 26, 3, 0, 7, 2, 153, [(2, 0)]),
  (37, .aload_n 0, 1, 0, 0, 0, 0, []),
  (38, .new 23, 3, 0, 3, 0, 151, []),
  (41, .dup, 1, 0, 0, 0, 0, []),
  (42, .invokespecial 25, 3, 0, 40, 3, 152, [(0, 1)]),
  (45, .putfield 30, 3, 0, 7, 3, 154, [(3, 0)]),
  (48, .aload_n 0, 1, 0, 0, 0, 0, []),
  (49, .new 33, 3, 0, 0, 0, 155, []),
  (52, .dup, 1, 0, 0, 0, 0, []),
  (53, .invokespecial 35, 3, 0, 0, 3, 156, [(0, 1)]),
  (56, .putfield 36, 3, 0, 7, 4, 157, [(4, 0)]),
  (59, .aload_n 0, 1, 0, 0, 0, 0, []),
  (60, .iconst 2, 1, 0, 2, 0, 0, []),
  (61, .anewarray 23, 3, 0, 0, 0, 151, []),
  (64, .putfield 40, 3, 0, 7, 5, 158, [(5, 0)]),
  (67, .aload_n 0, 1, 0, 0, 0, 0, []),
  (68, .new 44, 3, 0, 2, 0, 159, []),
  (71, .dup, 1, 0, 0, 0, 0, []),
  (72, .invokespecial 46, 3, 0, 12, 3, 160, [(0, 1)]),
  (75, .putfield 47, 3, 0, 7, 6, 161, [(6, 0)]),
  (78, .aload_n 0, 1, 0, 0, 0, 0, []),
  (79, .new 51, 3, 0, 4, 0, 162, []),
  (82, .dup, 1, 0, 0, 0, 0, []),
  (83, .invokespecial 53, 3, 0, 64, 3, 163, [(0, 1)]),
  (86, .putfield 54, 3, 0, 7, 7, 164, [(7, 0)]),
  (89, .aload_n 0, 1, 0, 0, 0, 0, []),
  (90, .new 58, 3, 0, 1, 0, 165, []),
  (93, .dup, 1, 0, 0, 0, 0, []),
  (94, .invokespecial 60, 3, 0, 5, 3, 166, [(0, 1)]),
  (97, .putfield 61, 3, 0, 7, 8, 167, [(8, 0)]),
  (100, .aload_n 0, 1, 0, 0, 0, 0, []),
  (101, .iconst 0, 1, 0, 0, 0, 0, []),
  (102, .putfield 65, 3, 0, 7, 9, 168, [(9, 1)]),
  (105, .return_, 1, 0, 0, 0, 0, [])]
def tX7_row : List zR := [(0, .iload_n 1, 1, 0, 0, 0, 0, []),
  (1, .invokestatic 69, 3, 0, 70, 0, 169, [(1, 0)]),
  (4, .ifCond .eq 16, 3, 0, 20, 0, 0, []),
  (7, .iload_n 2, 1, 0, 0, 0, 0, []),
  (8, .invokestatic 73, 3, 0, 71, 0, 170, [(1, 0)]),
  (11, .ifCond .eq 9, 3, 0, 20, 0, 0, []),
  (14, .iload_n 3, 1, 0, 0, 0, 0, []),
  (15, .bipush 40, 2, 0, 40, 0, 0, []),
  (17, .if_icmp .le 6, 3, 0, 23, 0, 0, []),
  (20, .ldc 76, 2, 0, 1000001, 1, 171, []),
  (22, .ireturn, 1, 0, 0, 0, 0, []),
  (23, .iload_n 3, 1, 0, 0, 0, 0, []),
  (24, .ifCond .ge 9, 3, 0, 33, 0, 0, []),
  (27, .aload_n 0, 1, 0, 0, 0, 0, []),
  (28, .iconst 4, 1, 0, 4, 0, 0, []),
  (29, .invokevirtual 77, 3, 0, 128, 1, 172, [(1, 0)]),
  (32, .ireturn, 1, 0, 0, 0, 0, []),
  (33, .aload_n 0, 1, 0, 0, 0, 0, []),
  (34, .getfield 10, 3, 0, 7, 0, 147, [(0, 0)]),
  (37, .iload_n 1, 1, 0, 0, 0, 0, []),
  (38, .iload_n 2, 1, 0, 0, 0, 0, []),
  (39, .iload_n 3, 1, 0, 0, 0, 0, []),
  (40, .invokevirtual 81, 3, 0, 74, 1, 173, [(3, 0)]),
  (43, .aload_n 0, 1, 0, 0, 0, 0, []),
  (44, .iload_n 3, 1, 0, 0, 0, 0, []),
  (45, .invokevirtual 85, 3, 0, 129, 1, 174, [(1, 0)]),
  (48, .ireturn, 1, 0, 0, 0, 0, [])]
def tX7_set : List zR := [(0, .iload_n 1, 1, 0, 0, 0, 0, []),
  (1, .invokestatic 69, 3, 0, 70, 0, 169, [(1, 0)]),
  (4, .ifCond .ne 6, 3, 0, 10, 0, 0, []),
  (7, .ldc 76, 2, 0, 1000001, 1, 171, []),
  (9, .ireturn, 1, 0, 0, 0, 0, []),
  (10, .aload_n 0, 1, 0, 0, 0, 0, []),
  (11, .getfield 10, 3, 0, 7, 0, 147, [(0, 0)]),
  (14, .iload_n 1, 1, 0, 0, 0, 0, []),
  (15, .invokevirtual 88, 3, 0, 72, 1, 175, [(1, 0)]),
  (18, .ifCond .eq 9, 3, 0, 27, 0, 0, []),
  (21, .aload_n 0, 1, 0, 0, 0, 0, []),
  (22, .iconst 1, 1, 0, 1, 0, 0, []),
  (23, .invokevirtual 77, 3, 0, 128, 1, 172, [(1, 0)]),
  (26, .ireturn, 1, 0, 0, 0, 0, []),
  (27, .aload_n 0, 1, 0, 0, 0, 0, []),
  (28, .getfield 10, 3, 0, 7, 0, 147, [(0, 0)]),
  (31, .iload_n 1, 1, 0, 0, 0, 0, []),
  (32, .iload_n 2, 1, 0, 0, 0, 0, []),
  (33, .iconst 1, 1, 0, 1, 0, 0, []),
  (34, .invokevirtual 91, 3, 0, 73, 1, 176, [(3, 0)]),
  (37, .ifCond .ne 9, 3, 0, 46, 0, 0, []),
  (40, .aload_n 0, 1, 0, 0, 0, 0, []),
  (41, .iconst 2, 1, 0, 2, 0, 0, []),
  (42, .invokevirtual 77, 3, 0, 128, 1, 172, [(1, 0)]),
  (45, .ireturn, 1, 0, 0, 0, 0, []),
  (46, .aload_n 0, 1, 0, 0, 0, 0, []),
  (47, .aload_n 0, 1, 0, 0, 0, 0, []),
  (48, .getfield 10, 3, 0, 7, 0, 147, [(0, 0)]),
  (51, .iload_n 1, 1, 0, 0, 0, 0, []),
  (52, .iload_n 2, 1, 0, 0, 0, 0, []),
  (53, .iload_n 3, 1, 0, 0, 0, 0, []),
  (54, .invokevirtual 95, 3, 0, 75, 1, 177, [(3, 0)]),
  (57, .invokevirtual 85, 3, 0, 129, 1, 174, [(1, 0)]),
  (60, .ireturn, 1, 0, 0, 0, 0, [])]
def tX7_copy : List zR := [(0, .iload_n 1, 1, 0, 0, 0, 0, []),
  (1, .invokestatic 69, 3, 0, 70, 0, 169, [(1, 0)]),
  (4, .ifCond .eq 10, 3, 0, 14, 0, 0, []),
  (7, .iload_n 3, 1, 0, 0, 0, 0, []),
  (8, .invokestatic 69, 3, 0, 70, 0, 169, [(1, 0)]),
  (11, .ifCond .ne 6, 3, 0, 17, 0, 0, []),
  (14, .ldc 76, 2, 0, 1000001, 1, 171, []),
  (16, .ireturn, 1, 0, 0, 0, 0, []),
  (17, .aload_n 0, 1, 0, 0, 0, 0, []),
  (18, .getfield 10, 3, 0, 7, 0, 147, [(0, 0)]),
  (21, .iload_n 1, 1, 0, 0, 0, 0, []),
  (22, .invokevirtual 88, 3, 0, 72, 1, 175, [(1, 0)]),
  (25, .ifCond .ne 14, 3, 0, 39, 0, 0, []),
  (28, .aload_n 0, 1, 0, 0, 0, 0, []),
  (29, .getfield 10, 3, 0, 7, 0, 147, [(0, 0)]),
  (32, .iload_n 3, 1, 0, 0, 0, 0, []),
  (33, .invokevirtual 88, 3, 0, 72, 1, 175, [(1, 0)]),
  (36, .ifCond .eq 9, 3, 0, 45, 0, 0, []),
  (39, .aload_n 0, 1, 0, 0, 0, 0, []),
  (40, .iconst 1, 1, 0, 1, 0, 0, []),
  (41, .invokevirtual 77, 3, 0, 128, 1, 172, [(1, 0)]),
  (44, .ireturn, 1, 0, 0, 0, 0, []),
  (45, .aload_n 0, 1, 0, 0, 0, 0, []),
  (46, .getfield 10, 3, 0, 7, 0, 147, [(0, 0)]),
  (49, .getfield 99, 3, 0, 5, 0, 178, [(0, 0)]),
  (52, .iload_n 1, 1, 0, 0, 0, 0, []),
  (53, .iaload, 1, 0, 0, 0, 0, []),
  (54, .aload_n 0, 1, 0, 0, 0, 0, []),
  (55, .getfield 10, 3, 0, 7, 0, 147, [(0, 0)]),
  (58, .getfield 99, 3, 0, 5, 0, 178, [(0, 0)]),
  (61, .iload_n 3, 1, 0, 0, 0, 0, []),
  (62, .iaload, 1, 0, 0, 0, 0, []),
  (63, .if_icmp .eq 9, 3, 0, 72, 0, 0, []),
  (66, .aload_n 0, 1, 0, 0, 0, 0, []),
  (67, .iconst 5, 1, 0, 5, 0, 0, []),
  (68, .invokevirtual 77, 3, 0, 128, 1, 172, [(1, 0)]),
  (71, .ireturn, 1, 0, 0, 0, 0, []),
  (72, .aload_n 0, 1, 0, 0, 0, 0, []),
  (73, .getfield 10, 3, 0, 7, 0, 147, [(0, 0)]),
  (76, .iload_n 1, 1, 0, 0, 0, 0, []),
  (77, .iload_n 2, 1, 0, 0, 0, 0, []),
  (78, .iload 5, 2, 0, 0, 0, 0, []),
  (80, .invokevirtual 91, 3, 0, 73, 1, 176, [(3, 0)]),
  (83, .ifCond .eq 18, 3, 0, 101, 0, 0, []),
  (86, .aload_n 0, 1, 0, 0, 0, 0, []),
  (87, .getfield 10, 3, 0, 7, 0, 147, [(0, 0)]),
  (90, .iload_n 3, 1, 0, 0, 0, 0, []),
  (91, .iload 4, 2, 0, 0, 0, 0, []),
  (93, .iload 5, 2, 0, 0, 0, 0, []),
  (95, .invokevirtual 91, 3, 0, 73, 1, 176, [(3, 0)]),
  (98, .ifCond .ne 9, 3, 0, 107, 0, 0, []),
  (101, .aload_n 0, 1, 0, 0, 0, 0, []),
  (102, .iconst 2, 1, 0, 2, 0, 0, []),
  (103, .invokevirtual 77, 3, 0, 128, 1, 172, [(1, 0)]),
  (106, .ireturn, 1, 0, 0, 0, 0, []),
  (107, .aload_n 0, 1, 0, 0, 0, 0, []),
  (108, .getfield 10, 3, 0, 7, 0, 147, [(0, 0)]),
  (111, .getfield 103, 3, 0, 5, 2, 179, [(2, 0)]),
  (114, .iload_n 1, 1, 0, 0, 0, 0, []),
  (115, .aaload, 1, 0, 0, 0, 0, []),
  (116, .iload_n 2, 1, 0, 0, 0, 0, []),
  (117, .aload_n 0, 1, 0, 0, 0, 0, []),
  (118, .getfield 10, 3, 0, 7, 0, 147, [(0, 0)]),
  (121, .getfield 103, 3, 0, 5, 2, 179, [(2, 0)]),
  (124, .iload_n 3, 1, 0, 0, 0, 0, []),
  (125, .aaload, 1, 0, 0, 0, 0, []),
  (126, .iload 4, 2, 0, 0, 0, 0, []),
  (128, .iload 5, 2, 0, 0, 0, 0, []),
  (130, .invokestatic 107, 3, 0, 0, 5, 180, []),
  (133, .aload_n 0, 1, 0, 0, 0, 0, []),
  (134, .iload 5, 2, 0, 0, 0, 0, []),
  (136, .invokevirtual 85, 3, 0, 129, 1, 174, [(1, 0)]),
  (139, .ireturn, 1, 0, 0, 0, 0, [])]
def tX7_drop : List zR := [(0, .iload_n 1, 1, 0, 0, 0, 0, []),
  (1, .invokestatic 69, 3, 0, 70, 0, 169, [(1, 0)]),
  (4, .ifCond .ne 6, 3, 0, 10, 0, 0, []),
  (7, .ldc 76, 2, 0, 1000001, 1, 171, []),
  (9, .ireturn, 1, 0, 0, 0, 0, []),
  (10, .aload_n 0, 1, 0, 0, 0, 0, []),
  (11, .getfield 10, 3, 0, 7, 0, 147, [(0, 0)]),
  (14, .iload_n 1, 1, 0, 0, 0, 0, []),
  (15, .invokevirtual 88, 3, 0, 72, 1, 175, [(1, 0)]),
  (18, .ifCond .eq 9, 3, 0, 27, 0, 0, []),
  (21, .aload_n 0, 1, 0, 0, 0, 0, []),
  (22, .iconst 1, 1, 0, 1, 0, 0, []),
  (23, .invokevirtual 77, 3, 0, 128, 1, 172, [(1, 0)]),
  (26, .ireturn, 1, 0, 0, 0, 0, []),
  (27, .aload_n 0, 1, 0, 0, 0, 0, []),
  (28, .aload_n 0, 1, 0, 0, 0, 0, []),
  (29, .getfield 10, 3, 0, 7, 0, 147, [(0, 0)]),
  (32, .iload_n 1, 1, 0, 0, 0, 0, []),
  (33, .invokevirtual 113, 3, 0, 76, 1, 181, [(1, 0)]),
  (36, .invokevirtual 85, 3, 0, 129, 1, 174, [(1, 0)]),
  (39, .ireturn, 1, 0, 0, 0, 0, [])]
def tX7_feed : List zR := [(0, .iload_n 1, 1, 0, 0, 0, 0, []),
  (1, .ifCond .lt 10, 3, 0, 11, 0, 0, []),
  (4, .iload_n 1, 1, 0, 0, 0, 0, []),
  (5, .sipush 255, 3, 0, 255, 0, 0, []),
  (8, .if_icmp .le 6, 3, 0, 14, 0, 0, []),
  (11, .ldc 76, 2, 0, 1000001, 1, 171, []),
  (13, .ireturn, 1, 0, 0, 0, 0, []),
  (14, .aload_n 0, 1, 0, 0, 0, 0, []),
  (15, .getfield 19, 3, 0, 7, 1, 150, [(1, 0)]),
  (18, .invokevirtual 116, 3, 0, 79, 1, 182, [(0, 0)]),
  (21, .ifCond .eq 8, 3, 0, 29, 0, 0, []),
  (24, .ldc 120, 2, 0, 1000003, 1, 183, []),
  (26, .goto 11, 3, 0, 37, 0, 0, []),
  (29, .aload_n 0, 1, 0, 0, 0, 0, []),
  (30, .getfield 19, 3, 0, 7, 1, 150, [(1, 0)]),
  (33, .iload_n 1, 1, 0, 0, 0, 0, []),
  (34, .invokevirtual 121, 3, 0, 80, 1, 184, [(1, 0)]),
  (37, .ireturn, 1, 0, 0, 0, 0, [])]
def tX7_house : List zR := [(0, .aload_n 0, 1, 0, 0, 0, 0, []),
  (1, .getfield 19, 3, 0, 7, 1, 150, [(1, 0)]),
  (4, .aload_n 0, 1, 0, 0, 0, 0, []),
  (5, .getfield 30, 3, 0, 7, 3, 154, [(3, 0)]),
  (8, .invokevirtual 124, 3, 0, 81, 1, 185, [(1, 0)]),
  (11, .ifCond .ne 14, 3, 0, 25, 0, 0, []),
  (14, .ldc 128, 2, 0, 1000100, 1, 186, []),
  (16, .aload_n 0, 1, 0, 0, 0, 0, []),
  (17, .getfield 19, 3, 0, 7, 1, 150, [(1, 0)]),
  (20, .getfield 129, 3, 0, 6, 2, 187, [(2, 1)]),
  (23, .isub, 1, 0, 0, 0, 0, []),
  (24, .ireturn, 1, 0, 0, 0, 0, []),
  (25, .aload_n 0, 1, 0, 0, 0, 0, []),
  (26, .getfield 26, 3, 0, 7, 2, 153, [(2, 0)]),
  (29, .aload_n 0, 1, 0, 0, 0, 0, []),
  (30, .getfield 30, 3, 0, 7, 3, 154, [(3, 0)]),
  (33, .invokevirtual 132, 3, 0, 42, 1, 188, [(1, 0)]),
  (36, .aload_n 0, 1, 0, 0, 0, 0, []),
  (37, .getfield 36, 3, 0, 7, 4, 157, [(4, 0)]),
  (40, .invokevirtual 136, 3, 0, 2, 1, 189, [(0, 0)]),
  (43, .aload_n 0, 1, 0, 0, 0, 0, []),
  (44, .getfield 26, 3, 0, 7, 2, 153, [(2, 0)]),
  (47, .getfield 139, 3, 0, 3, 0, 190, [(6, 1)]),
  (50, .ireturn, 1, 0, 0, 0, 0, [])]
def tX7_fault : List zR := [(0, .aload_n 0, 1, 0, 0, 0, 0, []),
  (1, .getfield 19, 3, 0, 7, 1, 150, [(1, 0)]),
  (4, .getfield 142, 3, 0, 6, 3, 191, [(3, 1)]),
  (7, .ireturn, 1, 0, 0, 0, 0, [])]
def tX7_undo : List zR := [(0, .aload_n 0, 1, 0, 0, 0, 0, []),
  (1, .getfield 36, 3, 0, 7, 4, 157, [(4, 0)]),
  (4, .invokevirtual 145, 3, 0, 1, 1, 192, [(0, 0)]),
  (7, .ifCond .eq 8, 3, 0, 15, 0, 0, []),
  (10, .ldc 148, 2, 0, 1000002, 1, 193, []),
  (12, .goto 14, 3, 0, 26, 0, 0, []),
  (15, .aload_n 0, 1, 0, 0, 0, 0, []),
  (16, .getfield 36, 3, 0, 7, 4, 157, [(4, 0)]),
  (19, .aload_n 0, 1, 0, 0, 0, 0, []),
  (20, .getfield 26, 3, 0, 7, 2, 153, [(2, 0)]),
  (23, .invokevirtual 149, 3, 0, 4, 1, 194, [(1, 0)]),
  (26, .ireturn, 1, 0, 0, 0, 0, [])]
def tX7_minutes : List zR := [(0, .aload_n 0, 1, 0, 0, 0, 0, []),
  (1, .getfield 26, 3, 0, 7, 2, 153, [(2, 0)]),
  (4, .invokevirtual 153, 3, 0, 44, 1, 195, [(0, 0)]),
  (7, .ifCond .ne 6, 3, 0, 13, 0, 0, []),
  (10, .ldc 148, 2, 0, 1000002, 1, 193, []),
  (12, .ireturn, 1, 0, 0, 0, 0, []),
  (13, .iload_n 1, 1, 0, 0, 0, 0, []),
  (14, .iconst 1, 1, 0, 1, 0, 0, []),
  (15, .if_icmp .lt 9, 3, 0, 24, 0, 0, []),
  (18, .iload_n 1, 1, 0, 0, 0, 0, []),
  (19, .bipush 24, 2, 0, 24, 0, 0, []),
  (21, .if_icmp .le 6, 3, 0, 27, 0, 0, []),
  (24, .ldc 76, 2, 0, 1000001, 1, 171, []),
  (26, .ireturn, 1, 0, 0, 0, 0, []),
  (27, .aload_n 0, 1, 0, 0, 0, 0, []),
  (28, .getfield 26, 3, 0, 7, 2, 153, [(2, 0)]),
  (31, .getfield 156, 3, 0, 3, 6, 196, [(3, 1)]),
  (34, .iload_n 1, 1, 0, 0, 0, 0, []),
  (35, .iadd, 1, 0, 0, 0, 0, []),
  (36, .sipush 999, 3, 0, 999, 0, 0, []),
  (39, .if_icmp .le 6, 3, 0, 45, 0, 0, []),
  (42, .ldc 120, 2, 0, 1000003, 1, 183, []),
  (44, .ireturn, 1, 0, 0, 0, 0, []),
  (45, .iconst 0, 1, 0, 0, 0, 0, []),
  (46, .istore_n 2, 1, 0, 0, 0, 0, []),
  (47, .iload_n 2, 1, 1, 0, 0, 0, []),
  (48, .iload_n 1, 1, 0, 0, 0, 0, []),
  (49, .if_icmp .ge 31, 3, 0, 80, 0, 0, []),
  (52, .aload_n 0, 1, 0, 0, 0, 0, []),
  (53, .getfield 36, 3, 0, 7, 4, 157, [(4, 0)]),
  (56, .aload_n 0, 1, 0, 0, 0, 0, []),
  (57, .getfield 26, 3, 0, 7, 2, 153, [(2, 0)]),
  (60, .invokevirtual 159, 3, 0, 3, 1, 197, [(1, 1)]),
  (63, .aload_n 0, 1, 0, 0, 0, 0, []),
  (64, .getfield 26, 3, 0, 7, 2, 153, [(2, 0)]),
  (67, .getstatic 162, 3, 0, 4000, 0, 198, []),
  (70, .iconst 0, 1, 0, 0, 0, 0, []),
  (71, .invokevirtual 165, 3, 0, 55, 1, 199, [(2, 0)]),
  (74, .iinc 2 1, 3, 0, 1, 0, 0, []),
  (77, .goto (-30), 3, 0, 47, 0, 0, []),
  (80, .aload_n 0, 1, 0, 0, 0, 0, []),
  (81, .getfield 26, 3, 0, 7, 2, 153, [(2, 0)]),
  (84, .invokevirtual 169, 3, 0, 49, 1, 200, [(0, 0)]),
  (87, .ireturn, 1, 0, 0, 0, 0, [])]
def tX7_pull : List zR := [(0, .aload_n 0, 1, 0, 0, 0, 0, []),
  (1, .getfield 26, 3, 0, 7, 2, 153, [(2, 0)]),
  (4, .iload_n 1, 1, 0, 0, 0, 0, []),
  (5, .invokevirtual 173, 3, 0, 46, 1, 201, [(1, 0)]),
  (8, .ifCond .ne 6, 3, 0, 14, 0, 0, []),
  (11, .ldc 76, 2, 0, 1000001, 1, 171, []),
  (13, .ireturn, 1, 0, 0, 0, 0, []),
  (14, .aload_n 0, 1, 0, 0, 0, 0, []),
  (15, .getfield 26, 3, 0, 7, 2, 153, [(2, 0)]),
  (18, .getfield 176, 3, 0, 3, 4, 202, [(4, 1)]),
  (21, .iload_n 1, 1, 0, 0, 0, 0, []),
  (22, .if_icmp .ne 6, 3, 0, 28, 0, 0, []),
  (25, .ldc 148, 2, 0, 1000002, 1, 193, []),
  (27, .ireturn, 1, 0, 0, 0, 0, []),
  (28, .aload_n 0, 1, 0, 0, 0, 0, []),
  (29, .getfield 36, 3, 0, 7, 4, 157, [(4, 0)]),
  (32, .aload_n 0, 1, 0, 0, 0, 0, []),
  (33, .getfield 26, 3, 0, 7, 2, 153, [(2, 0)]),
  (36, .invokevirtual 159, 3, 0, 3, 1, 197, [(1, 1)]),
  (39, .aload_n 0, 1, 0, 0, 0, 0, []),
  (40, .getfield 26, 3, 0, 7, 2, 153, [(2, 0)]),
  (43, .getfield 176, 3, 0, 3, 4, 202, [(4, 1)]),
  (46, .istore_n 2, 1, 0, 0, 0, 0, []),
  (47, .aload_n 0, 1, 0, 0, 0, 0, []),
  (48, .getfield 26, 3, 0, 7, 2, 153, [(2, 0)]),
  (51, .iload_n 1, 1, 0, 0, 0, 0, []),
  (52, .putfield 176, 3, 0, 3, 4, 202, [(4, 1)]),
  (55, .iload_n 2, 1, 0, 0, 0, 0, []),
  (56, .ireturn, 1, 0, 0, 0, 0, [])]
def tX7_rope : List zR := [(0, .aload_n 0, 1, 0, 0, 0, 0, []),
  (1, .getfield 26, 3, 0, 7, 2, 153, [(2, 0)]),
  (4, .invokevirtual 153, 3, 0, 44, 1, 195, [(0, 0)]),
  (7, .ifCond .ne 6, 3, 0, 13, 0, 0, []),
  (10, .ldc 148, 2, 0, 1000002, 1, 193, []),
  (12, .ireturn, 1, 0, 0, 0, 0, []),
  (13, .iload_n 1, 1, 0, 0, 0, 0, []),
  (14, .iconst 1, 1, 0, 1, 0, 0, []),
  (15, .if_icmp .lt 9, 3, 0, 24, 0, 0, []),
  (18, .iload_n 1, 1, 0, 0, 0, 0, []),
  (19, .bipush 40, 2, 0, 40, 0, 0, []),
  (21, .if_icmp .le 6, 3, 0, 27, 0, 0, []),
  (24, .ldc 76, 2, 0, 1000001, 1, 171, []),
  (26, .ireturn, 1, 0, 0, 0, 0, []),
  (27, .aload_n 0, 1, 0, 0, 0, 0, []),
  (28, .getfield 36, 3, 0, 7, 4, 157, [(4, 0)]),
  (31, .aload_n 0, 1, 0, 0, 0, 0, []),
  (32, .getfield 26, 3, 0, 7, 2, 153, [(2, 0)]),
  (35, .invokevirtual 159, 3, 0, 3, 1, 197, [(1, 1)]),
  (38, .aload_n 0, 1, 0, 0, 0, 0, []),
  (39, .getfield 26, 3, 0, 7, 2, 153, [(2, 0)]),
  (42, .getfield 179, 3, 0, 3, 3, 203, [(2, 1)]),
  (45, .istore_n 2, 1, 0, 0, 0, 0, []),
  (46, .aload_n 0, 1, 0, 0, 0, 0, []),
  (47, .getfield 26, 3, 0, 7, 2, 153, [(2, 0)]),
  (50, .iload_n 1, 1, 0, 0, 0, 0, []),
  (51, .putfield 179, 3, 0, 3, 3, 203, [(2, 1)]),
  (54, .iload_n 2, 1, 0, 0, 0, 0, []),
  (55, .ireturn, 1, 0, 0, 0, 0, [])]
def tX7_room : List zR := [(0, .aload_n 0, 1, 0, 0, 0, 0, []),
  (1, .getfield 26, 3, 0, 7, 2, 153, [(2, 0)]),
  (4, .invokevirtual 153, 3, 0, 44, 1, 195, [(0, 0)]),
  (7, .ifCond .ne 6, 3, 0, 13, 0, 0, []),
  (10, .ldc 148, 2, 0, 1000002, 1, 193, []),
  (12, .ireturn, 1, 0, 0, 0, 0, []),
  (13, .iload_n 1, 1, 0, 0, 0, 0, []),
  (14, .iconst 1, 1, 0, 1, 0, 0, []),
  (15, .if_icmp .lt 8, 3, 0, 23, 0, 0, []),
  (18, .iload_n 1, 1, 0, 0, 0, 0, []),
  (19, .iconst 4, 1, 0, 4, 0, 0, []),
  (20, .if_icmp .le 6, 3, 0, 26, 0, 0, []),
  (23, .ldc 76, 2, 0, 1000001, 1, 171, []),
  (25, .ireturn, 1, 0, 0, 0, 0, []),
  (26, .aload_n 0, 1, 0, 0, 0, 0, []),
  (27, .getfield 36, 3, 0, 7, 4, 157, [(4, 0)]),
  (30, .aload_n 0, 1, 0, 0, 0, 0, []),
  (31, .getfield 26, 3, 0, 7, 2, 153, [(2, 0)]),
  (34, .invokevirtual 159, 3, 0, 3, 1, 197, [(1, 1)]),
  (37, .aload_n 0, 1, 0, 0, 0, 0, []),
  (38, .getfield 26, 3, 0, 7, 2, 153, [(2, 0)]),
  (41, .getfield 182, 3, 0, 3, 2, 204, [(1, 1)]),
  (44, .istore_n 2, 1, 0, 0, 0, 0, []),
  (45, .aload_n 0, 1, 0, 0, 0, 0, []),
  (46, .getfield 26, 3, 0, 7, 2, 153, [(2, 0)]),
  (49, .iload_n 1, 1, 0, 0, 0, 0, []),
  (50, .putfield 182, 3, 0, 3, 2, 204, [(1, 1)]),
  (53, .iload_n 2, 1, 0, 0, 0, 0, []),
  (54, .ireturn, 1, 0, 0, 0, 0, [])]
def tX7_send : List zR := [(0, .aload_n 0, 1, 0, 0, 0, 0, []),
  (1, .getfield 26, 3, 0, 7, 2, 153, [(2, 0)]),
  (4, .iload_n 1, 1, 0, 0, 0, 0, []),
  (5, .invokevirtual 185, 3, 0, 45, 1, 205, [(1, 0)]),
  (8, .ifCond .eq 24, 3, 0, 32, 0, 0, []),
  (11, .aload_n 0, 1, 0, 0, 0, 0, []),
  (12, .getfield 26, 3, 0, 7, 2, 153, [(2, 0)]),
  (15, .iload_n 2, 1, 0, 0, 0, 0, []),
  (16, .invokevirtual 173, 3, 0, 46, 1, 201, [(1, 0)]),
  (19, .ifCond .eq 13, 3, 0, 32, 0, 0, []),
  (22, .iload_n 3, 1, 0, 0, 0, 0, []),
  (23, .ifCond .lt 9, 3, 0, 32, 0, 0, []),
  (26, .iload_n 3, 1, 0, 0, 0, 0, []),
  (27, .bipush 60, 2, 0, 60, 0, 0, []),
  (29, .if_icmp .le 6, 3, 0, 35, 0, 0, []),
  (32, .ldc 76, 2, 0, 1000001, 1, 171, []),
  (34, .ireturn, 1, 0, 0, 0, 0, []),
  (35, .aload_n 0, 1, 0, 0, 0, 0, []),
  (36, .getfield 26, 3, 0, 7, 2, 153, [(2, 0)]),
  (39, .getfield 188, 3, 0, 3, 41, 206, [(8, 0)]),
  (42, .iload_n 1, 1, 0, 0, 0, 0, []),
  (43, .iaload, 1, 0, 0, 0, 0, []),
  (44, .bipush 11, 2, 0, 11, 0, 0, []),
  (46, .if_icmp .ne 16, 3, 0, 62, 0, 0, []),
  (49, .aload_n 0, 1, 0, 0, 0, 0, []),
  (50, .getfield 26, 3, 0, 7, 2, 153, [(2, 0)]),
  (53, .getfield 191, 3, 0, 3, 42, 207, [(9, 0)]),
  (56, .iload_n 1, 1, 0, 0, 0, 0, []),
  (57, .iaload, 1, 0, 0, 0, 0, []),
  (58, .iload_n 2, 1, 0, 0, 0, 0, []),
  (59, .if_icmp .ne 6, 3, 0, 65, 0, 0, []),
  (62, .ldc 148, 2, 0, 1000002, 1, 193, []),
  (64, .ireturn, 1, 0, 0, 0, 0, []),
  (65, .aload_n 0, 1, 0, 0, 0, 0, []),
  (66, .getfield 36, 3, 0, 7, 4, 157, [(4, 0)]),
  (69, .aload_n 0, 1, 0, 0, 0, 0, []),
  (70, .getfield 26, 3, 0, 7, 2, 153, [(2, 0)]),
  (73, .invokevirtual 159, 3, 0, 3, 1, 197, [(1, 1)]),
  (76, .aload_n 0, 1, 0, 0, 0, 0, []),
  (77, .getfield 26, 3, 0, 7, 2, 153, [(2, 0)]),
  (80, .iload_n 1, 1, 0, 0, 0, 0, []),
  (81, .iload_n 2, 1, 0, 0, 0, 0, []),
  (82, .iload_n 3, 1, 0, 0, 0, 0, []),
  (83, .invokevirtual 194, 3, 0, 54, 1, 208, [(3, 0)]),
  (86, .aload_n 0, 1, 0, 0, 0, 0, []),
  (87, .getfield 26, 3, 0, 7, 2, 153, [(2, 0)]),
  (90, .invokevirtual 169, 3, 0, 49, 1, 200, [(0, 0)]),
  (93, .ireturn, 1, 0, 0, 0, 0, [])]
def tX7_dish : List zR := [(0, .aload_n 0, 1, 0, 0, 0, 0, []),
  (1, .getfield 26, 3, 0, 7, 2, 153, [(2, 0)]),
  (4, .iload_n 1, 1, 0, 0, 0, 0, []),
  (5, .invokevirtual 185, 3, 0, 45, 1, 205, [(1, 0)]),
  (8, .ifCond .ne 6, 3, 0, 14, 0, 0, []),
  (11, .ldc 76, 2, 0, 1000001, 1, 171, []),
  (13, .ireturn, 1, 0, 0, 0, 0, []),
  (14, .iload_n 2, 1, 0, 0, 0, 0, []),
  (15, .tableswitch 90 0 4 #[33, 43, 53, 63, 73], 33, 0, 105, 0, 0, [(0, 48), (1, 58), (2, 68), (3, 78), (4, 88)]),
  (48, .aload_n 0, 1, 0, 0, 0, 0, []),
  (49, .getfield 26, 3, 0, 7, 2, 153, [(2, 0)]),
  (52, .getfield 188, 3, 0, 3, 41, 206, [(8, 0)]),
  (55, .iload_n 1, 1, 0, 0, 0, 0, []),
  (56, .iaload, 1, 0, 0, 0, 0, []),
  (57, .ireturn, 1, 0, 0, 0, 0, []),
  (58, .aload_n 0, 1, 0, 0, 0, 0, []),
  (59, .getfield 26, 3, 0, 7, 2, 153, [(2, 0)]),
  (62, .getfield 191, 3, 0, 3, 42, 207, [(9, 0)]),
  (65, .iload_n 1, 1, 0, 0, 0, 0, []),
  (66, .iaload, 1, 0, 0, 0, 0, []),
  (67, .ireturn, 1, 0, 0, 0, 0, []),
  (68, .aload_n 0, 1, 0, 0, 0, 0, []),
  (69, .getfield 26, 3, 0, 7, 2, 153, [(2, 0)]),
  (72, .getfield 197, 3, 0, 3, 43, 209, [(10, 0)]),
  (75, .iload_n 1, 1, 0, 0, 0, 0, []),
  (76, .iaload, 1, 0, 0, 0, 0, []),
  (77, .ireturn, 1, 0, 0, 0, 0, []),
  (78, .aload_n 0, 1, 0, 0, 0, 0, []),
  (79, .getfield 26, 3, 0, 7, 2, 153, [(2, 0)]),
  (82, .getfield 200, 3, 0, 3, 44, 210, [(11, 0)]),
  (85, .iload_n 1, 1, 0, 0, 0, 0, []),
  (86, .iaload, 1, 0, 0, 0, 0, []),
  (87, .ireturn, 1, 0, 0, 0, 0, []),
  (88, .aload_n 0, 1, 0, 0, 0, 0, []),
  (89, .getfield 26, 3, 0, 7, 2, 153, [(2, 0)]),
  (92, .iload_n 1, 1, 0, 0, 0, 0, []),
  (93, .invokevirtual 203, 3, 0, 51, 1, 211, [(1, 0)]),
  (96, .ifCond .eq 7, 3, 0, 103, 0, 0, []),
  (99, .iconst 1, 1, 0, 1, 0, 0, []),
  (100, .goto 4, 3, 0, 104, 0, 0, []),
  (103, .iconst 0, 1, 0, 0, 0, 0, []),
  (104, .ireturn, 1, 0, 0, 0, 0, []),
  (105, .ldc 76, 2, 0, 1000001, 1, 171, []),
  (107, .ireturn, 1, 0, 0, 0, 0, [])]
def tX7_car : List zR := [(0, .aload_n 0, 1, 0, 0, 0, 0, []),
  (1, .getfield 26, 3, 0, 7, 2, 153, [(2, 0)]),
  (4, .invokevirtual 153, 3, 0, 44, 1, 195, [(0, 0)]),
  (7, .ifCond .ne 6, 3, 0, 13, 0, 0, []),
  (10, .ldc 148, 2, 0, 1000002, 1, 193, []),
  (12, .ireturn, 1, 0, 0, 0, 0, []),
  (13, .iload_n 1, 1, 0, 0, 0, 0, []),
  (14, .tableswitch 133 0 8 #[50, 58, 66, 74, 82, 90, 100, 108, 116], 50, 0, 147, 0, 0, [(0, 64), (1, 72), (2, 80), (3, 88), (4, 96), (5, 104), (6, 114), (7, 122), (8, 130)]),
  (64, .aload_n 0, 1, 0, 0, 0, 0, []),
  (65, .getfield 26, 3, 0, 7, 2, 153, [(2, 0)]),
  (68, .getfield 206, 3, 0, 3, 1, 212, [(0, 1)]),
  (71, .ireturn, 1, 0, 0, 0, 0, []),
  (72, .aload_n 0, 1, 0, 0, 0, 0, []),
  (73, .getfield 26, 3, 0, 7, 2, 153, [(2, 0)]),
  (76, .getfield 176, 3, 0, 3, 4, 202, [(4, 1)]),
  (79, .ireturn, 1, 0, 0, 0, 0, []),
  (80, .aload_n 0, 1, 0, 0, 0, 0, []),
  (81, .getfield 26, 3, 0, 7, 2, 153, [(2, 0)]),
  (84, .getfield 209, 3, 0, 3, 5, 213, [(5, 1)]),
  (87, .ireturn, 1, 0, 0, 0, 0, []),
  (88, .aload_n 0, 1, 0, 0, 0, 0, []),
  (89, .getfield 26, 3, 0, 7, 2, 153, [(2, 0)]),
  (92, .getfield 182, 3, 0, 3, 2, 204, [(1, 1)]),
  (95, .ireturn, 1, 0, 0, 0, 0, []),
  (96, .aload_n 0, 1, 0, 0, 0, 0, []),
  (97, .getfield 26, 3, 0, 7, 2, 153, [(2, 0)]),
  (100, .getfield 179, 3, 0, 3, 3, 203, [(2, 1)]),
  (103, .ireturn, 1, 0, 0, 0, 0, []),
  (104, .aload_n 0, 1, 0, 0, 0, 0, []),
  (105, .getfield 26, 3, 0, 7, 2, 153, [(2, 0)]),
  (108, .bipush 10, 2, 0, 10, 0, 0, []),
  (110, .invokevirtual 212, 3, 0, 48, 1, 214, [(1, 0)]),
  (113, .ireturn, 1, 0, 0, 0, 0, []),
  (114, .aload_n 0, 1, 0, 0, 0, 0, []),
  (115, .getfield 26, 3, 0, 7, 2, 153, [(2, 0)]),
  (118, .invokevirtual 169, 3, 0, 49, 1, 200, [(0, 0)]),
  (121, .ireturn, 1, 0, 0, 0, 0, []),
  (122, .aload_n 0, 1, 0, 0, 0, 0, []),
  (123, .getfield 26, 3, 0, 7, 2, 153, [(2, 0)]),
  (126, .invokevirtual 215, 3, 0, 58, 1, 215, [(0, 0)]),
  (129, .ireturn, 1, 0, 0, 0, 0, []),
  (130, .aload_n 0, 1, 0, 0, 0, 0, []),
  (131, .getfield 26, 3, 0, 7, 2, 153, [(2, 0)]),
  (134, .aload_n 0, 1, 0, 0, 0, 0, []),
  (135, .getfield 26, 3, 0, 7, 2, 153, [(2, 0)]),
  (138, .bipush 10, 2, 0, 10, 0, 0, []),
  (140, .invokevirtual 212, 3, 0, 48, 1, 214, [(1, 0)]),
  (143, .invokevirtual 218, 3, 0, 52, 1, 216, [(1, 0)]),
  (146, .ireturn, 1, 0, 0, 0, 0, []),
  (147, .ldc 76, 2, 0, 1000001, 1, 171, []),
  (149, .ireturn, 1, 0, 0, 0, 0, [])]
def tX7_ahead : List zR := [(0, .aload_n 0, 1, 0, 0, 0, 0, []),
  (1, .getfield 26, 3, 0, 7, 2, 153, [(2, 0)]),
  (4, .iload_n 1, 1, 0, 0, 0, 0, []),
  (5, .invokevirtual 185, 3, 0, 45, 1, 205, [(1, 0)]),
  (8, .ifCond .eq 22, 3, 0, 30, 0, 0, []),
  (11, .iload_n 2, 1, 0, 0, 0, 0, []),
  (12, .iconst 0, 1, 0, 0, 0, 0, []),
  (13, .bipush 60, 2, 0, 60, 0, 0, []),
  (15, .invokestatic 221, 3, 0, 130, 0, 217, [(3, 0)]),
  (18, .ifCond .ne 12, 3, 0, 30, 0, 0, []),
  (21, .iload_n 3, 1, 0, 0, 0, 0, []),
  (22, .iconst 0, 1, 0, 0, 0, 0, []),
  (23, .iconst 2, 1, 0, 2, 0, 0, []),
  (24, .invokestatic 221, 3, 0, 130, 0, 217, [(3, 0)]),
  (27, .ifCond .eq 6, 3, 0, 33, 0, 0, []),
  (30, .ldc 76, 2, 0, 1000001, 1, 171, []),
  (32, .ireturn, 1, 0, 0, 0, 0, []),
  (33, .aload_n 0, 1, 0, 0, 0, 0, []),
  (34, .getfield 47, 3, 0, 7, 6, 161, [(6, 0)]),
  (37, .aload_n 0, 1, 0, 0, 0, 0, []),
  (38, .getfield 26, 3, 0, 7, 2, 153, [(2, 0)]),
  (41, .iload_n 2, 1, 0, 0, 0, 0, []),
  (42, .invokevirtual 224, 3, 0, 13, 1, 218, [(2, 0)]),
  (45, .astore 4, 2, 0, 0, 0, 0, []),
  (47, .iload_n 3, 1, 0, 0, 0, 0, []),
  (48, .ifCond .ne 11, 3, 0, 59, 0, 0, []),
  (51, .aload 4, 2, 0, 0, 0, 0, []),
  (53, .getfield 188, 3, 0, 3, 41, 206, [(8, 0)]),
  (56, .iload_n 1, 1, 0, 0, 0, 0, []),
  (57, .iaload, 1, 0, 0, 0, 0, []),
  (58, .ireturn, 1, 0, 0, 0, 0, []),
  (59, .iload_n 3, 1, 0, 0, 0, 0, []),
  (60, .iconst 1, 1, 0, 1, 0, 0, []),
  (61, .if_icmp .ne 13, 3, 0, 74, 0, 0, []),
  (64, .aload 4, 2, 0, 0, 0, 0, []),
  (66, .getfield 200, 3, 0, 3, 44, 210, [(11, 0)]),
  (69, .iload_n 1, 1, 0, 0, 0, 0, []),
  (70, .iaload, 1, 0, 0, 0, 0, []),
  (71, .goto 10, 3, 0, 81, 0, 0, []),
  (74, .aload 4, 2, 0, 0, 0, 0, []),
  (76, .getfield 197, 3, 0, 3, 43, 209, [(10, 0)]),
  (79, .iload_n 1, 1, 0, 0, 0, 0, []),
  (80, .iaload, 1, 0, 0, 0, 0, []),
  (81, .ireturn, 1, 0, 0, 0, 0, [])]
def tX7_later : List zR := [(0, .aload_n 0, 1, 0, 0, 0, 0, []),
  (1, .getfield 26, 3, 0, 7, 2, 153, [(2, 0)]),
  (4, .invokevirtual 153, 3, 0, 44, 1, 195, [(0, 0)]),
  (7, .ifCond .ne 6, 3, 0, 13, 0, 0, []),
  (10, .ldc 148, 2, 0, 1000002, 1, 193, []),
  (12, .ireturn, 1, 0, 0, 0, 0, []),
  (13, .iload_n 1, 1, 0, 0, 0, 0, []),
  (14, .iconst 0, 1, 0, 0, 0, 0, []),
  (15, .bipush 60, 2, 0, 60, 0, 0, []),
  (17, .invokestatic 221, 3, 0, 130, 0, 217, [(3, 0)]),
  (20, .ifCond .eq 8, 3, 0, 28, 0, 0, []),
  (23, .ldc 76, 2, 0, 1000001, 1, 171, []),
  (25, .goto 18, 3, 0, 43, 0, 0, []),
  (28, .aload_n 0, 1, 0, 0, 0, 0, []),
  (29, .getfield 47, 3, 0, 7, 6, 161, [(6, 0)]),
  (32, .aload_n 0, 1, 0, 0, 0, 0, []),
  (33, .getfield 26, 3, 0, 7, 2, 153, [(2, 0)]),
  (36, .iload_n 1, 1, 0, 0, 0, 0, []),
  (37, .invokevirtual 224, 3, 0, 13, 1, 218, [(2, 0)]),
  (40, .getfield 176, 3, 0, 3, 4, 202, [(4, 1)]),
  (43, .ireturn, 1, 0, 0, 0, 0, [])]
def tX7_when : List zR := [(0, .aload_n 0, 1, 0, 0, 0, 0, []),
  (1, .getfield 26, 3, 0, 7, 2, 153, [(2, 0)]),
  (4, .iload_n 1, 1, 0, 0, 0, 0, []),
  (5, .invokevirtual 185, 3, 0, 45, 1, 205, [(1, 0)]),
  (8, .ifCond .eq 22, 3, 0, 30, 0, 0, []),
  (11, .aload_n 0, 1, 0, 0, 0, 0, []),
  (12, .getfield 47, 3, 0, 7, 6, 161, [(6, 0)]),
  (15, .aload_n 0, 1, 0, 0, 0, 0, []),
  (16, .getfield 26, 3, 0, 7, 2, 153, [(2, 0)]),
  (19, .iconst 1, 1, 0, 1, 0, 0, []),
  (20, .iload_n 1, 1, 0, 0, 0, 0, []),
  (21, .ishl, 1, 0, 0, 0, 0, []),
  (22, .bipush 60, 2, 0, 60, 0, 0, []),
  (24, .invokevirtual 228, 3, 0, 15, 1, 219, [(3, 0)]),
  (27, .goto 5, 3, 0, 32, 0, 0, []),
  (30, .ldc 76, 2, 0, 1000001, 1, 171, []),
  (32, .ireturn, 1, 0, 0, 0, 0, [])]
def tX7_done : List zR := [(0, .aload_n 0, 1, 0, 0, 0, 0, []),
  (1, .getfield 26, 3, 0, 7, 2, 153, [(2, 0)]),
  (4, .invokevirtual 153, 3, 0, 44, 1, 195, [(0, 0)]),
  (7, .ifCond .eq 26, 3, 0, 33, 0, 0, []),
  (10, .aload_n 0, 1, 0, 0, 0, 0, []),
  (11, .getfield 47, 3, 0, 7, 6, 161, [(6, 0)]),
  (14, .aload_n 0, 1, 0, 0, 0, 0, []),
  (15, .getfield 26, 3, 0, 7, 2, 153, [(2, 0)]),
  (18, .aload_n 0, 1, 0, 0, 0, 0, []),
  (19, .getfield 26, 3, 0, 7, 2, 153, [(2, 0)]),
  (22, .invokevirtual 232, 3, 0, 47, 1, 220, [(0, 0)]),
  (25, .bipush 60, 2, 0, 60, 0, 0, []),
  (27, .invokevirtual 228, 3, 0, 15, 1, 219, [(3, 0)]),
  (30, .goto 5, 3, 0, 35, 0, 0, []),
  (33, .ldc 148, 2, 0, 1000002, 1, 193, []),
  (35, .ireturn, 1, 0, 0, 0, 0, [])]
def tX7_fine : List zR := [(0, .aload_n 0, 1, 0, 0, 0, 0, []),
  (1, .getfield 26, 3, 0, 7, 2, 153, [(2, 0)]),
  (4, .invokevirtual 153, 3, 0, 44, 1, 195, [(0, 0)]),
  (7, .ifCond .ne 6, 3, 0, 13, 0, 0, []),
  (10, .ldc 148, 2, 0, 1000002, 1, 193, []),
  (12, .ireturn, 1, 0, 0, 0, 0, []),
  (13, .iload_n 1, 1, 0, 0, 0, 0, []),
  (14, .iconst 0, 1, 0, 0, 0, 0, []),
  (15, .bipush 60, 2, 0, 60, 0, 0, []),
  (17, .invokestatic 221, 3, 0, 130, 0, 217, [(3, 0)]),
  (20, .ifCond .eq 8, 3, 0, 28, 0, 0, []),
  (23, .ldc 76, 2, 0, 1000001, 1, 171, []),
  (25, .goto 18, 3, 0, 43, 0, 0, []),
  (28, .aload_n 0, 1, 0, 0, 0, 0, []),
  (29, .getfield 47, 3, 0, 7, 6, 161, [(6, 0)]),
  (32, .aload_n 0, 1, 0, 0, 0, 0, []),
  (33, .getfield 26, 3, 0, 7, 2, 153, [(2, 0)]),
  (36, .iload_n 1, 1, 0, 0, 0, 0, []),
  (37, .invokevirtual 224, 3, 0, 13, 1, 218, [(2, 0)]),
  (40, .invokevirtual 235, 3, 0, 50, 1, 221, [(0, 0)]),
  (43, .ireturn, 1, 0, 0, 0, 0, [])]
def tX7_site : List zR := [(0, .aload_n 0, 1, 0, 0, 0, 0, []),
  (1, .getfield 26, 3, 0, 7, 2, 153, [(2, 0)]),
  (4, .invokevirtual 153, 3, 0, 44, 1, 195, [(0, 0)]),
  (7, .ifCond .ne 6, 3, 0, 13, 0, 0, []),
  (10, .ldc 148, 2, 0, 1000002, 1, 193, []),
  (12, .ireturn, 1, 0, 0, 0, 0, []),
  (13, .iload_n 1, 1, 0, 0, 0, 0, []),
  (14, .iconst 1, 1, 0, 1, 0, 0, []),
  (15, .bipush 40, 2, 0, 40, 0, 0, []),
  (17, .invokestatic 221, 3, 0, 130, 0, 217, [(3, 0)]),
  (20, .ifCond .ne 12, 3, 0, 32, 0, 0, []),
  (23, .iload_n 2, 1, 0, 0, 0, 0, []),
  (24, .iconst 0, 1, 0, 0, 0, 0, []),
  (25, .iconst 1, 1, 0, 1, 0, 0, []),
  (26, .invokestatic 221, 3, 0, 130, 0, 217, [(3, 0)]),
  (29, .ifCond .eq 6, 3, 0, 35, 0, 0, []),
  (32, .ldc 76, 2, 0, 1000001, 1, 171, []),
  (34, .ireturn, 1, 0, 0, 0, 0, []),
  (35, .aload_n 0, 1, 0, 0, 0, 0, []),
  (36, .getfield 47, 3, 0, 7, 6, 161, [(6, 0)]),
  (39, .aload_n 0, 1, 0, 0, 0, 0, []),
  (40, .getfield 26, 3, 0, 7, 2, 153, [(2, 0)]),
  (43, .iload_n 1, 1, 0, 0, 0, 0, []),
  (44, .invokevirtual 238, 3, 0, 16, 1, 222, [(2, 0)]),
  (47, .istore_n 3, 1, 0, 0, 0, 0, []),
  (48, .iload_n 2, 1, 0, 0, 0, 0, []),
  (49, .ifCond .ne 7, 3, 0, 56, 0, 0, []),
  (52, .iload_n 3, 1, 0, 0, 0, 0, []),
  (53, .goto 16, 3, 0, 69, 0, 0, []),
  (56, .aload_n 0, 1, 0, 0, 0, 0, []),
  (57, .getfield 47, 3, 0, 7, 6, 161, [(6, 0)]),
  (60, .aload_n 0, 1, 0, 0, 0, 0, []),
  (61, .getfield 26, 3, 0, 7, 2, 153, [(2, 0)]),
  (64, .iload_n 3, 1, 0, 0, 0, 0, []),
  (65, .iload_n 1, 1, 0, 0, 0, 0, []),
  (66, .invokevirtual 242, 3, 0, 17, 1, 223, [(3, 0)]),
  (69, .ireturn, 1, 0, 0, 0, 0, [])]
def tX7_need : List zR := [(0, .aload_n 0, 1, 0, 0, 0, 0, []),
  (1, .getfield 26, 3, 0, 7, 2, 153, [(2, 0)]),
  (4, .invokevirtual 153, 3, 0, 44, 1, 195, [(0, 0)]),
  (7, .ifCond .ne 6, 3, 0, 13, 0, 0, []),
  (10, .ldc 148, 2, 0, 1000002, 1, 193, []),
  (12, .ireturn, 1, 0, 0, 0, 0, []),
  (13, .iload_n 1, 1, 0, 0, 0, 0, []),
  (14, .iconst 1, 1, 0, 1, 0, 0, []),
  (15, .bipush 40, 2, 0, 40, 0, 0, []),
  (17, .invokestatic 221, 3, 0, 130, 0, 217, [(3, 0)]),
  (20, .ifCond .ne 12, 3, 0, 32, 0, 0, []),
  (23, .iload_n 2, 1, 0, 0, 0, 0, []),
  (24, .iconst 0, 1, 0, 0, 0, 0, []),
  (25, .iconst 1, 1, 0, 1, 0, 0, []),
  (26, .invokestatic 221, 3, 0, 130, 0, 217, [(3, 0)]),
  (29, .ifCond .eq 6, 3, 0, 35, 0, 0, []),
  (32, .ldc 76, 2, 0, 1000001, 1, 171, []),
  (34, .ireturn, 1, 0, 0, 0, 0, []),
  (35, .iload_n 2, 1, 0, 0, 0, 0, []),
  (36, .ifCond .ne 18, 3, 0, 54, 0, 0, []),
  (39, .aload_n 0, 1, 0, 0, 0, 0, []),
  (40, .getfield 47, 3, 0, 7, 6, 161, [(6, 0)]),
  (43, .aload_n 0, 1, 0, 0, 0, 0, []),
  (44, .getfield 26, 3, 0, 7, 2, 153, [(2, 0)]),
  (47, .iload_n 1, 1, 0, 0, 0, 0, []),
  (48, .invokevirtual 245, 3, 0, 18, 1, 224, [(2, 0)]),
  (51, .goto 15, 3, 0, 66, 0, 0, []),
  (54, .aload_n 0, 1, 0, 0, 0, 0, []),
  (55, .getfield 47, 3, 0, 7, 6, 161, [(6, 0)]),
  (58, .aload_n 0, 1, 0, 0, 0, 0, []),
  (59, .getfield 26, 3, 0, 7, 2, 153, [(2, 0)]),
  (62, .iload_n 1, 1, 0, 0, 0, 0, []),
  (63, .invokevirtual 248, 3, 0, 19, 1, 225, [(2, 0)]),
  (66, .ireturn, 1, 0, 0, 0, 0, [])]
def tX7_ranks : List zR := [(0, .aload_n 0, 1, 0, 0, 0, 0, []),
  (1, .getfield 26, 3, 0, 7, 2, 153, [(2, 0)]),
  (4, .invokevirtual 153, 3, 0, 44, 1, 195, [(0, 0)]),
  (7, .ifCond .ne 6, 3, 0, 13, 0, 0, []),
  (10, .ldc 148, 2, 0, 1000002, 1, 193, []),
  (12, .ireturn, 1, 0, 0, 0, 0, []),
  (13, .iload_n 1, 1, 0, 0, 0, 0, []),
  (14, .iconst 1, 1, 0, 1, 0, 0, []),
  (15, .bipush 40, 2, 0, 40, 0, 0, []),
  (17, .invokestatic 221, 3, 0, 130, 0, 217, [(3, 0)]),
  (20, .ifCond .ne 8, 3, 0, 28, 0, 0, []),
  (23, .iload_n 2, 1, 0, 0, 0, 0, []),
  (24, .iconst (-1), 1, 0, 1, 1, 0, []),
  (25, .if_icmp .ge 6, 3, 0, 31, 0, 0, []),
  (28, .ldc 76, 2, 0, 1000001, 1, 171, []),
  (30, .ireturn, 1, 0, 0, 0, 0, []),
  (31, .iload_n 2, 1, 0, 0, 0, 0, []),
  (32, .aload_n 0, 1, 0, 0, 0, 0, []),
  (33, .getfield 26, 3, 0, 7, 2, 153, [(2, 0)]),
  (36, .getfield 139, 3, 0, 3, 0, 190, [(6, 1)]),
  (39, .if_icmp .lt 6, 3, 0, 45, 0, 0, []),
  (42, .ldc 251, 2, 0, 1000000, 1, 226, []),
  (44, .ireturn, 1, 0, 0, 0, 0, []),
  (45, .aload_n 0, 1, 0, 0, 0, 0, []),
  (46, .getfield 54, 3, 0, 7, 7, 164, [(7, 0)]),
  (49, .aload_n 0, 1, 0, 0, 0, 0, []),
  (50, .getfield 26, 3, 0, 7, 2, 153, [(2, 0)]),
  (53, .iload_n 1, 1, 0, 0, 0, 0, []),
  (54, .invokevirtual 252, 3, 0, 65, 1, 227, [(2, 0)]),
  (57, .iload_n 2, 1, 0, 0, 0, 0, []),
  (58, .ifCond .ge 13, 3, 0, 71, 0, 0, []),
  (61, .aload_n 0, 1, 0, 0, 0, 0, []),
  (62, .getfield 54, 3, 0, 7, 7, 164, [(7, 0)]),
  (65, .getfield 256, 3, 0, 4, 5, 228, [(5, 1)]),
  (68, .goto 12, 3, 0, 80, 0, 0, []),
  (71, .aload_n 0, 1, 0, 0, 0, 0, []),
  (72, .getfield 54, 3, 0, 7, 7, 164, [(7, 0)]),
  (75, .getfield 259, 3, 0, 4, 3, 229, [(3, 0)]),
  (78, .iload_n 2, 1, 0, 0, 0, 0, []),
  (79, .iaload, 1, 0, 0, 0, 0, []),
  (80, .ireturn, 1, 0, 0, 0, 0, [])]
def tX7_holds : List zR := [(0, .aload_n 0, 1, 0, 0, 0, 0, []),
  (1, .getfield 26, 3, 0, 7, 2, 153, [(2, 0)]),
  (4, .invokevirtual 153, 3, 0, 44, 1, 195, [(0, 0)]),
  (7, .ifCond .ne 6, 3, 0, 13, 0, 0, []),
  (10, .ldc 148, 2, 0, 1000002, 1, 193, []),
  (12, .ireturn, 1, 0, 0, 0, 0, []),
  (13, .iload_n 1, 1, 0, 0, 0, 0, []),
  (14, .tableswitch 57 0 2 #[26, 34, 42], 26, 0, 71, 0, 0, [(0, 40), (1, 48), (2, 56)]),
  (40, .aload_n 0, 1, 0, 0, 0, 0, []),
  (41, .getfield 26, 3, 0, 7, 2, 153, [(2, 0)]),
  (44, .invokestatic 262, 3, 0, 22, 0, 230, [(1, 0)]),
  (47, .ireturn, 1, 0, 0, 0, 0, []),
  (48, .aload_n 0, 1, 0, 0, 0, 0, []),
  (49, .getfield 26, 3, 0, 7, 2, 153, [(2, 0)]),
  (52, .invokestatic 265, 3, 0, 23, 0, 231, [(1, 0)]),
  (55, .ireturn, 1, 0, 0, 0, 0, []),
  (56, .aload_n 0, 1, 0, 0, 0, 0, []),
  (57, .getfield 26, 3, 0, 7, 2, 153, [(2, 0)]),
  (60, .aload_n 0, 1, 0, 0, 0, 0, []),
  (61, .getfield 26, 3, 0, 7, 2, 153, [(2, 0)]),
  (64, .invokestatic 265, 3, 0, 23, 0, 231, [(1, 0)]),
  (67, .invokevirtual 218, 3, 0, 52, 1, 216, [(1, 0)]),
  (70, .ireturn, 1, 0, 0, 0, 0, []),
  (71, .ldc 76, 2, 0, 1000001, 1, 171, []),
  (73, .ireturn, 1, 0, 0, 0, 0, [])]
def tX7_share : List zR := [(0, .aload_n 0, 1, 0, 0, 0, 0, []),
  (1, .getfield 26, 3, 0, 7, 2, 153, [(2, 0)]),
  (4, .iload_n 1, 1, 0, 0, 0, 0, []),
  (5, .invokevirtual 185, 3, 0, 45, 1, 205, [(1, 0)]),
  (8, .ifCond .eq 14, 3, 0, 22, 0, 0, []),
  (11, .iload_n 2, 1, 0, 0, 0, 0, []),
  (12, .iconst 0, 1, 0, 0, 0, 0, []),
  (13, .sipush 999, 3, 0, 999, 0, 0, []),
  (16, .invokestatic 221, 3, 0, 130, 0, 217, [(3, 0)]),
  (19, .ifCond .eq 6, 3, 0, 25, 0, 0, []),
  (22, .ldc 76, 2, 0, 1000001, 1, 171, []),
  (24, .ireturn, 1, 0, 0, 0, 0, []),
  (25, .aload_n 0, 1, 0, 0, 0, 0, []),
  (26, .getfield 26, 3, 0, 7, 2, 153, [(2, 0)]),
  (29, .iload_n 1, 1, 0, 0, 0, 0, []),
  (30, .iload_n 2, 1, 0, 0, 0, 0, []),
  (31, .invokestatic 268, 3, 0, 25, 0, 232, [(3, 0)]),
  (34, .ireturn, 1, 0, 0, 0, 0, [])]
def tX7_byTurns : List zR := [(0, .aload_n 0, 1, 0, 0, 0, 0, []),
  (1, .getfield 26, 3, 0, 7, 2, 153, [(2, 0)]),
  (4, .invokevirtual 153, 3, 0, 44, 1, 195, [(0, 0)]),
  (7, .ifCond .ne 6, 3, 0, 13, 0, 0, []),
  (10, .ldc 148, 2, 0, 1000002, 1, 193, []),
  (12, .ireturn, 1, 0, 0, 0, 0, []),
  (13, .iload_n 1, 1, 0, 0, 0, 0, []),
  (14, .iconst 0, 1, 0, 0, 0, 0, []),
  (15, .iconst 4, 1, 0, 4, 0, 0, []),
  (16, .invokestatic 221, 3, 0, 130, 0, 217, [(3, 0)]),
  (19, .ifCond .ne 13, 3, 0, 32, 0, 0, []),
  (22, .iload_n 2, 1, 0, 0, 0, 0, []),
  (23, .iconst 1, 1, 0, 1, 0, 0, []),
  (24, .bipush 20, 2, 0, 20, 0, 0, []),
  (26, .invokestatic 221, 3, 0, 130, 0, 217, [(3, 0)]),
  (29, .ifCond .eq 6, 3, 0, 35, 0, 0, []),
  (32, .ldc 76, 2, 0, 1000001, 1, 171, []),
  (34, .ireturn, 1, 0, 0, 0, 0, []),
  (35, .aload_n 0, 1, 0, 0, 0, 0, []),
  (36, .getfield 47, 3, 0, 7, 6, 161, [(6, 0)]),
  (39, .aload_n 0, 1, 0, 0, 0, 0, []),
  (40, .getfield 26, 3, 0, 7, 2, 153, [(2, 0)]),
  (43, .iload_n 1, 1, 0, 0, 0, 0, []),
  (44, .iload_n 2, 1, 0, 0, 0, 0, []),
  (45, .invokevirtual 271, 3, 0, 26, 1, 233, [(3, 0)]),
  (48, .ireturn, 1, 0, 0, 0, 0, [])]
def tX7_who : List zR := [(0, .aload_n 0, 1, 0, 0, 0, 0, []),
  (1, .getfield 26, 3, 0, 7, 2, 153, [(2, 0)]),
  (4, .iload_n 1, 1, 0, 0, 0, 0, []),
  (5, .invokevirtual 185, 3, 0, 45, 1, 205, [(1, 0)]),
  (8, .ifCond .eq 30, 3, 0, 38, 0, 0, []),
  (11, .iload_n 2, 1, 0, 0, 0, 0, []),
  (12, .iconst 0, 1, 0, 0, 0, 0, []),
  (13, .iconst 5, 1, 0, 5, 0, 0, []),
  (14, .invokestatic 221, 3, 0, 130, 0, 217, [(3, 0)]),
  (17, .ifCond .ne 21, 3, 0, 38, 0, 0, []),
  (20, .iload_n 3, 1, 0, 0, 0, 0, []),
  (21, .invokestatic 69, 3, 0, 70, 0, 169, [(1, 0)]),
  (24, .ifCond .eq 14, 3, 0, 38, 0, 0, []),
  (27, .iload 5, 2, 0, 0, 0, 0, []),
  (29, .iconst 1, 1, 0, 1, 0, 0, []),
  (30, .bipush 12, 2, 0, 12, 0, 0, []),
  (32, .invokestatic 221, 3, 0, 130, 0, 217, [(3, 0)]),
  (35, .ifCond .eq 6, 3, 0, 41, 0, 0, []),
  (38, .ldc 76, 2, 0, 1000001, 1, 171, []),
  (40, .ireturn, 1, 0, 0, 0, 0, []),
  (41, .aload_n 0, 1, 0, 0, 0, 0, []),
  (42, .getfield 10, 3, 0, 7, 0, 147, [(0, 0)]),
  (45, .iload_n 3, 1, 0, 0, 0, 0, []),
  (46, .invokevirtual 88, 3, 0, 72, 1, 175, [(1, 0)]),
  (49, .ifCond .eq 9, 3, 0, 58, 0, 0, []),
  (52, .aload_n 0, 1, 0, 0, 0, 0, []),
  (53, .iconst 1, 1, 0, 1, 0, 0, []),
  (54, .invokevirtual 77, 3, 0, 128, 1, 172, [(1, 0)]),
  (57, .ireturn, 1, 0, 0, 0, 0, []),
  (58, .aload_n 0, 1, 0, 0, 0, 0, []),
  (59, .getfield 10, 3, 0, 7, 0, 147, [(0, 0)]),
  (62, .iload_n 3, 1, 0, 0, 0, 0, []),
  (63, .iload 4, 2, 0, 0, 0, 0, []),
  (65, .iload 5, 2, 0, 0, 0, 0, []),
  (67, .invokevirtual 91, 3, 0, 73, 1, 176, [(3, 0)]),
  (70, .ifCond .ne 9, 3, 0, 79, 0, 0, []),
  (73, .aload_n 0, 1, 0, 0, 0, 0, []),
  (74, .iconst 2, 1, 0, 2, 0, 0, []),
  (75, .invokevirtual 77, 3, 0, 128, 1, 172, [(1, 0)]),
  (78, .ireturn, 1, 0, 0, 0, 0, []),
  (79, .aload_n 0, 1, 0, 0, 0, 0, []),
  (80, .aload_n 0, 1, 0, 0, 0, 0, []),
  (81, .getfield 47, 3, 0, 7, 6, 161, [(6, 0)]),
  (84, .aload_n 0, 1, 0, 0, 0, 0, []),
  (85, .getfield 26, 3, 0, 7, 2, 153, [(2, 0)]),
  (88, .iload_n 1, 1, 0, 0, 0, 0, []),
  (89, .iload_n 2, 1, 0, 0, 0, 0, []),
  (90, .aload_n 0, 1, 0, 0, 0, 0, []),
  (91, .getfield 10, 3, 0, 7, 0, 147, [(0, 0)]),
  (94, .getfield 103, 3, 0, 5, 2, 179, [(2, 0)]),
  (97, .iload_n 3, 1, 0, 0, 0, 0, []),
  (98, .aaload, 1, 0, 0, 0, 0, []),
  (99, .iload 4, 2, 0, 0, 0, 0, []),
  (101, .iload 5, 2, 0, 0, 0, 0, []),
  (103, .invokevirtual 274, 3, 0, 29, 1, 234, [(6, 0)]),
  (106, .invokevirtual 85, 3, 0, 129, 1, 174, [(1, 0)]),
  (109, .ireturn, 1, 0, 0, 0, 0, [])]
def tX7_stuck : List zR := [(0, .aload_n 0, 1, 0, 0, 0, 0, []),
  (1, .getfield 26, 3, 0, 7, 2, 153, [(2, 0)]),
  (4, .iload_n 1, 1, 0, 0, 0, 0, []),
  (5, .invokevirtual 185, 3, 0, 45, 1, 205, [(1, 0)]),
  (8, .ifCond .eq 33, 3, 0, 41, 0, 0, []),
  (11, .iload_n 2, 1, 0, 0, 0, 0, []),
  (12, .iconst 0, 1, 0, 0, 0, 0, []),
  (13, .bipush 8, 2, 0, 8, 0, 0, []),
  (15, .invokestatic 221, 3, 0, 130, 0, 217, [(3, 0)]),
  (18, .ifCond .ne 23, 3, 0, 41, 0, 0, []),
  (21, .iload_n 3, 1, 0, 0, 0, 0, []),
  (22, .iconst 0, 1, 0, 0, 0, 0, []),
  (23, .bipush 10, 2, 0, 10, 0, 0, []),
  (25, .invokestatic 221, 3, 0, 130, 0, 217, [(3, 0)]),
  (28, .ifCond .ne 13, 3, 0, 41, 0, 0, []),
  (31, .iload 4, 2, 0, 0, 0, 0, []),
  (33, .iconst 0, 1, 0, 0, 0, 0, []),
  (34, .iconst 1, 1, 0, 1, 0, 0, []),
  (35, .invokestatic 221, 3, 0, 130, 0, 217, [(3, 0)]),
  (38, .ifCond .eq 7, 3, 0, 45, 0, 0, []),
  (41, .ldc2_w 278, 3, 0, 1000001, 1, 235, []),
  (44, .lreturn, 1, 0, 0, 0, 0, []),
  (45, .aload_n 0, 1, 0, 0, 0, 0, []),
  (46, .getfield 47, 3, 0, 7, 6, 161, [(6, 0)]),
  (49, .aload_n 0, 1, 0, 0, 0, 0, []),
  (50, .getfield 26, 3, 0, 7, 2, 153, [(2, 0)]),
  (53, .iload_n 1, 1, 0, 0, 0, 0, []),
  (54, .iload_n 2, 1, 0, 0, 0, 0, []),
  (55, .iload_n 3, 1, 0, 0, 0, 0, []),
  (56, .invokevirtual 280, 3, 0, 35, 1, 236, [(4, 1)]),
  (59, .lstore 5, 2, 0, 0, 0, 0, []),
  (61, .iload_n 2, 1, 0, 0, 0, 0, []),
  (62, .invokestatic 284, 3, 0, 33, 0, 237, [(1, 0)]),
  (65, .lstore 7, 2, 0, 0, 0, 0, []),
  (67, .lload 5, 2, 0, 0, 0, 0, []),
  (69, .lload 7, 2, 0, 0, 0, 0, []),
  (71, .invokestatic 288, 3, 0, 34, 0, 238, [(2, 0)]),
  (74, .lstore 9, 2, 0, 0, 0, 0, []),
  (76, .iload 4, 2, 0, 0, 0, 0, []),
  (78, .ifCond .ne 8, 3, 0, 86, 0, 0, []),
  (81, .lload 5, 2, 0, 0, 0, 0, []),
  (83, .goto 5, 3, 0, 88, 0, 0, []),
  (86, .lload 7, 2, 0, 0, 0, 0, []),
  (88, .lload 9, 2, 0, 0, 0, 0, []),
  (90, .ldiv, 1, 0, 0, 0, 0, []),
  (91, .lreturn, 1, 0, 0, 0, 0, [])]
def tX7_drawn : List zR := [(0, .aload_n 0, 1, 0, 0, 0, 0, []),
  (1, .getfield 26, 3, 0, 7, 2, 153, [(2, 0)]),
  (4, .invokevirtual 153, 3, 0, 44, 1, 195, [(0, 0)]),
  (7, .ifCond .ne 6, 3, 0, 13, 0, 0, []),
  (10, .ldc 148, 2, 0, 1000002, 1, 193, []),
  (12, .ireturn, 1, 0, 0, 0, 0, []),
  (13, .iload_n 1, 1, 0, 0, 0, 0, []),
  (14, .iconst 0, 1, 0, 0, 0, 0, []),
  (15, .bipush 60, 2, 0, 60, 0, 0, []),
  (17, .invokestatic 221, 3, 0, 130, 0, 217, [(3, 0)]),
  (20, .ifCond .ne 23, 3, 0, 43, 0, 0, []),
  (23, .iload_n 2, 1, 0, 0, 0, 0, []),
  (24, .iconst 1, 1, 0, 1, 0, 0, []),
  (25, .ldc_w 292, 3, 0, 999999, 0, 239, []),
  (28, .invokestatic 221, 3, 0, 130, 0, 217, [(3, 0)]),
  (31, .ifCond .ne 12, 3, 0, 43, 0, 0, []),
  (34, .iload_n 3, 1, 0, 0, 0, 0, []),
  (35, .iconst 0, 1, 0, 0, 0, 0, []),
  (36, .iconst 1, 1, 0, 1, 0, 0, []),
  (37, .invokestatic 221, 3, 0, 130, 0, 217, [(3, 0)]),
  (40, .ifCond .eq 6, 3, 0, 46, 0, 0, []),
  (43, .ldc 76, 2, 0, 1000001, 1, 171, []),
  (45, .ireturn, 1, 0, 0, 0, 0, []),
  (46, .aload_n 0, 1, 0, 0, 0, 0, []),
  (47, .getfield 47, 3, 0, 7, 6, 161, [(6, 0)]),
  (50, .aload_n 0, 1, 0, 0, 0, 0, []),
  (51, .getfield 26, 3, 0, 7, 2, 153, [(2, 0)]),
  (54, .iload_n 1, 1, 0, 0, 0, 0, []),
  (55, .iload_n 2, 1, 0, 0, 0, 0, []),
  (56, .invokevirtual 293, 3, 0, 39, 1, 240, [(3, 0)]),
  (59, .istore 4, 2, 0, 0, 0, 0, []),
  (61, .iload_n 3, 1, 0, 0, 0, 0, []),
  (62, .ifCond .ne 8, 3, 0, 70, 0, 0, []),
  (65, .iload 4, 2, 0, 0, 0, 0, []),
  (67, .goto 20, 3, 0, 87, 0, 0, []),
  (70, .aload_n 0, 1, 0, 0, 0, 0, []),
  (71, .getfield 47, 3, 0, 7, 6, 161, [(6, 0)]),
  (74, .getfield 296, 3, 0, 2, 0, 241, [(0, 0)]),
  (77, .aload_n 0, 1, 0, 0, 0, 0, []),
  (78, .getfield 26, 3, 0, 7, 2, 153, [(2, 0)]),
  (81, .invokevirtual 232, 3, 0, 47, 1, 220, [(0, 0)]),
  (84, .invokevirtual 299, 3, 0, 53, 1, 242, [(1, 0)]),
  (87, .ireturn, 1, 0, 0, 0, 0, [])]
def tX7_image : List zR := [(0, .iload_n 1, 1, 0, 0, 0, 0, []),
  (1, .iconst 0, 1, 0, 0, 0, 0, []),
  (2, .iconst 1, 1, 0, 1, 0, 0, []),
  (3, .invokestatic 221, 3, 0, 130, 0, 217, [(3, 0)]),
  (6, .ifCond .eq 6, 3, 0, 12, 0, 0, []),
  (9, .ldc 76, 2, 0, 1000001, 1, 171, []),
  (11, .ireturn, 1, 0, 0, 0, 0, []),
  (12, .aload_n 0, 1, 0, 0, 0, 0, []),
  (13, .getfield 26, 3, 0, 7, 2, 153, [(2, 0)]),
  (16, .invokevirtual 153, 3, 0, 44, 1, 195, [(0, 0)]),
  (19, .ifCond .ne 6, 3, 0, 25, 0, 0, []),
  (22, .ldc 148, 2, 0, 1000002, 1, 193, []),
  (24, .ireturn, 1, 0, 0, 0, 0, []),
  (25, .aload_n 0, 1, 0, 0, 0, 0, []),
  (26, .getfield 40, 3, 0, 7, 5, 158, [(5, 0)]),
  (29, .iload_n 1, 1, 0, 0, 0, 0, []),
  (30, .aaload, 1, 0, 0, 0, 0, []),
  (31, .ifnonnull 16, 3, 0, 47, 0, 0, []),
  (34, .aload_n 0, 1, 0, 0, 0, 0, []),
  (35, .getfield 40, 3, 0, 7, 5, 158, [(5, 0)]),
  (38, .iload_n 1, 1, 0, 0, 0, 0, []),
  (39, .new 23, 3, 0, 3, 0, 151, []),
  (42, .dup, 1, 0, 0, 0, 0, []),
  (43, .invokespecial 25, 3, 0, 40, 3, 152, [(0, 1)]),
  (46, .aastore, 1, 0, 0, 0, 0, []),
  (47, .aload_n 0, 1, 0, 0, 0, 0, []),
  (48, .getfield 40, 3, 0, 7, 5, 158, [(5, 0)]),
  (51, .iload_n 1, 1, 0, 0, 0, 0, []),
  (52, .aaload, 1, 0, 0, 0, 0, []),
  (53, .aload_n 0, 1, 0, 0, 0, 0, []),
  (54, .getfield 26, 3, 0, 7, 2, 153, [(2, 0)]),
  (57, .invokevirtual 132, 3, 0, 42, 1, 188, [(1, 0)]),
  (60, .iconst 1, 1, 0, 1, 0, 0, []),
  (61, .ireturn, 1, 0, 0, 0, 0, [])]
def tX7_restore : List zR := [(0, .iload_n 1, 1, 0, 0, 0, 0, []),
  (1, .iconst 0, 1, 0, 0, 0, 0, []),
  (2, .iconst 1, 1, 0, 1, 0, 0, []),
  (3, .invokestatic 221, 3, 0, 130, 0, 217, [(3, 0)]),
  (6, .ifCond .eq 6, 3, 0, 12, 0, 0, []),
  (9, .ldc 76, 2, 0, 1000001, 1, 171, []),
  (11, .ireturn, 1, 0, 0, 0, 0, []),
  (12, .aload_n 0, 1, 0, 0, 0, 0, []),
  (13, .getfield 40, 3, 0, 7, 5, 158, [(5, 0)]),
  (16, .iload_n 1, 1, 0, 0, 0, 0, []),
  (17, .aaload, 1, 0, 0, 0, 0, []),
  (18, .ifnonnull 6, 3, 0, 24, 0, 0, []),
  (21, .ldc 148, 2, 0, 1000002, 1, 193, []),
  (23, .ireturn, 1, 0, 0, 0, 0, []),
  (24, .aload_n 0, 1, 0, 0, 0, 0, []),
  (25, .getfield 26, 3, 0, 7, 2, 153, [(2, 0)]),
  (28, .aload_n 0, 1, 0, 0, 0, 0, []),
  (29, .getfield 40, 3, 0, 7, 5, 158, [(5, 0)]),
  (32, .iload_n 1, 1, 0, 0, 0, 0, []),
  (33, .aaload, 1, 0, 0, 0, 0, []),
  (34, .invokevirtual 132, 3, 0, 42, 1, 188, [(1, 0)]),
  (37, .aload_n 0, 1, 0, 0, 0, 0, []),
  (38, .getfield 36, 3, 0, 7, 4, 157, [(4, 0)]),
  (41, .invokevirtual 136, 3, 0, 2, 1, 189, [(0, 0)]),
  (44, .iconst 1, 1, 0, 1, 0, 0, []),
  (45, .ireturn, 1, 0, 0, 0, 0, [])]
def tX7_kind : List zR := [(0, .aload_n 0, 1, 0, 0, 0, 0, []),
  (1, .getfield 26, 3, 0, 7, 2, 153, [(2, 0)]),
  (4, .iload_n 1, 1, 0, 0, 0, 0, []),
  (5, .invokevirtual 185, 3, 0, 45, 1, 205, [(1, 0)]),
  (8, .ifCond .eq 15, 3, 0, 23, 0, 0, []),
  (11, .aload_n 0, 1, 0, 0, 0, 0, []),
  (12, .getfield 26, 3, 0, 7, 2, 153, [(2, 0)]),
  (15, .getfield 302, 3, 0, 3, 40, 243, [(7, 0)]),
  (18, .iload_n 1, 1, 0, 0, 0, 0, []),
  (19, .iaload, 1, 0, 0, 0, 0, []),
  (20, .goto 5, 3, 0, 25, 0, 0, []),
  (23, .ldc 76, 2, 0, 1000001, 1, 171, []),
  (25, .ireturn, 1, 0, 0, 0, 0, [])]
def tX7_as : List zR := [(0, .aload_n 0, 1, 0, 0, 0, 0, []),
  (1, .getfield 26, 3, 0, 7, 2, 153, [(2, 0)]),
  (4, .iload_n 1, 1, 0, 0, 0, 0, []),
  (5, .invokevirtual 185, 3, 0, 45, 1, 205, [(1, 0)]),
  (8, .ifCond .eq 10, 3, 0, 18, 0, 0, []),
  (11, .iload_n 2, 1, 0, 0, 0, 0, []),
  (12, .invokestatic 305, 3, 0, 6, 0, 244, [(1, 0)]),
  (15, .ifCond .ne 6, 3, 0, 21, 0, 0, []),
  (18, .ldc 76, 2, 0, 1000001, 1, 171, []),
  (20, .ireturn, 1, 0, 0, 0, 0, []),
  (21, .aload_n 0, 1, 0, 0, 0, 0, []),
  (22, .getfield 26, 3, 0, 7, 2, 153, [(2, 0)]),
  (25, .getfield 302, 3, 0, 3, 40, 243, [(7, 0)]),
  (28, .iload_n 1, 1, 0, 0, 0, 0, []),
  (29, .iaload, 1, 0, 0, 0, 0, []),
  (30, .iload_n 2, 1, 0, 0, 0, 0, []),
  (31, .invokestatic 308, 3, 0, 7, 0, 245, [(2, 0)]),
  (34, .ifCond .eq 11, 3, 0, 45, 0, 0, []),
  (37, .aload_n 0, 1, 0, 0, 0, 0, []),
  (38, .iload_n 1, 1, 0, 0, 0, 0, []),
  (39, .invokevirtual 85, 3, 0, 129, 1, 174, [(1, 0)]),
  (42, .goto 8, 3, 0, 50, 0, 0, []),
  (45, .aload_n 0, 1, 0, 0, 0, 0, []),
  (46, .iconst 3, 1, 0, 3, 0, 0, []),
  (47, .invokevirtual 77, 3, 0, 128, 1, 172, [(1, 0)]),
  (50, .ireturn, 1, 0, 0, 0, 0, [])]
def tX7_ask : List zR := [(0, .aload_n 0, 1, 0, 0, 0, 0, []),
  (1, .getfield 26, 3, 0, 7, 2, 153, [(2, 0)]),
  (4, .iload_n 1, 1, 0, 0, 0, 0, []),
  (5, .invokevirtual 185, 3, 0, 45, 1, 205, [(1, 0)]),
  (8, .ifCond .eq 12, 3, 0, 20, 0, 0, []),
  (11, .iload_n 2, 1, 0, 0, 0, 0, []),
  (12, .iconst 0, 1, 0, 0, 0, 0, []),
  (13, .iconst 1, 1, 0, 1, 0, 0, []),
  (14, .invokestatic 221, 3, 0, 130, 0, 217, [(3, 0)]),
  (17, .ifCond .eq 6, 3, 0, 23, 0, 0, []),
  (20, .ldc 76, 2, 0, 1000001, 1, 171, []),
  (22, .ireturn, 1, 0, 0, 0, 0, []),
  (23, .aload_n 0, 1, 0, 0, 0, 0, []),
  (24, .getfield 61, 3, 0, 7, 8, 167, [(8, 0)]),
  (27, .aload_n 0, 1, 0, 0, 0, 0, []),
  (28, .getfield 26, 3, 0, 7, 2, 153, [(2, 0)]),
  (31, .iload_n 1, 1, 0, 0, 0, 0, []),
  (32, .iload_n 2, 1, 0, 0, 0, 0, []),
  (33, .invokevirtual 312, 3, 0, 8, 1, 246, [(3, 0)]),
  (36, .ireturn, 1, 0, 0, 0, 0, [])]
def tX7_trace : List zR := [(0, .iload_n 1, 1, 0, 0, 0, 0, []),
  (1, .ifCond .lt 14, 3, 0, 15, 0, 0, []),
  (4, .iload_n 1, 1, 0, 0, 0, 0, []),
  (5, .aload_n 0, 1, 0, 0, 0, 0, []),
  (6, .getfield 61, 3, 0, 7, 8, 167, [(8, 0)]),
  (9, .getfield 315, 3, 0, 1, 1, 247, [(1, 1)]),
  (12, .if_icmp .lt 8, 3, 0, 20, 0, 0, []),
  (15, .ldc 251, 2, 0, 1000000, 1, 226, []),
  (17, .goto 12, 3, 0, 29, 0, 0, []),
  (20, .aload_n 0, 1, 0, 0, 0, 0, []),
  (21, .getfield 61, 3, 0, 7, 8, 167, [(8, 0)]),
  (24, .getfield 318, 3, 0, 1, 0, 248, [(0, 0)]),
  (27, .iload_n 1, 1, 0, 0, 0, 0, []),
  (28, .iaload, 1, 0, 0, 0, 0, []),
  (29, .ireturn, 1, 0, 0, 0, 0, [])]
def tX7_count : List zR := [(0, .iload_n 1, 1, 0, 0, 0, 0, []),
  (1, .tableswitch 158 0 8 #[51, 59, 67, 75, 83, 116, 127, 142, 150], 51, 0, 159, 0, 0, [(0, 52), (1, 60), (2, 68), (3, 76), (4, 84), (5, 117), (6, 128), (7, 143), (8, 151)]),
  (52, .aload_n 0, 1, 0, 0, 0, 0, []),
  (53, .getfield 10, 3, 0, 7, 0, 147, [(0, 0)]),
  (56, .invokevirtual 321, 3, 0, 77, 1, 249, [(0, 0)]),
  (59, .ireturn, 1, 0, 0, 0, 0, []),
  (60, .aload_n 0, 1, 0, 0, 0, 0, []),
  (61, .getfield 26, 3, 0, 7, 2, 153, [(2, 0)]),
  (64, .getfield 139, 3, 0, 3, 0, 190, [(6, 1)]),
  (67, .ireturn, 1, 0, 0, 0, 0, []),
  (68, .aload_n 0, 1, 0, 0, 0, 0, []),
  (69, .getfield 26, 3, 0, 7, 2, 153, [(2, 0)]),
  (72, .getfield 206, 3, 0, 3, 1, 212, [(0, 1)]),
  (75, .ireturn, 1, 0, 0, 0, 0, []),
  (76, .aload_n 0, 1, 0, 0, 0, 0, []),
  (77, .getfield 26, 3, 0, 7, 2, 153, [(2, 0)]),
  (80, .getfield 156, 3, 0, 3, 6, 196, [(3, 1)]),
  (83, .ireturn, 1, 0, 0, 0, 0, []),
  (84, .aload_n 0, 1, 0, 0, 0, 0, []),
  (85, .getfield 26, 3, 0, 7, 2, 153, [(2, 0)]),
  (88, .invokevirtual 232, 3, 0, 47, 1, 220, [(0, 0)]),
  (91, .aload_n 0, 1, 0, 0, 0, 0, []),
  (92, .getfield 26, 3, 0, 7, 2, 153, [(2, 0)]),
  (95, .invokevirtual 169, 3, 0, 49, 1, 200, [(0, 0)]),
  (98, .iconst (-1), 1, 0, 1, 1, 0, []),
  (99, .ixor, 1, 0, 0, 0, 0, []),
  (100, .iand, 1, 0, 0, 0, 0, []),
  (101, .aload_n 0, 1, 0, 0, 0, 0, []),
  (102, .getfield 26, 3, 0, 7, 2, 153, [(2, 0)]),
  (105, .bipush 10, 2, 0, 10, 0, 0, []),
  (107, .invokevirtual 212, 3, 0, 48, 1, 214, [(1, 0)]),
  (110, .iconst (-1), 1, 0, 1, 1, 0, []),
  (111, .ixor, 1, 0, 0, 0, 0, []),
  (112, .iand, 1, 0, 0, 0, 0, []),
  (113, .invokestatic 324, 3, 0, 221, 0, 250, [(1, 0)]),
  (116, .ireturn, 1, 0, 0, 0, 0, []),
  (117, .aload_n 0, 1, 0, 0, 0, 0, []),
  (118, .getfield 26, 3, 0, 7, 2, 153, [(2, 0)]),
  (121, .invokevirtual 169, 3, 0, 49, 1, 200, [(0, 0)]),
  (124, .invokestatic 324, 3, 0, 221, 0, 250, [(1, 0)]),
  (127, .ireturn, 1, 0, 0, 0, 0, []),
  (128, .aload_n 0, 1, 0, 0, 0, 0, []),
  (129, .getfield 26, 3, 0, 7, 2, 153, [(2, 0)]),
  (132, .aload_n 0, 1, 0, 0, 0, 0, []),
  (133, .getfield 26, 3, 0, 7, 2, 153, [(2, 0)]),
  (136, .invokevirtual 232, 3, 0, 47, 1, 220, [(0, 0)]),
  (139, .invokevirtual 299, 3, 0, 53, 1, 242, [(1, 0)]),
  (142, .ireturn, 1, 0, 0, 0, 0, []),
  (143, .aload_n 0, 1, 0, 0, 0, 0, []),
  (144, .getfield 36, 3, 0, 7, 4, 157, [(4, 0)]),
  (147, .getfield 329, 3, 0, 0, 2, 251, [(2, 1)]),
  (150, .ireturn, 1, 0, 0, 0, 0, []),
  (151, .aload_n 0, 1, 0, 0, 0, 0, []),
  (152, .getfield 19, 3, 0, 7, 1, 150, [(1, 0)]),
  (155, .getfield 332, 3, 0, 6, 1, 252, [(1, 1)]),
  (158, .ireturn, 1, 0, 0, 0, 0, []),
  (159, .ldc 76, 2, 0, 1000001, 1, 171, []),
  (161, .ireturn, 1, 0, 0, 0, 0, [])]
def tX7_status : List zR := [(0, .aload_n 0, 1, 0, 0, 0, 0, []),
  (1, .getfield 65, 3, 0, 7, 9, 168, [(9, 1)]),
  (4, .ireturn, 1, 0, 0, 0, 0, [])]
def tX7_found : List zR := [(0, .aload_n 0, 1, 0, 0, 0, 0, []),
  (1, .iload_n 1, 1, 0, 0, 0, 0, []),
  (2, .putfield 65, 3, 0, 7, 9, 168, [(9, 1)]),
  (5, .ldc_w 335, 3, 0, 1000010, 1, 253, []),
  (8, .iload_n 1, 1, 0, 0, 0, 0, []),
  (9, .isub, 1, 0, 0, 0, 0, []),
  (10, .ireturn, 1, 0, 0, 0, 0, [])]
def tX7_foundNothing : List zR := [(0, .aload_n 0, 1, 0, 0, 0, 0, []),
  (1, .iconst 0, 1, 0, 0, 0, 0, []),
  (2, .putfield 65, 3, 0, 7, 9, 168, [(9, 1)]),
  (5, .iload_n 1, 1, 0, 0, 0, 0, []),
  (6, .ireturn, 1, 0, 0, 0, 0, [])]
def tX7_isOutside : List zR := [(0, .iload_n 0, 1, 0, 0, 0, 0, []),
  (1, .iload_n 1, 1, 0, 0, 0, 0, []),
  (2, .if_icmp .lt 8, 3, 0, 10, 0, 0, []),
  (5, .iload_n 0, 1, 0, 0, 0, 0, []),
  (6, .iload_n 2, 1, 0, 0, 0, 0, []),
  (7, .if_icmp .le 7, 3, 0, 14, 0, 0, []),
  (10, .iconst 1, 1, 0, 1, 0, 0, []),
  (11, .goto 4, 3, 0, 15, 0, 0, []),
  (14, .iconst 0, 1, 0, 0, 0, 0, []),
  (15, .ireturn, 1, 0, 0, 1, 0, [])]
def tX8_init : List zR := [(0, .aload_n 0, 1, 0, 0, 0, 0, []),
  (1, .invokespecial 1, 3, 0, 0, 4, 254, []),
  (4, .aload_n 0, 1, 0, 0, 0, 0, []),
  (5, .sipush 1247, 3, 0, 1247, 0, 0, []),
  (8, .newarray .int, 2, 0, 0, 0, 0, []),
  (10, .putfield 7, 3, 0, 8, 0, 255, [(0, 0)]),
  (13, .aload_n 0, 1, 0, 0, 0, 0, []),
  (14, .bipush 110, 2, 0, 110, 0, 0, []),
  (16, .newarray .int, 2, 0, 0, 0, 0, []),
  (18, .putfield 13, 3, 0, 8, 2, 256, [(2, 0)]),
  (21, .aload_n 0, 1, 0, 0, 0, 0, []),
  (22, .bipush 8, 2, 0, 8, 0, 0, []),
  (24, .newarray .int, 2, 0, 0, 0, 0, []),
  (26, .putfield 16, 3, 0, 8, 6, 257, [(6, 0)]),
  (29, .aload_n 0, 1, 0, 0, 0, 0, []),
  (30, .bipush 8, 2, 0, 8, 0, 0, []),
  (32, .newarray .int, 2, 0, 0, 0, 0, []),
  (34, .putfield 19, 3, 0, 8, 7, 258, [(7, 0)]),
  (37, .aload_n 0, 1, 0, 0, 0, 0, []),
  (38, .sipush 320, 3, 0, 320, 0, 0, []),
  (41, .newarray .int, 2, 0, 0, 0, 0, []),
  (43, .putfield 22, 3, 0, 8, 8, 259, [(8, 0)]),
  (46, .aload_n 0, 1, 0, 0, 0, 0, []),
  (47, .bipush 40, 2, 0, 40, 0, 0, []),
  (49, .newarray .int, 2, 0, 0, 0, 0, []),
  (51, .putfield 25, 3, 0, 8, 9, 260, [(9, 0)]),
  (54, .aload_n 0, 1, 0, 0, 0, 0, []),
  (55, .bipush 7, 2, 0, 7, 0, 0, []),
  (57, .newarray .int, 2, 0, 0, 0, 0, []),
  (59, .putfield 28, 3, 0, 8, 13, 261, [(13, 0)]),
  (62, .aload_n 0, 1, 0, 0, 0, 0, []),
  (63, .bipush 6, 2, 0, 6, 0, 0, []),
  (65, .newarray .int, 2, 0, 0, 0, 0, []),
  (67, .putfield 31, 3, 0, 8, 14, 262, [(14, 0)]),
  (70, .aload_n 0, 1, 0, 0, 0, 0, []),
  (71, .bipush 45, 2, 0, 45, 0, 0, []),
  (73, .newarray .int, 2, 0, 0, 0, 0, []),
  (75, .putfield 34, 3, 0, 8, 15, 263, [(15, 0)]),
  (78, .aload_n 0, 1, 0, 0, 0, 0, []),
  (79, .iconst 2, 1, 0, 2, 0, 0, []),
  (80, .newarray .boolean, 2, 0, 0, 0, 0, []),
  (82, .putfield 37, 3, 0, 8, 16, 264, [(16, 0)]),
  (85, .aload_n 0, 1, 0, 0, 0, 0, []),
  (86, .bipush 16, 2, 0, 16, 0, 0, []),
  (88, .newarray .int, 2, 0, 0, 0, 0, []),
  (90, .putfield 41, 3, 0, 8, 17, 265, [(17, 0)]),
  (93, .iconst 0, 1, 0, 0, 0, 0, []),
  (94, .istore_n 1, 1, 0, 0, 0, 0, []),
  (95, .iload_n 1, 1, 1, 0, 0, 0, []),
  (96, .bipush 8, 2, 0, 8, 0, 0, []),
  (98, .if_icmp .ge 16, 3, 0, 114, 0, 0, []),
  (101, .aload_n 0, 1, 0, 0, 0, 0, []),
  (102, .getfield 16, 3, 0, 8, 6, 257, [(6, 0)]),
  (105, .iload_n 1, 1, 0, 0, 0, 0, []),
  (106, .iconst (-1), 1, 0, 1, 1, 0, []),
  (107, .iastore, 1, 0, 0, 0, 0, []),
  (108, .iinc 1 1, 3, 0, 1, 0, 0, []),
  (111, .goto (-16), 3, 0, 95, 0, 0, []),
  (114, .return_, 1, 0, 0, 0, 0, [])]
def tX8_in : List zR := [(0, .lload_n 0, 1, 0, 0, 0, 0, []),
  (1, .lload_n 2, 1, 0, 0, 0, 0, []),
  (2, .lcmp, 1, 0, 0, 0, 0, []),
  (3, .ifCond .lt 14, 3, 0, 17, 0, 0, []),
  (6, .lload_n 0, 1, 0, 0, 0, 0, []),
  (7, .lload 4, 2, 0, 0, 0, 0, []),
  (9, .lcmp, 1, 0, 0, 0, 0, []),
  (10, .ifCond .gt 7, 3, 0, 17, 0, 0, []),
  (13, .iconst 1, 1, 0, 1, 0, 0, []),
  (14, .goto 4, 3, 0, 18, 0, 0, []),
  (17, .iconst 0, 1, 0, 0, 0, 0, []),
  (18, .ireturn, 1, 0, 0, 1, 0, [])]
def tX8_has : List zR := [(0, .iload_n 0, 1, 0, 0, 0, 0, []),
  (1, .iload_n 1, 1, 0, 0, 0, 0, []),
  (2, .ishr, 1, 0, 0, 0, 0, []),
  (3, .iconst 1, 1, 0, 1, 0, 0, []),
  (4, .iand, 1, 0, 0, 0, 0, []),
  (5, .iconst 1, 1, 0, 1, 0, 0, []),
  (6, .if_icmp .ne 7, 3, 0, 13, 0, 0, []),
  (9, .iconst 1, 1, 0, 1, 0, 0, []),
  (10, .goto 4, 3, 0, 14, 0, 0, []),
  (13, .iconst 0, 1, 0, 0, 0, 0, []),
  (14, .ireturn, 1, 0, 0, 1, 0, [])]
def tX8_ones : List zR := [(0, .iconst 0, 1, 0, 0, 0, 0, []),
  (1, .istore_n 1, 1, 0, 0, 0, 0, []),
  (2, .iconst 0, 1, 0, 0, 0, 0, []),
  (3, .istore_n 2, 1, 0, 0, 0, 0, []),
  (4, .iload_n 2, 1, 1, 0, 0, 0, []),
  (5, .bipush 6, 2, 0, 6, 0, 0, []),
  (7, .if_icmp .ge 17, 3, 0, 24, 0, 0, []),
  (10, .iload_n 1, 1, 0, 0, 0, 0, []),
  (11, .iload_n 0, 1, 0, 0, 0, 0, []),
  (12, .iload_n 2, 1, 0, 0, 0, 0, []),
  (13, .ishr, 1, 0, 0, 0, 0, []),
  (14, .iconst 1, 1, 0, 1, 0, 0, []),
  (15, .iand, 1, 0, 0, 0, 0, []),
  (16, .iadd, 1, 0, 0, 0, 0, []),
  (17, .istore_n 1, 1, 0, 0, 0, 0, []),
  (18, .iinc 2 1, 3, 0, 1, 0, 0, []),
  (21, .goto (-17), 3, 0, 4, 0, 0, []),
  (24, .iload_n 1, 1, 0, 0, 0, 0, []),
  (25, .ireturn, 1, 0, 0, 0, 0, [])]
def tX8_copyOf : List zR := [(0, .iconst 0, 1, 0, 0, 0, 0, []),
  (1, .istore_n 3, 1, 0, 0, 0, 0, []),
  (2, .iload_n 3, 1, 1, 0, 0, 0, []),
  (3, .bipush 43, 2, 0, 43, 0, 0, []),
  (5, .if_icmp .ge 25, 3, 0, 30, 0, 0, []),
  (8, .aload_n 0, 1, 0, 0, 0, 0, []),
  (9, .getfield 7, 3, 0, 8, 0, 255, [(0, 0)]),
  (12, .iload_n 2, 1, 0, 0, 0, 0, []),
  (13, .iload_n 3, 1, 0, 0, 0, 0, []),
  (14, .iadd, 1, 0, 0, 0, 0, []),
  (15, .aload_n 0, 1, 0, 0, 0, 0, []),
  (16, .getfield 7, 3, 0, 8, 0, 255, [(0, 0)]),
  (19, .iload_n 1, 1, 0, 0, 0, 0, []),
  (20, .iload_n 3, 1, 0, 0, 0, 0, []),
  (21, .iadd, 1, 0, 0, 0, 0, []),
  (22, .iaload, 1, 0, 0, 0, 0, []),
  (23, .iastore, 1, 0, 0, 0, 0, []),
  (24, .iinc 3 1, 3, 0, 1, 0, 0, []),
  (27, .goto (-25), 3, 0, 2, 0, 0, []),
  (30, .return_, 1, 0, 0, 0, 0, [])]
def tX8_isDish : List zR := [(0, .iload_n 1, 1, 0, 0, 0, 0, []),
  (1, .i2l, 1, 0, 0, 0, 0, []),
  (2, .lconst 0, 1, 0, 0, 0, 0, []),
  (3, .aload_n 0, 1, 0, 0, 0, 0, []),
  (4, .getfield 7, 3, 0, 8, 0, 255, [(0, 0)]),
  (7, .iconst 0, 1, 0, 0, 0, 0, []),
  (8, .iaload, 1, 0, 0, 0, 0, []),
  (9, .iconst 1, 1, 0, 1, 0, 0, []),
  (10, .isub, 1, 0, 0, 0, 0, []),
  (11, .i2l, 1, 0, 0, 0, 0, []),
  (12, .invokestatic 44, 3, 0, 132, 0, 266, [(3, 0)]),
  (15, .ireturn, 1, 0, 0, 1, 0, [])]
def tX8_isFloor : List zR := [(0, .iload_n 1, 1, 0, 0, 0, 0, []),
  (1, .i2l, 1, 0, 0, 0, 0, []),
  (2, .lconst 0, 1, 0, 0, 0, 0, []),
  (3, .aload_n 0, 1, 0, 0, 0, 0, []),
  (4, .getfield 7, 3, 0, 8, 0, 255, [(0, 0)]),
  (7, .iconst 1, 1, 0, 1, 0, 0, []),
  (8, .iaload, 1, 0, 0, 0, 0, []),
  (9, .iconst 1, 1, 0, 1, 0, 0, []),
  (10, .isub, 1, 0, 0, 0, 0, []),
  (11, .i2l, 1, 0, 0, 0, 0, []),
  (12, .invokestatic 44, 3, 0, 132, 0, 266, [(3, 0)]),
  (15, .ireturn, 1, 0, 0, 1, 0, [])]
def tX8_isHouse : List zR := [(0, .aload_n 0, 1, 0, 0, 0, 0, []),
  (1, .getfield 7, 3, 0, 8, 0, 255, [(0, 0)]),
  (4, .iconst 0, 1, 0, 0, 0, 0, []),
  (5, .iaload, 1, 0, 0, 0, 0, []),
  (6, .ifCond .le 7, 3, 0, 13, 0, 0, []),
  (9, .iconst 1, 1, 0, 1, 0, 0, []),
  (10, .goto 4, 3, 0, 14, 0, 0, []),
  (13, .iconst 0, 1, 0, 0, 0, 0, []),
  (14, .ireturn, 1, 0, 0, 1, 0, [])]
def tX8_isRow : List zR := [(0, .iload_n 0, 1, 0, 0, 0, 0, []),
  (1, .i2l, 1, 0, 0, 0, 0, []),
  (2, .lconst 0, 1, 0, 0, 0, 0, []),
  (3, .ldc2_w 48, 3, 0, 7, 0, 267, []),
  (6, .invokestatic 44, 3, 0, 132, 0, 266, [(3, 0)]),
  (9, .ireturn, 1, 0, 0, 1, 0, [])]
def tX8_finds : List zR := [(0, .aload_n 0, 1, 0, 0, 0, 0, []),
  (1, .iload_n 1, 1, 0, 0, 0, 0, []),
  (2, .putfield 50, 3, 0, 8, 5, 268, [(5, 1)]),
  (5, .ldc 54, 2, 0, 1000010, 1, 269, []),
  (7, .iload_n 1, 1, 0, 0, 0, 0, []),
  (8, .isub, 1, 0, 0, 0, 0, []),
  (9, .ireturn, 1, 0, 0, 0, 0, [])]
def tX8_against : List zR := [(0, .aload_n 0, 1, 0, 0, 0, 0, []),
  (1, .getfield 16, 3, 0, 8, 6, 257, [(6, 0)]),
  (4, .iload_n 1, 1, 0, 0, 0, 0, []),
  (5, .iaload, 1, 0, 0, 0, 0, []),
  (6, .ifCond .ge 7, 3, 0, 13, 0, 0, []),
  (9, .iconst 1, 1, 0, 1, 0, 0, []),
  (10, .goto 32, 3, 0, 42, 0, 0, []),
  (13, .iload_n 2, 1, 0, 0, 0, 0, []),
  (14, .ifCond .lt 23, 3, 0, 37, 0, 0, []),
  (17, .iload_n 3, 1, 0, 0, 0, 0, []),
  (18, .ifCond .lt 19, 3, 0, 37, 0, 0, []),
  (21, .iload_n 2, 1, 0, 0, 0, 0, []),
  (22, .i2l, 1, 0, 0, 0, 0, []),
  (23, .iload_n 3, 1, 0, 0, 0, 0, []),
  (24, .i2l, 1, 0, 0, 0, 0, []),
  (25, .ladd, 1, 0, 0, 0, 0, []),
  (26, .aload_n 0, 1, 0, 0, 0, 0, []),
  (27, .getfield 16, 3, 0, 8, 6, 257, [(6, 0)]),
  (30, .iload_n 1, 1, 0, 0, 0, 0, []),
  (31, .iaload, 1, 0, 0, 0, 0, []),
  (32, .i2l, 1, 0, 0, 0, 0, []),
  (33, .lcmp, 1, 0, 0, 0, 0, []),
  (34, .ifCond .le 7, 3, 0, 41, 0, 0, []),
  (37, .iconst 2, 1, 0, 2, 0, 0, []),
  (38, .goto 4, 3, 0, 42, 0, 0, []),
  (41, .iconst 0, 1, 0, 0, 0, 0, []),
  (42, .ireturn, 1, 0, 0, 0, 0, [])]
def tX8_row : List zR := [(0, .iload_n 1, 1, 0, 0, 0, 0, []),
  (1, .invokestatic 55, 3, 0, 139, 0, 270, [(1, 0)]),
  (4, .ifCond .eq 21, 3, 0, 25, 0, 0, []),
  (7, .iload_n 2, 1, 0, 0, 0, 0, []),
  (8, .i2l, 1, 0, 0, 0, 0, []),
  (9, .lconst 0, 1, 0, 0, 0, 0, []),
  (10, .ldc2_w 59, 3, 0, 2, 0, 271, []),
  (13, .invokestatic 44, 3, 0, 132, 0, 266, [(3, 0)]),
  (16, .ifCond .eq 9, 3, 0, 25, 0, 0, []),
  (19, .iload_n 3, 1, 0, 0, 0, 0, []),
  (20, .bipush 40, 2, 0, 40, 0, 0, []),
  (22, .if_icmp .le 6, 3, 0, 28, 0, 0, []),
  (25, .ldc 61, 2, 0, 1000001, 1, 272, []),
  (27, .ireturn, 1, 0, 0, 0, 0, []),
  (28, .iload_n 3, 1, 0, 0, 0, 0, []),
  (29, .ifCond .ge 9, 3, 0, 38, 0, 0, []),
  (32, .aload_n 0, 1, 0, 0, 0, 0, []),
  (33, .iconst 4, 1, 0, 4, 0, 0, []),
  (34, .invokevirtual 62, 3, 0, 140, 1, 273, [(1, 0)]),
  (37, .ireturn, 1, 0, 0, 0, 0, []),
  (38, .aload_n 0, 1, 0, 0, 0, 0, []),
  (39, .iconst 0, 1, 0, 0, 0, 0, []),
  (40, .putfield 50, 3, 0, 8, 5, 268, [(5, 1)]),
  (43, .aload_n 0, 1, 0, 0, 0, 0, []),
  (44, .getfield 16, 3, 0, 8, 6, 257, [(6, 0)]),
  (47, .iload_n 1, 1, 0, 0, 0, 0, []),
  (48, .iload_n 3, 1, 0, 0, 0, 0, []),
  (49, .iastore, 1, 0, 0, 0, 0, []),
  (50, .aload_n 0, 1, 0, 0, 0, 0, []),
  (51, .getfield 19, 3, 0, 8, 7, 258, [(7, 0)]),
  (54, .iload_n 1, 1, 0, 0, 0, 0, []),
  (55, .iload_n 2, 1, 0, 0, 0, 0, []),
  (56, .iastore, 1, 0, 0, 0, 0, []),
  (57, .iconst 0, 1, 0, 0, 0, 0, []),
  (58, .istore 4, 2, 0, 0, 0, 0, []),
  (60, .iload 4, 2, 1, 0, 0, 0, []),
  (62, .bipush 40, 2, 0, 40, 0, 0, []),
  (64, .if_icmp .ge 22, 3, 0, 86, 0, 0, []),
  (67, .aload_n 0, 1, 0, 0, 0, 0, []),
  (68, .getfield 22, 3, 0, 8, 8, 259, [(8, 0)]),
  (71, .bipush 40, 2, 0, 40, 0, 0, []),
  (73, .iload_n 1, 1, 0, 0, 0, 0, []),
  (74, .imul, 1, 0, 0, 0, 0, []),
  (75, .iload 4, 2, 0, 0, 0, 0, []),
  (77, .iadd, 1, 0, 0, 0, 0, []),
  (78, .iconst 0, 1, 0, 0, 0, 0, []),
  (79, .iastore, 1, 0, 0, 0, 0, []),
  (80, .iinc 4 1, 3, 0, 1, 0, 0, []),
  (83, .goto (-23), 3, 0, 60, 0, 0, []),
  (86, .iload_n 3, 1, 0, 0, 0, 0, []),
  (87, .ireturn, 1, 0, 0, 0, 0, [])]
def tX8_set : List zR := [(0, .iload_n 1, 1, 0, 0, 0, 0, []),
  (1, .invokestatic 55, 3, 0, 139, 0, 270, [(1, 0)]),
  (4, .ifCond .ne 6, 3, 0, 10, 0, 0, []),
  (7, .ldc 61, 2, 0, 1000001, 1, 272, []),
  (9, .ireturn, 1, 0, 0, 0, 0, []),
  (10, .aload_n 0, 1, 0, 0, 0, 0, []),
  (11, .iload_n 1, 1, 0, 0, 0, 0, []),
  (12, .iload_n 2, 1, 0, 0, 0, 0, []),
  (13, .iconst 1, 1, 0, 1, 0, 0, []),
  (14, .invokevirtual 66, 3, 0, 141, 1, 274, [(3, 0)]),
  (17, .istore 4, 2, 0, 0, 0, 0, []),
  (19, .iload 4, 2, 0, 0, 0, 0, []),
  (21, .ifCond .le 10, 3, 0, 31, 0, 0, []),
  (24, .aload_n 0, 1, 0, 0, 0, 0, []),
  (25, .iload 4, 2, 0, 0, 0, 0, []),
  (27, .invokevirtual 62, 3, 0, 140, 1, 273, [(1, 0)]),
  (30, .ireturn, 1, 0, 0, 0, 0, []),
  (31, .aload_n 0, 1, 0, 0, 0, 0, []),
  (32, .iconst 0, 1, 0, 0, 0, 0, []),
  (33, .putfield 50, 3, 0, 8, 5, 268, [(5, 1)]),
  (36, .aload_n 0, 1, 0, 0, 0, 0, []),
  (37, .getfield 22, 3, 0, 8, 8, 259, [(8, 0)]),
  (40, .bipush 40, 2, 0, 40, 0, 0, []),
  (42, .iload_n 1, 1, 0, 0, 0, 0, []),
  (43, .imul, 1, 0, 0, 0, 0, []),
  (44, .iload_n 2, 1, 0, 0, 0, 0, []),
  (45, .iadd, 1, 0, 0, 0, 0, []),
  (46, .aload_n 0, 1, 0, 0, 0, 0, []),
  (47, .getfield 19, 3, 0, 8, 7, 258, [(7, 0)]),
  (50, .iload_n 1, 1, 0, 0, 0, 0, []),
  (51, .iaload, 1, 0, 0, 0, 0, []),
  (52, .ifCond .ne 8, 3, 0, 60, 0, 0, []),
  (55, .iload_n 3, 1, 0, 0, 0, 0, []),
  (56, .i2b, 1, 0, 0, 0, 0, []),
  (57, .goto 19, 3, 0, 76, 0, 0, []),
  (60, .aload_n 0, 1, 0, 0, 0, 0, []),
  (61, .getfield 19, 3, 0, 8, 7, 258, [(7, 0)]),
  (64, .iload_n 1, 1, 0, 0, 0, 0, []),
  (65, .iaload, 1, 0, 0, 0, 0, []),
  (66, .iconst 1, 1, 0, 1, 0, 0, []),
  (67, .if_icmp .ne 8, 3, 0, 75, 0, 0, []),
  (70, .iload_n 3, 1, 0, 0, 0, 0, []),
  (71, .i2s, 1, 0, 0, 0, 0, []),
  (72, .goto 4, 3, 0, 76, 0, 0, []),
  (75, .iload_n 3, 1, 0, 0, 0, 0, []),
  (76, .iastore, 1, 0, 0, 0, 0, []),
  (77, .aload_n 0, 1, 0, 0, 0, 0, []),
  (78, .getfield 22, 3, 0, 8, 8, 259, [(8, 0)]),
  (81, .bipush 40, 2, 0, 40, 0, 0, []),
  (83, .iload_n 1, 1, 0, 0, 0, 0, []),
  (84, .imul, 1, 0, 0, 0, 0, []),
  (85, .iload_n 2, 1, 0, 0, 0, 0, []),
  (86, .iadd, 1, 0, 0, 0, 0, []),
  (87, .iaload, 1, 0, 0, 0, 0, []),
  (88, .ireturn, 1, 0, 0, 0, 0, [])]
def tX8_copy : List zR := [(0, .iload_n 1, 1, 0, 0, 0, 0, []),
  (1, .invokestatic 55, 3, 0, 139, 0, 270, [(1, 0)]),
  (4, .ifCond .eq 10, 3, 0, 14, 0, 0, []),
  (7, .iload_n 3, 1, 0, 0, 0, 0, []),
  (8, .invokestatic 55, 3, 0, 139, 0, 270, [(1, 0)]),
  (11, .ifCond .ne 6, 3, 0, 17, 0, 0, []),
  (14, .ldc 61, 2, 0, 1000001, 1, 272, []),
  (16, .ireturn, 1, 0, 0, 0, 0, []),
  (17, .aload_n 0, 1, 0, 0, 0, 0, []),
  (18, .getfield 16, 3, 0, 8, 6, 257, [(6, 0)]),
  (21, .iload_n 1, 1, 0, 0, 0, 0, []),
  (22, .iaload, 1, 0, 0, 0, 0, []),
  (23, .ifCond .lt 12, 3, 0, 35, 0, 0, []),
  (26, .aload_n 0, 1, 0, 0, 0, 0, []),
  (27, .getfield 16, 3, 0, 8, 6, 257, [(6, 0)]),
  (30, .iload_n 3, 1, 0, 0, 0, 0, []),
  (31, .iaload, 1, 0, 0, 0, 0, []),
  (32, .ifCond .ge 9, 3, 0, 41, 0, 0, []),
  (35, .aload_n 0, 1, 0, 0, 0, 0, []),
  (36, .iconst 1, 1, 0, 1, 0, 0, []),
  (37, .invokevirtual 62, 3, 0, 140, 1, 273, [(1, 0)]),
  (40, .ireturn, 1, 0, 0, 0, 0, []),
  (41, .aload_n 0, 1, 0, 0, 0, 0, []),
  (42, .getfield 19, 3, 0, 8, 7, 258, [(7, 0)]),
  (45, .iload_n 1, 1, 0, 0, 0, 0, []),
  (46, .iaload, 1, 0, 0, 0, 0, []),
  (47, .aload_n 0, 1, 0, 0, 0, 0, []),
  (48, .getfield 19, 3, 0, 8, 7, 258, [(7, 0)]),
  (51, .iload_n 3, 1, 0, 0, 0, 0, []),
  (52, .iaload, 1, 0, 0, 0, 0, []),
  (53, .if_icmp .eq 9, 3, 0, 62, 0, 0, []),
  (56, .aload_n 0, 1, 0, 0, 0, 0, []),
  (57, .iconst 5, 1, 0, 5, 0, 0, []),
  (58, .invokevirtual 62, 3, 0, 140, 1, 273, [(1, 0)]),
  (61, .ireturn, 1, 0, 0, 0, 0, []),
  (62, .aload_n 0, 1, 0, 0, 0, 0, []),
  (63, .iload_n 1, 1, 0, 0, 0, 0, []),
  (64, .iload_n 2, 1, 0, 0, 0, 0, []),
  (65, .iload 5, 2, 0, 0, 0, 0, []),
  (67, .invokevirtual 66, 3, 0, 141, 1, 274, [(3, 0)]),
  (70, .ifCond .gt 15, 3, 0, 85, 0, 0, []),
  (73, .aload_n 0, 1, 0, 0, 0, 0, []),
  (74, .iload_n 3, 1, 0, 0, 0, 0, []),
  (75, .iload 4, 2, 0, 0, 0, 0, []),
  (77, .iload 5, 2, 0, 0, 0, 0, []),
  (79, .invokevirtual 66, 3, 0, 141, 1, 274, [(3, 0)]),
  (82, .ifCond .le 9, 3, 0, 91, 0, 0, []),
  (85, .aload_n 0, 1, 0, 0, 0, 0, []),
  (86, .iconst 2, 1, 0, 2, 0, 0, []),
  (87, .invokevirtual 62, 3, 0, 140, 1, 273, [(1, 0)]),
  (90, .ireturn, 1, 0, 0, 0, 0, []),
  (91, .aload_n 0, 1, 0, 0, 0, 0, []),
  (92, .iconst 0, 1, 0, 0, 0, 0, []),
  (93, .putfield 50, 3, 0, 8, 5, 268, [(5, 1)]),
  (96, .iconst 0, 1, 0, 0, 0, 0, []),
  (97, .istore 6, 2, 0, 0, 0, 0, []),
  (99, .iload 6, 2, 1, 0, 0, 0, []),
  (101, .iload 5, 2, 0, 0, 0, 0, []),
  (103, .if_icmp .ge 30, 3, 0, 133, 0, 0, []),
  (106, .aload_n 0, 1, 0, 0, 0, 0, []),
  (107, .getfield 25, 3, 0, 8, 9, 260, [(9, 0)]),
  (110, .iload 6, 2, 0, 0, 0, 0, []),
  (112, .aload_n 0, 1, 0, 0, 0, 0, []),
  (113, .getfield 22, 3, 0, 8, 8, 259, [(8, 0)]),
  (116, .bipush 40, 2, 0, 40, 0, 0, []),
  (118, .iload_n 1, 1, 0, 0, 0, 0, []),
  (119, .imul, 1, 0, 0, 0, 0, []),
  (120, .iload_n 2, 1, 0, 0, 0, 0, []),
  (121, .iadd, 1, 0, 0, 0, 0, []),
  (122, .iload 6, 2, 0, 0, 0, 0, []),
  (124, .iadd, 1, 0, 0, 0, 0, []),
  (125, .iaload, 1, 0, 0, 0, 0, []),
  (126, .iastore, 1, 0, 0, 0, 0, []),
  (127, .iinc 6 1, 3, 0, 1, 0, 0, []),
  (130, .goto (-31), 3, 0, 99, 0, 0, []),
  (133, .iconst 0, 1, 0, 0, 0, 0, []),
  (134, .istore 6, 2, 0, 0, 0, 0, []),
  (136, .iload 6, 2, 1, 0, 0, 0, []),
  (138, .iload 5, 2, 0, 0, 0, 0, []),
  (140, .if_icmp .ge 31, 3, 0, 171, 0, 0, []),
  (143, .aload_n 0, 1, 0, 0, 0, 0, []),
  (144, .getfield 22, 3, 0, 8, 8, 259, [(8, 0)]),
  (147, .bipush 40, 2, 0, 40, 0, 0, []),
  (149, .iload_n 3, 1, 0, 0, 0, 0, []),
  (150, .imul, 1, 0, 0, 0, 0, []),
  (151, .iload 4, 2, 0, 0, 0, 0, []),
  (153, .iadd, 1, 0, 0, 0, 0, []),
  (154, .iload 6, 2, 0, 0, 0, 0, []),
  (156, .iadd, 1, 0, 0, 0, 0, []),
  (157, .aload_n 0, 1, 0, 0, 0, 0, []),
  (158, .getfield 25, 3, 0, 8, 9, 260, [(9, 0)]),
  (161, .iload 6, 2, 0, 0, 0, 0, []),
  (163, .iaload, 1, 0, 0, 0, 0, []),
  (164, .iastore, 1, 0, 0, 0, 0, []),
  (165, .iinc 6 1, 3, 0, 1, 0, 0, []),
  (168, .goto (-32), 3, 0, 136, 0, 0, []),
  (171, .iload 5, 2, 0, 0, 0, 0, []),
  (173, .ireturn, 1, 0, 0, 0, 0, [])]
def tX8_drop : List zR := [(0, .iload_n 1, 1, 0, 0, 0, 0, []),
  (1, .invokestatic 55, 3, 0, 139, 0, 270, [(1, 0)]),
  (4, .ifCond .ne 6, 3, 0, 10, 0, 0, []),
  (7, .ldc 61, 2, 0, 1000001, 1, 272, []),
  (9, .ireturn, 1, 0, 0, 0, 0, []),
  (10, .aload_n 0, 1, 0, 0, 0, 0, []),
  (11, .getfield 16, 3, 0, 8, 6, 257, [(6, 0)]),
  (14, .iload_n 1, 1, 0, 0, 0, 0, []),
  (15, .iaload, 1, 0, 0, 0, 0, []),
  (16, .ifCond .ge 9, 3, 0, 25, 0, 0, []),
  (19, .aload_n 0, 1, 0, 0, 0, 0, []),
  (20, .iconst 1, 1, 0, 1, 0, 0, []),
  (21, .invokevirtual 62, 3, 0, 140, 1, 273, [(1, 0)]),
  (24, .ireturn, 1, 0, 0, 0, 0, []),
  (25, .aload_n 0, 1, 0, 0, 0, 0, []),
  (26, .iconst 0, 1, 0, 0, 0, 0, []),
  (27, .putfield 50, 3, 0, 8, 5, 268, [(5, 1)]),
  (30, .aload_n 0, 1, 0, 0, 0, 0, []),
  (31, .getfield 16, 3, 0, 8, 6, 257, [(6, 0)]),
  (34, .iload_n 1, 1, 0, 0, 0, 0, []),
  (35, .iaload, 1, 0, 0, 0, 0, []),
  (36, .istore_n 2, 1, 0, 0, 0, 0, []),
  (37, .aload_n 0, 1, 0, 0, 0, 0, []),
  (38, .getfield 16, 3, 0, 8, 6, 257, [(6, 0)]),
  (41, .iload_n 1, 1, 0, 0, 0, 0, []),
  (42, .iconst (-1), 1, 0, 1, 1, 0, []),
  (43, .iastore, 1, 0, 0, 0, 0, []),
  (44, .iload_n 2, 1, 0, 0, 0, 0, []),
  (45, .ireturn, 1, 0, 0, 0, 0, [])]
def tX8_feed : List zR := [(0, .iload_n 1, 1, 0, 0, 0, 0, []),
  (1, .i2l, 1, 0, 0, 0, 0, []),
  (2, .lconst 0, 1, 0, 0, 0, 0, []),
  (3, .ldc2_w 70, 3, 0, 255, 0, 275, []),
  (6, .invokestatic 44, 3, 0, 132, 0, 266, [(3, 0)]),
  (9, .ifCond .ne 6, 3, 0, 15, 0, 0, []),
  (12, .ldc 61, 2, 0, 1000001, 1, 272, []),
  (14, .ireturn, 1, 0, 0, 0, 0, []),
  (15, .aload_n 0, 1, 0, 0, 0, 0, []),
  (16, .getfield 72, 3, 0, 8, 3, 276, [(3, 1)]),
  (19, .bipush 110, 2, 0, 110, 0, 0, []),
  (21, .if_icmp .ne 6, 3, 0, 27, 0, 0, []),
  (24, .ldc 75, 2, 0, 1000003, 1, 277, []),
  (26, .ireturn, 1, 0, 0, 0, 0, []),
  (27, .aload_n 0, 1, 0, 0, 0, 0, []),
  (28, .getfield 13, 3, 0, 8, 2, 256, [(2, 0)]),
  (31, .aload_n 0, 1, 0, 0, 0, 0, []),
  (32, .getfield 72, 3, 0, 8, 3, 276, [(3, 1)]),
  (35, .iload_n 1, 1, 0, 0, 0, 0, []),
  (36, .iastore, 1, 0, 0, 0, 0, []),
  (37, .aload_n 0, 1, 0, 0, 0, 0, []),
  (38, .dup, 1, 0, 0, 0, 0, []),
  (39, .getfield 72, 3, 0, 8, 3, 276, [(3, 1)]),
  (42, .iconst 1, 1, 0, 1, 0, 0, []),
  (43, .iadd, 1, 0, 0, 0, 0, []),
  (44, .putfield 72, 3, 0, 8, 3, 276, [(3, 1)]),
  (47, .aload_n 0, 1, 0, 0, 0, 0, []),
  (48, .getfield 72, 3, 0, 8, 3, 276, [(3, 1)]),
  (51, .ireturn, 1, 0, 0, 0, 0, [])]
def tX8_here : List zR := [(0, .aload_n 0, 1, 0, 0, 0, 0, []),
  (1, .getfield 76, 3, 0, 8, 10, 278, [(10, 1)]),
  (4, .aload_n 0, 1, 0, 0, 0, 0, []),
  (5, .getfield 72, 3, 0, 8, 3, 276, [(3, 1)]),
  (8, .if_icmp .ge 15, 3, 0, 23, 0, 0, []),
  (11, .aload_n 0, 1, 0, 0, 0, 0, []),
  (12, .getfield 13, 3, 0, 8, 2, 256, [(2, 0)]),
  (15, .aload_n 0, 1, 0, 0, 0, 0, []),
  (16, .getfield 76, 3, 0, 8, 10, 278, [(10, 1)]),
  (19, .iaload, 1, 0, 0, 0, 0, []),
  (20, .goto 4, 3, 0, 24, 0, 0, []),
  (23, .iconst (-1), 1, 0, 1, 1, 0, []),
  (24, .ireturn, 1, 0, 0, 0, 0, [])]
def tX8_fails : List zR := [(0, .aload_n 0, 1, 0, 0, 0, 0, []),
  (1, .iload_n 1, 1, 0, 0, 0, 0, []),
  (2, .putfield 79, 3, 0, 8, 4, 279, [(4, 1)]),
  (5, .aload_n 0, 1, 0, 0, 0, 0, []),
  (6, .iload_n 2, 1, 0, 0, 0, 0, []),
  (7, .putfield 82, 3, 0, 8, 11, 280, [(11, 1)]),
  (10, .iconst 0, 1, 0, 0, 0, 0, []),
  (11, .ireturn, 1, 0, 0, 1, 0, [])]
def tX8_takes : List zR := [(0, .aload_n 0, 1, 0, 0, 0, 0, []),
  (1, .invokevirtual 85, 3, 0, 147, 1, 281, [(0, 0)]),
  (4, .iload_n 1, 1, 0, 0, 0, 0, []),
  (5, .if_icmp .eq 13, 3, 0, 18, 0, 0, []),
  (8, .aload_n 0, 1, 0, 0, 0, 0, []),
  (9, .iconst 1, 1, 0, 1, 0, 0, []),
  (10, .aload_n 0, 1, 0, 0, 0, 0, []),
  (11, .getfield 76, 3, 0, 8, 10, 278, [(10, 1)]),
  (14, .invokevirtual 89, 3, 0, 148, 1, 282, [(2, 0)]),
  (17, .ireturn, 1, 0, 0, 1, 0, []),
  (18, .aload_n 0, 1, 0, 0, 0, 0, []),
  (19, .dup, 1, 0, 0, 0, 0, []),
  (20, .getfield 76, 3, 0, 8, 10, 278, [(10, 1)]),
  (23, .iconst 1, 1, 0, 1, 0, 0, []),
  (24, .iadd, 1, 0, 0, 0, 0, []),
  (25, .putfield 76, 3, 0, 8, 10, 278, [(10, 1)]),
  (28, .iconst 1, 1, 0, 1, 0, 0, []),
  (29, .ireturn, 1, 0, 0, 1, 0, [])]
def tX8_takesNumber : List zR := [(0, .aload_n 0, 1, 0, 0, 0, 0, []),
  (1, .getfield 76, 3, 0, 8, 10, 278, [(10, 1)]),
  (4, .istore_n 3, 1, 0, 0, 0, 0, []),
  (5, .aload_n 0, 1, 0, 0, 0, 0, []),
  (6, .iconst 0, 1, 0, 0, 0, 0, []),
  (7, .putfield 93, 3, 0, 8, 12, 283, [(12, 1)]),
  (10, .aload_n 0, 1, 1, 0, 0, 0, []),
  (11, .invokevirtual 85, 3, 0, 147, 1, 281, [(0, 0)]),
  (14, .i2l, 1, 0, 0, 0, 0, []),
  (15, .ldc2_w 96, 3, 0, 48, 0, 284, []),
  (18, .ldc2_w 98, 3, 0, 57, 0, 285, []),
  (21, .invokestatic 44, 3, 0, 132, 0, 266, [(3, 0)]),
  (24, .ifCond .eq 52, 3, 0, 76, 0, 0, []),
  (27, .aload_n 0, 1, 0, 0, 0, 0, []),
  (28, .aload_n 0, 1, 0, 0, 0, 0, []),
  (29, .getfield 76, 3, 0, 8, 10, 278, [(10, 1)]),
  (32, .iload_n 3, 1, 0, 0, 0, 0, []),
  (33, .isub, 1, 0, 0, 0, 0, []),
  (34, .iconst 2, 1, 0, 2, 0, 0, []),
  (35, .if_icmp .ge 21, 3, 0, 56, 0, 0, []),
  (38, .bipush 10, 2, 0, 10, 0, 0, []),
  (40, .aload_n 0, 1, 0, 0, 0, 0, []),
  (41, .getfield 93, 3, 0, 8, 12, 283, [(12, 1)]),
  (44, .imul, 1, 0, 0, 0, 0, []),
  (45, .aload_n 0, 1, 0, 0, 0, 0, []),
  (46, .invokevirtual 85, 3, 0, 147, 1, 281, [(0, 0)]),
  (49, .iadd, 1, 0, 0, 0, 0, []),
  (50, .bipush 48, 2, 0, 48, 0, 0, []),
  (52, .isub, 1, 0, 0, 0, 0, []),
  (53, .goto 7, 3, 0, 60, 0, 0, []),
  (56, .aload_n 0, 1, 0, 0, 0, 0, []),
  (57, .getfield 93, 3, 0, 8, 12, 283, [(12, 1)]),
  (60, .putfield 93, 3, 0, 8, 12, 283, [(12, 1)]),
  (63, .aload_n 0, 1, 0, 0, 0, 0, []),
  (64, .dup, 1, 0, 0, 0, 0, []),
  (65, .getfield 76, 3, 0, 8, 10, 278, [(10, 1)]),
  (68, .iconst 1, 1, 0, 1, 0, 0, []),
  (69, .iadd, 1, 0, 0, 0, 0, []),
  (70, .putfield 76, 3, 0, 8, 10, 278, [(10, 1)]),
  (73, .goto (-63), 3, 0, 10, 0, 0, []),
  (76, .aload_n 0, 1, 0, 0, 0, 0, []),
  (77, .getfield 76, 3, 0, 8, 10, 278, [(10, 1)]),
  (80, .iload_n 3, 1, 0, 0, 0, 0, []),
  (81, .isub, 1, 0, 0, 0, 0, []),
  (82, .i2l, 1, 0, 0, 0, 0, []),
  (83, .lconst 1, 1, 0, 1, 0, 0, []),
  (84, .ldc2_w 59, 3, 0, 2, 0, 271, []),
  (87, .invokestatic 44, 3, 0, 132, 0, 266, [(3, 0)]),
  (90, .ifCond .ne 10, 3, 0, 100, 0, 0, []),
  (93, .aload_n 0, 1, 0, 0, 0, 0, []),
  (94, .iconst 1, 1, 0, 1, 0, 0, []),
  (95, .iload_n 3, 1, 0, 0, 0, 0, []),
  (96, .invokevirtual 89, 3, 0, 148, 1, 282, [(2, 0)]),
  (99, .ireturn, 1, 0, 0, 1, 0, []),
  (100, .aload_n 0, 1, 0, 0, 0, 0, []),
  (101, .getfield 93, 3, 0, 8, 12, 283, [(12, 1)]),
  (104, .i2l, 1, 0, 0, 0, 0, []),
  (105, .iload_n 1, 1, 0, 0, 0, 0, []),
  (106, .i2l, 1, 0, 0, 0, 0, []),
  (107, .iload_n 2, 1, 0, 0, 0, 0, []),
  (108, .i2l, 1, 0, 0, 0, 0, []),
  (109, .invokestatic 44, 3, 0, 132, 0, 266, [(3, 0)]),
  (112, .ifCond .ne 10, 3, 0, 122, 0, 0, []),
  (115, .aload_n 0, 1, 0, 0, 0, 0, []),
  (116, .iconst 2, 1, 0, 2, 0, 0, []),
  (117, .iload_n 3, 1, 0, 0, 0, 0, []),
  (118, .invokevirtual 89, 3, 0, 148, 1, 282, [(2, 0)]),
  (121, .ireturn, 1, 0, 0, 1, 0, []),
  (122, .iconst 1, 1, 0, 1, 0, 0, []),
  (123, .ireturn, 1, 0, 0, 1, 0, [])]
def tX8_kindOf : List zR := [(0, .iload_n 0, 1, 0, 0, 0, 0, []),
  (1, .bipush 104, 2, 0, 104, 0, 0, []),
  (3, .if_icmp .ne 7, 3, 0, 10, 0, 0, []),
  (6, .iconst 1, 1, 0, 1, 0, 0, []),
  (7, .goto 44, 3, 0, 51, 0, 0, []),
  (10, .iload_n 0, 1, 0, 0, 0, 0, []),
  (11, .bipush 115, 2, 0, 115, 0, 0, []),
  (13, .if_icmp .ne 7, 3, 0, 20, 0, 0, []),
  (16, .iconst 2, 1, 0, 2, 0, 0, []),
  (17, .goto 34, 3, 0, 51, 0, 0, []),
  (20, .iload_n 0, 1, 0, 0, 0, 0, []),
  (21, .bipush 114, 2, 0, 114, 0, 0, []),
  (23, .if_icmp .ne 7, 3, 0, 30, 0, 0, []),
  (26, .iconst 3, 1, 0, 3, 0, 0, []),
  (27, .goto 24, 3, 0, 51, 0, 0, []),
  (30, .iload_n 0, 1, 0, 0, 0, 0, []),
  (31, .bipush 99, 2, 0, 99, 0, 0, []),
  (33, .if_icmp .ne 7, 3, 0, 40, 0, 0, []),
  (36, .iconst 4, 1, 0, 4, 0, 0, []),
  (37, .goto 14, 3, 0, 51, 0, 0, []),
  (40, .iload_n 0, 1, 0, 0, 0, 0, []),
  (41, .bipush 105, 2, 0, 105, 0, 0, []),
  (43, .if_icmp .ne 7, 3, 0, 50, 0, 0, []),
  (46, .iconst 5, 1, 0, 5, 0, 0, []),
  (47, .goto 4, 3, 0, 51, 0, 0, []),
  (50, .iconst 0, 1, 0, 0, 0, 0, []),
  (51, .ireturn, 1, 0, 0, 0, 0, [])]
def tX8_takesLaw : List zR := [(0, .aload_n 0, 1, 0, 0, 0, 0, []),
  (1, .bipush 100, 2, 0, 100, 0, 0, []),
  (3, .invokevirtual 100, 3, 0, 149, 1, 286, [(1, 0)]),
  (6, .ifCond .eq 13, 3, 0, 19, 0, 0, []),
  (9, .aload_n 0, 1, 0, 0, 0, 0, []),
  (10, .iconst 2, 1, 0, 2, 0, 0, []),
  (11, .bipush 9, 2, 0, 9, 0, 0, []),
  (13, .invokevirtual 103, 3, 0, 150, 1, 287, [(2, 0)]),
  (16, .ifCond .ne 5, 3, 0, 21, 0, 0, []),
  (19, .iconst 0, 1, 0, 0, 0, 0, []),
  (20, .ireturn, 1, 0, 0, 1, 0, []),
  (21, .aload_n 0, 1, 0, 0, 0, 0, []),
  (22, .getfield 7, 3, 0, 8, 0, 255, [(0, 0)]),
  (25, .sipush 173, 3, 0, 173, 0, 0, []),
  (28, .aload_n 0, 1, 0, 0, 0, 0, []),
  (29, .getfield 93, 3, 0, 8, 12, 283, [(12, 1)]),
  (32, .iastore, 1, 0, 0, 0, 0, []),
  (33, .aload_n 0, 1, 0, 0, 0, 0, []),
  (34, .bipush 44, 2, 0, 44, 0, 0, []),
  (36, .invokevirtual 100, 3, 0, 149, 1, 286, [(1, 0)]),
  (39, .ifCond .eq 12, 3, 0, 51, 0, 0, []),
  (42, .aload_n 0, 1, 0, 0, 0, 0, []),
  (43, .iconst 1, 1, 0, 1, 0, 0, []),
  (44, .iconst 4, 1, 0, 4, 0, 0, []),
  (45, .invokevirtual 103, 3, 0, 150, 1, 287, [(2, 0)]),
  (48, .ifCond .ne 5, 3, 0, 53, 0, 0, []),
  (51, .iconst 0, 1, 0, 0, 0, 0, []),
  (52, .ireturn, 1, 0, 0, 1, 0, []),
  (53, .aload_n 0, 1, 0, 0, 0, 0, []),
  (54, .getfield 7, 3, 0, 8, 0, 255, [(0, 0)]),
  (57, .sipush 174, 3, 0, 174, 0, 0, []),
  (60, .aload_n 0, 1, 0, 0, 0, 0, []),
  (61, .getfield 93, 3, 0, 8, 12, 283, [(12, 1)]),
  (64, .iastore, 1, 0, 0, 0, 0, []),
  (65, .aload_n 0, 1, 0, 0, 0, 0, []),
  (66, .bipush 44, 2, 0, 44, 0, 0, []),
  (68, .invokevirtual 100, 3, 0, 149, 1, 286, [(1, 0)]),
  (71, .ifCond .eq 13, 3, 0, 84, 0, 0, []),
  (74, .aload_n 0, 1, 0, 0, 0, 0, []),
  (75, .iconst 1, 1, 0, 1, 0, 0, []),
  (76, .bipush 40, 2, 0, 40, 0, 0, []),
  (78, .invokevirtual 103, 3, 0, 150, 1, 287, [(2, 0)]),
  (81, .ifCond .ne 5, 3, 0, 86, 0, 0, []),
  (84, .iconst 0, 1, 0, 0, 0, 0, []),
  (85, .ireturn, 1, 0, 0, 1, 0, []),
  (86, .aload_n 0, 1, 0, 0, 0, 0, []),
  (87, .getfield 7, 3, 0, 8, 0, 255, [(0, 0)]),
  (90, .sipush 175, 3, 0, 175, 0, 0, []),
  (93, .aload_n 0, 1, 0, 0, 0, 0, []),
  (94, .getfield 93, 3, 0, 8, 12, 283, [(12, 1)]),
  (97, .iastore, 1, 0, 0, 0, 0, []),
  (98, .aload_n 0, 1, 0, 0, 0, 0, []),
  (99, .bipush 59, 2, 0, 59, 0, 0, []),
  (101, .invokevirtual 100, 3, 0, 149, 1, 286, [(1, 0)]),
  (104, .ireturn, 1, 0, 0, 1, 0, [])]
def tX8_takesDish : List zR := [(0, .aload_n 0, 1, 0, 0, 0, 0, []),
  (1, .getfield 7, 3, 0, 8, 0, 255, [(0, 0)]),
  (4, .sipush 172, 3, 0, 172, 0, 0, []),
  (7, .iaload, 1, 0, 0, 0, 0, []),
  (8, .istore_n 1, 1, 0, 0, 0, 0, []),
  (9, .aload_n 0, 1, 0, 0, 0, 0, []),
  (10, .invokevirtual 85, 3, 0, 147, 1, 281, [(0, 0)]),
  (13, .invokestatic 106, 3, 0, 151, 0, 288, [(1, 0)]),
  (16, .istore_n 2, 1, 0, 0, 0, 0, []),
  (17, .iload_n 2, 1, 0, 0, 0, 0, []),
  (18, .ifCond .ne 13, 3, 0, 31, 0, 0, []),
  (21, .aload_n 0, 1, 0, 0, 0, 0, []),
  (22, .iconst 1, 1, 0, 1, 0, 0, []),
  (23, .aload_n 0, 1, 0, 0, 0, 0, []),
  (24, .getfield 76, 3, 0, 8, 10, 278, [(10, 1)]),
  (27, .invokevirtual 89, 3, 0, 148, 1, 282, [(2, 0)]),
  (30, .ireturn, 1, 0, 0, 1, 0, []),
  (31, .iload_n 1, 1, 0, 0, 0, 0, []),
  (32, .bipush 6, 2, 0, 6, 0, 0, []),
  (34, .if_icmp .ne 13, 3, 0, 47, 0, 0, []),
  (37, .aload_n 0, 1, 0, 0, 0, 0, []),
  (38, .iconst 3, 1, 0, 3, 0, 0, []),
  (39, .aload_n 0, 1, 0, 0, 0, 0, []),
  (40, .getfield 76, 3, 0, 8, 10, 278, [(10, 1)]),
  (43, .invokevirtual 89, 3, 0, 148, 1, 282, [(2, 0)]),
  (46, .ireturn, 1, 0, 0, 1, 0, []),
  (47, .aload_n 0, 1, 0, 0, 0, 0, []),
  (48, .dup, 1, 0, 0, 0, 0, []),
  (49, .getfield 76, 3, 0, 8, 10, 278, [(10, 1)]),
  (52, .iconst 1, 1, 0, 1, 0, 0, []),
  (53, .iadd, 1, 0, 0, 0, 0, []),
  (54, .putfield 76, 3, 0, 8, 10, 278, [(10, 1)]),
  (57, .aload_n 0, 1, 0, 0, 0, 0, []),
  (58, .getfield 7, 3, 0, 8, 0, 255, [(0, 0)]),
  (61, .sipush 179, 3, 0, 179, 0, 0, []),
  (64, .iload_n 1, 1, 0, 0, 0, 0, []),
  (65, .iadd, 1, 0, 0, 0, 0, []),
  (66, .iload_n 2, 1, 0, 0, 0, 0, []),
  (67, .iastore, 1, 0, 0, 0, 0, []),
  (68, .aload_n 0, 1, 0, 0, 0, 0, []),
  (69, .iconst 0, 1, 0, 0, 0, 0, []),
  (70, .aload_n 0, 1, 0, 0, 0, 0, []),
  (71, .getfield 7, 3, 0, 8, 0, 255, [(0, 0)]),
  (74, .sipush 173, 3, 0, 173, 0, 0, []),
  (77, .iaload, 1, 0, 0, 0, 0, []),
  (78, .iconst 1, 1, 0, 1, 0, 0, []),
  (79, .isub, 1, 0, 0, 0, 0, []),
  (80, .invokevirtual 103, 3, 0, 150, 1, 287, [(2, 0)]),
  (83, .ifCond .ne 5, 3, 0, 88, 0, 0, []),
  (86, .iconst 0, 1, 0, 0, 0, 0, []),
  (87, .ireturn, 1, 0, 0, 1, 0, []),
  (88, .aload_n 0, 1, 0, 0, 0, 0, []),
  (89, .getfield 7, 3, 0, 8, 0, 255, [(0, 0)]),
  (92, .sipush 185, 3, 0, 185, 0, 0, []),
  (95, .iload_n 1, 1, 0, 0, 0, 0, []),
  (96, .iadd, 1, 0, 0, 0, 0, []),
  (97, .aload_n 0, 1, 0, 0, 0, 0, []),
  (98, .getfield 93, 3, 0, 8, 12, 283, [(12, 1)]),
  (101, .iastore, 1, 0, 0, 0, 0, []),
  (102, .aload_n 0, 1, 0, 0, 0, 0, []),
  (103, .bipush 44, 2, 0, 44, 0, 0, []),
  (105, .invokevirtual 100, 3, 0, 149, 1, 286, [(1, 0)]),
  (108, .ifCond .eq 21, 3, 0, 129, 0, 0, []),
  (111, .aload_n 0, 1, 0, 0, 0, 0, []),
  (112, .iconst 0, 1, 0, 0, 0, 0, []),
  (113, .aload_n 0, 1, 0, 0, 0, 0, []),
  (114, .getfield 7, 3, 0, 8, 0, 255, [(0, 0)]),
  (117, .sipush 173, 3, 0, 173, 0, 0, []),
  (120, .iaload, 1, 0, 0, 0, 0, []),
  (121, .iconst 1, 1, 0, 1, 0, 0, []),
  (122, .isub, 1, 0, 0, 0, 0, []),
  (123, .invokevirtual 103, 3, 0, 150, 1, 287, [(2, 0)]),
  (126, .ifCond .ne 5, 3, 0, 131, 0, 0, []),
  (129, .iconst 0, 1, 0, 0, 0, 0, []),
  (130, .ireturn, 1, 0, 0, 1, 0, []),
  (131, .aload_n 0, 1, 0, 0, 0, 0, []),
  (132, .getfield 7, 3, 0, 8, 0, 255, [(0, 0)]),
  (135, .sipush 191, 3, 0, 191, 0, 0, []),
  (138, .iload_n 1, 1, 0, 0, 0, 0, []),
  (139, .iadd, 1, 0, 0, 0, 0, []),
  (140, .aload_n 0, 1, 0, 0, 0, 0, []),
  (141, .getfield 93, 3, 0, 8, 12, 283, [(12, 1)]),
  (144, .iastore, 1, 0, 0, 0, 0, []),
  (145, .aload_n 0, 1, 0, 0, 0, 0, []),
  (146, .bipush 44, 2, 0, 44, 0, 0, []),
  (148, .invokevirtual 100, 3, 0, 149, 1, 286, [(1, 0)]),
  (151, .ifCond .eq 13, 3, 0, 164, 0, 0, []),
  (154, .aload_n 0, 1, 0, 0, 0, 0, []),
  (155, .iconst 1, 1, 0, 1, 0, 0, []),
  (156, .bipush 9, 2, 0, 9, 0, 0, []),
  (158, .invokevirtual 103, 3, 0, 150, 1, 287, [(2, 0)]),
  (161, .ifCond .ne 5, 3, 0, 166, 0, 0, []),
  (164, .iconst 0, 1, 0, 0, 0, 0, []),
  (165, .ireturn, 1, 0, 0, 1, 0, []),
  (166, .aload_n 0, 1, 0, 0, 0, 0, []),
  (167, .getfield 7, 3, 0, 8, 0, 255, [(0, 0)]),
  (170, .sipush 197, 3, 0, 197, 0, 0, []),
  (173, .iload_n 1, 1, 0, 0, 0, 0, []),
  (174, .iadd, 1, 0, 0, 0, 0, []),
  (175, .aload_n 0, 1, 0, 0, 0, 0, []),
  (176, .getfield 93, 3, 0, 8, 12, 283, [(12, 1)]),
  (179, .iastore, 1, 0, 0, 0, 0, []),
  (180, .aload_n 0, 1, 0, 0, 0, 0, []),
  (181, .bipush 44, 2, 0, 44, 0, 0, []),
  (183, .invokevirtual 100, 3, 0, 149, 1, 286, [(1, 0)]),
  (186, .ifCond .eq 13, 3, 0, 199, 0, 0, []),
  (189, .aload_n 0, 1, 0, 0, 0, 0, []),
  (190, .iconst 0, 1, 0, 0, 0, 0, []),
  (191, .bipush 60, 2, 0, 60, 0, 0, []),
  (193, .invokevirtual 103, 3, 0, 150, 1, 287, [(2, 0)]),
  (196, .ifCond .ne 5, 3, 0, 201, 0, 0, []),
  (199, .iconst 0, 1, 0, 0, 0, 0, []),
  (200, .ireturn, 1, 0, 0, 1, 0, []),
  (201, .aload_n 0, 1, 0, 0, 0, 0, []),
  (202, .getfield 7, 3, 0, 8, 0, 255, [(0, 0)]),
  (205, .sipush 203, 3, 0, 203, 0, 0, []),
  (208, .iload_n 1, 1, 0, 0, 0, 0, []),
  (209, .iadd, 1, 0, 0, 0, 0, []),
  (210, .aload_n 0, 1, 0, 0, 0, 0, []),
  (211, .getfield 93, 3, 0, 8, 12, 283, [(12, 1)]),
  (214, .iastore, 1, 0, 0, 0, 0, []),
  (215, .aload_n 0, 1, 0, 0, 0, 0, []),
  (216, .getfield 7, 3, 0, 8, 0, 255, [(0, 0)]),
  (219, .sipush 209, 3, 0, 209, 0, 0, []),
  (222, .iload_n 1, 1, 0, 0, 0, 0, []),
  (223, .iadd, 1, 0, 0, 0, 0, []),
  (224, .iload_n 1, 1, 0, 0, 0, 0, []),
  (225, .iastore, 1, 0, 0, 0, 0, []),
  (226, .aload_n 0, 1, 0, 0, 0, 0, []),
  (227, .getfield 7, 3, 0, 8, 0, 255, [(0, 0)]),
  (230, .sipush 172, 3, 0, 172, 0, 0, []),
  (233, .dup2, 1, 0, 0, 0, 0, []),
  (234, .iaload, 1, 0, 0, 0, 0, []),
  (235, .iconst 1, 1, 0, 1, 0, 0, []),
  (236, .iadd, 1, 0, 0, 0, 0, []),
  (237, .iastore, 1, 0, 0, 0, 0, []),
  (238, .aload_n 0, 1, 0, 0, 0, 0, []),
  (239, .bipush 59, 2, 0, 59, 0, 0, []),
  (241, .invokevirtual 100, 3, 0, 149, 1, 286, [(1, 0)]),
  (244, .ireturn, 1, 0, 0, 1, 0, [])]
def tX8_takesAll : List zR := [(0, .aload_n 0, 1, 0, 0, 0, 0, []),
  (1, .invokevirtual 109, 3, 0, 152, 1, 289, [(0, 0)]),
  (4, .ifCond .ne 5, 3, 0, 9, 0, 0, []),
  (7, .iconst 0, 1, 0, 0, 0, 0, []),
  (8, .ireturn, 1, 0, 0, 1, 0, []),
  (9, .aload_n 0, 1, 1, 0, 0, 0, []),
  (10, .getfield 7, 3, 0, 8, 0, 255, [(0, 0)]),
  (13, .sipush 172, 3, 0, 172, 0, 0, []),
  (16, .iaload, 1, 0, 0, 0, 0, []),
  (17, .ifCond .eq 14, 3, 0, 31, 0, 0, []),
  (20, .aload_n 0, 1, 0, 0, 0, 0, []),
  (21, .getfield 76, 3, 0, 8, 10, 278, [(10, 1)]),
  (24, .aload_n 0, 1, 0, 0, 0, 0, []),
  (25, .getfield 72, 3, 0, 8, 3, 276, [(3, 1)]),
  (28, .if_icmp .ge 12, 3, 0, 40, 0, 0, []),
  (31, .aload_n 0, 1, 0, 0, 0, 0, []),
  (32, .invokevirtual 113, 3, 0, 153, 1, 290, [(0, 0)]),
  (35, .ifCond .ne (-26), 3, 0, 9, 0, 0, []),
  (38, .iconst 0, 1, 0, 0, 0, 0, []),
  (39, .ireturn, 1, 0, 0, 1, 0, []),
  (40, .iconst 1, 1, 0, 1, 0, 0, []),
  (41, .ireturn, 1, 0, 0, 1, 0, [])]
def tX8_house : List zR := [(0, .iconst 0, 1, 0, 0, 0, 0, []),
  (1, .istore_n 1, 1, 0, 0, 0, 0, []),
  (2, .iload_n 1, 1, 1, 0, 0, 0, []),
  (3, .bipush 43, 2, 0, 43, 0, 0, []),
  (5, .if_icmp .ge 20, 3, 0, 25, 0, 0, []),
  (8, .aload_n 0, 1, 0, 0, 0, 0, []),
  (9, .getfield 7, 3, 0, 8, 0, 255, [(0, 0)]),
  (12, .sipush 172, 3, 0, 172, 0, 0, []),
  (15, .iload_n 1, 1, 0, 0, 0, 0, []),
  (16, .iadd, 1, 0, 0, 0, 0, []),
  (17, .iconst 0, 1, 0, 0, 0, 0, []),
  (18, .iastore, 1, 0, 0, 0, 0, []),
  (19, .iinc 1 1, 3, 0, 1, 0, 0, []),
  (22, .goto (-20), 3, 0, 2, 0, 0, []),
  (25, .aload_n 0, 1, 0, 0, 0, 0, []),
  (26, .getfield 7, 3, 0, 8, 0, 255, [(0, 0)]),
  (29, .sipush 177, 3, 0, 177, 0, 0, []),
  (32, .iconst 1, 1, 0, 1, 0, 0, []),
  (33, .iastore, 1, 0, 0, 0, 0, []),
  (34, .aload_n 0, 1, 0, 0, 0, 0, []),
  (35, .iconst 0, 1, 0, 0, 0, 0, []),
  (36, .putfield 76, 3, 0, 8, 10, 278, [(10, 1)]),
  (39, .aload_n 0, 1, 0, 0, 0, 0, []),
  (40, .invokevirtual 116, 3, 0, 154, 1, 291, [(0, 0)]),
  (43, .istore_n 1, 1, 0, 0, 0, 0, []),
  (44, .aload_n 0, 1, 0, 0, 0, 0, []),
  (45, .iconst 0, 1, 0, 0, 0, 0, []),
  (46, .putfield 72, 3, 0, 8, 3, 276, [(3, 1)]),
  (49, .iload_n 1, 1, 0, 0, 0, 0, []),
  (50, .ifCond .ne 11, 3, 0, 61, 0, 0, []),
  (53, .ldc 119, 2, 0, 1000100, 1, 292, []),
  (55, .aload_n 0, 1, 0, 0, 0, 0, []),
  (56, .getfield 82, 3, 0, 8, 11, 280, [(11, 1)]),
  (59, .isub, 1, 0, 0, 0, 0, []),
  (60, .ireturn, 1, 0, 0, 0, 0, []),
  (61, .aload_n 0, 1, 0, 0, 0, 0, []),
  (62, .sipush 172, 3, 0, 172, 0, 0, []),
  (65, .iconst 0, 1, 0, 0, 0, 0, []),
  (66, .invokevirtual 120, 3, 0, 135, 1, 293, [(2, 0)]),
  (69, .aload_n 0, 1, 0, 0, 0, 0, []),
  (70, .iconst 0, 1, 0, 0, 0, 0, []),
  (71, .putfield 124, 3, 0, 8, 1, 294, [(1, 1)]),
  (74, .aload_n 0, 1, 0, 0, 0, 0, []),
  (75, .getfield 7, 3, 0, 8, 0, 255, [(0, 0)]),
  (78, .iconst 0, 1, 0, 0, 0, 0, []),
  (79, .iaload, 1, 0, 0, 0, 0, []),
  (80, .ireturn, 1, 0, 0, 0, 0, [])]
def tX8_fault : List zR := [(0, .aload_n 0, 1, 0, 0, 0, 0, []),
  (1, .getfield 79, 3, 0, 8, 4, 279, [(4, 1)]),
  (4, .ireturn, 1, 0, 0, 0, 0, [])]
def tX8_insideOf : List zR := [(0, .iconst 0, 1, 0, 0, 0, 0, []),
  (1, .istore_n 2, 1, 0, 0, 0, 0, []),
  (2, .iconst 0, 1, 0, 0, 0, 0, []),
  (3, .istore_n 3, 1, 0, 0, 0, 0, []),
  (4, .iload_n 3, 1, 1, 0, 0, 0, []),
  (5, .aload_n 0, 1, 0, 0, 0, 0, []),
  (6, .getfield 7, 3, 0, 8, 0, 255, [(0, 0)]),
  (9, .iload_n 1, 1, 0, 0, 0, 0, []),
  (10, .iconst 0, 1, 0, 0, 0, 0, []),
  (11, .iadd, 1, 0, 0, 0, 0, []),
  (12, .iaload, 1, 0, 0, 0, 0, []),
  (13, .if_icmp .ge 35, 3, 0, 48, 0, 0, []),
  (16, .iload_n 2, 1, 0, 0, 0, 0, []),
  (17, .aload_n 0, 1, 0, 0, 0, 0, []),
  (18, .getfield 7, 3, 0, 8, 0, 255, [(0, 0)]),
  (21, .iload_n 1, 1, 0, 0, 0, 0, []),
  (22, .bipush 13, 2, 0, 13, 0, 0, []),
  (24, .iadd, 1, 0, 0, 0, 0, []),
  (25, .iload_n 3, 1, 0, 0, 0, 0, []),
  (26, .iadd, 1, 0, 0, 0, 0, []),
  (27, .iaload, 1, 0, 0, 0, 0, []),
  (28, .bipush 10, 2, 0, 10, 0, 0, []),
  (30, .if_icmp .ne 9, 3, 0, 39, 0, 0, []),
  (33, .iconst 1, 1, 0, 1, 0, 0, []),
  (34, .iload_n 3, 1, 0, 0, 0, 0, []),
  (35, .ishl, 1, 0, 0, 0, 0, []),
  (36, .goto 4, 3, 0, 40, 0, 0, []),
  (39, .iconst 0, 1, 0, 0, 0, 0, []),
  (40, .ior, 1, 0, 0, 0, 0, []),
  (41, .istore_n 2, 1, 0, 0, 0, 0, []),
  (42, .iinc 3 1, 3, 0, 1, 0, 0, []),
  (45, .goto (-41), 3, 0, 4, 0, 0, []),
  (48, .iload_n 2, 1, 0, 0, 0, 0, []),
  (49, .ireturn, 1, 0, 0, 0, 0, [])]
def tX8_servedOf : List zR := [(0, .iconst 0, 1, 0, 0, 0, 0, []),
  (1, .istore_n 2, 1, 0, 0, 0, 0, []),
  (2, .iconst 0, 1, 0, 0, 0, 0, []),
  (3, .istore_n 3, 1, 0, 0, 0, 0, []),
  (4, .iload_n 3, 1, 1, 0, 0, 0, []),
  (5, .aload_n 0, 1, 0, 0, 0, 0, []),
  (6, .getfield 7, 3, 0, 8, 0, 255, [(0, 0)]),
  (9, .iload_n 1, 1, 0, 0, 0, 0, []),
  (10, .iconst 0, 1, 0, 0, 0, 0, []),
  (11, .iadd, 1, 0, 0, 0, 0, []),
  (12, .iaload, 1, 0, 0, 0, 0, []),
  (13, .if_icmp .ge 35, 3, 0, 48, 0, 0, []),
  (16, .iload_n 2, 1, 0, 0, 0, 0, []),
  (17, .aload_n 0, 1, 0, 0, 0, 0, []),
  (18, .getfield 7, 3, 0, 8, 0, 255, [(0, 0)]),
  (21, .iload_n 1, 1, 0, 0, 0, 0, []),
  (22, .bipush 13, 2, 0, 13, 0, 0, []),
  (24, .iadd, 1, 0, 0, 0, 0, []),
  (25, .iload_n 3, 1, 0, 0, 0, 0, []),
  (26, .iadd, 1, 0, 0, 0, 0, []),
  (27, .iaload, 1, 0, 0, 0, 0, []),
  (28, .bipush 11, 2, 0, 11, 0, 0, []),
  (30, .if_icmp .ne 9, 3, 0, 39, 0, 0, []),
  (33, .iconst 1, 1, 0, 1, 0, 0, []),
  (34, .iload_n 3, 1, 0, 0, 0, 0, []),
  (35, .ishl, 1, 0, 0, 0, 0, []),
  (36, .goto 4, 3, 0, 40, 0, 0, []),
  (39, .iconst 0, 1, 0, 0, 0, 0, []),
  (40, .ior, 1, 0, 0, 0, 0, []),
  (41, .istore_n 2, 1, 0, 0, 0, 0, []),
  (42, .iinc 3 1, 3, 0, 1, 0, 0, []),
  (45, .goto (-41), 3, 0, 4, 0, 0, []),
  (48, .iload_n 2, 1, 0, 0, 0, 0, []),
  (49, .ireturn, 1, 0, 0, 0, 0, [])]
def tX8_weightOf : List zR := [(0, .iconst 0, 1, 0, 0, 0, 0, []),
  (1, .istore_n 3, 1, 0, 0, 0, 0, []),
  (2, .iconst 0, 1, 0, 0, 0, 0, []),
  (3, .istore 4, 2, 0, 0, 0, 0, []),
  (5, .iload 4, 2, 1, 0, 0, 0, []),
  (7, .aload_n 0, 1, 0, 0, 0, 0, []),
  (8, .getfield 7, 3, 0, 8, 0, 255, [(0, 0)]),
  (11, .iload_n 1, 1, 0, 0, 0, 0, []),
  (12, .iconst 0, 1, 0, 0, 0, 0, []),
  (13, .iadd, 1, 0, 0, 0, 0, []),
  (14, .iaload, 1, 0, 0, 0, 0, []),
  (15, .if_icmp .ge 37, 3, 0, 52, 0, 0, []),
  (18, .iload_n 3, 1, 0, 0, 0, 0, []),
  (19, .iload_n 2, 1, 0, 0, 0, 0, []),
  (20, .iload 4, 2, 0, 0, 0, 0, []),
  (22, .invokestatic 127, 3, 0, 133, 0, 295, [(2, 0)]),
  (25, .ifCond .eq 18, 3, 0, 43, 0, 0, []),
  (28, .aload_n 0, 1, 0, 0, 0, 0, []),
  (29, .getfield 7, 3, 0, 8, 0, 255, [(0, 0)]),
  (32, .iload_n 1, 1, 0, 0, 0, 0, []),
  (33, .bipush 25, 2, 0, 25, 0, 0, []),
  (35, .iadd, 1, 0, 0, 0, 0, []),
  (36, .iload 4, 2, 0, 0, 0, 0, []),
  (38, .iadd, 1, 0, 0, 0, 0, []),
  (39, .iaload, 1, 0, 0, 0, 0, []),
  (40, .goto 4, 3, 0, 44, 0, 0, []),
  (43, .iconst 0, 1, 0, 0, 0, 0, []),
  (44, .iadd, 1, 0, 0, 0, 0, []),
  (45, .istore_n 3, 1, 0, 0, 0, 0, []),
  (46, .iinc 4 1, 3, 0, 1, 0, 0, []),
  (49, .goto (-44), 3, 0, 5, 0, 0, []),
  (52, .iload_n 3, 1, 0, 0, 0, 0, []),
  (53, .ireturn, 1, 0, 0, 0, 0, [])]
def tX8_serves : List zR := [(0, .iconst 0, 1, 0, 0, 0, 0, []),
  (1, .istore_n 2, 1, 0, 0, 0, 0, []),
  (2, .iload_n 2, 1, 1, 0, 0, 0, []),
  (3, .aload_n 0, 1, 0, 0, 0, 0, []),
  (4, .getfield 7, 3, 0, 8, 0, 255, [(0, 0)]),
  (7, .iload_n 1, 1, 0, 0, 0, 0, []),
  (8, .iconst 0, 1, 0, 0, 0, 0, []),
  (9, .iadd, 1, 0, 0, 0, 0, []),
  (10, .iaload, 1, 0, 0, 0, 0, []),
  (11, .if_icmp .ge 106, 3, 0, 117, 0, 0, []),
  (14, .aload_n 0, 1, 0, 0, 0, 0, []),
  (15, .getfield 7, 3, 0, 8, 0, 255, [(0, 0)]),
  (18, .iload_n 1, 1, 0, 0, 0, 0, []),
  (19, .bipush 13, 2, 0, 13, 0, 0, []),
  (21, .iadd, 1, 0, 0, 0, 0, []),
  (22, .iload_n 2, 1, 0, 0, 0, 0, []),
  (23, .iadd, 1, 0, 0, 0, 0, []),
  (24, .iaload, 1, 0, 0, 0, 0, []),
  (25, .bipush 10, 2, 0, 10, 0, 0, []),
  (27, .if_icmp .eq 25, 3, 0, 52, 0, 0, []),
  (30, .aload_n 0, 1, 0, 0, 0, 0, []),
  (31, .getfield 7, 3, 0, 8, 0, 255, [(0, 0)]),
  (34, .iload_n 1, 1, 0, 0, 0, 0, []),
  (35, .bipush 13, 2, 0, 13, 0, 0, []),
  (37, .iadd, 1, 0, 0, 0, 0, []),
  (38, .iload_n 2, 1, 0, 0, 0, 0, []),
  (39, .iadd, 1, 0, 0, 0, 0, []),
  (40, .iaload, 1, 0, 0, 0, 0, []),
  (41, .aload_n 0, 1, 0, 0, 0, 0, []),
  (42, .getfield 7, 3, 0, 8, 0, 255, [(0, 0)]),
  (45, .iload_n 1, 1, 0, 0, 0, 0, []),
  (46, .iconst 4, 1, 0, 4, 0, 0, []),
  (47, .iadd, 1, 0, 0, 0, 0, []),
  (48, .iaload, 1, 0, 0, 0, 0, []),
  (49, .if_icmp .ne 7, 3, 0, 56, 0, 0, []),
  (52, .iconst 1, 1, 0, 1, 0, 0, []),
  (53, .goto 4, 3, 0, 57, 0, 0, []),
  (56, .iconst 0, 1, 0, 0, 0, 0, []),
  (57, .istore_n 3, 1, 0, 0, 0, 0, []),
  (58, .aload_n 0, 1, 0, 0, 0, 0, []),
  (59, .getfield 7, 3, 0, 8, 0, 255, [(0, 0)]),
  (62, .iload_n 1, 1, 0, 0, 0, 0, []),
  (63, .bipush 13, 2, 0, 13, 0, 0, []),
  (65, .iadd, 1, 0, 0, 0, 0, []),
  (66, .iload_n 2, 1, 0, 0, 0, 0, []),
  (67, .iadd, 1, 0, 0, 0, 0, []),
  (68, .iload_n 3, 1, 0, 0, 0, 0, []),
  (69, .ifCond .eq 30, 3, 0, 99, 0, 0, []),
  (72, .aload_n 0, 1, 0, 0, 0, 0, []),
  (73, .getfield 7, 3, 0, 8, 0, 255, [(0, 0)]),
  (76, .iload_n 1, 1, 0, 0, 0, 0, []),
  (77, .bipush 19, 2, 0, 19, 0, 0, []),
  (79, .iadd, 1, 0, 0, 0, 0, []),
  (80, .iload_n 2, 1, 0, 0, 0, 0, []),
  (81, .iadd, 1, 0, 0, 0, 0, []),
  (82, .iaload, 1, 0, 0, 0, 0, []),
  (83, .aload_n 0, 1, 0, 0, 0, 0, []),
  (84, .getfield 7, 3, 0, 8, 0, 255, [(0, 0)]),
  (87, .iload_n 1, 1, 0, 0, 0, 0, []),
  (88, .iconst 4, 1, 0, 4, 0, 0, []),
  (89, .iadd, 1, 0, 0, 0, 0, []),
  (90, .iaload, 1, 0, 0, 0, 0, []),
  (91, .if_icmp .ne 8, 3, 0, 99, 0, 0, []),
  (94, .bipush 11, 2, 0, 11, 0, 0, []),
  (96, .goto 14, 3, 0, 110, 0, 0, []),
  (99, .aload_n 0, 1, 0, 0, 0, 0, []),
  (100, .getfield 7, 3, 0, 8, 0, 255, [(0, 0)]),
  (103, .iload_n 1, 1, 0, 0, 0, 0, []),
  (104, .bipush 13, 2, 0, 13, 0, 0, []),
  (106, .iadd, 1, 0, 0, 0, 0, []),
  (107, .iload_n 2, 1, 0, 0, 0, 0, []),
  (108, .iadd, 1, 0, 0, 0, 0, []),
  (109, .iaload, 1, 0, 0, 0, 0, []),
  (110, .iastore, 1, 0, 0, 0, 0, []),
  (111, .iinc 2 1, 3, 0, 1, 0, 0, []),
  (114, .goto (-112), 3, 0, 2, 0, 0, []),
  (117, .iconst 0, 1, 0, 0, 0, 0, []),
  (118, .istore_n 2, 1, 0, 0, 0, 0, []),
  (119, .iload_n 2, 1, 1, 0, 0, 0, []),
  (120, .aload_n 0, 1, 0, 0, 0, 0, []),
  (121, .getfield 7, 3, 0, 8, 0, 255, [(0, 0)]),
  (124, .iload_n 1, 1, 0, 0, 0, 0, []),
  (125, .iconst 0, 1, 0, 0, 0, 0, []),
  (126, .iadd, 1, 0, 0, 0, 0, []),
  (127, .iaload, 1, 0, 0, 0, 0, []),
  (128, .if_icmp .ge 135, 3, 0, 263, 0, 0, []),
  (131, .aload_n 0, 1, 0, 0, 0, 0, []),
  (132, .getfield 7, 3, 0, 8, 0, 255, [(0, 0)]),
  (135, .iload_n 1, 1, 0, 0, 0, 0, []),
  (136, .bipush 37, 2, 0, 37, 0, 0, []),
  (138, .iadd, 1, 0, 0, 0, 0, []),
  (139, .iload_n 2, 1, 0, 0, 0, 0, []),
  (140, .iadd, 1, 0, 0, 0, 0, []),
  (141, .iaload, 1, 0, 0, 0, 0, []),
  (142, .istore_n 3, 1, 0, 0, 0, 0, []),
  (143, .aload_n 0, 1, 0, 0, 0, 0, []),
  (144, .iload_n 1, 1, 0, 0, 0, 0, []),
  (145, .invokevirtual 130, 3, 0, 157, 1, 296, [(1, 0)]),
  (148, .istore 4, 2, 0, 0, 0, 0, []),
  (150, .iload 4, 2, 0, 0, 0, 0, []),
  (152, .invokestatic 133, 3, 0, 134, 0, 297, [(1, 0)]),
  (155, .aload_n 0, 1, 0, 0, 0, 0, []),
  (156, .getfield 7, 3, 0, 8, 0, 255, [(0, 0)]),
  (159, .iload_n 1, 1, 0, 0, 0, 0, []),
  (160, .iconst 2, 1, 0, 2, 0, 0, []),
  (161, .iadd, 1, 0, 0, 0, 0, []),
  (162, .iaload, 1, 0, 0, 0, 0, []),
  (163, .if_icmp .ge 37, 3, 0, 200, 0, 0, []),
  (166, .aload_n 0, 1, 0, 0, 0, 0, []),
  (167, .iload_n 1, 1, 0, 0, 0, 0, []),
  (168, .iload 4, 2, 0, 0, 0, 0, []),
  (170, .invokevirtual 136, 3, 0, 159, 1, 298, [(2, 0)]),
  (173, .aload_n 0, 1, 0, 0, 0, 0, []),
  (174, .getfield 7, 3, 0, 8, 0, 255, [(0, 0)]),
  (177, .iload_n 1, 1, 0, 0, 0, 0, []),
  (178, .bipush 25, 2, 0, 25, 0, 0, []),
  (180, .iadd, 1, 0, 0, 0, 0, []),
  (181, .iload_n 3, 1, 0, 0, 0, 0, []),
  (182, .iadd, 1, 0, 0, 0, 0, []),
  (183, .iaload, 1, 0, 0, 0, 0, []),
  (184, .iadd, 1, 0, 0, 0, 0, []),
  (185, .aload_n 0, 1, 0, 0, 0, 0, []),
  (186, .getfield 7, 3, 0, 8, 0, 255, [(0, 0)]),
  (189, .iload_n 1, 1, 0, 0, 0, 0, []),
  (190, .iconst 3, 1, 0, 3, 0, 0, []),
  (191, .iadd, 1, 0, 0, 0, 0, []),
  (192, .iaload, 1, 0, 0, 0, 0, []),
  (193, .if_icmp .gt 7, 3, 0, 200, 0, 0, []),
  (196, .iconst 1, 1, 0, 1, 0, 0, []),
  (197, .goto 4, 3, 0, 201, 0, 0, []),
  (200, .iconst 0, 1, 0, 0, 0, 0, []),
  (201, .istore 5, 2, 0, 0, 0, 0, []),
  (203, .aload_n 0, 1, 0, 0, 0, 0, []),
  (204, .getfield 7, 3, 0, 8, 0, 255, [(0, 0)]),
  (207, .iload_n 1, 1, 0, 0, 0, 0, []),
  (208, .bipush 13, 2, 0, 13, 0, 0, []),
  (210, .iadd, 1, 0, 0, 0, 0, []),
  (211, .iload_n 3, 1, 0, 0, 0, 0, []),
  (212, .iadd, 1, 0, 0, 0, 0, []),
  (213, .aload_n 0, 1, 0, 0, 0, 0, []),
  (214, .getfield 7, 3, 0, 8, 0, 255, [(0, 0)]),
  (217, .iload_n 1, 1, 0, 0, 0, 0, []),
  (218, .bipush 13, 2, 0, 13, 0, 0, []),
  (220, .iadd, 1, 0, 0, 0, 0, []),
  (221, .iload_n 3, 1, 0, 0, 0, 0, []),
  (222, .iadd, 1, 0, 0, 0, 0, []),
  (223, .iaload, 1, 0, 0, 0, 0, []),
  (224, .aload_n 0, 1, 0, 0, 0, 0, []),
  (225, .getfield 7, 3, 0, 8, 0, 255, [(0, 0)]),
  (228, .iload_n 1, 1, 0, 0, 0, 0, []),
  (229, .iconst 4, 1, 0, 4, 0, 0, []),
  (230, .iadd, 1, 0, 0, 0, 0, []),
  (231, .iaload, 1, 0, 0, 0, 0, []),
  (232, .if_icmp .ne 13, 3, 0, 245, 0, 0, []),
  (235, .iload 5, 2, 0, 0, 0, 0, []),
  (237, .ifCond .eq 8, 3, 0, 245, 0, 0, []),
  (240, .bipush 10, 2, 0, 10, 0, 0, []),
  (242, .goto 14, 3, 0, 256, 0, 0, []),
  (245, .aload_n 0, 1, 0, 0, 0, 0, []),
  (246, .getfield 7, 3, 0, 8, 0, 255, [(0, 0)]),
  (249, .iload_n 1, 1, 0, 0, 0, 0, []),
  (250, .bipush 13, 2, 0, 13, 0, 0, []),
  (252, .iadd, 1, 0, 0, 0, 0, []),
  (253, .iload_n 3, 1, 0, 0, 0, 0, []),
  (254, .iadd, 1, 0, 0, 0, 0, []),
  (255, .iaload, 1, 0, 0, 0, 0, []),
  (256, .iastore, 1, 0, 0, 0, 0, []),
  (257, .iinc 2 1, 3, 0, 1, 0, 0, []),
  (260, .goto (-141), 3, 0, 119, 0, 0, []),
  (263, .return_, 1, 0, 0, 0, 0, [])]
def tX8_calledOf : List zR := [(0, .iconst 0, 1, 0, 0, 0, 0, []),
  (1, .istore_n 2, 1, 0, 0, 0, 0, []),
  (2, .iconst 0, 1, 0, 0, 0, 0, []),
  (3, .istore_n 3, 1, 0, 0, 0, 0, []),
  (4, .iload_n 3, 1, 1, 0, 0, 0, []),
  (5, .aload_n 0, 1, 0, 0, 0, 0, []),
  (6, .getfield 7, 3, 0, 8, 0, 255, [(0, 0)]),
  (9, .iload_n 1, 1, 0, 0, 0, 0, []),
  (10, .iconst 0, 1, 0, 0, 0, 0, []),
  (11, .iadd, 1, 0, 0, 0, 0, []),
  (12, .iaload, 1, 0, 0, 0, 0, []),
  (13, .if_icmp .ge 85, 3, 0, 98, 0, 0, []),
  (16, .aload_n 0, 1, 0, 0, 0, 0, []),
  (17, .getfield 7, 3, 0, 8, 0, 255, [(0, 0)]),
  (20, .iload_n 1, 1, 0, 0, 0, 0, []),
  (21, .bipush 13, 2, 0, 13, 0, 0, []),
  (23, .iadd, 1, 0, 0, 0, 0, []),
  (24, .iload_n 3, 1, 0, 0, 0, 0, []),
  (25, .iadd, 1, 0, 0, 0, 0, []),
  (26, .iaload, 1, 0, 0, 0, 0, []),
  (27, .istore 4, 2, 0, 0, 0, 0, []),
  (29, .iload_n 2, 1, 0, 0, 0, 0, []),
  (30, .iload 4, 2, 0, 0, 0, 0, []),
  (32, .bipush 10, 2, 0, 10, 0, 0, []),
  (34, .if_icmp .ne 19, 3, 0, 53, 0, 0, []),
  (37, .iconst 1, 1, 0, 1, 0, 0, []),
  (38, .aload_n 0, 1, 0, 0, 0, 0, []),
  (39, .getfield 7, 3, 0, 8, 0, 255, [(0, 0)]),
  (42, .iload_n 1, 1, 0, 0, 0, 0, []),
  (43, .bipush 19, 2, 0, 19, 0, 0, []),
  (45, .iadd, 1, 0, 0, 0, 0, []),
  (46, .iload_n 3, 1, 0, 0, 0, 0, []),
  (47, .iadd, 1, 0, 0, 0, 0, []),
  (48, .iaload, 1, 0, 0, 0, 0, []),
  (49, .ishl, 1, 0, 0, 0, 0, []),
  (50, .goto 40, 3, 0, 90, 0, 0, []),
  (53, .iload 4, 2, 0, 0, 0, 0, []),
  (55, .bipush 10, 2, 0, 10, 0, 0, []),
  (57, .if_icmp .ge 32, 3, 0, 89, 0, 0, []),
  (60, .aload_n 0, 1, 0, 0, 0, 0, []),
  (61, .getfield 7, 3, 0, 8, 0, 255, [(0, 0)]),
  (64, .iload_n 1, 1, 0, 0, 0, 0, []),
  (65, .bipush 25, 2, 0, 25, 0, 0, []),
  (67, .iadd, 1, 0, 0, 0, 0, []),
  (68, .iload_n 3, 1, 0, 0, 0, 0, []),
  (69, .iadd, 1, 0, 0, 0, 0, []),
  (70, .iaload, 1, 0, 0, 0, 0, []),
  (71, .aload_n 0, 1, 0, 0, 0, 0, []),
  (72, .getfield 7, 3, 0, 8, 0, 255, [(0, 0)]),
  (75, .iload_n 1, 1, 0, 0, 0, 0, []),
  (76, .iconst 3, 1, 0, 3, 0, 0, []),
  (77, .iadd, 1, 0, 0, 0, 0, []),
  (78, .iaload, 1, 0, 0, 0, 0, []),
  (79, .if_icmp .gt 10, 3, 0, 89, 0, 0, []),
  (82, .iconst 1, 1, 0, 1, 0, 0, []),
  (83, .iload 4, 2, 0, 0, 0, 0, []),
  (85, .ishl, 1, 0, 0, 0, 0, []),
  (86, .goto 4, 3, 0, 90, 0, 0, []),
  (89, .iconst 0, 1, 0, 0, 0, 0, []),
  (90, .ior, 1, 0, 0, 0, 0, []),
  (91, .istore_n 2, 1, 0, 0, 0, 0, []),
  (92, .iinc 3 1, 3, 0, 1, 0, 0, []),
  (95, .goto (-91), 3, 0, 4, 0, 0, []),
  (98, .iload_n 2, 1, 0, 0, 0, 0, []),
  (99, .iconst 1, 1, 0, 1, 0, 0, []),
  (100, .aload_n 0, 1, 0, 0, 0, 0, []),
  (101, .getfield 7, 3, 0, 8, 0, 255, [(0, 0)]),
  (104, .iload_n 1, 1, 0, 0, 0, 0, []),
  (105, .iconst 4, 1, 0, 4, 0, 0, []),
  (106, .iadd, 1, 0, 0, 0, 0, []),
  (107, .iaload, 1, 0, 0, 0, 0, []),
  (108, .ishl, 1, 0, 0, 0, 0, []),
  (109, .iconst (-1), 1, 0, 1, 1, 0, []),
  (110, .ixor, 1, 0, 0, 0, 0, []),
  (111, .iand, 1, 0, 0, 0, 0, []),
  (112, .ireturn, 1, 0, 0, 0, 0, [])]
def tX8_goes : List zR := [(0, .aload_n 0, 1, 0, 0, 0, 0, []),
  (1, .iload_n 1, 1, 0, 0, 0, 0, []),
  (2, .invokevirtual 140, 3, 0, 161, 1, 299, [(1, 0)]),
  (5, .istore_n 2, 1, 0, 0, 0, 0, []),
  (6, .iload_n 2, 1, 0, 0, 0, 0, []),
  (7, .ifCond .ne 5, 3, 0, 12, 0, 0, []),
  (10, .iconst 0, 1, 0, 0, 0, 0, []),
  (11, .ireturn, 1, 0, 0, 1, 0, []),
  (12, .iload_n 2, 1, 0, 0, 0, 0, []),
  (13, .aload_n 0, 1, 0, 0, 0, 0, []),
  (14, .getfield 7, 3, 0, 8, 0, 255, [(0, 0)]),
  (17, .iload_n 1, 1, 0, 0, 0, 0, []),
  (18, .iconst 4, 1, 0, 4, 0, 0, []),
  (19, .iadd, 1, 0, 0, 0, 0, []),
  (20, .iaload, 1, 0, 0, 0, 0, []),
  (21, .ishr, 1, 0, 0, 0, 0, []),
  (22, .ifCond .le 7, 3, 0, 29, 0, 0, []),
  (25, .iconst 1, 1, 0, 1, 0, 0, []),
  (26, .goto 4, 3, 0, 30, 0, 0, []),
  (29, .iconst 0, 1, 0, 0, 0, 0, []),
  (30, .istore_n 3, 1, 0, 0, 0, 0, []),
  (31, .iload_n 2, 1, 0, 0, 0, 0, []),
  (32, .iconst 1, 1, 0, 1, 0, 0, []),
  (33, .aload_n 0, 1, 0, 0, 0, 0, []),
  (34, .getfield 7, 3, 0, 8, 0, 255, [(0, 0)]),
  (37, .iload_n 1, 1, 0, 0, 0, 0, []),
  (38, .iconst 4, 1, 0, 4, 0, 0, []),
  (39, .iadd, 1, 0, 0, 0, 0, []),
  (40, .iaload, 1, 0, 0, 0, 0, []),
  (41, .ishl, 1, 0, 0, 0, 0, []),
  (42, .iconst 1, 1, 0, 1, 0, 0, []),
  (43, .isub, 1, 0, 0, 0, 0, []),
  (44, .iand, 1, 0, 0, 0, 0, []),
  (45, .ifCond .le 7, 3, 0, 52, 0, 0, []),
  (48, .iconst 1, 1, 0, 1, 0, 0, []),
  (49, .goto 4, 3, 0, 53, 0, 0, []),
  (52, .iconst 0, 1, 0, 0, 0, 0, []),
  (53, .istore 4, 2, 0, 0, 0, 0, []),
  (55, .aload_n 0, 1, 0, 0, 0, 0, []),
  (56, .getfield 7, 3, 0, 8, 0, 255, [(0, 0)]),
  (59, .iload_n 1, 1, 0, 0, 0, 0, []),
  (60, .iconst 5, 1, 0, 5, 0, 0, []),
  (61, .iadd, 1, 0, 0, 0, 0, []),
  (62, .aload_n 0, 1, 0, 0, 0, 0, []),
  (63, .getfield 7, 3, 0, 8, 0, 255, [(0, 0)]),
  (66, .iload_n 1, 1, 0, 0, 0, 0, []),
  (67, .iconst 5, 1, 0, 5, 0, 0, []),
  (68, .iadd, 1, 0, 0, 0, 0, []),
  (69, .iaload, 1, 0, 0, 0, 0, []),
  (70, .iconst 1, 1, 0, 1, 0, 0, []),
  (71, .if_icmp .ne 15, 3, 0, 86, 0, 0, []),
  (74, .iload_n 3, 1, 0, 0, 0, 0, []),
  (75, .ifCond .eq 7, 3, 0, 82, 0, 0, []),
  (78, .iconst 1, 1, 0, 1, 0, 0, []),
  (79, .goto 17, 3, 0, 96, 0, 0, []),
  (82, .iconst 0, 1, 0, 0, 0, 0, []),
  (83, .goto 13, 3, 0, 96, 0, 0, []),
  (86, .iload 4, 2, 0, 0, 0, 0, []),
  (88, .ifCond .eq 7, 3, 0, 95, 0, 0, []),
  (91, .iconst 0, 1, 0, 0, 0, 0, []),
  (92, .goto 4, 3, 0, 96, 0, 0, []),
  (95, .iconst 1, 1, 0, 1, 0, 0, []),
  (96, .iastore, 1, 0, 0, 0, 0, []),
  (97, .aload_n 0, 1, 0, 0, 0, 0, []),
  (98, .getfield 7, 3, 0, 8, 0, 255, [(0, 0)]),
  (101, .iload_n 1, 1, 0, 0, 0, 0, []),
  (102, .iconst 4, 1, 0, 4, 0, 0, []),
  (103, .iadd, 1, 0, 0, 0, 0, []),
  (104, .dup2, 1, 0, 0, 0, 0, []),
  (105, .iaload, 1, 0, 0, 0, 0, []),
  (106, .aload_n 0, 1, 0, 0, 0, 0, []),
  (107, .getfield 7, 3, 0, 8, 0, 255, [(0, 0)]),
  (110, .iload_n 1, 1, 0, 0, 0, 0, []),
  (111, .iconst 5, 1, 0, 5, 0, 0, []),
  (112, .iadd, 1, 0, 0, 0, 0, []),
  (113, .iaload, 1, 0, 0, 0, 0, []),
  (114, .iconst 1, 1, 0, 1, 0, 0, []),
  (115, .if_icmp .ne 7, 3, 0, 122, 0, 0, []),
  (118, .iconst 1, 1, 0, 1, 0, 0, []),
  (119, .goto 4, 3, 0, 123, 0, 0, []),
  (122, .iconst (-1), 1, 0, 1, 1, 0, []),
  (123, .iadd, 1, 0, 0, 0, 0, []),
  (124, .iastore, 1, 0, 0, 0, 0, []),
  (125, .iconst 1, 1, 0, 1, 0, 0, []),
  (126, .ireturn, 1, 0, 0, 1, 0, [])]
def tX8_cools : List zR := [(0, .iconst 0, 1, 0, 0, 0, 0, []),
  (1, .istore_n 3, 1, 0, 0, 0, 0, []),
  (2, .iload_n 3, 1, 1, 0, 0, 0, []),
  (3, .aload_n 0, 1, 0, 0, 0, 0, []),
  (4, .getfield 7, 3, 0, 8, 0, 255, [(0, 0)]),
  (7, .iload_n 1, 1, 0, 0, 0, 0, []),
  (8, .iconst 0, 1, 0, 0, 0, 0, []),
  (9, .iadd, 1, 0, 0, 0, 0, []),
  (10, .iaload, 1, 0, 0, 0, 0, []),
  (11, .if_icmp .ge 32, 3, 0, 43, 0, 0, []),
  (14, .aload_n 0, 1, 0, 0, 0, 0, []),
  (15, .getfield 7, 3, 0, 8, 0, 255, [(0, 0)]),
  (18, .iload_n 1, 1, 0, 0, 0, 0, []),
  (19, .bipush 13, 2, 0, 13, 0, 0, []),
  (21, .iadd, 1, 0, 0, 0, 0, []),
  (22, .iload_n 3, 1, 0, 0, 0, 0, []),
  (23, .iadd, 1, 0, 0, 0, 0, []),
  (24, .iaload, 1, 0, 0, 0, 0, []),
  (25, .bipush 11, 2, 0, 11, 0, 0, []),
  (27, .if_icmp .eq 10, 3, 0, 37, 0, 0, []),
  (30, .aload_n 0, 1, 0, 0, 0, 0, []),
  (31, .iload_n 1, 1, 0, 0, 0, 0, []),
  (32, .iload_n 3, 1, 0, 0, 0, 0, []),
  (33, .iload_n 2, 1, 0, 0, 0, 0, []),
  (34, .invokevirtual 143, 3, 0, 164, 1, 300, [(3, 0)]),
  (37, .iinc 3 1, 3, 0, 1, 0, 0, []),
  (40, .goto (-38), 3, 0, 2, 0, 0, []),
  (43, .aload_n 0, 1, 0, 0, 0, 0, []),
  (44, .getfield 7, 3, 0, 8, 0, 255, [(0, 0)]),
  (47, .iload_n 1, 1, 0, 0, 0, 0, []),
  (48, .bipush 6, 2, 0, 6, 0, 0, []),
  (50, .iadd, 1, 0, 0, 0, 0, []),
  (51, .dup2, 1, 0, 0, 0, 0, []),
  (52, .iaload, 1, 0, 0, 0, 0, []),
  (53, .iconst 1, 1, 0, 1, 0, 0, []),
  (54, .iadd, 1, 0, 0, 0, 0, []),
  (55, .iastore, 1, 0, 0, 0, 0, []),
  (56, .return_, 1, 0, 0, 0, 0, [])]
def tX8_coolsOne : List zR := [(0, .aload_n 0, 1, 0, 0, 0, 0, []),
  (1, .getfield 7, 3, 0, 8, 0, 255, [(0, 0)]),
  (4, .iload_n 1, 1, 0, 0, 0, 0, []),
  (5, .bipush 7, 2, 0, 7, 0, 0, []),
  (7, .iadd, 1, 0, 0, 0, 0, []),
  (8, .iload_n 2, 1, 0, 0, 0, 0, []),
  (9, .iadd, 1, 0, 0, 0, 0, []),
  (10, .iaload, 1, 0, 0, 0, 0, []),
  (11, .istore 4, 2, 0, 0, 0, 0, []),
  (13, .aload_n 0, 1, 0, 0, 0, 0, []),
  (14, .getfield 7, 3, 0, 8, 0, 255, [(0, 0)]),
  (17, .iload_n 1, 1, 0, 0, 0, 0, []),
  (18, .bipush 31, 2, 0, 31, 0, 0, []),
  (20, .iadd, 1, 0, 0, 0, 0, []),
  (21, .iload_n 2, 1, 0, 0, 0, 0, []),
  (22, .iadd, 1, 0, 0, 0, 0, []),
  (23, .iaload, 1, 0, 0, 0, 0, []),
  (24, .istore 5, 2, 0, 0, 0, 0, []),
  (26, .iload 4, 2, 0, 0, 0, 0, []),
  (28, .iconst 1, 1, 0, 1, 0, 0, []),
  (29, .if_icmp .eq 30, 3, 0, 59, 0, 0, []),
  (32, .iload 4, 2, 0, 0, 0, 0, []),
  (34, .iconst 2, 1, 0, 2, 0, 0, []),
  (35, .if_icmp .eq 24, 3, 0, 59, 0, 0, []),
  (38, .iload 4, 2, 0, 0, 0, 0, []),
  (40, .iconst 3, 1, 0, 3, 0, 0, []),
  (41, .if_icmp .ne 22, 3, 0, 63, 0, 0, []),
  (44, .aload_n 0, 1, 0, 0, 0, 0, []),
  (45, .getfield 7, 3, 0, 8, 0, 255, [(0, 0)]),
  (48, .iload_n 1, 1, 0, 0, 0, 0, []),
  (49, .bipush 6, 2, 0, 6, 0, 0, []),
  (51, .iadd, 1, 0, 0, 0, 0, []),
  (52, .iaload, 1, 0, 0, 0, 0, []),
  (53, .iconst 2, 1, 0, 2, 0, 0, []),
  (54, .irem, 1, 0, 0, 0, 0, []),
  (55, .iconst 1, 1, 0, 1, 0, 0, []),
  (56, .if_icmp .ne 7, 3, 0, 63, 0, 0, []),
  (59, .iconst 1, 1, 0, 1, 0, 0, []),
  (60, .goto 4, 3, 0, 64, 0, 0, []),
  (63, .iconst 0, 1, 0, 0, 0, 0, []),
  (64, .istore 6, 2, 0, 0, 0, 0, []),
  (66, .iload 4, 2, 0, 0, 0, 0, []),
  (68, .iconst 4, 1, 0, 4, 0, 0, []),
  (69, .if_icmp .lt 10, 3, 0, 79, 0, 0, []),
  (72, .iload 5, 2, 0, 0, 0, 0, []),
  (74, .iconst 1, 1, 0, 1, 0, 0, []),
  (75, .iadd, 1, 0, 0, 0, 0, []),
  (76, .goto 17, 3, 0, 93, 0, 0, []),
  (79, .iload 6, 2, 0, 0, 0, 0, []),
  (81, .ifCond .eq 10, 3, 0, 91, 0, 0, []),
  (84, .iload 5, 2, 0, 0, 0, 0, []),
  (86, .iconst 1, 1, 0, 1, 0, 0, []),
  (87, .isub, 1, 0, 0, 0, 0, []),
  (88, .goto 5, 3, 0, 93, 0, 0, []),
  (91, .iload 5, 2, 0, 0, 0, 0, []),
  (93, .istore 7, 2, 0, 0, 0, 0, []),
  (95, .iload 7, 2, 0, 0, 0, 0, []),
  (97, .ifCond .ge 7, 3, 0, 104, 0, 0, []),
  (100, .iconst 0, 1, 0, 0, 0, 0, []),
  (101, .goto 17, 3, 0, 118, 0, 0, []),
  (104, .iload 7, 2, 0, 0, 0, 0, []),
  (106, .bipush 60, 2, 0, 60, 0, 0, []),
  (108, .if_icmp .le 8, 3, 0, 116, 0, 0, []),
  (111, .bipush 60, 2, 0, 60, 0, 0, []),
  (113, .goto 5, 3, 0, 118, 0, 0, []),
  (116, .iload 7, 2, 0, 0, 0, 0, []),
  (118, .istore 7, 2, 0, 0, 0, 0, []),
  (120, .aload_n 0, 1, 0, 0, 0, 0, []),
  (121, .getfield 7, 3, 0, 8, 0, 255, [(0, 0)]),
  (124, .iload_n 1, 1, 0, 0, 0, 0, []),
  (125, .bipush 31, 2, 0, 31, 0, 0, []),
  (127, .iadd, 1, 0, 0, 0, 0, []),
  (128, .iload_n 2, 1, 0, 0, 0, 0, []),
  (129, .iadd, 1, 0, 0, 0, 0, []),
  (130, .iload 7, 2, 0, 0, 0, 0, []),
  (132, .iastore, 1, 0, 0, 0, 0, []),
  (133, .iload 4, 2, 0, 0, 0, 0, []),
  (135, .iconst 2, 1, 0, 2, 0, 0, []),
  (136, .if_icmp .ne 31, 3, 0, 167, 0, 0, []),
  (139, .aload_n 0, 1, 0, 0, 0, 0, []),
  (140, .getfield 7, 3, 0, 8, 0, 255, [(0, 0)]),
  (143, .iload_n 1, 1, 0, 0, 0, 0, []),
  (144, .bipush 13, 2, 0, 13, 0, 0, []),
  (146, .iadd, 1, 0, 0, 0, 0, []),
  (147, .iload_n 2, 1, 0, 0, 0, 0, []),
  (148, .iadd, 1, 0, 0, 0, 0, []),
  (149, .iaload, 1, 0, 0, 0, 0, []),
  (150, .bipush 10, 2, 0, 10, 0, 0, []),
  (152, .if_icmp .ne 11, 3, 0, 163, 0, 0, []),
  (155, .iload_n 3, 1, 0, 0, 0, 0, []),
  (156, .ifCond .eq 7, 3, 0, 163, 0, 0, []),
  (159, .iconst 1, 1, 0, 1, 0, 0, []),
  (160, .goto 25, 3, 0, 185, 0, 0, []),
  (163, .iconst 0, 1, 0, 0, 0, 0, []),
  (164, .goto 21, 3, 0, 185, 0, 0, []),
  (167, .iload 4, 2, 0, 0, 0, 0, []),
  (169, .iconst 5, 1, 0, 5, 0, 0, []),
  (170, .if_icmp .ne 14, 3, 0, 184, 0, 0, []),
  (173, .iload 7, 2, 0, 0, 0, 0, []),
  (175, .bipush 10, 2, 0, 10, 0, 0, []),
  (177, .if_icmp .lt 7, 3, 0, 184, 0, 0, []),
  (180, .iconst 1, 1, 0, 1, 0, 0, []),
  (181, .goto 4, 3, 0, 185, 0, 0, []),
  (184, .iconst 0, 1, 0, 0, 0, 0, []),
  (185, .istore 8, 2, 0, 0, 0, 0, []),
  (187, .aload_n 0, 1, 0, 0, 0, 0, []),
  (188, .getfield 7, 3, 0, 8, 0, 255, [(0, 0)]),
  (191, .iload_n 1, 1, 0, 0, 0, 0, []),
  (192, .bipush 25, 2, 0, 25, 0, 0, []),
  (194, .iadd, 1, 0, 0, 0, 0, []),
  (195, .iload_n 2, 1, 0, 0, 0, 0, []),
  (196, .iadd, 1, 0, 0, 0, 0, []),
  (197, .dup2, 1, 0, 0, 0, 0, []),
  (198, .iaload, 1, 0, 0, 0, 0, []),
  (199, .iload 8, 2, 0, 0, 0, 0, []),
  (201, .ifCond .eq 22, 3, 0, 223, 0, 0, []),
  (204, .aload_n 0, 1, 0, 0, 0, 0, []),
  (205, .getfield 7, 3, 0, 8, 0, 255, [(0, 0)]),
  (208, .iload_n 1, 1, 0, 0, 0, 0, []),
  (209, .bipush 25, 2, 0, 25, 0, 0, []),
  (211, .iadd, 1, 0, 0, 0, 0, []),
  (212, .iload_n 2, 1, 0, 0, 0, 0, []),
  (213, .iadd, 1, 0, 0, 0, 0, []),
  (214, .iaload, 1, 0, 0, 0, 0, []),
  (215, .iconst 1, 1, 0, 1, 0, 0, []),
  (216, .if_icmp .le 7, 3, 0, 223, 0, 0, []),
  (219, .iconst 1, 1, 0, 1, 0, 0, []),
  (220, .goto 4, 3, 0, 224, 0, 0, []),
  (223, .iconst 0, 1, 0, 0, 0, 0, []),
  (224, .isub, 1, 0, 0, 0, 0, []),
  (225, .iastore, 1, 0, 0, 0, 0, []),
  (226, .return_, 1, 0, 0, 0, 0, [])]
def tX8_passes : List zR := [(0, .aload_n 0, 1, 0, 0, 0, 0, []),
  (1, .iload_n 1, 1, 0, 0, 0, 0, []),
  (2, .invokevirtual 147, 3, 0, 160, 1, 301, [(1, 0)]),
  (5, .aload_n 0, 1, 0, 0, 0, 0, []),
  (6, .iload_n 1, 1, 0, 0, 0, 0, []),
  (7, .aload_n 0, 1, 0, 0, 0, 0, []),
  (8, .iload_n 1, 1, 0, 0, 0, 0, []),
  (9, .invokevirtual 151, 3, 0, 162, 1, 302, [(1, 0)]),
  (12, .invokevirtual 154, 3, 0, 163, 1, 303, [(2, 0)]),
  (15, .return_, 1, 0, 0, 0, 0, [])]
def tX8_isGood : List zR := [(0, .iload_n 0, 1, 0, 0, 0, 0, []),
  (1, .iconst 4, 1, 0, 4, 0, 0, []),
  (2, .if_icmp .lt 17, 3, 0, 19, 0, 0, []),
  (5, .iload_n 1, 1, 0, 0, 0, 0, []),
  (6, .bipush 10, 2, 0, 10, 0, 0, []),
  (8, .if_icmp .gt 7, 3, 0, 15, 0, 0, []),
  (11, .iconst 1, 1, 0, 1, 0, 0, []),
  (12, .goto 18, 3, 0, 30, 0, 0, []),
  (15, .iconst 0, 1, 0, 0, 0, 0, []),
  (16, .goto 14, 3, 0, 30, 0, 0, []),
  (19, .iload_n 1, 1, 0, 0, 0, 0, []),
  (20, .bipush 20, 2, 0, 20, 0, 0, []),
  (22, .if_icmp .lt 7, 3, 0, 29, 0, 0, []),
  (25, .iconst 1, 1, 0, 1, 0, 0, []),
  (26, .goto 4, 3, 0, 30, 0, 0, []),
  (29, .iconst 0, 1, 0, 0, 0, 0, []),
  (30, .ireturn, 1, 0, 0, 1, 0, [])]
def tX8_fineOf : List zR := [(0, .iconst 0, 1, 0, 0, 0, 0, []),
  (1, .istore_n 2, 1, 0, 0, 0, 0, []),
  (2, .iconst 0, 1, 0, 0, 0, 0, []),
  (3, .istore_n 3, 1, 0, 0, 0, 0, []),
  (4, .iload_n 3, 1, 1, 0, 0, 0, []),
  (5, .aload_n 0, 1, 0, 0, 0, 0, []),
  (6, .getfield 7, 3, 0, 8, 0, 255, [(0, 0)]),
  (9, .iload_n 1, 1, 0, 0, 0, 0, []),
  (10, .iconst 0, 1, 0, 0, 0, 0, []),
  (11, .iadd, 1, 0, 0, 0, 0, []),
  (12, .iaload, 1, 0, 0, 0, 0, []),
  (13, .if_icmp .ge 63, 3, 0, 76, 0, 0, []),
  (16, .iload_n 2, 1, 0, 0, 0, 0, []),
  (17, .aload_n 0, 1, 0, 0, 0, 0, []),
  (18, .getfield 7, 3, 0, 8, 0, 255, [(0, 0)]),
  (21, .iload_n 1, 1, 0, 0, 0, 0, []),
  (22, .bipush 13, 2, 0, 13, 0, 0, []),
  (24, .iadd, 1, 0, 0, 0, 0, []),
  (25, .iload_n 3, 1, 0, 0, 0, 0, []),
  (26, .iadd, 1, 0, 0, 0, 0, []),
  (27, .iaload, 1, 0, 0, 0, 0, []),
  (28, .bipush 11, 2, 0, 11, 0, 0, []),
  (30, .if_icmp .ne 37, 3, 0, 67, 0, 0, []),
  (33, .aload_n 0, 1, 0, 0, 0, 0, []),
  (34, .getfield 7, 3, 0, 8, 0, 255, [(0, 0)]),
  (37, .iload_n 1, 1, 0, 0, 0, 0, []),
  (38, .bipush 7, 2, 0, 7, 0, 0, []),
  (40, .iadd, 1, 0, 0, 0, 0, []),
  (41, .iload_n 3, 1, 0, 0, 0, 0, []),
  (42, .iadd, 1, 0, 0, 0, 0, []),
  (43, .iaload, 1, 0, 0, 0, 0, []),
  (44, .aload_n 0, 1, 0, 0, 0, 0, []),
  (45, .getfield 7, 3, 0, 8, 0, 255, [(0, 0)]),
  (48, .iload_n 1, 1, 0, 0, 0, 0, []),
  (49, .bipush 31, 2, 0, 31, 0, 0, []),
  (51, .iadd, 1, 0, 0, 0, 0, []),
  (52, .iload_n 3, 1, 0, 0, 0, 0, []),
  (53, .iadd, 1, 0, 0, 0, 0, []),
  (54, .iaload, 1, 0, 0, 0, 0, []),
  (55, .invokestatic 158, 3, 0, 166, 0, 304, [(2, 0)]),
  (58, .ifCond .eq 9, 3, 0, 67, 0, 0, []),
  (61, .iconst 1, 1, 0, 1, 0, 0, []),
  (62, .iload_n 3, 1, 0, 0, 0, 0, []),
  (63, .ishl, 1, 0, 0, 0, 0, []),
  (64, .goto 4, 3, 0, 68, 0, 0, []),
  (67, .iconst 0, 1, 0, 0, 0, 0, []),
  (68, .ior, 1, 0, 0, 0, 0, []),
  (69, .istore_n 2, 1, 0, 0, 0, 0, []),
  (70, .iinc 3 1, 3, 0, 1, 0, 0, []),
  (73, .goto (-69), 3, 0, 4, 0, 0, []),
  (76, .iload_n 2, 1, 0, 0, 0, 0, []),
  (77, .ireturn, 1, 0, 0, 0, 0, [])]
def tX8_heatServed : List zR := [(0, .iconst 0, 1, 0, 0, 0, 0, []),
  (1, .istore_n 2, 1, 0, 0, 0, 0, []),
  (2, .iconst 0, 1, 0, 0, 0, 0, []),
  (3, .istore_n 3, 1, 0, 0, 0, 0, []),
  (4, .iload_n 3, 1, 1, 0, 0, 0, []),
  (5, .aload_n 0, 1, 0, 0, 0, 0, []),
  (6, .getfield 7, 3, 0, 8, 0, 255, [(0, 0)]),
  (9, .iload_n 1, 1, 0, 0, 0, 0, []),
  (10, .iconst 0, 1, 0, 0, 0, 0, []),
  (11, .iadd, 1, 0, 0, 0, 0, []),
  (12, .iaload, 1, 0, 0, 0, 0, []),
  (13, .if_icmp .ge 43, 3, 0, 56, 0, 0, []),
  (16, .iload_n 2, 1, 0, 0, 0, 0, []),
  (17, .aload_n 0, 1, 0, 0, 0, 0, []),
  (18, .getfield 7, 3, 0, 8, 0, 255, [(0, 0)]),
  (21, .iload_n 1, 1, 0, 0, 0, 0, []),
  (22, .bipush 13, 2, 0, 13, 0, 0, []),
  (24, .iadd, 1, 0, 0, 0, 0, []),
  (25, .iload_n 3, 1, 0, 0, 0, 0, []),
  (26, .iadd, 1, 0, 0, 0, 0, []),
  (27, .iaload, 1, 0, 0, 0, 0, []),
  (28, .bipush 11, 2, 0, 11, 0, 0, []),
  (30, .if_icmp .ne 17, 3, 0, 47, 0, 0, []),
  (33, .aload_n 0, 1, 0, 0, 0, 0, []),
  (34, .getfield 7, 3, 0, 8, 0, 255, [(0, 0)]),
  (37, .iload_n 1, 1, 0, 0, 0, 0, []),
  (38, .bipush 31, 2, 0, 31, 0, 0, []),
  (40, .iadd, 1, 0, 0, 0, 0, []),
  (41, .iload_n 3, 1, 0, 0, 0, 0, []),
  (42, .iadd, 1, 0, 0, 0, 0, []),
  (43, .iaload, 1, 0, 0, 0, 0, []),
  (44, .goto 4, 3, 0, 48, 0, 0, []),
  (47, .iconst 0, 1, 0, 0, 0, 0, []),
  (48, .iadd, 1, 0, 0, 0, 0, []),
  (49, .istore_n 2, 1, 0, 0, 0, 0, []),
  (50, .iinc 3 1, 3, 0, 1, 0, 0, []),
  (53, .goto (-49), 3, 0, 4, 0, 0, []),
  (56, .iload_n 2, 1, 0, 0, 0, 0, []),
  (57, .ireturn, 1, 0, 0, 0, 0, [])]
def tX8_heatOf : List zR := [(0, .iconst 0, 1, 0, 0, 0, 0, []),
  (1, .istore_n 2, 1, 0, 0, 0, 0, []),
  (2, .iconst 0, 1, 0, 0, 0, 0, []),
  (3, .istore_n 3, 1, 0, 0, 0, 0, []),
  (4, .iload_n 3, 1, 1, 0, 0, 0, []),
  (5, .aload_n 0, 1, 0, 0, 0, 0, []),
  (6, .getfield 7, 3, 0, 8, 0, 255, [(0, 0)]),
  (9, .iload_n 1, 1, 0, 0, 0, 0, []),
  (10, .iconst 0, 1, 0, 0, 0, 0, []),
  (11, .iadd, 1, 0, 0, 0, 0, []),
  (12, .iaload, 1, 0, 0, 0, 0, []),
  (13, .if_icmp .ge 23, 3, 0, 36, 0, 0, []),
  (16, .iload_n 2, 1, 0, 0, 0, 0, []),
  (17, .aload_n 0, 1, 0, 0, 0, 0, []),
  (18, .getfield 7, 3, 0, 8, 0, 255, [(0, 0)]),
  (21, .iload_n 1, 1, 0, 0, 0, 0, []),
  (22, .bipush 31, 2, 0, 31, 0, 0, []),
  (24, .iadd, 1, 0, 0, 0, 0, []),
  (25, .iload_n 3, 1, 0, 0, 0, 0, []),
  (26, .iadd, 1, 0, 0, 0, 0, []),
  (27, .iaload, 1, 0, 0, 0, 0, []),
  (28, .iadd, 1, 0, 0, 0, 0, []),
  (29, .istore_n 2, 1, 0, 0, 0, 0, []),
  (30, .iinc 3 1, 3, 0, 1, 0, 0, []),
  (33, .goto (-29), 3, 0, 4, 0, 0, []),
  (36, .iload_n 2, 1, 0, 0, 0, 0, []),
  (37, .ireturn, 1, 0, 0, 0, 0, [])]
def tX8_minds : List zR := [(0, .aload_n 0, 1, 0, 0, 0, 0, []),
  (1, .getfield 124, 3, 0, 8, 1, 294, [(1, 1)]),
  (4, .bipush 24, 2, 0, 24, 0, 0, []),
  (6, .if_icmp .ne 51, 3, 0, 57, 0, 0, []),
  (9, .iconst 0, 1, 0, 0, 0, 0, []),
  (10, .istore_n 1, 1, 0, 0, 0, 0, []),
  (11, .iload_n 1, 1, 1, 0, 0, 0, []),
  (12, .sipush 989, 3, 0, 989, 0, 0, []),
  (15, .if_icmp .ge 32, 3, 0, 47, 0, 0, []),
  (18, .aload_n 0, 1, 0, 0, 0, 0, []),
  (19, .getfield 7, 3, 0, 8, 0, 255, [(0, 0)]),
  (22, .sipush 215, 3, 0, 215, 0, 0, []),
  (25, .iload_n 1, 1, 0, 0, 0, 0, []),
  (26, .iadd, 1, 0, 0, 0, 0, []),
  (27, .aload_n 0, 1, 0, 0, 0, 0, []),
  (28, .getfield 7, 3, 0, 8, 0, 255, [(0, 0)]),
  (31, .sipush 215, 3, 0, 215, 0, 0, []),
  (34, .iload_n 1, 1, 0, 0, 0, 0, []),
  (35, .iadd, 1, 0, 0, 0, 0, []),
  (36, .bipush 43, 2, 0, 43, 0, 0, []),
  (38, .iadd, 1, 0, 0, 0, 0, []),
  (39, .iaload, 1, 0, 0, 0, 0, []),
  (40, .iastore, 1, 0, 0, 0, 0, []),
  (41, .iinc 1 1, 3, 0, 1, 0, 0, []),
  (44, .goto (-33), 3, 0, 11, 0, 0, []),
  (47, .aload_n 0, 1, 0, 0, 0, 0, []),
  (48, .dup, 1, 0, 0, 0, 0, []),
  (49, .getfield 124, 3, 0, 8, 1, 294, [(1, 1)]),
  (52, .iconst 1, 1, 0, 1, 0, 0, []),
  (53, .isub, 1, 0, 0, 0, 0, []),
  (54, .putfield 124, 3, 0, 8, 1, 294, [(1, 1)]),
  (57, .aload_n 0, 1, 0, 0, 0, 0, []),
  (58, .iconst 0, 1, 0, 0, 0, 0, []),
  (59, .sipush 215, 3, 0, 215, 0, 0, []),
  (62, .bipush 43, 2, 0, 43, 0, 0, []),
  (64, .aload_n 0, 1, 0, 0, 0, 0, []),
  (65, .getfield 124, 3, 0, 8, 1, 294, [(1, 1)]),
  (68, .imul, 1, 0, 0, 0, 0, []),
  (69, .iadd, 1, 0, 0, 0, 0, []),
  (70, .invokevirtual 120, 3, 0, 135, 1, 293, [(2, 0)]),
  (73, .aload_n 0, 1, 0, 0, 0, 0, []),
  (74, .dup, 1, 0, 0, 0, 0, []),
  (75, .getfield 124, 3, 0, 8, 1, 294, [(1, 1)]),
  (78, .iconst 1, 1, 0, 1, 0, 0, []),
  (79, .iadd, 1, 0, 0, 0, 0, []),
  (80, .putfield 124, 3, 0, 8, 1, 294, [(1, 1)]),
  (83, .return_, 1, 0, 0, 0, 0, [])]
def tX8_undo : List zR := [(0, .aload_n 0, 1, 0, 0, 0, 0, []),
  (1, .getfield 124, 3, 0, 8, 1, 294, [(1, 1)]),
  (4, .ifCond .ne 6, 3, 0, 10, 0, 0, []),
  (7, .ldc 161, 2, 0, 1000002, 1, 305, []),
  (9, .ireturn, 1, 0, 0, 0, 0, []),
  (10, .aload_n 0, 1, 0, 0, 0, 0, []),
  (11, .dup, 1, 0, 0, 0, 0, []),
  (12, .getfield 124, 3, 0, 8, 1, 294, [(1, 1)]),
  (15, .iconst 1, 1, 0, 1, 0, 0, []),
  (16, .isub, 1, 0, 0, 0, 0, []),
  (17, .putfield 124, 3, 0, 8, 1, 294, [(1, 1)]),
  (20, .aload_n 0, 1, 0, 0, 0, 0, []),
  (21, .sipush 215, 3, 0, 215, 0, 0, []),
  (24, .bipush 43, 2, 0, 43, 0, 0, []),
  (26, .aload_n 0, 1, 0, 0, 0, 0, []),
  (27, .getfield 124, 3, 0, 8, 1, 294, [(1, 1)]),
  (30, .imul, 1, 0, 0, 0, 0, []),
  (31, .iadd, 1, 0, 0, 0, 0, []),
  (32, .iconst 0, 1, 0, 0, 0, 0, []),
  (33, .invokevirtual 120, 3, 0, 135, 1, 293, [(2, 0)]),
  (36, .aload_n 0, 1, 0, 0, 0, 0, []),
  (37, .getfield 124, 3, 0, 8, 1, 294, [(1, 1)]),
  (40, .ireturn, 1, 0, 0, 0, 0, [])]
def tX8_minutes : List zR := [(0, .aload_n 0, 1, 0, 0, 0, 0, []),
  (1, .invokevirtual 162, 3, 0, 138, 1, 306, [(0, 0)]),
  (4, .ifCond .ne 6, 3, 0, 10, 0, 0, []),
  (7, .ldc 161, 2, 0, 1000002, 1, 305, []),
  (9, .ireturn, 1, 0, 0, 0, 0, []),
  (10, .iload_n 1, 1, 0, 0, 0, 0, []),
  (11, .i2l, 1, 0, 0, 0, 0, []),
  (12, .lconst 1, 1, 0, 1, 0, 0, []),
  (13, .ldc2_w 165, 3, 0, 24, 0, 307, []),
  (16, .invokestatic 44, 3, 0, 132, 0, 266, [(3, 0)]),
  (19, .ifCond .ne 6, 3, 0, 25, 0, 0, []),
  (22, .ldc 61, 2, 0, 1000001, 1, 272, []),
  (24, .ireturn, 1, 0, 0, 0, 0, []),
  (25, .aload_n 0, 1, 0, 0, 0, 0, []),
  (26, .getfield 7, 3, 0, 8, 0, 255, [(0, 0)]),
  (29, .bipush 6, 2, 0, 6, 0, 0, []),
  (31, .iaload, 1, 0, 0, 0, 0, []),
  (32, .iload_n 1, 1, 0, 0, 0, 0, []),
  (33, .iadd, 1, 0, 0, 0, 0, []),
  (34, .sipush 999, 3, 0, 999, 0, 0, []),
  (37, .if_icmp .le 6, 3, 0, 43, 0, 0, []),
  (40, .ldc 75, 2, 0, 1000003, 1, 277, []),
  (42, .ireturn, 1, 0, 0, 0, 0, []),
  (43, .iconst 0, 1, 0, 0, 0, 0, []),
  (44, .istore_n 2, 1, 0, 0, 0, 0, []),
  (45, .iload_n 2, 1, 1, 0, 0, 0, []),
  (46, .iload_n 1, 1, 0, 0, 0, 0, []),
  (47, .if_icmp .ge 18, 3, 0, 65, 0, 0, []),
  (50, .aload_n 0, 1, 0, 0, 0, 0, []),
  (51, .invokevirtual 167, 3, 0, 170, 1, 308, [(0, 0)]),
  (54, .aload_n 0, 1, 0, 0, 0, 0, []),
  (55, .iconst 0, 1, 0, 0, 0, 0, []),
  (56, .invokevirtual 170, 3, 0, 165, 1, 309, [(1, 0)]),
  (59, .iinc 2 1, 3, 0, 1, 0, 0, []),
  (62, .goto (-17), 3, 0, 45, 0, 0, []),
  (65, .aload_n 0, 1, 0, 0, 0, 0, []),
  (66, .iconst 0, 1, 0, 0, 0, 0, []),
  (67, .invokevirtual 173, 3, 0, 158, 1, 310, [(1, 0)]),
  (70, .ireturn, 1, 0, 0, 0, 0, [])]
def tX8_pull : List zR := [(0, .aload_n 0, 1, 0, 0, 0, 0, []),
  (1, .iload_n 1, 1, 0, 0, 0, 0, []),
  (2, .invokevirtual 176, 3, 0, 137, 1, 311, [(1, 0)]),
  (5, .ifCond .ne 6, 3, 0, 11, 0, 0, []),
  (8, .ldc 61, 2, 0, 1000001, 1, 272, []),
  (10, .ireturn, 1, 0, 0, 0, 0, []),
  (11, .aload_n 0, 1, 0, 0, 0, 0, []),
  (12, .getfield 7, 3, 0, 8, 0, 255, [(0, 0)]),
  (15, .iconst 4, 1, 0, 4, 0, 0, []),
  (16, .iaload, 1, 0, 0, 0, 0, []),
  (17, .iload_n 1, 1, 0, 0, 0, 0, []),
  (18, .if_icmp .ne 6, 3, 0, 24, 0, 0, []),
  (21, .ldc 161, 2, 0, 1000002, 1, 305, []),
  (23, .ireturn, 1, 0, 0, 0, 0, []),
  (24, .aload_n 0, 1, 0, 0, 0, 0, []),
  (25, .invokevirtual 167, 3, 0, 170, 1, 308, [(0, 0)]),
  (28, .aload_n 0, 1, 0, 0, 0, 0, []),
  (29, .getfield 7, 3, 0, 8, 0, 255, [(0, 0)]),
  (32, .iconst 4, 1, 0, 4, 0, 0, []),
  (33, .iaload, 1, 0, 0, 0, 0, []),
  (34, .istore_n 2, 1, 0, 0, 0, 0, []),
  (35, .aload_n 0, 1, 0, 0, 0, 0, []),
  (36, .getfield 7, 3, 0, 8, 0, 255, [(0, 0)]),
  (39, .iconst 4, 1, 0, 4, 0, 0, []),
  (40, .iload_n 1, 1, 0, 0, 0, 0, []),
  (41, .iastore, 1, 0, 0, 0, 0, []),
  (42, .iload_n 2, 1, 0, 0, 0, 0, []),
  (43, .ireturn, 1, 0, 0, 0, 0, [])]
def tX8_rope : List zR := [(0, .aload_n 0, 1, 0, 0, 0, 0, []),
  (1, .invokevirtual 162, 3, 0, 138, 1, 306, [(0, 0)]),
  (4, .ifCond .ne 6, 3, 0, 10, 0, 0, []),
  (7, .ldc 161, 2, 0, 1000002, 1, 305, []),
  (9, .ireturn, 1, 0, 0, 0, 0, []),
  (10, .iload_n 1, 1, 0, 0, 0, 0, []),
  (11, .i2l, 1, 0, 0, 0, 0, []),
  (12, .lconst 1, 1, 0, 1, 0, 0, []),
  (13, .ldc2_w 179, 3, 0, 40, 0, 312, []),
  (16, .invokestatic 44, 3, 0, 132, 0, 266, [(3, 0)]),
  (19, .ifCond .ne 6, 3, 0, 25, 0, 0, []),
  (22, .ldc 61, 2, 0, 1000001, 1, 272, []),
  (24, .ireturn, 1, 0, 0, 0, 0, []),
  (25, .aload_n 0, 1, 0, 0, 0, 0, []),
  (26, .invokevirtual 167, 3, 0, 170, 1, 308, [(0, 0)]),
  (29, .aload_n 0, 1, 0, 0, 0, 0, []),
  (30, .getfield 7, 3, 0, 8, 0, 255, [(0, 0)]),
  (33, .iconst 3, 1, 0, 3, 0, 0, []),
  (34, .iaload, 1, 0, 0, 0, 0, []),
  (35, .istore_n 2, 1, 0, 0, 0, 0, []),
  (36, .aload_n 0, 1, 0, 0, 0, 0, []),
  (37, .getfield 7, 3, 0, 8, 0, 255, [(0, 0)]),
  (40, .iconst 3, 1, 0, 3, 0, 0, []),
  (41, .iload_n 1, 1, 0, 0, 0, 0, []),
  (42, .iastore, 1, 0, 0, 0, 0, []),
  (43, .iload_n 2, 1, 0, 0, 0, 0, []),
  (44, .ireturn, 1, 0, 0, 0, 0, [])]
def tX8_room : List zR := [(0, .aload_n 0, 1, 0, 0, 0, 0, []),
  (1, .invokevirtual 162, 3, 0, 138, 1, 306, [(0, 0)]),
  (4, .ifCond .ne 6, 3, 0, 10, 0, 0, []),
  (7, .ldc 161, 2, 0, 1000002, 1, 305, []),
  (9, .ireturn, 1, 0, 0, 0, 0, []),
  (10, .iload_n 1, 1, 0, 0, 0, 0, []),
  (11, .i2l, 1, 0, 0, 0, 0, []),
  (12, .lconst 1, 1, 0, 1, 0, 0, []),
  (13, .ldc2_w 181, 3, 0, 4, 0, 313, []),
  (16, .invokestatic 44, 3, 0, 132, 0, 266, [(3, 0)]),
  (19, .ifCond .ne 6, 3, 0, 25, 0, 0, []),
  (22, .ldc 61, 2, 0, 1000001, 1, 272, []),
  (24, .ireturn, 1, 0, 0, 0, 0, []),
  (25, .aload_n 0, 1, 0, 0, 0, 0, []),
  (26, .invokevirtual 167, 3, 0, 170, 1, 308, [(0, 0)]),
  (29, .aload_n 0, 1, 0, 0, 0, 0, []),
  (30, .getfield 7, 3, 0, 8, 0, 255, [(0, 0)]),
  (33, .iconst 2, 1, 0, 2, 0, 0, []),
  (34, .iaload, 1, 0, 0, 0, 0, []),
  (35, .istore_n 2, 1, 0, 0, 0, 0, []),
  (36, .aload_n 0, 1, 0, 0, 0, 0, []),
  (37, .getfield 7, 3, 0, 8, 0, 255, [(0, 0)]),
  (40, .iconst 2, 1, 0, 2, 0, 0, []),
  (41, .iload_n 1, 1, 0, 0, 0, 0, []),
  (42, .iastore, 1, 0, 0, 0, 0, []),
  (43, .iload_n 2, 1, 0, 0, 0, 0, []),
  (44, .ireturn, 1, 0, 0, 0, 0, [])]
def tX8_sendsBack : List zR := [(0, .aload_n 0, 1, 0, 0, 0, 0, []),
  (1, .getfield 7, 3, 0, 8, 0, 255, [(0, 0)]),
  (4, .iload_n 1, 1, 0, 0, 0, 0, []),
  (5, .bipush 13, 2, 0, 13, 0, 0, []),
  (7, .iadd, 1, 0, 0, 0, 0, []),
  (8, .iload_n 2, 1, 0, 0, 0, 0, []),
  (9, .iadd, 1, 0, 0, 0, 0, []),
  (10, .aload_n 0, 1, 0, 0, 0, 0, []),
  (11, .getfield 7, 3, 0, 8, 0, 255, [(0, 0)]),
  (14, .iload_n 1, 1, 0, 0, 0, 0, []),
  (15, .bipush 19, 2, 0, 19, 0, 0, []),
  (17, .iadd, 1, 0, 0, 0, 0, []),
  (18, .iload_n 2, 1, 0, 0, 0, 0, []),
  (19, .iadd, 1, 0, 0, 0, 0, []),
  (20, .iaload, 1, 0, 0, 0, 0, []),
  (21, .iastore, 1, 0, 0, 0, 0, []),
  (22, .aload_n 0, 1, 0, 0, 0, 0, []),
  (23, .getfield 7, 3, 0, 8, 0, 255, [(0, 0)]),
  (26, .iload_n 1, 1, 0, 0, 0, 0, []),
  (27, .bipush 19, 2, 0, 19, 0, 0, []),
  (29, .iadd, 1, 0, 0, 0, 0, []),
  (30, .iload_n 2, 1, 0, 0, 0, 0, []),
  (31, .iadd, 1, 0, 0, 0, 0, []),
  (32, .iload_n 3, 1, 0, 0, 0, 0, []),
  (33, .iastore, 1, 0, 0, 0, 0, []),
  (34, .aload_n 0, 1, 0, 0, 0, 0, []),
  (35, .getfield 7, 3, 0, 8, 0, 255, [(0, 0)]),
  (38, .iload_n 1, 1, 0, 0, 0, 0, []),
  (39, .bipush 31, 2, 0, 31, 0, 0, []),
  (41, .iadd, 1, 0, 0, 0, 0, []),
  (42, .iload_n 2, 1, 0, 0, 0, 0, []),
  (43, .iadd, 1, 0, 0, 0, 0, []),
  (44, .iload 4, 2, 0, 0, 0, 0, []),
  (46, .iastore, 1, 0, 0, 0, 0, []),
  (47, .return_, 1, 0, 0, 0, 0, [])]
def tX8_send : List zR := [(0, .aload_n 0, 1, 0, 0, 0, 0, []),
  (1, .iload_n 1, 1, 0, 0, 0, 0, []),
  (2, .invokevirtual 183, 3, 0, 136, 1, 314, [(1, 0)]),
  (5, .ifCond .eq 23, 3, 0, 28, 0, 0, []),
  (8, .aload_n 0, 1, 0, 0, 0, 0, []),
  (9, .iload_n 2, 1, 0, 0, 0, 0, []),
  (10, .invokevirtual 176, 3, 0, 137, 1, 311, [(1, 0)]),
  (13, .ifCond .eq 15, 3, 0, 28, 0, 0, []),
  (16, .iload_n 3, 1, 0, 0, 0, 0, []),
  (17, .i2l, 1, 0, 0, 0, 0, []),
  (18, .lconst 0, 1, 0, 0, 0, 0, []),
  (19, .ldc2_w 186, 3, 0, 60, 0, 315, []),
  (22, .invokestatic 44, 3, 0, 132, 0, 266, [(3, 0)]),
  (25, .ifCond .ne 6, 3, 0, 31, 0, 0, []),
  (28, .ldc 61, 2, 0, 1000001, 1, 272, []),
  (30, .ireturn, 1, 0, 0, 0, 0, []),
  (31, .aload_n 0, 1, 0, 0, 0, 0, []),
  (32, .getfield 7, 3, 0, 8, 0, 255, [(0, 0)]),
  (35, .bipush 13, 2, 0, 13, 0, 0, []),
  (37, .iload_n 1, 1, 0, 0, 0, 0, []),
  (38, .iadd, 1, 0, 0, 0, 0, []),
  (39, .iaload, 1, 0, 0, 0, 0, []),
  (40, .bipush 11, 2, 0, 11, 0, 0, []),
  (42, .if_icmp .ne 16, 3, 0, 58, 0, 0, []),
  (45, .aload_n 0, 1, 0, 0, 0, 0, []),
  (46, .getfield 7, 3, 0, 8, 0, 255, [(0, 0)]),
  (49, .bipush 19, 2, 0, 19, 0, 0, []),
  (51, .iload_n 1, 1, 0, 0, 0, 0, []),
  (52, .iadd, 1, 0, 0, 0, 0, []),
  (53, .iaload, 1, 0, 0, 0, 0, []),
  (54, .iload_n 2, 1, 0, 0, 0, 0, []),
  (55, .if_icmp .ne 6, 3, 0, 61, 0, 0, []),
  (58, .ldc 161, 2, 0, 1000002, 1, 305, []),
  (60, .ireturn, 1, 0, 0, 0, 0, []),
  (61, .aload_n 0, 1, 0, 0, 0, 0, []),
  (62, .invokevirtual 167, 3, 0, 170, 1, 308, [(0, 0)]),
  (65, .aload_n 0, 1, 0, 0, 0, 0, []),
  (66, .iconst 0, 1, 0, 0, 0, 0, []),
  (67, .iload_n 1, 1, 0, 0, 0, 0, []),
  (68, .iload_n 2, 1, 0, 0, 0, 0, []),
  (69, .iload_n 3, 1, 0, 0, 0, 0, []),
  (70, .invokevirtual 188, 3, 0, 176, 1, 316, [(4, 0)]),
  (73, .aload_n 0, 1, 0, 0, 0, 0, []),
  (74, .iconst 0, 1, 0, 0, 0, 0, []),
  (75, .invokevirtual 173, 3, 0, 158, 1, 310, [(1, 0)]),
  (78, .ireturn, 1, 0, 0, 0, 0, [])]
def tX8_dish : List zR := [(0, .aload_n 0, 1, 0, 0, 0, 0, []),
  (1, .iload_n 1, 1, 0, 0, 0, 0, []),
  (2, .invokevirtual 183, 3, 0, 136, 1, 314, [(1, 0)]),
  (5, .ifCond .ne 6, 3, 0, 11, 0, 0, []),
  (8, .ldc 61, 2, 0, 1000001, 1, 272, []),
  (10, .ireturn, 1, 0, 0, 0, 0, []),
  (11, .iload_n 2, 1, 0, 0, 0, 0, []),
  (12, .tableswitch 106 0 4 #[36, 46, 56, 66, 76], 36, 0, 118, 0, 0, [(0, 48), (1, 58), (2, 68), (3, 78), (4, 88)]),
  (48, .aload_n 0, 1, 0, 0, 0, 0, []),
  (49, .getfield 7, 3, 0, 8, 0, 255, [(0, 0)]),
  (52, .bipush 13, 2, 0, 13, 0, 0, []),
  (54, .iload_n 1, 1, 0, 0, 0, 0, []),
  (55, .iadd, 1, 0, 0, 0, 0, []),
  (56, .iaload, 1, 0, 0, 0, 0, []),
  (57, .ireturn, 1, 0, 0, 0, 0, []),
  (58, .aload_n 0, 1, 0, 0, 0, 0, []),
  (59, .getfield 7, 3, 0, 8, 0, 255, [(0, 0)]),
  (62, .bipush 19, 2, 0, 19, 0, 0, []),
  (64, .iload_n 1, 1, 0, 0, 0, 0, []),
  (65, .iadd, 1, 0, 0, 0, 0, []),
  (66, .iaload, 1, 0, 0, 0, 0, []),
  (67, .ireturn, 1, 0, 0, 0, 0, []),
  (68, .aload_n 0, 1, 0, 0, 0, 0, []),
  (69, .getfield 7, 3, 0, 8, 0, 255, [(0, 0)]),
  (72, .bipush 25, 2, 0, 25, 0, 0, []),
  (74, .iload_n 1, 1, 0, 0, 0, 0, []),
  (75, .iadd, 1, 0, 0, 0, 0, []),
  (76, .iaload, 1, 0, 0, 0, 0, []),
  (77, .ireturn, 1, 0, 0, 0, 0, []),
  (78, .aload_n 0, 1, 0, 0, 0, 0, []),
  (79, .getfield 7, 3, 0, 8, 0, 255, [(0, 0)]),
  (82, .bipush 31, 2, 0, 31, 0, 0, []),
  (84, .iload_n 1, 1, 0, 0, 0, 0, []),
  (85, .iadd, 1, 0, 0, 0, 0, []),
  (86, .iaload, 1, 0, 0, 0, 0, []),
  (87, .ireturn, 1, 0, 0, 0, 0, []),
  (88, .aload_n 0, 1, 0, 0, 0, 0, []),
  (89, .getfield 7, 3, 0, 8, 0, 255, [(0, 0)]),
  (92, .bipush 7, 2, 0, 7, 0, 0, []),
  (94, .iload_n 1, 1, 0, 0, 0, 0, []),
  (95, .iadd, 1, 0, 0, 0, 0, []),
  (96, .iaload, 1, 0, 0, 0, 0, []),
  (97, .aload_n 0, 1, 0, 0, 0, 0, []),
  (98, .getfield 7, 3, 0, 8, 0, 255, [(0, 0)]),
  (101, .bipush 31, 2, 0, 31, 0, 0, []),
  (103, .iload_n 1, 1, 0, 0, 0, 0, []),
  (104, .iadd, 1, 0, 0, 0, 0, []),
  (105, .iaload, 1, 0, 0, 0, 0, []),
  (106, .invokestatic 158, 3, 0, 166, 0, 304, [(2, 0)]),
  (109, .ifCond .eq 7, 3, 0, 116, 0, 0, []),
  (112, .iconst 1, 1, 0, 1, 0, 0, []),
  (113, .goto 4, 3, 0, 117, 0, 0, []),
  (116, .iconst 0, 1, 0, 0, 0, 0, []),
  (117, .ireturn, 1, 0, 0, 0, 0, []),
  (118, .ldc 61, 2, 0, 1000001, 1, 272, []),
  (120, .ireturn, 1, 0, 0, 0, 0, [])]
def tX8_car : List zR := [(0, .aload_n 0, 1, 0, 0, 0, 0, []),
  (1, .invokevirtual 162, 3, 0, 138, 1, 306, [(0, 0)]),
  (4, .ifCond .ne 6, 3, 0, 10, 0, 0, []),
  (7, .ldc 161, 2, 0, 1000002, 1, 305, []),
  (9, .ireturn, 1, 0, 0, 0, 0, []),
  (10, .iload_n 1, 1, 0, 0, 0, 0, []),
  (11, .tableswitch 113 0 8 #[49, 56, 63, 70, 77, 84, 90, 96, 102], 49, 0, 124, 0, 0, [(0, 60), (1, 67), (2, 74), (3, 81), (4, 88), (5, 95), (6, 101), (7, 107), (8, 113)]),
  (60, .aload_n 0, 1, 0, 0, 0, 0, []),
  (61, .getfield 7, 3, 0, 8, 0, 255, [(0, 0)]),
  (64, .iconst 1, 1, 0, 1, 0, 0, []),
  (65, .iaload, 1, 0, 0, 0, 0, []),
  (66, .ireturn, 1, 0, 0, 0, 0, []),
  (67, .aload_n 0, 1, 0, 0, 0, 0, []),
  (68, .getfield 7, 3, 0, 8, 0, 255, [(0, 0)]),
  (71, .iconst 4, 1, 0, 4, 0, 0, []),
  (72, .iaload, 1, 0, 0, 0, 0, []),
  (73, .ireturn, 1, 0, 0, 0, 0, []),
  (74, .aload_n 0, 1, 0, 0, 0, 0, []),
  (75, .getfield 7, 3, 0, 8, 0, 255, [(0, 0)]),
  (78, .iconst 5, 1, 0, 5, 0, 0, []),
  (79, .iaload, 1, 0, 0, 0, 0, []),
  (80, .ireturn, 1, 0, 0, 0, 0, []),
  (81, .aload_n 0, 1, 0, 0, 0, 0, []),
  (82, .getfield 7, 3, 0, 8, 0, 255, [(0, 0)]),
  (85, .iconst 2, 1, 0, 2, 0, 0, []),
  (86, .iaload, 1, 0, 0, 0, 0, []),
  (87, .ireturn, 1, 0, 0, 0, 0, []),
  (88, .aload_n 0, 1, 0, 0, 0, 0, []),
  (89, .getfield 7, 3, 0, 8, 0, 255, [(0, 0)]),
  (92, .iconst 3, 1, 0, 3, 0, 0, []),
  (93, .iaload, 1, 0, 0, 0, 0, []),
  (94, .ireturn, 1, 0, 0, 0, 0, []),
  (95, .aload_n 0, 1, 0, 0, 0, 0, []),
  (96, .iconst 0, 1, 0, 0, 0, 0, []),
  (97, .invokevirtual 130, 3, 0, 157, 1, 296, [(1, 0)]),
  (100, .ireturn, 1, 0, 0, 0, 0, []),
  (101, .aload_n 0, 1, 0, 0, 0, 0, []),
  (102, .iconst 0, 1, 0, 0, 0, 0, []),
  (103, .invokevirtual 173, 3, 0, 158, 1, 310, [(1, 0)]),
  (106, .ireturn, 1, 0, 0, 0, 0, []),
  (107, .aload_n 0, 1, 0, 0, 0, 0, []),
  (108, .iconst 0, 1, 0, 0, 0, 0, []),
  (109, .invokevirtual 140, 3, 0, 161, 1, 299, [(1, 0)]),
  (112, .ireturn, 1, 0, 0, 0, 0, []),
  (113, .aload_n 0, 1, 0, 0, 0, 0, []),
  (114, .iconst 0, 1, 0, 0, 0, 0, []),
  (115, .aload_n 0, 1, 0, 0, 0, 0, []),
  (116, .iconst 0, 1, 0, 0, 0, 0, []),
  (117, .invokevirtual 130, 3, 0, 157, 1, 296, [(1, 0)]),
  (120, .invokevirtual 136, 3, 0, 159, 1, 298, [(2, 0)]),
  (123, .ireturn, 1, 0, 0, 0, 0, []),
  (124, .ldc 61, 2, 0, 1000001, 1, 272, []),
  (126, .ireturn, 1, 0, 0, 0, 0, [])]
def tX8_tries : List zR := [(0, .aload_n 0, 1, 0, 0, 0, 0, []),
  (1, .iconst 0, 1, 0, 0, 0, 0, []),
  (2, .bipush 43, 2, 0, 43, 0, 0, []),
  (4, .invokevirtual 120, 3, 0, 135, 1, 293, [(2, 0)]),
  (7, .return_, 1, 0, 0, 0, 0, [])]
def tX8_goesOn : List zR := [(0, .iconst 0, 1, 0, 0, 0, 0, []),
  (1, .istore_n 2, 1, 0, 0, 0, 0, []),
  (2, .iload_n 2, 1, 1, 0, 0, 0, []),
  (3, .iload_n 1, 1, 0, 0, 0, 0, []),
  (4, .if_icmp .ge 15, 3, 0, 19, 0, 0, []),
  (7, .aload_n 0, 1, 0, 0, 0, 0, []),
  (8, .bipush 43, 2, 0, 43, 0, 0, []),
  (10, .invokevirtual 170, 3, 0, 165, 1, 309, [(1, 0)]),
  (13, .iinc 2 1, 3, 0, 1, 0, 0, []),
  (16, .goto (-14), 3, 0, 2, 0, 0, []),
  (19, .return_, 1, 0, 0, 0, 0, [])]
def tX8_ahead : List zR := [(0, .aload_n 0, 1, 0, 0, 0, 0, []),
  (1, .iload_n 1, 1, 0, 0, 0, 0, []),
  (2, .invokevirtual 183, 3, 0, 136, 1, 314, [(1, 0)]),
  (5, .ifCond .eq 27, 3, 0, 32, 0, 0, []),
  (8, .iload_n 2, 1, 0, 0, 0, 0, []),
  (9, .i2l, 1, 0, 0, 0, 0, []),
  (10, .lconst 0, 1, 0, 0, 0, 0, []),
  (11, .ldc2_w 186, 3, 0, 60, 0, 315, []),
  (14, .invokestatic 44, 3, 0, 132, 0, 266, [(3, 0)]),
  (17, .ifCond .eq 15, 3, 0, 32, 0, 0, []),
  (20, .iload_n 3, 1, 0, 0, 0, 0, []),
  (21, .i2l, 1, 0, 0, 0, 0, []),
  (22, .lconst 0, 1, 0, 0, 0, 0, []),
  (23, .ldc2_w 59, 3, 0, 2, 0, 271, []),
  (26, .invokestatic 44, 3, 0, 132, 0, 266, [(3, 0)]),
  (29, .ifCond .ne 6, 3, 0, 35, 0, 0, []),
  (32, .ldc 61, 2, 0, 1000001, 1, 272, []),
  (34, .ireturn, 1, 0, 0, 0, 0, []),
  (35, .aload_n 0, 1, 0, 0, 0, 0, []),
  (36, .invokevirtual 192, 3, 0, 180, 1, 317, [(0, 0)]),
  (39, .aload_n 0, 1, 0, 0, 0, 0, []),
  (40, .iload_n 2, 1, 0, 0, 0, 0, []),
  (41, .invokevirtual 195, 3, 0, 181, 1, 318, [(1, 0)]),
  (44, .aload_n 0, 1, 0, 0, 0, 0, []),
  (45, .getfield 7, 3, 0, 8, 0, 255, [(0, 0)]),
  (48, .bipush 43, 2, 0, 43, 0, 0, []),
  (50, .iload_n 3, 1, 0, 0, 0, 0, []),
  (51, .ifCond .ne 8, 3, 0, 59, 0, 0, []),
  (54, .bipush 13, 2, 0, 13, 0, 0, []),
  (56, .goto 15, 3, 0, 71, 0, 0, []),
  (59, .iload_n 3, 1, 0, 0, 0, 0, []),
  (60, .iconst 1, 1, 0, 1, 0, 0, []),
  (61, .if_icmp .ne 8, 3, 0, 69, 0, 0, []),
  (64, .bipush 31, 2, 0, 31, 0, 0, []),
  (66, .goto 5, 3, 0, 71, 0, 0, []),
  (69, .bipush 25, 2, 0, 25, 0, 0, []),
  (71, .iadd, 1, 0, 0, 0, 0, []),
  (72, .iload_n 1, 1, 0, 0, 0, 0, []),
  (73, .iadd, 1, 0, 0, 0, 0, []),
  (74, .iaload, 1, 0, 0, 0, 0, []),
  (75, .ireturn, 1, 0, 0, 0, 0, [])]
def tX8_later : List zR := [(0, .aload_n 0, 1, 0, 0, 0, 0, []),
  (1, .invokevirtual 162, 3, 0, 138, 1, 306, [(0, 0)]),
  (4, .ifCond .ne 6, 3, 0, 10, 0, 0, []),
  (7, .ldc 161, 2, 0, 1000002, 1, 305, []),
  (9, .ireturn, 1, 0, 0, 0, 0, []),
  (10, .iload_n 1, 1, 0, 0, 0, 0, []),
  (11, .i2l, 1, 0, 0, 0, 0, []),
  (12, .lconst 0, 1, 0, 0, 0, 0, []),
  (13, .ldc2_w 186, 3, 0, 60, 0, 315, []),
  (16, .invokestatic 44, 3, 0, 132, 0, 266, [(3, 0)]),
  (19, .ifCond .ne 6, 3, 0, 25, 0, 0, []),
  (22, .ldc 61, 2, 0, 1000001, 1, 272, []),
  (24, .ireturn, 1, 0, 0, 0, 0, []),
  (25, .aload_n 0, 1, 0, 0, 0, 0, []),
  (26, .invokevirtual 192, 3, 0, 180, 1, 317, [(0, 0)]),
  (29, .aload_n 0, 1, 0, 0, 0, 0, []),
  (30, .iload_n 1, 1, 0, 0, 0, 0, []),
  (31, .invokevirtual 195, 3, 0, 181, 1, 318, [(1, 0)]),
  (34, .aload_n 0, 1, 0, 0, 0, 0, []),
  (35, .getfield 7, 3, 0, 8, 0, 255, [(0, 0)]),
  (38, .bipush 47, 2, 0, 47, 0, 0, []),
  (40, .iaload, 1, 0, 0, 0, 0, []),
  (41, .ireturn, 1, 0, 0, 0, 0, [])]
def tX8_allServed : List zR := [(0, .aload_n 0, 1, 0, 0, 0, 0, []),
  (1, .invokevirtual 192, 3, 0, 180, 1, 317, [(0, 0)]),
  (4, .iconst 0, 1, 0, 0, 0, 0, []),
  (5, .istore_n 2, 1, 0, 0, 0, 0, []),
  (6, .iload_n 2, 1, 1, 0, 0, 0, []),
  (7, .bipush 60, 2, 0, 60, 0, 0, []),
  (9, .if_icmp .gt 29, 3, 0, 38, 0, 0, []),
  (12, .aload_n 0, 1, 0, 0, 0, 0, []),
  (13, .bipush 43, 2, 0, 43, 0, 0, []),
  (15, .invokevirtual 173, 3, 0, 158, 1, 310, [(1, 0)]),
  (18, .iload_n 1, 1, 0, 0, 0, 0, []),
  (19, .iand, 1, 0, 0, 0, 0, []),
  (20, .iload_n 1, 1, 0, 0, 0, 0, []),
  (21, .if_icmp .ne 5, 3, 0, 26, 0, 0, []),
  (24, .iload_n 2, 1, 0, 0, 0, 0, []),
  (25, .ireturn, 1, 0, 0, 0, 0, []),
  (26, .aload_n 0, 1, 0, 0, 0, 0, []),
  (27, .bipush 43, 2, 0, 43, 0, 0, []),
  (29, .invokevirtual 170, 3, 0, 165, 1, 309, [(1, 0)]),
  (32, .iinc 2 1, 3, 0, 1, 0, 0, []),
  (35, .goto (-29), 3, 0, 6, 0, 0, []),
  (38, .ldc 198, 2, 0, 1000000, 1, 319, []),
  (40, .ireturn, 1, 0, 0, 0, 0, [])]
def tX8_when : List zR := [(0, .aload_n 0, 1, 0, 0, 0, 0, []),
  (1, .iload_n 1, 1, 0, 0, 0, 0, []),
  (2, .invokevirtual 183, 3, 0, 136, 1, 314, [(1, 0)]),
  (5, .ifCond .eq 13, 3, 0, 18, 0, 0, []),
  (8, .aload_n 0, 1, 0, 0, 0, 0, []),
  (9, .iconst 1, 1, 0, 1, 0, 0, []),
  (10, .iload_n 1, 1, 0, 0, 0, 0, []),
  (11, .ishl, 1, 0, 0, 0, 0, []),
  (12, .invokevirtual 199, 3, 0, 184, 1, 320, [(1, 0)]),
  (15, .goto 5, 3, 0, 20, 0, 0, []),
  (18, .ldc 61, 2, 0, 1000001, 1, 272, []),
  (20, .ireturn, 1, 0, 0, 0, 0, [])]
def tX8_done : List zR := [(0, .aload_n 0, 1, 0, 0, 0, 0, []),
  (1, .invokevirtual 162, 3, 0, 138, 1, 306, [(0, 0)]),
  (4, .ifCond .eq 20, 3, 0, 24, 0, 0, []),
  (7, .aload_n 0, 1, 0, 0, 0, 0, []),
  (8, .iconst 1, 1, 0, 1, 0, 0, []),
  (9, .aload_n 0, 1, 0, 0, 0, 0, []),
  (10, .getfield 7, 3, 0, 8, 0, 255, [(0, 0)]),
  (13, .iconst 0, 1, 0, 0, 0, 0, []),
  (14, .iaload, 1, 0, 0, 0, 0, []),
  (15, .ishl, 1, 0, 0, 0, 0, []),
  (16, .iconst 1, 1, 0, 1, 0, 0, []),
  (17, .isub, 1, 0, 0, 0, 0, []),
  (18, .invokevirtual 199, 3, 0, 184, 1, 320, [(1, 0)]),
  (21, .goto 5, 3, 0, 26, 0, 0, []),
  (24, .ldc 161, 2, 0, 1000002, 1, 305, []),
  (26, .ireturn, 1, 0, 0, 0, 0, [])]
def tX8_fine : List zR := [(0, .aload_n 0, 1, 0, 0, 0, 0, []),
  (1, .invokevirtual 162, 3, 0, 138, 1, 306, [(0, 0)]),
  (4, .ifCond .ne 6, 3, 0, 10, 0, 0, []),
  (7, .ldc 161, 2, 0, 1000002, 1, 305, []),
  (9, .ireturn, 1, 0, 0, 0, 0, []),
  (10, .iload_n 1, 1, 0, 0, 0, 0, []),
  (11, .i2l, 1, 0, 0, 0, 0, []),
  (12, .lconst 0, 1, 0, 0, 0, 0, []),
  (13, .ldc2_w 186, 3, 0, 60, 0, 315, []),
  (16, .invokestatic 44, 3, 0, 132, 0, 266, [(3, 0)]),
  (19, .ifCond .ne 6, 3, 0, 25, 0, 0, []),
  (22, .ldc 61, 2, 0, 1000001, 1, 272, []),
  (24, .ireturn, 1, 0, 0, 0, 0, []),
  (25, .aload_n 0, 1, 0, 0, 0, 0, []),
  (26, .invokevirtual 192, 3, 0, 180, 1, 317, [(0, 0)]),
  (29, .aload_n 0, 1, 0, 0, 0, 0, []),
  (30, .iload_n 1, 1, 0, 0, 0, 0, []),
  (31, .invokevirtual 195, 3, 0, 181, 1, 318, [(1, 0)]),
  (34, .aload_n 0, 1, 0, 0, 0, 0, []),
  (35, .bipush 43, 2, 0, 43, 0, 0, []),
  (37, .invokevirtual 202, 3, 0, 167, 1, 321, [(1, 0)]),
  (40, .ireturn, 1, 0, 0, 0, 0, [])]
def tX8_site : List zR := [(0, .aload_n 0, 1, 0, 0, 0, 0, []),
  (1, .invokevirtual 162, 3, 0, 138, 1, 306, [(0, 0)]),
  (4, .ifCond .ne 6, 3, 0, 10, 0, 0, []),
  (7, .ldc 161, 2, 0, 1000002, 1, 305, []),
  (9, .ireturn, 1, 0, 0, 0, 0, []),
  (10, .iload_n 1, 1, 0, 0, 0, 0, []),
  (11, .i2l, 1, 0, 0, 0, 0, []),
  (12, .lconst 1, 1, 0, 1, 0, 0, []),
  (13, .ldc2_w 179, 3, 0, 40, 0, 312, []),
  (16, .invokestatic 44, 3, 0, 132, 0, 266, [(3, 0)]),
  (19, .ifCond .eq 13, 3, 0, 32, 0, 0, []),
  (22, .iload_n 2, 1, 0, 0, 0, 0, []),
  (23, .i2l, 1, 0, 0, 0, 0, []),
  (24, .lconst 0, 1, 0, 0, 0, 0, []),
  (25, .lconst 1, 1, 0, 1, 0, 0, []),
  (26, .invokestatic 44, 3, 0, 132, 0, 266, [(3, 0)]),
  (29, .ifCond .ne 6, 3, 0, 35, 0, 0, []),
  (32, .ldc 61, 2, 0, 1000001, 1, 272, []),
  (34, .ireturn, 1, 0, 0, 0, 0, []),
  (35, .iconst 0, 1, 0, 0, 0, 0, []),
  (36, .istore_n 3, 1, 0, 0, 0, 0, []),
  (37, .iconst (-1), 1, 0, 1, 1, 0, []),
  (38, .istore 4, 2, 0, 0, 0, 0, []),
  (40, .iconst 0, 1, 0, 0, 0, 0, []),
  (41, .istore 5, 2, 0, 0, 0, 0, []),
  (43, .iload 5, 2, 1, 0, 0, 0, []),
  (45, .aload_n 0, 1, 0, 0, 0, 0, []),
  (46, .getfield 7, 3, 0, 8, 0, 255, [(0, 0)]),
  (49, .iconst 1, 1, 0, 1, 0, 0, []),
  (50, .iaload, 1, 0, 0, 0, 0, []),
  (51, .if_icmp .ge 68, 3, 0, 119, 0, 0, []),
  (54, .aload_n 0, 1, 0, 0, 0, 0, []),
  (55, .invokevirtual 192, 3, 0, 180, 1, 317, [(0, 0)]),
  (58, .aload_n 0, 1, 0, 0, 0, 0, []),
  (59, .getfield 7, 3, 0, 8, 0, 255, [(0, 0)]),
  (62, .bipush 47, 2, 0, 47, 0, 0, []),
  (64, .iload 5, 2, 0, 0, 0, 0, []),
  (66, .iastore, 1, 0, 0, 0, 0, []),
  (67, .aload_n 0, 1, 0, 0, 0, 0, []),
  (68, .iload_n 1, 1, 0, 0, 0, 0, []),
  (69, .invokevirtual 195, 3, 0, 181, 1, 318, [(1, 0)]),
  (72, .aload_n 0, 1, 0, 0, 0, 0, []),
  (73, .bipush 43, 2, 0, 43, 0, 0, []),
  (75, .invokevirtual 202, 3, 0, 167, 1, 321, [(1, 0)]),
  (78, .invokestatic 133, 3, 0, 134, 0, 297, [(1, 0)]),
  (81, .istore 6, 2, 0, 0, 0, 0, []),
  (83, .iload 6, 2, 0, 0, 0, 0, []),
  (85, .iload 4, 2, 0, 0, 0, 0, []),
  (87, .if_icmp .le 8, 3, 0, 95, 0, 0, []),
  (90, .iload 5, 2, 0, 0, 0, 0, []),
  (92, .goto 4, 3, 0, 96, 0, 0, []),
  (95, .iload_n 3, 1, 0, 0, 0, 0, []),
  (96, .istore_n 3, 1, 0, 0, 0, 0, []),
  (97, .iload 6, 2, 0, 0, 0, 0, []),
  (99, .iload 4, 2, 0, 0, 0, 0, []),
  (101, .if_icmp .le 8, 3, 0, 109, 0, 0, []),
  (104, .iload 6, 2, 0, 0, 0, 0, []),
  (106, .goto 5, 3, 0, 111, 0, 0, []),
  (109, .iload 4, 2, 0, 0, 0, 0, []),
  (111, .istore 4, 2, 0, 0, 0, 0, []),
  (113, .iinc 5 1, 3, 0, 1, 0, 0, []),
  (116, .goto (-73), 3, 0, 43, 0, 0, []),
  (119, .iload_n 2, 1, 0, 0, 0, 0, []),
  (120, .ifCond .ne 7, 3, 0, 127, 0, 0, []),
  (123, .iload_n 3, 1, 0, 0, 0, 0, []),
  (124, .goto 5, 3, 0, 129, 0, 0, []),
  (127, .iload 4, 2, 0, 0, 0, 0, []),
  (129, .ireturn, 1, 0, 0, 0, 0, [])]
def tX8_need : List zR := [(0, .aload_n 0, 1, 0, 0, 0, 0, []),
  (1, .invokevirtual 162, 3, 0, 138, 1, 306, [(0, 0)]),
  (4, .ifCond .ne 6, 3, 0, 10, 0, 0, []),
  (7, .ldc 161, 2, 0, 1000002, 1, 305, []),
  (9, .ireturn, 1, 0, 0, 0, 0, []),
  (10, .iload_n 1, 1, 0, 0, 0, 0, []),
  (11, .i2l, 1, 0, 0, 0, 0, []),
  (12, .lconst 1, 1, 0, 1, 0, 0, []),
  (13, .ldc2_w 179, 3, 0, 40, 0, 312, []),
  (16, .invokestatic 44, 3, 0, 132, 0, 266, [(3, 0)]),
  (19, .ifCond .eq 13, 3, 0, 32, 0, 0, []),
  (22, .iload_n 2, 1, 0, 0, 0, 0, []),
  (23, .i2l, 1, 0, 0, 0, 0, []),
  (24, .lconst 0, 1, 0, 0, 0, 0, []),
  (25, .lconst 1, 1, 0, 1, 0, 0, []),
  (26, .invokestatic 44, 3, 0, 132, 0, 266, [(3, 0)]),
  (29, .ifCond .ne 6, 3, 0, 35, 0, 0, []),
  (32, .ldc 61, 2, 0, 1000001, 1, 272, []),
  (34, .ireturn, 1, 0, 0, 0, 0, []),
  (35, .iload_n 2, 1, 0, 0, 0, 0, []),
  (36, .ifCond .ne 7, 3, 0, 43, 0, 0, []),
  (39, .iconst 4, 1, 0, 4, 0, 0, []),
  (40, .goto 5, 3, 0, 45, 0, 0, []),
  (43, .bipush 40, 2, 0, 40, 0, 0, []),
  (45, .istore_n 3, 1, 0, 0, 0, 0, []),
  (46, .iconst 1, 1, 0, 1, 0, 0, []),
  (47, .istore 4, 2, 0, 0, 0, 0, []),
  (49, .iload 4, 2, 1, 0, 0, 0, []),
  (51, .iload_n 3, 1, 0, 0, 0, 0, []),
  (52, .if_icmp .gt 59, 3, 0, 111, 0, 0, []),
  (55, .aload_n 0, 1, 0, 0, 0, 0, []),
  (56, .invokevirtual 192, 3, 0, 180, 1, 317, [(0, 0)]),
  (59, .aload_n 0, 1, 0, 0, 0, 0, []),
  (60, .getfield 7, 3, 0, 8, 0, 255, [(0, 0)]),
  (63, .bipush 43, 2, 0, 43, 0, 0, []),
  (65, .iload_n 2, 1, 0, 0, 0, 0, []),
  (66, .ifCond .ne 7, 3, 0, 73, 0, 0, []),
  (69, .iconst 2, 1, 0, 2, 0, 0, []),
  (70, .goto 4, 3, 0, 74, 0, 0, []),
  (73, .iconst 3, 1, 0, 3, 0, 0, []),
  (74, .iadd, 1, 0, 0, 0, 0, []),
  (75, .iload 4, 2, 0, 0, 0, 0, []),
  (77, .iastore, 1, 0, 0, 0, 0, []),
  (78, .aload_n 0, 1, 0, 0, 0, 0, []),
  (79, .iload_n 1, 1, 0, 0, 0, 0, []),
  (80, .invokevirtual 195, 3, 0, 181, 1, 318, [(1, 0)]),
  (83, .aload_n 0, 1, 0, 0, 0, 0, []),
  (84, .bipush 43, 2, 0, 43, 0, 0, []),
  (86, .invokevirtual 173, 3, 0, 158, 1, 310, [(1, 0)]),
  (89, .iconst 1, 1, 0, 1, 0, 0, []),
  (90, .aload_n 0, 1, 0, 0, 0, 0, []),
  (91, .getfield 7, 3, 0, 8, 0, 255, [(0, 0)]),
  (94, .iconst 0, 1, 0, 0, 0, 0, []),
  (95, .iaload, 1, 0, 0, 0, 0, []),
  (96, .ishl, 1, 0, 0, 0, 0, []),
  (97, .iconst 1, 1, 0, 1, 0, 0, []),
  (98, .isub, 1, 0, 0, 0, 0, []),
  (99, .if_icmp .ne 6, 3, 0, 105, 0, 0, []),
  (102, .iload 4, 2, 0, 0, 0, 0, []),
  (104, .ireturn, 1, 0, 0, 0, 0, []),
  (105, .iinc 4 1, 3, 0, 1, 0, 0, []),
  (108, .goto (-59), 3, 0, 49, 0, 0, []),
  (111, .ldc 198, 2, 0, 1000000, 1, 319, []),
  (113, .ireturn, 1, 0, 0, 0, 0, [])]
def tX8_waitsBy : List zR := [(0, .aload_n 0, 1, 0, 0, 0, 0, []),
  (1, .invokevirtual 192, 3, 0, 180, 1, 317, [(0, 0)]),
  (4, .iconst 0, 1, 0, 0, 0, 0, []),
  (5, .istore_n 2, 1, 0, 0, 0, 0, []),
  (6, .iload_n 2, 1, 1, 0, 0, 0, []),
  (7, .aload_n 0, 1, 0, 0, 0, 0, []),
  (8, .getfield 7, 3, 0, 8, 0, 255, [(0, 0)]),
  (11, .iconst 0, 1, 0, 0, 0, 0, []),
  (12, .iaload, 1, 0, 0, 0, 0, []),
  (13, .if_icmp .ge 24, 3, 0, 37, 0, 0, []),
  (16, .aload_n 0, 1, 0, 0, 0, 0, []),
  (17, .getfield 7, 3, 0, 8, 0, 255, [(0, 0)]),
  (20, .bipush 80, 2, 0, 80, 0, 0, []),
  (22, .iload_n 2, 1, 0, 0, 0, 0, []),
  (23, .iadd, 1, 0, 0, 0, 0, []),
  (24, .aload_n 0, 1, 0, 0, 0, 0, []),
  (25, .getfield 28, 3, 0, 8, 13, 261, [(13, 0)]),
  (28, .iload_n 2, 1, 0, 0, 0, 0, []),
  (29, .iaload, 1, 0, 0, 0, 0, []),
  (30, .iastore, 1, 0, 0, 0, 0, []),
  (31, .iinc 2 1, 3, 0, 1, 0, 0, []),
  (34, .goto (-28), 3, 0, 6, 0, 0, []),
  (37, .iconst 0, 1, 0, 0, 0, 0, []),
  (38, .istore_n 2, 1, 0, 0, 0, 0, []),
  (39, .iconst 0, 1, 0, 0, 0, 0, []),
  (40, .istore_n 3, 1, 0, 0, 0, 0, []),
  (41, .iload_n 3, 1, 1, 0, 0, 0, []),
  (42, .iload_n 1, 1, 0, 0, 0, 0, []),
  (43, .if_icmp .gt 34, 3, 0, 77, 0, 0, []),
  (46, .iload_n 2, 1, 0, 0, 0, 0, []),
  (47, .aload_n 0, 1, 0, 0, 0, 0, []),
  (48, .getfield 7, 3, 0, 8, 0, 255, [(0, 0)]),
  (51, .iconst 0, 1, 0, 0, 0, 0, []),
  (52, .iaload, 1, 0, 0, 0, 0, []),
  (53, .aload_n 0, 1, 0, 0, 0, 0, []),
  (54, .bipush 43, 2, 0, 43, 0, 0, []),
  (56, .invokevirtual 173, 3, 0, 158, 1, 310, [(1, 0)]),
  (59, .invokestatic 133, 3, 0, 134, 0, 297, [(1, 0)]),
  (62, .isub, 1, 0, 0, 0, 0, []),
  (63, .iadd, 1, 0, 0, 0, 0, []),
  (64, .istore_n 2, 1, 0, 0, 0, 0, []),
  (65, .aload_n 0, 1, 0, 0, 0, 0, []),
  (66, .bipush 43, 2, 0, 43, 0, 0, []),
  (68, .invokevirtual 170, 3, 0, 165, 1, 309, [(1, 0)]),
  (71, .iinc 3 1, 3, 0, 1, 0, 0, []),
  (74, .goto (-33), 3, 0, 41, 0, 0, []),
  (77, .iload_n 2, 1, 0, 0, 0, 0, []),
  (78, .ireturn, 1, 0, 0, 0, 0, [])]
def tX8_bestRanks : List zR := [(0, .ldc 205, 2, 0, 100000000, 0, 322, []),
  (2, .istore_n 2, 1, 0, 0, 0, 0, []),
  (3, .iconst 0, 1, 0, 0, 0, 0, []),
  (4, .istore_n 3, 1, 0, 0, 0, 0, []),
  (5, .aload_n 0, 1, 0, 0, 0, 0, []),
  (6, .getfield 28, 3, 0, 8, 13, 261, [(13, 0)]),
  (9, .iconst 0, 1, 0, 0, 0, 0, []),
  (10, .iconst (-1), 1, 0, 1, 1, 0, []),
  (11, .iastore, 1, 0, 0, 0, 0, []),
  (12, .iload_n 3, 1, 1, 0, 0, 0, []),
  (13, .ifCond .lt 196, 3, 0, 209, 0, 0, []),
  (16, .iconst 0, 1, 0, 0, 0, 0, []),
  (17, .istore 4, 2, 0, 0, 0, 0, []),
  (19, .iconst 0, 1, 0, 0, 0, 0, []),
  (20, .istore 5, 2, 0, 0, 0, 0, []),
  (22, .iload 5, 2, 1, 0, 0, 0, []),
  (24, .iload_n 3, 1, 0, 0, 0, 0, []),
  (25, .if_icmp .ge 23, 3, 0, 48, 0, 0, []),
  (28, .iload 4, 2, 0, 0, 0, 0, []),
  (30, .iconst 1, 1, 0, 1, 0, 0, []),
  (31, .aload_n 0, 1, 0, 0, 0, 0, []),
  (32, .getfield 28, 3, 0, 8, 13, 261, [(13, 0)]),
  (35, .iload 5, 2, 0, 0, 0, 0, []),
  (37, .iaload, 1, 0, 0, 0, 0, []),
  (38, .ishl, 1, 0, 0, 0, 0, []),
  (39, .ior, 1, 0, 0, 0, 0, []),
  (40, .istore 4, 2, 0, 0, 0, 0, []),
  (42, .iinc 5 1, 3, 0, 1, 0, 0, []),
  (45, .goto (-23), 3, 0, 22, 0, 0, []),
  (48, .iload_n 3, 1, 0, 0, 0, 0, []),
  (49, .aload_n 0, 1, 0, 0, 0, 0, []),
  (50, .getfield 7, 3, 0, 8, 0, 255, [(0, 0)]),
  (53, .iconst 0, 1, 0, 0, 0, 0, []),
  (54, .iaload, 1, 0, 0, 0, 0, []),
  (55, .if_icmp .ne 69, 3, 0, 124, 0, 0, []),
  (58, .aload_n 0, 1, 0, 0, 0, 0, []),
  (59, .iload_n 1, 1, 0, 0, 0, 0, []),
  (60, .invokevirtual 206, 3, 0, 190, 1, 323, [(1, 0)]),
  (63, .istore 5, 2, 0, 0, 0, 0, []),
  (65, .iconst 0, 1, 0, 0, 0, 0, []),
  (66, .istore 6, 2, 0, 0, 0, 0, []),
  (68, .iload 6, 2, 1, 0, 0, 0, []),
  (70, .aload_n 0, 1, 0, 0, 0, 0, []),
  (71, .getfield 7, 3, 0, 8, 0, 255, [(0, 0)]),
  (74, .iconst 0, 1, 0, 0, 0, 0, []),
  (75, .iaload, 1, 0, 0, 0, 0, []),
  (76, .if_icmp .ge 29, 3, 0, 105, 0, 0, []),
  (79, .iload 5, 2, 0, 0, 0, 0, []),
  (81, .iload_n 2, 1, 0, 0, 0, 0, []),
  (82, .if_icmp .ge 23, 3, 0, 105, 0, 0, []),
  (85, .aload_n 0, 1, 0, 0, 0, 0, []),
  (86, .getfield 31, 3, 0, 8, 14, 262, [(14, 0)]),
  (89, .iload 6, 2, 0, 0, 0, 0, []),
  (91, .aload_n 0, 1, 0, 0, 0, 0, []),
  (92, .getfield 28, 3, 0, 8, 13, 261, [(13, 0)]),
  (95, .iload 6, 2, 0, 0, 0, 0, []),
  (97, .iaload, 1, 0, 0, 0, 0, []),
  (98, .iastore, 1, 0, 0, 0, 0, []),
  (99, .iinc 6 1, 3, 0, 1, 0, 0, []),
  (102, .goto (-34), 3, 0, 68, 0, 0, []),
  (105, .iload 5, 2, 0, 0, 0, 0, []),
  (107, .iload_n 2, 1, 0, 0, 0, 0, []),
  (108, .if_icmp .ge 8, 3, 0, 116, 0, 0, []),
  (111, .iload 5, 2, 0, 0, 0, 0, []),
  (113, .goto 4, 3, 0, 117, 0, 0, []),
  (116, .iload_n 2, 1, 0, 0, 0, 0, []),
  (117, .istore_n 2, 1, 0, 0, 0, 0, []),
  (118, .iinc 3 (-1), 3, 0, 1, 1, 0, []),
  (121, .goto 85, 3, 0, 206, 0, 0, []),
  (124, .aload_n 0, 1, 0, 0, 0, 0, []),
  (125, .getfield 28, 3, 0, 8, 13, 261, [(13, 0)]),
  (128, .iload_n 3, 1, 0, 0, 0, 0, []),
  (129, .iaload, 1, 0, 0, 0, 0, []),
  (130, .iconst 1, 1, 0, 1, 0, 0, []),
  (131, .iadd, 1, 0, 0, 0, 0, []),
  (132, .istore 5, 2, 0, 0, 0, 0, []),
  (134, .iload 5, 2, 1, 0, 0, 0, []),
  (136, .aload_n 0, 1, 0, 0, 0, 0, []),
  (137, .getfield 7, 3, 0, 8, 0, 255, [(0, 0)]),
  (140, .iconst 0, 1, 0, 0, 0, 0, []),
  (141, .iaload, 1, 0, 0, 0, 0, []),
  (142, .if_icmp .ge 19, 3, 0, 161, 0, 0, []),
  (145, .iload 4, 2, 0, 0, 0, 0, []),
  (147, .iload 5, 2, 0, 0, 0, 0, []),
  (149, .invokestatic 127, 3, 0, 133, 0, 295, [(2, 0)]),
  (152, .ifCond .eq 9, 3, 0, 161, 0, 0, []),
  (155, .iinc 5 1, 3, 0, 1, 0, 0, []),
  (158, .goto (-24), 3, 0, 134, 0, 0, []),
  (161, .aload_n 0, 1, 0, 0, 0, 0, []),
  (162, .getfield 28, 3, 0, 8, 13, 261, [(13, 0)]),
  (165, .iload_n 3, 1, 0, 0, 0, 0, []),
  (166, .iload 5, 2, 0, 0, 0, 0, []),
  (168, .iastore, 1, 0, 0, 0, 0, []),
  (169, .iload_n 3, 1, 0, 0, 0, 0, []),
  (170, .iload 5, 2, 0, 0, 0, 0, []),
  (172, .aload_n 0, 1, 0, 0, 0, 0, []),
  (173, .getfield 7, 3, 0, 8, 0, 255, [(0, 0)]),
  (176, .iconst 0, 1, 0, 0, 0, 0, []),
  (177, .iaload, 1, 0, 0, 0, 0, []),
  (178, .if_icmp .ne 7, 3, 0, 185, 0, 0, []),
  (181, .iconst (-1), 1, 0, 1, 1, 0, []),
  (182, .goto 4, 3, 0, 186, 0, 0, []),
  (185, .iconst 1, 1, 0, 1, 0, 0, []),
  (186, .iadd, 1, 0, 0, 0, 0, []),
  (187, .istore_n 3, 1, 0, 0, 0, 0, []),
  (188, .iload 5, 2, 0, 0, 0, 0, []),
  (190, .aload_n 0, 1, 0, 0, 0, 0, []),
  (191, .getfield 7, 3, 0, 8, 0, 255, [(0, 0)]),
  (194, .iconst 0, 1, 0, 0, 0, 0, []),
  (195, .iaload, 1, 0, 0, 0, 0, []),
  (196, .if_icmp .ge 10, 3, 0, 206, 0, 0, []),
  (199, .aload_n 0, 1, 0, 0, 0, 0, []),
  (200, .getfield 28, 3, 0, 8, 13, 261, [(13, 0)]),
  (203, .iload_n 3, 1, 0, 0, 0, 0, []),
  (204, .iconst (-1), 1, 0, 1, 1, 0, []),
  (205, .iastore, 1, 0, 0, 0, 0, []),
  (206, .goto (-194), 3, 0, 12, 0, 0, []),
  (209, .iload_n 2, 1, 0, 0, 0, 0, []),
  (210, .ireturn, 1, 0, 0, 0, 0, [])]
def tX8_ranks : List zR := [(0, .aload_n 0, 1, 0, 0, 0, 0, []),
  (1, .invokevirtual 162, 3, 0, 138, 1, 306, [(0, 0)]),
  (4, .ifCond .ne 6, 3, 0, 10, 0, 0, []),
  (7, .ldc 161, 2, 0, 1000002, 1, 305, []),
  (9, .ireturn, 1, 0, 0, 0, 0, []),
  (10, .iload_n 1, 1, 0, 0, 0, 0, []),
  (11, .i2l, 1, 0, 0, 0, 0, []),
  (12, .lconst 1, 1, 0, 1, 0, 0, []),
  (13, .ldc2_w 179, 3, 0, 40, 0, 312, []),
  (16, .invokestatic 44, 3, 0, 132, 0, 266, [(3, 0)]),
  (19, .ifCond .eq 8, 3, 0, 27, 0, 0, []),
  (22, .iload_n 2, 1, 0, 0, 0, 0, []),
  (23, .iconst (-1), 1, 0, 1, 1, 0, []),
  (24, .if_icmp .ge 6, 3, 0, 30, 0, 0, []),
  (27, .ldc 61, 2, 0, 1000001, 1, 272, []),
  (29, .ireturn, 1, 0, 0, 0, 0, []),
  (30, .aload_n 0, 1, 0, 0, 0, 0, []),
  (31, .iload_n 1, 1, 0, 0, 0, 0, []),
  (32, .invokevirtual 209, 3, 0, 191, 1, 324, [(1, 0)]),
  (35, .istore_n 3, 1, 0, 0, 0, 0, []),
  (36, .iload_n 2, 1, 0, 0, 0, 0, []),
  (37, .ifCond .ge 7, 3, 0, 44, 0, 0, []),
  (40, .iload_n 3, 1, 0, 0, 0, 0, []),
  (41, .goto 24, 3, 0, 65, 0, 0, []),
  (44, .iload_n 2, 1, 0, 0, 0, 0, []),
  (45, .aload_n 0, 1, 0, 0, 0, 0, []),
  (46, .getfield 7, 3, 0, 8, 0, 255, [(0, 0)]),
  (49, .iconst 0, 1, 0, 0, 0, 0, []),
  (50, .iaload, 1, 0, 0, 0, 0, []),
  (51, .if_icmp .ge 12, 3, 0, 63, 0, 0, []),
  (54, .aload_n 0, 1, 0, 0, 0, 0, []),
  (55, .getfield 31, 3, 0, 8, 14, 262, [(14, 0)]),
  (58, .iload_n 2, 1, 0, 0, 0, 0, []),
  (59, .iaload, 1, 0, 0, 0, 0, []),
  (60, .goto 5, 3, 0, 65, 0, 0, []),
  (63, .ldc 198, 2, 0, 1000000, 1, 319, []),
  (65, .ireturn, 1, 0, 0, 0, 0, [])]
def tX8_holds : List zR := [(0, .aload_n 0, 1, 0, 0, 0, 0, []),
  (1, .invokevirtual 162, 3, 0, 138, 1, 306, [(0, 0)]),
  (4, .ifCond .ne 6, 3, 0, 10, 0, 0, []),
  (7, .ldc 161, 2, 0, 1000002, 1, 305, []),
  (9, .ireturn, 1, 0, 0, 0, 0, []),
  (10, .iload_n 1, 1, 0, 0, 0, 0, []),
  (11, .i2l, 1, 0, 0, 0, 0, []),
  (12, .lconst 0, 1, 0, 0, 0, 0, []),
  (13, .ldc2_w 59, 3, 0, 2, 0, 271, []),
  (16, .invokestatic 44, 3, 0, 132, 0, 266, [(3, 0)]),
  (19, .ifCond .ne 6, 3, 0, 25, 0, 0, []),
  (22, .ldc 61, 2, 0, 1000001, 1, 272, []),
  (24, .ireturn, 1, 0, 0, 0, 0, []),
  (25, .iconst 0, 1, 0, 0, 0, 0, []),
  (26, .istore_n 2, 1, 0, 0, 0, 0, []),
  (27, .iconst 0, 1, 0, 0, 0, 0, []),
  (28, .istore_n 3, 1, 0, 0, 0, 0, []),
  (29, .iconst 0, 1, 0, 0, 0, 0, []),
  (30, .istore 4, 2, 0, 0, 0, 0, []),
  (32, .iload 4, 2, 1, 0, 0, 0, []),
  (34, .iconst 1, 1, 0, 1, 0, 0, []),
  (35, .aload_n 0, 1, 0, 0, 0, 0, []),
  (36, .getfield 7, 3, 0, 8, 0, 255, [(0, 0)]),
  (39, .iconst 0, 1, 0, 0, 0, 0, []),
  (40, .iaload, 1, 0, 0, 0, 0, []),
  (41, .ishl, 1, 0, 0, 0, 0, []),
  (42, .if_icmp .ge 98, 3, 0, 140, 0, 0, []),
  (45, .aload_n 0, 1, 0, 0, 0, 0, []),
  (46, .iconst 0, 1, 0, 0, 0, 0, []),
  (47, .iload 4, 2, 0, 0, 0, 0, []),
  (49, .invokevirtual 136, 3, 0, 159, 1, 298, [(2, 0)]),
  (52, .istore 5, 2, 0, 0, 0, 0, []),
  (54, .iload 4, 2, 0, 0, 0, 0, []),
  (56, .aload_n 0, 1, 0, 0, 0, 0, []),
  (57, .iconst 0, 1, 0, 0, 0, 0, []),
  (58, .invokevirtual 173, 3, 0, 158, 1, 310, [(1, 0)]),
  (61, .iand, 1, 0, 0, 0, 0, []),
  (62, .ifCond .ne 72, 3, 0, 134, 0, 0, []),
  (65, .iload 4, 2, 0, 0, 0, 0, []),
  (67, .invokestatic 133, 3, 0, 134, 0, 297, [(1, 0)]),
  (70, .aload_n 0, 1, 0, 0, 0, 0, []),
  (71, .getfield 7, 3, 0, 8, 0, 255, [(0, 0)]),
  (74, .iconst 2, 1, 0, 2, 0, 0, []),
  (75, .iaload, 1, 0, 0, 0, 0, []),
  (76, .if_icmp .gt 58, 3, 0, 134, 0, 0, []),
  (79, .iload 5, 2, 0, 0, 0, 0, []),
  (81, .aload_n 0, 1, 0, 0, 0, 0, []),
  (82, .getfield 7, 3, 0, 8, 0, 255, [(0, 0)]),
  (85, .iconst 3, 1, 0, 3, 0, 0, []),
  (86, .iaload, 1, 0, 0, 0, 0, []),
  (87, .if_icmp .gt 47, 3, 0, 134, 0, 0, []),
  (90, .iinc 2 1, 3, 0, 1, 0, 0, []),
  (93, .aload_n 0, 1, 0, 0, 0, 0, []),
  (94, .iconst 0, 1, 0, 0, 0, 0, []),
  (95, .iload_n 3, 1, 0, 0, 0, 0, []),
  (96, .invokevirtual 136, 3, 0, 159, 1, 298, [(2, 0)]),
  (99, .istore 6, 2, 0, 0, 0, 0, []),
  (101, .iload 5, 2, 0, 0, 0, 0, []),
  (103, .iload 6, 2, 0, 0, 0, 0, []),
  (105, .if_icmp .gt 22, 3, 0, 127, 0, 0, []),
  (108, .iload 5, 2, 0, 0, 0, 0, []),
  (110, .iload 6, 2, 0, 0, 0, 0, []),
  (112, .if_icmp .ne 20, 3, 0, 132, 0, 0, []),
  (115, .iload 4, 2, 0, 0, 0, 0, []),
  (117, .invokestatic 133, 3, 0, 134, 0, 297, [(1, 0)]),
  (120, .iload_n 3, 1, 0, 0, 0, 0, []),
  (121, .invokestatic 133, 3, 0, 134, 0, 297, [(1, 0)]),
  (124, .if_icmp .le 8, 3, 0, 132, 0, 0, []),
  (127, .iload 4, 2, 0, 0, 0, 0, []),
  (129, .goto 4, 3, 0, 133, 0, 0, []),
  (132, .iload_n 3, 1, 0, 0, 0, 0, []),
  (133, .istore_n 3, 1, 0, 0, 0, 0, []),
  (134, .iinc 4 1, 3, 0, 1, 0, 0, []),
  (137, .goto (-105), 3, 0, 32, 0, 0, []),
  (140, .iload_n 1, 1, 0, 0, 0, 0, []),
  (141, .ifCond .ne 7, 3, 0, 148, 0, 0, []),
  (144, .iload_n 2, 1, 0, 0, 0, 0, []),
  (145, .goto 18, 3, 0, 163, 0, 0, []),
  (148, .iload_n 1, 1, 0, 0, 0, 0, []),
  (149, .iconst 1, 1, 0, 1, 0, 0, []),
  (150, .if_icmp .ne 7, 3, 0, 157, 0, 0, []),
  (153, .iload_n 3, 1, 0, 0, 0, 0, []),
  (154, .goto 9, 3, 0, 163, 0, 0, []),
  (157, .aload_n 0, 1, 0, 0, 0, 0, []),
  (158, .iconst 0, 1, 0, 0, 0, 0, []),
  (159, .iload_n 3, 1, 0, 0, 0, 0, []),
  (160, .invokevirtual 136, 3, 0, 159, 1, 298, [(2, 0)]),
  (163, .ireturn, 1, 0, 0, 0, 0, [])]
def tX8_share : List zR := [(0, .aload_n 0, 1, 0, 0, 0, 0, []),
  (1, .iload_n 1, 1, 0, 0, 0, 0, []),
  (2, .invokevirtual 183, 3, 0, 136, 1, 314, [(1, 0)]),
  (5, .ifCond .eq 15, 3, 0, 20, 0, 0, []),
  (8, .iload_n 2, 1, 0, 0, 0, 0, []),
  (9, .i2l, 1, 0, 0, 0, 0, []),
  (10, .lconst 0, 1, 0, 0, 0, 0, []),
  (11, .ldc2_w 212, 3, 0, 999, 0, 325, []),
  (14, .invokestatic 44, 3, 0, 132, 0, 266, [(3, 0)]),
  (17, .ifCond .ne 6, 3, 0, 23, 0, 0, []),
  (20, .ldc 61, 2, 0, 1000001, 1, 272, []),
  (22, .ireturn, 1, 0, 0, 0, 0, []),
  (23, .aload_n 0, 1, 0, 0, 0, 0, []),
  (24, .iconst 0, 1, 0, 0, 0, 0, []),
  (25, .invokevirtual 214, 3, 0, 169, 1, 326, [(1, 0)]),
  (28, .aload_n 0, 1, 0, 0, 0, 0, []),
  (29, .iconst 0, 1, 0, 0, 0, 0, []),
  (30, .invokevirtual 217, 3, 0, 168, 1, 327, [(1, 0)]),
  (33, .isub, 1, 0, 0, 0, 0, []),
  (34, .istore_n 3, 1, 0, 0, 0, 0, []),
  (35, .aload_n 0, 1, 0, 0, 0, 0, []),
  (36, .getfield 7, 3, 0, 8, 0, 255, [(0, 0)]),
  (39, .bipush 13, 2, 0, 13, 0, 0, []),
  (41, .iload_n 1, 1, 0, 0, 0, 0, []),
  (42, .iadd, 1, 0, 0, 0, 0, []),
  (43, .iaload, 1, 0, 0, 0, 0, []),
  (44, .bipush 11, 2, 0, 11, 0, 0, []),
  (46, .if_icmp .eq 15, 3, 0, 61, 0, 0, []),
  (49, .aload_n 0, 1, 0, 0, 0, 0, []),
  (50, .getfield 7, 3, 0, 8, 0, 255, [(0, 0)]),
  (53, .bipush 31, 2, 0, 31, 0, 0, []),
  (55, .iload_n 1, 1, 0, 0, 0, 0, []),
  (56, .iadd, 1, 0, 0, 0, 0, []),
  (57, .iaload, 1, 0, 0, 0, 0, []),
  (58, .ifCond .ne 5, 3, 0, 63, 0, 0, []),
  (61, .iconst 0, 1, 0, 0, 0, 0, []),
  (62, .ireturn, 1, 0, 0, 0, 0, []),
  (63, .iload_n 2, 1, 0, 0, 0, 0, []),
  (64, .istore 4, 2, 0, 0, 0, 0, []),
  (66, .iconst 0, 1, 0, 0, 0, 0, []),
  (67, .istore 5, 2, 0, 0, 0, 0, []),
  (69, .iconst 0, 1, 0, 0, 0, 0, []),
  (70, .istore 6, 2, 0, 0, 0, 0, []),
  (72, .iload 6, 2, 1, 0, 0, 0, []),
  (74, .aload_n 0, 1, 0, 0, 0, 0, []),
  (75, .getfield 7, 3, 0, 8, 0, 255, [(0, 0)]),
  (78, .iconst 0, 1, 0, 0, 0, 0, []),
  (79, .iaload, 1, 0, 0, 0, 0, []),
  (80, .if_icmp .ge 72, 3, 0, 152, 0, 0, []),
  (83, .aload_n 0, 1, 0, 0, 0, 0, []),
  (84, .getfield 7, 3, 0, 8, 0, 255, [(0, 0)]),
  (87, .bipush 13, 2, 0, 13, 0, 0, []),
  (89, .iload 6, 2, 0, 0, 0, 0, []),
  (91, .iadd, 1, 0, 0, 0, 0, []),
  (92, .iaload, 1, 0, 0, 0, 0, []),
  (93, .bipush 11, 2, 0, 11, 0, 0, []),
  (95, .if_icmp .ne 7, 3, 0, 102, 0, 0, []),
  (98, .iconst 0, 1, 0, 0, 0, 0, []),
  (99, .goto 13, 3, 0, 112, 0, 0, []),
  (102, .aload_n 0, 1, 0, 0, 0, 0, []),
  (103, .getfield 7, 3, 0, 8, 0, 255, [(0, 0)]),
  (106, .bipush 31, 2, 0, 31, 0, 0, []),
  (108, .iload 6, 2, 0, 0, 0, 0, []),
  (110, .iadd, 1, 0, 0, 0, 0, []),
  (111, .iaload, 1, 0, 0, 0, 0, []),
  (112, .istore 7, 2, 0, 0, 0, 0, []),
  (114, .iload 4, 2, 0, 0, 0, 0, []),
  (116, .iload_n 2, 1, 0, 0, 0, 0, []),
  (117, .iload 7, 2, 0, 0, 0, 0, []),
  (119, .imul, 1, 0, 0, 0, 0, []),
  (120, .iload_n 3, 1, 0, 0, 0, 0, []),
  (121, .idiv, 1, 0, 0, 0, 0, []),
  (122, .isub, 1, 0, 0, 0, 0, []),
  (123, .istore 4, 2, 0, 0, 0, 0, []),
  (125, .iload 5, 2, 0, 0, 0, 0, []),
  (127, .iload 6, 2, 0, 0, 0, 0, []),
  (129, .iload_n 1, 1, 0, 0, 0, 0, []),
  (130, .if_icmp .ge 12, 3, 0, 142, 0, 0, []),
  (133, .iload 7, 2, 0, 0, 0, 0, []),
  (135, .ifCond .le 7, 3, 0, 142, 0, 0, []),
  (138, .iconst 1, 1, 0, 1, 0, 0, []),
  (139, .goto 4, 3, 0, 143, 0, 0, []),
  (142, .iconst 0, 1, 0, 0, 0, 0, []),
  (143, .iadd, 1, 0, 0, 0, 0, []),
  (144, .istore 5, 2, 0, 0, 0, 0, []),
  (146, .iinc 6 1, 3, 0, 1, 0, 0, []),
  (149, .goto (-77), 3, 0, 72, 0, 0, []),
  (152, .iload_n 2, 1, 0, 0, 0, 0, []),
  (153, .aload_n 0, 1, 0, 0, 0, 0, []),
  (154, .getfield 7, 3, 0, 8, 0, 255, [(0, 0)]),
  (157, .bipush 31, 2, 0, 31, 0, 0, []),
  (159, .iload_n 1, 1, 0, 0, 0, 0, []),
  (160, .iadd, 1, 0, 0, 0, 0, []),
  (161, .iaload, 1, 0, 0, 0, 0, []),
  (162, .imul, 1, 0, 0, 0, 0, []),
  (163, .iload_n 3, 1, 0, 0, 0, 0, []),
  (164, .idiv, 1, 0, 0, 0, 0, []),
  (165, .iload 5, 2, 0, 0, 0, 0, []),
  (167, .iload 4, 2, 0, 0, 0, 0, []),
  (169, .if_icmp .ge 7, 3, 0, 176, 0, 0, []),
  (172, .iconst 1, 1, 0, 1, 0, 0, []),
  (173, .goto 4, 3, 0, 177, 0, 0, []),
  (176, .iconst 0, 1, 0, 0, 0, 0, []),
  (177, .iadd, 1, 0, 0, 0, 0, []),
  (178, .ireturn, 1, 0, 0, 0, 0, [])]
def tX8_heatFrom : List zR := [(0, .aload_n 0, 1, 0, 0, 0, 0, []),
  (1, .invokevirtual 192, 3, 0, 180, 1, 317, [(0, 0)]),
  (4, .aload_n 0, 1, 0, 0, 0, 0, []),
  (5, .getfield 7, 3, 0, 8, 0, 255, [(0, 0)]),
  (8, .bipush 47, 2, 0, 47, 0, 0, []),
  (10, .iload_n 1, 1, 0, 0, 0, 0, []),
  (11, .iastore, 1, 0, 0, 0, 0, []),
  (12, .aload_n 0, 1, 0, 0, 0, 0, []),
  (13, .iload_n 2, 1, 0, 0, 0, 0, []),
  (14, .invokevirtual 195, 3, 0, 181, 1, 318, [(1, 0)]),
  (17, .aload_n 0, 1, 0, 0, 0, 0, []),
  (18, .bipush 43, 2, 0, 43, 0, 0, []),
  (20, .invokevirtual 217, 3, 0, 168, 1, 327, [(1, 0)]),
  (23, .ireturn, 1, 0, 0, 0, 0, [])]
def tX8_byTurns : List zR := [(0, .aload_n 0, 1, 0, 0, 0, 0, []),
  (1, .invokevirtual 162, 3, 0, 138, 1, 306, [(0, 0)]),
  (4, .ifCond .ne 6, 3, 0, 10, 0, 0, []),
  (7, .ldc 161, 2, 0, 1000002, 1, 305, []),
  (9, .ireturn, 1, 0, 0, 0, 0, []),
  (10, .iload_n 1, 1, 0, 0, 0, 0, []),
  (11, .i2l, 1, 0, 0, 0, 0, []),
  (12, .lconst 0, 1, 0, 0, 0, 0, []),
  (13, .ldc2_w 181, 3, 0, 4, 0, 313, []),
  (16, .invokestatic 44, 3, 0, 132, 0, 266, [(3, 0)]),
  (19, .ifCond .eq 15, 3, 0, 34, 0, 0, []),
  (22, .iload_n 2, 1, 0, 0, 0, 0, []),
  (23, .i2l, 1, 0, 0, 0, 0, []),
  (24, .lconst 1, 1, 0, 1, 0, 0, []),
  (25, .ldc2_w 220, 3, 0, 20, 0, 328, []),
  (28, .invokestatic 44, 3, 0, 132, 0, 266, [(3, 0)]),
  (31, .ifCond .ne 6, 3, 0, 37, 0, 0, []),
  (34, .ldc 61, 2, 0, 1000001, 1, 272, []),
  (36, .ireturn, 1, 0, 0, 0, 0, []),
  (37, .iconst 0, 1, 0, 0, 0, 0, []),
  (38, .istore_n 3, 1, 0, 0, 0, 0, []),
  (39, .iload_n 3, 1, 1, 0, 0, 0, []),
  (40, .aload_n 0, 1, 0, 0, 0, 0, []),
  (41, .getfield 7, 3, 0, 8, 0, 255, [(0, 0)]),
  (44, .iconst 1, 1, 0, 1, 0, 0, []),
  (45, .iaload, 1, 0, 0, 0, 0, []),
  (46, .if_icmp .ge 26, 3, 0, 72, 0, 0, []),
  (49, .aload_n 0, 1, 0, 0, 0, 0, []),
  (50, .getfield 34, 3, 0, 8, 15, 263, [(15, 0)]),
  (53, .bipush 9, 2, 0, 9, 0, 0, []),
  (55, .iload_n 1, 1, 0, 0, 0, 0, []),
  (56, .imul, 1, 0, 0, 0, 0, []),
  (57, .iload_n 3, 1, 0, 0, 0, 0, []),
  (58, .iadd, 1, 0, 0, 0, 0, []),
  (59, .aload_n 0, 1, 0, 0, 0, 0, []),
  (60, .iload_n 3, 1, 0, 0, 0, 0, []),
  (61, .iload_n 2, 1, 0, 0, 0, 0, []),
  (62, .invokevirtual 222, 3, 0, 195, 1, 329, [(2, 0)]),
  (65, .iastore, 1, 0, 0, 0, 0, []),
  (66, .iinc 3 1, 3, 0, 1, 0, 0, []),
  (69, .goto (-30), 3, 0, 39, 0, 0, []),
  (72, .iload_n 1, 1, 0, 0, 0, 0, []),
  (73, .iconst 1, 1, 0, 1, 0, 0, []),
  (74, .isub, 1, 0, 0, 0, 0, []),
  (75, .istore_n 3, 1, 0, 0, 0, 0, []),
  (76, .iload_n 3, 1, 1, 0, 0, 0, []),
  (77, .ifCond .lt 153, 3, 0, 230, 0, 0, []),
  (80, .iconst 0, 1, 0, 0, 0, 0, []),
  (81, .istore 4, 2, 0, 0, 0, 0, []),
  (83, .iload 4, 2, 1, 0, 0, 0, []),
  (85, .aload_n 0, 1, 0, 0, 0, 0, []),
  (86, .getfield 7, 3, 0, 8, 0, 255, [(0, 0)]),
  (89, .iconst 1, 1, 0, 1, 0, 0, []),
  (90, .iaload, 1, 0, 0, 0, 0, []),
  (91, .if_icmp .ge 133, 3, 0, 224, 0, 0, []),
  (94, .aload_n 0, 1, 0, 0, 0, 0, []),
  (95, .getfield 34, 3, 0, 8, 15, 263, [(15, 0)]),
  (98, .bipush 9, 2, 0, 9, 0, 0, []),
  (100, .iload_n 3, 1, 0, 0, 0, 0, []),
  (101, .iconst 1, 1, 0, 1, 0, 0, []),
  (102, .iadd, 1, 0, 0, 0, 0, []),
  (103, .imul, 1, 0, 0, 0, 0, []),
  (104, .iload 4, 2, 0, 0, 0, 0, []),
  (106, .iadd, 1, 0, 0, 0, 0, []),
  (107, .iaload, 1, 0, 0, 0, 0, []),
  (108, .istore 5, 2, 0, 0, 0, 0, []),
  (110, .iload_n 3, 1, 0, 0, 0, 0, []),
  (111, .iconst 2, 1, 0, 2, 0, 0, []),
  (112, .irem, 1, 0, 0, 0, 0, []),
  (113, .ifCond .ne 10, 3, 0, 123, 0, 0, []),
  (116, .iload 4, 2, 0, 0, 0, 0, []),
  (118, .iconst 1, 1, 0, 1, 0, 0, []),
  (119, .isub, 1, 0, 0, 0, 0, []),
  (120, .goto 7, 3, 0, 127, 0, 0, []),
  (123, .iload 4, 2, 0, 0, 0, 0, []),
  (125, .iconst 1, 1, 0, 1, 0, 0, []),
  (126, .iadd, 1, 0, 0, 0, 0, []),
  (127, .istore 6, 2, 0, 0, 0, 0, []),
  (129, .aload_n 0, 1, 0, 0, 0, 0, []),
  (130, .iload 6, 2, 0, 0, 0, 0, []),
  (132, .invokevirtual 176, 3, 0, 137, 1, 311, [(1, 0)]),
  (135, .ifCond .eq 20, 3, 0, 155, 0, 0, []),
  (138, .aload_n 0, 1, 0, 0, 0, 0, []),
  (139, .getfield 34, 3, 0, 8, 15, 263, [(15, 0)]),
  (142, .bipush 9, 2, 0, 9, 0, 0, []),
  (144, .iload_n 3, 1, 0, 0, 0, 0, []),
  (145, .iconst 1, 1, 0, 1, 0, 0, []),
  (146, .iadd, 1, 0, 0, 0, 0, []),
  (147, .imul, 1, 0, 0, 0, 0, []),
  (148, .iload 6, 2, 0, 0, 0, 0, []),
  (150, .iadd, 1, 0, 0, 0, 0, []),
  (151, .iaload, 1, 0, 0, 0, 0, []),
  (152, .goto 5, 3, 0, 157, 0, 0, []),
  (155, .iload 5, 2, 0, 0, 0, 0, []),
  (157, .istore 7, 2, 0, 0, 0, 0, []),
  (159, .iload_n 3, 1, 0, 0, 0, 0, []),
  (160, .iconst 2, 1, 0, 2, 0, 0, []),
  (161, .irem, 1, 0, 0, 0, 0, []),
  (162, .ifCond .ne 18, 3, 0, 180, 0, 0, []),
  (165, .iload 7, 2, 0, 0, 0, 0, []),
  (167, .iload 5, 2, 0, 0, 0, 0, []),
  (169, .if_icmp .le 7, 3, 0, 176, 0, 0, []),
  (172, .iconst 1, 1, 0, 1, 0, 0, []),
  (173, .goto 19, 3, 0, 192, 0, 0, []),
  (176, .iconst 0, 1, 0, 0, 0, 0, []),
  (177, .goto 15, 3, 0, 192, 0, 0, []),
  (180, .iload 7, 2, 0, 0, 0, 0, []),
  (182, .iload 5, 2, 0, 0, 0, 0, []),
  (184, .if_icmp .ge 7, 3, 0, 191, 0, 0, []),
  (187, .iconst 1, 1, 0, 1, 0, 0, []),
  (188, .goto 4, 3, 0, 192, 0, 0, []),
  (191, .iconst 0, 1, 0, 0, 0, 0, []),
  (192, .istore 8, 2, 0, 0, 0, 0, []),
  (194, .aload_n 0, 1, 0, 0, 0, 0, []),
  (195, .getfield 34, 3, 0, 8, 15, 263, [(15, 0)]),
  (198, .bipush 9, 2, 0, 9, 0, 0, []),
  (200, .iload_n 3, 1, 0, 0, 0, 0, []),
  (201, .imul, 1, 0, 0, 0, 0, []),
  (202, .iload 4, 2, 0, 0, 0, 0, []),
  (204, .iadd, 1, 0, 0, 0, 0, []),
  (205, .iload 8, 2, 0, 0, 0, 0, []),
  (207, .ifCond .eq 8, 3, 0, 215, 0, 0, []),
  (210, .iload 7, 2, 0, 0, 0, 0, []),
  (212, .goto 5, 3, 0, 217, 0, 0, []),
  (215, .iload 5, 2, 0, 0, 0, 0, []),
  (217, .iastore, 1, 0, 0, 0, 0, []),
  (218, .iinc 4 1, 3, 0, 1, 0, 0, []),
  (221, .goto (-138), 3, 0, 83, 0, 0, []),
  (224, .iinc 3 (-1), 3, 0, 1, 1, 0, []),
  (227, .goto (-151), 3, 0, 76, 0, 0, []),
  (230, .aload_n 0, 1, 0, 0, 0, 0, []),
  (231, .getfield 34, 3, 0, 8, 15, 263, [(15, 0)]),
  (234, .aload_n 0, 1, 0, 0, 0, 0, []),
  (235, .getfield 7, 3, 0, 8, 0, 255, [(0, 0)]),
  (238, .iconst 4, 1, 0, 4, 0, 0, []),
  (239, .iaload, 1, 0, 0, 0, 0, []),
  (240, .iaload, 1, 0, 0, 0, 0, []),
  (241, .ireturn, 1, 0, 0, 0, 0, [])]
def tX8_isSo : List zR := [(0, .iconst 1, 1, 0, 1, 0, 0, []),
  (1, .istore 4, 2, 0, 0, 0, 0, []),
  (3, .iconst 0, 1, 0, 0, 0, 0, []),
  (4, .istore 5, 2, 0, 0, 0, 0, []),
  (6, .iload 5, 2, 1, 0, 0, 0, []),
  (8, .iload_n 3, 1, 0, 0, 0, 0, []),
  (9, .if_icmp .ge 48, 3, 0, 57, 0, 0, []),
  (12, .aload_n 0, 1, 0, 0, 0, 0, []),
  (13, .bipush 43, 2, 0, 43, 0, 0, []),
  (15, .invokevirtual 170, 3, 0, 165, 1, 309, [(1, 0)]),
  (18, .iload 4, 2, 0, 0, 0, 0, []),
  (20, .ifCond .eq 28, 3, 0, 48, 0, 0, []),
  (23, .aload_n 0, 1, 0, 0, 0, 0, []),
  (24, .getfield 7, 3, 0, 8, 0, 255, [(0, 0)]),
  (27, .bipush 74, 2, 0, 74, 0, 0, []),
  (29, .iload_n 1, 1, 0, 0, 0, 0, []),
  (30, .iadd, 1, 0, 0, 0, 0, []),
  (31, .iaload, 1, 0, 0, 0, 0, []),
  (32, .aload_n 0, 1, 0, 0, 0, 0, []),
  (33, .getfield 22, 3, 0, 8, 8, 259, [(8, 0)]),
  (36, .iload_n 2, 1, 0, 0, 0, 0, []),
  (37, .iload 5, 2, 0, 0, 0, 0, []),
  (39, .iadd, 1, 0, 0, 0, 0, []),
  (40, .iaload, 1, 0, 0, 0, 0, []),
  (41, .if_icmp .ne 7, 3, 0, 48, 0, 0, []),
  (44, .iconst 1, 1, 0, 1, 0, 0, []),
  (45, .goto 4, 3, 0, 49, 0, 0, []),
  (48, .iconst 0, 1, 0, 0, 0, 0, []),
  (49, .istore 4, 2, 0, 0, 0, 0, []),
  (51, .iinc 5 1, 3, 0, 1, 0, 0, []),
  (54, .goto (-48), 3, 0, 6, 0, 0, []),
  (57, .iload 4, 2, 0, 0, 0, 0, []),
  (59, .ireturn, 1, 0, 0, 1, 0, [])]
def tX8_who : List zR := [(0, .aload_n 0, 1, 0, 0, 0, 0, []),
  (1, .iload_n 1, 1, 0, 0, 0, 0, []),
  (2, .invokevirtual 183, 3, 0, 136, 1, 314, [(1, 0)]),
  (5, .ifCond .eq 35, 3, 0, 40, 0, 0, []),
  (8, .iload_n 2, 1, 0, 0, 0, 0, []),
  (9, .i2l, 1, 0, 0, 0, 0, []),
  (10, .lconst 0, 1, 0, 0, 0, 0, []),
  (11, .ldc2_w 225, 3, 0, 5, 0, 330, []),
  (14, .invokestatic 44, 3, 0, 132, 0, 266, [(3, 0)]),
  (17, .ifCond .eq 23, 3, 0, 40, 0, 0, []),
  (20, .iload_n 3, 1, 0, 0, 0, 0, []),
  (21, .invokestatic 55, 3, 0, 139, 0, 270, [(1, 0)]),
  (24, .ifCond .eq 16, 3, 0, 40, 0, 0, []),
  (27, .iload 5, 2, 0, 0, 0, 0, []),
  (29, .i2l, 1, 0, 0, 0, 0, []),
  (30, .lconst 1, 1, 0, 1, 0, 0, []),
  (31, .ldc2_w 227, 3, 0, 12, 0, 331, []),
  (34, .invokestatic 44, 3, 0, 132, 0, 266, [(3, 0)]),
  (37, .ifCond .ne 6, 3, 0, 43, 0, 0, []),
  (40, .ldc 61, 2, 0, 1000001, 1, 272, []),
  (42, .ireturn, 1, 0, 0, 0, 0, []),
  (43, .aload_n 0, 1, 0, 0, 0, 0, []),
  (44, .iload_n 3, 1, 0, 0, 0, 0, []),
  (45, .iload 4, 2, 0, 0, 0, 0, []),
  (47, .iload 5, 2, 0, 0, 0, 0, []),
  (49, .invokevirtual 66, 3, 0, 141, 1, 274, [(3, 0)]),
  (52, .istore 6, 2, 0, 0, 0, 0, []),
  (54, .iload 6, 2, 0, 0, 0, 0, []),
  (56, .ifCond .le 10, 3, 0, 66, 0, 0, []),
  (59, .aload_n 0, 1, 0, 0, 0, 0, []),
  (60, .iload 6, 2, 0, 0, 0, 0, []),
  (62, .invokevirtual 62, 3, 0, 140, 1, 273, [(1, 0)]),
  (65, .ireturn, 1, 0, 0, 0, 0, []),
  (66, .aload_n 0, 1, 0, 0, 0, 0, []),
  (67, .iconst 0, 1, 0, 0, 0, 0, []),
  (68, .putfield 50, 3, 0, 8, 5, 268, [(5, 1)]),
  (71, .bipush 40, 2, 0, 40, 0, 0, []),
  (73, .iload_n 3, 1, 0, 0, 0, 0, []),
  (74, .imul, 1, 0, 0, 0, 0, []),
  (75, .iload 4, 2, 0, 0, 0, 0, []),
  (77, .iadd, 1, 0, 0, 0, 0, []),
  (78, .istore 7, 2, 0, 0, 0, 0, []),
  (80, .iload_n 2, 1, 0, 0, 0, 0, []),
  (81, .iconst 2, 1, 0, 2, 0, 0, []),
  (82, .if_icmp .ge 102, 3, 0, 184, 0, 0, []),
  (85, .iconst 0, 1, 0, 0, 0, 0, []),
  (86, .istore 8, 2, 0, 0, 0, 0, []),
  (88, .iload_n 2, 1, 0, 0, 0, 0, []),
  (89, .ifCond .ne 7, 3, 0, 96, 0, 0, []),
  (92, .iconst 5, 1, 0, 5, 0, 0, []),
  (93, .goto 11, 3, 0, 104, 0, 0, []),
  (96, .aload_n 0, 1, 0, 0, 0, 0, []),
  (97, .getfield 7, 3, 0, 8, 0, 255, [(0, 0)]),
  (100, .iconst 1, 1, 0, 1, 0, 0, []),
  (101, .iaload, 1, 0, 0, 0, 0, []),
  (102, .iconst 1, 1, 0, 1, 0, 0, []),
  (103, .isub, 1, 0, 0, 0, 0, []),
  (104, .istore 9, 2, 0, 0, 0, 0, []),
  (106, .iload_n 2, 1, 0, 0, 0, 0, []),
  (107, .ifCond .ne 7, 3, 0, 114, 0, 0, []),
  (110, .iconst 1, 1, 0, 1, 0, 0, []),
  (111, .goto 4, 3, 0, 115, 0, 0, []),
  (114, .iconst 0, 1, 0, 0, 0, 0, []),
  (115, .istore 10, 2, 0, 0, 0, 0, []),
  (117, .iload 10, 2, 1, 0, 0, 0, []),
  (119, .iload 9, 2, 0, 0, 0, 0, []),
  (121, .if_icmp .gt 60, 3, 0, 181, 0, 0, []),
  (124, .aload_n 0, 1, 0, 0, 0, 0, []),
  (125, .invokevirtual 192, 3, 0, 180, 1, 317, [(0, 0)]),
  (128, .aload_n 0, 1, 0, 0, 0, 0, []),
  (129, .getfield 7, 3, 0, 8, 0, 255, [(0, 0)]),
  (132, .bipush 43, 2, 0, 43, 0, 0, []),
  (134, .iload_n 2, 1, 0, 0, 0, 0, []),
  (135, .ifCond .ne 10, 3, 0, 145, 0, 0, []),
  (138, .bipush 7, 2, 0, 7, 0, 0, []),
  (140, .iload_n 1, 1, 0, 0, 0, 0, []),
  (141, .iadd, 1, 0, 0, 0, 0, []),
  (142, .goto 4, 3, 0, 146, 0, 0, []),
  (145, .iconst 4, 1, 0, 4, 0, 0, []),
  (146, .iadd, 1, 0, 0, 0, 0, []),
  (147, .iload 10, 2, 0, 0, 0, 0, []),
  (149, .iastore, 1, 0, 0, 0, 0, []),
  (150, .iload 8, 2, 0, 0, 0, 0, []),
  (152, .aload_n 0, 1, 0, 0, 0, 0, []),
  (153, .iload_n 1, 1, 0, 0, 0, 0, []),
  (154, .iload 7, 2, 0, 0, 0, 0, []),
  (156, .iload 5, 2, 0, 0, 0, 0, []),
  (158, .invokevirtual 229, 3, 0, 197, 1, 332, [(3, 0)]),
  (161, .ifCond .eq 10, 3, 0, 171, 0, 0, []),
  (164, .iconst 1, 1, 0, 1, 0, 0, []),
  (165, .iload 10, 2, 0, 0, 0, 0, []),
  (167, .ishl, 1, 0, 0, 0, 0, []),
  (168, .goto 4, 3, 0, 172, 0, 0, []),
  (171, .iconst 0, 1, 0, 0, 0, 0, []),
  (172, .ior, 1, 0, 0, 0, 0, []),
  (173, .istore 8, 2, 0, 0, 0, 0, []),
  (175, .iinc 10 1, 3, 0, 1, 0, 0, []),
  (178, .goto (-61), 3, 0, 117, 0, 0, []),
  (181, .iload 8, 2, 0, 0, 0, 0, []),
  (183, .ireturn, 1, 0, 0, 0, 0, []),
  (184, .iconst 0, 1, 0, 0, 0, 0, []),
  (185, .istore 8, 2, 0, 0, 0, 0, []),
  (187, .ldc 198, 2, 0, 1000000, 1, 319, []),
  (189, .istore 9, 2, 0, 0, 0, 0, []),
  (191, .iload_n 2, 1, 0, 0, 0, 0, []),
  (192, .iconst 4, 1, 0, 4, 0, 0, []),
  (193, .if_icmp .ge 8, 3, 0, 201, 0, 0, []),
  (196, .bipush 60, 2, 0, 60, 0, 0, []),
  (198, .goto 5, 3, 0, 203, 0, 0, []),
  (201, .bipush 40, 2, 0, 40, 0, 0, []),
  (203, .istore 10, 2, 0, 0, 0, 0, []),
  (205, .iload_n 2, 1, 0, 0, 0, 0, []),
  (206, .iconst 4, 1, 0, 4, 0, 0, []),
  (207, .if_icmp .ge 7, 3, 0, 214, 0, 0, []),
  (210, .iconst 0, 1, 0, 0, 0, 0, []),
  (211, .goto 4, 3, 0, 215, 0, 0, []),
  (214, .iconst 1, 1, 0, 1, 0, 0, []),
  (215, .istore 11, 2, 0, 0, 0, 0, []),
  (217, .iload 11, 2, 1, 0, 0, 0, []),
  (219, .iload 10, 2, 0, 0, 0, 0, []),
  (221, .if_icmp .gt 65, 3, 0, 286, 0, 0, []),
  (224, .aload_n 0, 1, 0, 0, 0, 0, []),
  (225, .invokevirtual 192, 3, 0, 180, 1, 317, [(0, 0)]),
  (228, .aload_n 0, 1, 0, 0, 0, 0, []),
  (229, .getfield 7, 3, 0, 8, 0, 255, [(0, 0)]),
  (232, .bipush 43, 2, 0, 43, 0, 0, []),
  (234, .iload_n 2, 1, 0, 0, 0, 0, []),
  (235, .iconst 4, 1, 0, 4, 0, 0, []),
  (236, .if_icmp .ge 10, 3, 0, 246, 0, 0, []),
  (239, .bipush 31, 2, 0, 31, 0, 0, []),
  (241, .iload_n 1, 1, 0, 0, 0, 0, []),
  (242, .iadd, 1, 0, 0, 0, 0, []),
  (243, .goto 4, 3, 0, 247, 0, 0, []),
  (246, .iconst 3, 1, 0, 3, 0, 0, []),
  (247, .iadd, 1, 0, 0, 0, 0, []),
  (248, .iload 11, 2, 0, 0, 0, 0, []),
  (250, .iastore, 1, 0, 0, 0, 0, []),
  (251, .aload_n 0, 1, 0, 0, 0, 0, []),
  (252, .iload_n 1, 1, 0, 0, 0, 0, []),
  (253, .iload 7, 2, 0, 0, 0, 0, []),
  (255, .iload 5, 2, 0, 0, 0, 0, []),
  (257, .invokevirtual 229, 3, 0, 197, 1, 332, [(3, 0)]),
  (260, .ifCond .eq 20, 3, 0, 280, 0, 0, []),
  (263, .iload 8, 2, 0, 0, 0, 0, []),
  (265, .ifCond .ne 8, 3, 0, 273, 0, 0, []),
  (268, .iload 11, 2, 0, 0, 0, 0, []),
  (270, .goto 5, 3, 0, 275, 0, 0, []),
  (273, .iload 9, 2, 0, 0, 0, 0, []),
  (275, .istore 9, 2, 0, 0, 0, 0, []),
  (277, .iinc 8 1, 3, 0, 1, 0, 0, []),
  (280, .iinc 11 1, 3, 0, 1, 0, 0, []),
  (283, .goto (-66), 3, 0, 217, 0, 0, []),
  (286, .iload_n 2, 1, 0, 0, 0, 0, []),
  (287, .iconst 2, 1, 0, 2, 0, 0, []),
  (288, .irem, 1, 0, 0, 0, 0, []),
  (289, .ifCond .ne 8, 3, 0, 297, 0, 0, []),
  (292, .iload 8, 2, 0, 0, 0, 0, []),
  (294, .goto 5, 3, 0, 299, 0, 0, []),
  (297, .iload 9, 2, 0, 0, 0, 0, []),
  (299, .ireturn, 1, 0, 0, 0, 0, [])]
def tX8_stuck : List zR := [(0, .aload_n 0, 1, 0, 0, 0, 0, []),
  (1, .iload_n 1, 1, 0, 0, 0, 0, []),
  (2, .invokevirtual 183, 3, 0, 136, 1, 314, [(1, 0)]),
  (5, .ifCond .eq 38, 3, 0, 43, 0, 0, []),
  (8, .iload_n 2, 1, 0, 0, 0, 0, []),
  (9, .i2l, 1, 0, 0, 0, 0, []),
  (10, .lconst 0, 1, 0, 0, 0, 0, []),
  (11, .ldc2_w 233, 3, 0, 8, 0, 333, []),
  (14, .invokestatic 44, 3, 0, 132, 0, 266, [(3, 0)]),
  (17, .ifCond .eq 26, 3, 0, 43, 0, 0, []),
  (20, .iload_n 3, 1, 0, 0, 0, 0, []),
  (21, .i2l, 1, 0, 0, 0, 0, []),
  (22, .lconst 0, 1, 0, 0, 0, 0, []),
  (23, .ldc2_w 235, 3, 0, 10, 0, 334, []),
  (26, .invokestatic 44, 3, 0, 132, 0, 266, [(3, 0)]),
  (29, .ifCond .eq 14, 3, 0, 43, 0, 0, []),
  (32, .iload 4, 2, 0, 0, 0, 0, []),
  (34, .i2l, 1, 0, 0, 0, 0, []),
  (35, .lconst 0, 1, 0, 0, 0, 0, []),
  (36, .lconst 1, 1, 0, 1, 0, 0, []),
  (37, .invokestatic 44, 3, 0, 132, 0, 266, [(3, 0)]),
  (40, .ifCond .ne 7, 3, 0, 47, 0, 0, []),
  (43, .ldc2_w 237, 3, 0, 1000001, 1, 335, []),
  (46, .lreturn, 1, 0, 0, 0, 0, []),
  (47, .lconst 0, 1, 0, 0, 0, 0, []),
  (48, .lstore 5, 2, 0, 0, 0, 0, []),
  (50, .lconst 1, 1, 0, 1, 0, 0, []),
  (51, .lstore 7, 2, 0, 0, 0, 0, []),
  (53, .iconst 0, 1, 0, 0, 0, 0, []),
  (54, .istore 9, 2, 0, 0, 0, 0, []),
  (56, .iload 9, 2, 1, 0, 0, 0, []),
  (58, .iload_n 2, 1, 0, 0, 0, 0, []),
  (59, .if_icmp .ge 17, 3, 0, 76, 0, 0, []),
  (62, .lload 7, 2, 0, 0, 0, 0, []),
  (64, .ldc2_w 235, 3, 0, 10, 0, 334, []),
  (67, .lmul, 1, 0, 0, 0, 0, []),
  (68, .lstore 7, 2, 0, 0, 0, 0, []),
  (70, .iinc 9 1, 3, 0, 1, 0, 0, []),
  (73, .goto (-17), 3, 0, 56, 0, 0, []),
  (76, .iconst 0, 1, 0, 0, 0, 0, []),
  (77, .istore 9, 2, 0, 0, 0, 0, []),
  (79, .iload 9, 2, 1, 0, 0, 0, []),
  (81, .iconst 1, 1, 0, 1, 0, 0, []),
  (82, .iload_n 2, 1, 0, 0, 0, 0, []),
  (83, .ishl, 1, 0, 0, 0, 0, []),
  (84, .if_icmp .ge 107, 3, 0, 191, 0, 0, []),
  (87, .lconst 1, 1, 0, 1, 0, 0, []),
  (88, .lstore 10, 2, 0, 0, 0, 0, []),
  (90, .aload_n 0, 1, 0, 0, 0, 0, []),
  (91, .invokevirtual 192, 3, 0, 180, 1, 317, [(0, 0)]),
  (94, .iconst 0, 1, 0, 0, 0, 0, []),
  (95, .istore 12, 2, 0, 0, 0, 0, []),
  (97, .iload 12, 2, 1, 0, 0, 0, []),
  (99, .iload_n 2, 1, 0, 0, 0, 0, []),
  (100, .if_icmp .ge 60, 3, 0, 160, 0, 0, []),
  (103, .lload 10, 2, 0, 0, 0, 0, []),
  (105, .iload 9, 2, 0, 0, 0, 0, []),
  (107, .iload 12, 2, 0, 0, 0, 0, []),
  (109, .invokestatic 127, 3, 0, 133, 0, 295, [(2, 0)]),
  (112, .ifCond .eq 8, 3, 0, 120, 0, 0, []),
  (115, .iload_n 3, 1, 0, 0, 0, 0, []),
  (116, .i2l, 1, 0, 0, 0, 0, []),
  (117, .goto 8, 3, 0, 125, 0, 0, []),
  (120, .bipush 10, 2, 0, 10, 0, 0, []),
  (122, .iload_n 3, 1, 0, 0, 0, 0, []),
  (123, .isub, 1, 0, 0, 0, 0, []),
  (124, .i2l, 1, 0, 0, 0, 0, []),
  (125, .lmul, 1, 0, 0, 0, 0, []),
  (126, .lstore 10, 2, 0, 0, 0, 0, []),
  (128, .iload 9, 2, 0, 0, 0, 0, []),
  (130, .iload 12, 2, 0, 0, 0, 0, []),
  (132, .invokestatic 127, 3, 0, 133, 0, 295, [(2, 0)]),
  (135, .ifCond .eq 13, 3, 0, 148, 0, 0, []),
  (138, .aload_n 0, 1, 0, 0, 0, 0, []),
  (139, .bipush 43, 2, 0, 43, 0, 0, []),
  (141, .iconst 0, 1, 0, 0, 0, 0, []),
  (142, .invokevirtual 154, 3, 0, 163, 1, 303, [(2, 0)]),
  (145, .goto 9, 3, 0, 154, 0, 0, []),
  (148, .aload_n 0, 1, 0, 0, 0, 0, []),
  (149, .bipush 43, 2, 0, 43, 0, 0, []),
  (151, .invokevirtual 170, 3, 0, 165, 1, 309, [(1, 0)]),
  (154, .iinc 12 1, 3, 0, 1, 0, 0, []),
  (157, .goto (-60), 3, 0, 97, 0, 0, []),
  (160, .lload 5, 2, 0, 0, 0, 0, []),
  (162, .aload_n 0, 1, 0, 0, 0, 0, []),
  (163, .getfield 7, 3, 0, 8, 0, 255, [(0, 0)]),
  (166, .bipush 56, 2, 0, 56, 0, 0, []),
  (168, .iload_n 1, 1, 0, 0, 0, 0, []),
  (169, .iadd, 1, 0, 0, 0, 0, []),
  (170, .iaload, 1, 0, 0, 0, 0, []),
  (171, .bipush 11, 2, 0, 11, 0, 0, []),
  (173, .if_icmp .ne 8, 3, 0, 181, 0, 0, []),
  (176, .lload 10, 2, 0, 0, 0, 0, []),
  (178, .goto 4, 3, 0, 182, 0, 0, []),
  (181, .lconst 0, 1, 0, 0, 0, 0, []),
  (182, .ladd, 1, 0, 0, 0, 0, []),
  (183, .lstore 5, 2, 0, 0, 0, 0, []),
  (185, .iinc 9 1, 3, 0, 1, 0, 0, []),
  (188, .goto (-109), 3, 0, 79, 0, 0, []),
  (191, .lload 5, 2, 0, 0, 0, 0, []),
  (193, .lstore 9, 2, 0, 0, 0, 0, []),
  (195, .lload 7, 2, 0, 0, 0, 0, []),
  (197, .lstore 11, 2, 0, 0, 0, 0, []),
  (199, .lload 11, 2, 1, 0, 0, 0, []),
  (201, .lconst 0, 1, 0, 0, 0, 0, []),
  (202, .lcmp, 1, 0, 0, 0, 0, []),
  (203, .ifCond .eq 21, 3, 0, 224, 0, 0, []),
  (206, .lload 9, 2, 0, 0, 0, 0, []),
  (208, .lload 11, 2, 0, 0, 0, 0, []),
  (210, .lrem, 1, 0, 0, 0, 0, []),
  (211, .lstore 13, 2, 0, 0, 0, 0, []),
  (213, .lload 11, 2, 0, 0, 0, 0, []),
  (215, .lstore 9, 2, 0, 0, 0, 0, []),
  (217, .lload 13, 2, 0, 0, 0, 0, []),
  (219, .lstore 11, 2, 0, 0, 0, 0, []),
  (221, .goto (-22), 3, 0, 199, 0, 0, []),
  (224, .iload 4, 2, 0, 0, 0, 0, []),
  (226, .ifCond .ne 11, 3, 0, 237, 0, 0, []),
  (229, .lload 5, 2, 0, 0, 0, 0, []),
  (231, .lload 9, 2, 0, 0, 0, 0, []),
  (233, .ldiv, 1, 0, 0, 0, 0, []),
  (234, .goto 8, 3, 0, 242, 0, 0, []),
  (237, .lload 7, 2, 0, 0, 0, 0, []),
  (239, .lload 9, 2, 0, 0, 0, 0, []),
  (241, .ldiv, 1, 0, 0, 0, 0, []),
  (242, .lreturn, 1, 0, 0, 0, 0, [])]
def tX8_drawn : List zR := [(0, .aload_n 0, 1, 0, 0, 0, 0, []),
  (1, .invokevirtual 162, 3, 0, 138, 1, 306, [(0, 0)]),
  (4, .ifCond .ne 6, 3, 0, 10, 0, 0, []),
  (7, .ldc 161, 2, 0, 1000002, 1, 305, []),
  (9, .ireturn, 1, 0, 0, 0, 0, []),
  (10, .iload_n 1, 1, 0, 0, 0, 0, []),
  (11, .i2l, 1, 0, 0, 0, 0, []),
  (12, .lconst 0, 1, 0, 0, 0, 0, []),
  (13, .ldc2_w 186, 3, 0, 60, 0, 315, []),
  (16, .invokestatic 44, 3, 0, 132, 0, 266, [(3, 0)]),
  (19, .ifCond .eq 25, 3, 0, 44, 0, 0, []),
  (22, .iload_n 2, 1, 0, 0, 0, 0, []),
  (23, .i2l, 1, 0, 0, 0, 0, []),
  (24, .lconst 1, 1, 0, 1, 0, 0, []),
  (25, .ldc2_w 239, 3, 0, 999999, 0, 336, []),
  (28, .invokestatic 44, 3, 0, 132, 0, 266, [(3, 0)]),
  (31, .ifCond .eq 13, 3, 0, 44, 0, 0, []),
  (34, .iload_n 3, 1, 0, 0, 0, 0, []),
  (35, .i2l, 1, 0, 0, 0, 0, []),
  (36, .lconst 0, 1, 0, 0, 0, 0, []),
  (37, .lconst 1, 1, 0, 1, 0, 0, []),
  (38, .invokestatic 44, 3, 0, 132, 0, 266, [(3, 0)]),
  (41, .ifCond .ne 6, 3, 0, 47, 0, 0, []),
  (44, .ldc 61, 2, 0, 1000001, 1, 272, []),
  (46, .ireturn, 1, 0, 0, 0, 0, []),
  (47, .aload_n 0, 1, 0, 0, 0, 0, []),
  (48, .invokevirtual 192, 3, 0, 180, 1, 317, [(0, 0)]),
  (51, .iload_n 2, 1, 0, 0, 0, 0, []),
  (52, .i2l, 1, 0, 0, 0, 0, []),
  (53, .lstore 4, 2, 0, 0, 0, 0, []),
  (55, .iconst 0, 1, 0, 0, 0, 0, []),
  (56, .istore 6, 2, 0, 0, 0, 0, []),
  (58, .iconst 0, 1, 0, 0, 0, 0, []),
  (59, .istore 7, 2, 0, 0, 0, 0, []),
  (61, .iload 7, 2, 1, 0, 0, 0, []),
  (63, .iload_n 1, 1, 0, 0, 0, 0, []),
  (64, .if_icmp .ge 135, 3, 0, 199, 0, 0, []),
  (67, .lload 4, 2, 0, 0, 0, 0, []),
  (69, .ldc2_w 241, 3, 0, 16807, 0, 337, []),
  (72, .lmul, 1, 0, 0, 0, 0, []),
  (73, .ldc2_w 243, 3, 0, 2147483647, 0, 338, []),
  (76, .lrem, 1, 0, 0, 0, 0, []),
  (77, .lstore 4, 2, 0, 0, 0, 0, []),
  (79, .lload 4, 2, 0, 0, 0, 0, []),
  (81, .aload_n 0, 1, 0, 0, 0, 0, []),
  (82, .getfield 7, 3, 0, 8, 0, 255, [(0, 0)]),
  (85, .iconst 0, 1, 0, 0, 0, 0, []),
  (86, .iaload, 1, 0, 0, 0, 0, []),
  (87, .i2l, 1, 0, 0, 0, 0, []),
  (88, .lrem, 1, 0, 0, 0, 0, []),
  (89, .l2i, 1, 0, 0, 0, 0, []),
  (90, .istore 8, 2, 0, 0, 0, 0, []),
  (92, .lload 4, 2, 0, 0, 0, 0, []),
  (94, .aload_n 0, 1, 0, 0, 0, 0, []),
  (95, .getfield 7, 3, 0, 8, 0, 255, [(0, 0)]),
  (98, .iconst 1, 1, 0, 1, 0, 0, []),
  (99, .iaload, 1, 0, 0, 0, 0, []),
  (100, .i2l, 1, 0, 0, 0, 0, []),
  (101, .lrem, 1, 0, 0, 0, 0, []),
  (102, .l2i, 1, 0, 0, 0, 0, []),
  (103, .istore 9, 2, 0, 0, 0, 0, []),
  (105, .aload_n 0, 1, 0, 0, 0, 0, []),
  (106, .getfield 7, 3, 0, 8, 0, 255, [(0, 0)]),
  (109, .bipush 56, 2, 0, 56, 0, 0, []),
  (111, .iload 8, 2, 0, 0, 0, 0, []),
  (113, .iadd, 1, 0, 0, 0, 0, []),
  (114, .iaload, 1, 0, 0, 0, 0, []),
  (115, .bipush 11, 2, 0, 11, 0, 0, []),
  (117, .if_icmp .ne 23, 3, 0, 140, 0, 0, []),
  (120, .aload_n 0, 1, 0, 0, 0, 0, []),
  (121, .bipush 43, 2, 0, 43, 0, 0, []),
  (123, .iload 8, 2, 0, 0, 0, 0, []),
  (125, .iload 9, 2, 0, 0, 0, 0, []),
  (127, .lload 4, 2, 0, 0, 0, 0, []),
  (129, .ldc2_w 245, 3, 0, 61, 0, 339, []),
  (132, .lrem, 1, 0, 0, 0, 0, []),
  (133, .l2i, 1, 0, 0, 0, 0, []),
  (134, .invokevirtual 188, 3, 0, 176, 1, 316, [(4, 0)]),
  (137, .goto 23, 3, 0, 160, 0, 0, []),
  (140, .lload 4, 2, 0, 0, 0, 0, []),
  (142, .ldc2_w 181, 3, 0, 4, 0, 313, []),
  (145, .lrem, 1, 0, 0, 0, 0, []),
  (146, .lconst 0, 1, 0, 0, 0, 0, []),
  (147, .lcmp, 1, 0, 0, 0, 0, []),
  (148, .ifCond .ne 12, 3, 0, 160, 0, 0, []),
  (151, .aload_n 0, 1, 0, 0, 0, 0, []),
  (152, .getfield 7, 3, 0, 8, 0, 255, [(0, 0)]),
  (155, .bipush 47, 2, 0, 47, 0, 0, []),
  (157, .iload 9, 2, 0, 0, 0, 0, []),
  (159, .iastore, 1, 0, 0, 0, 0, []),
  (160, .aload_n 0, 1, 0, 0, 0, 0, []),
  (161, .bipush 43, 2, 0, 43, 0, 0, []),
  (163, .invokevirtual 173, 3, 0, 158, 1, 310, [(1, 0)]),
  (166, .istore 10, 2, 0, 0, 0, 0, []),
  (168, .aload_n 0, 1, 0, 0, 0, 0, []),
  (169, .bipush 43, 2, 0, 43, 0, 0, []),
  (171, .invokevirtual 170, 3, 0, 165, 1, 309, [(1, 0)]),
  (174, .iload 6, 2, 0, 0, 0, 0, []),
  (176, .aload_n 0, 1, 0, 0, 0, 0, []),
  (177, .bipush 43, 2, 0, 43, 0, 0, []),
  (179, .invokevirtual 173, 3, 0, 158, 1, 310, [(1, 0)]),
  (182, .iload 10, 2, 0, 0, 0, 0, []),
  (184, .iconst (-1), 1, 0, 1, 1, 0, []),
  (185, .ixor, 1, 0, 0, 0, 0, []),
  (186, .iand, 1, 0, 0, 0, 0, []),
  (187, .invokestatic 133, 3, 0, 134, 0, 297, [(1, 0)]),
  (190, .iadd, 1, 0, 0, 0, 0, []),
  (191, .istore 6, 2, 0, 0, 0, 0, []),
  (193, .iinc 7 1, 3, 0, 1, 0, 0, []),
  (196, .goto (-135), 3, 0, 61, 0, 0, []),
  (199, .iload_n 3, 1, 0, 0, 0, 0, []),
  (200, .ifCond .ne 8, 3, 0, 208, 0, 0, []),
  (203, .iload 6, 2, 0, 0, 0, 0, []),
  (205, .goto 9, 3, 0, 214, 0, 0, []),
  (208, .aload_n 0, 1, 0, 0, 0, 0, []),
  (209, .bipush 43, 2, 0, 43, 0, 0, []),
  (211, .invokevirtual 214, 3, 0, 169, 1, 326, [(1, 0)]),
  (214, .ireturn, 1, 0, 0, 0, 0, [])]
def tX8_image : List zR := [(0, .iload_n 1, 1, 0, 0, 0, 0, []),
  (1, .i2l, 1, 0, 0, 0, 0, []),
  (2, .lconst 0, 1, 0, 0, 0, 0, []),
  (3, .lconst 1, 1, 0, 1, 0, 0, []),
  (4, .invokestatic 44, 3, 0, 132, 0, 266, [(3, 0)]),
  (7, .ifCond .ne 6, 3, 0, 13, 0, 0, []),
  (10, .ldc 61, 2, 0, 1000001, 1, 272, []),
  (12, .ireturn, 1, 0, 0, 0, 0, []),
  (13, .aload_n 0, 1, 0, 0, 0, 0, []),
  (14, .invokevirtual 162, 3, 0, 138, 1, 306, [(0, 0)]),
  (17, .ifCond .ne 6, 3, 0, 23, 0, 0, []),
  (20, .ldc 161, 2, 0, 1000002, 1, 305, []),
  (22, .ireturn, 1, 0, 0, 0, 0, []),
  (23, .aload_n 0, 1, 0, 0, 0, 0, []),
  (24, .iconst 0, 1, 0, 0, 0, 0, []),
  (25, .bipush 86, 2, 0, 86, 0, 0, []),
  (27, .bipush 43, 2, 0, 43, 0, 0, []),
  (29, .iload_n 1, 1, 0, 0, 0, 0, []),
  (30, .imul, 1, 0, 0, 0, 0, []),
  (31, .iadd, 1, 0, 0, 0, 0, []),
  (32, .invokevirtual 120, 3, 0, 135, 1, 293, [(2, 0)]),
  (35, .aload_n 0, 1, 0, 0, 0, 0, []),
  (36, .getfield 37, 3, 0, 8, 16, 264, [(16, 0)]),
  (39, .iload_n 1, 1, 0, 0, 0, 0, []),
  (40, .iconst 1, 1, 0, 1, 0, 0, []),
  (41, .bastore, 1, 0, 0, 0, 0, []),
  (42, .iconst 1, 1, 0, 1, 0, 0, []),
  (43, .ireturn, 1, 0, 0, 0, 0, [])]
def tX8_restore : List zR := [(0, .iload_n 1, 1, 0, 0, 0, 0, []),
  (1, .i2l, 1, 0, 0, 0, 0, []),
  (2, .lconst 0, 1, 0, 0, 0, 0, []),
  (3, .lconst 1, 1, 0, 1, 0, 0, []),
  (4, .invokestatic 44, 3, 0, 132, 0, 266, [(3, 0)]),
  (7, .ifCond .ne 6, 3, 0, 13, 0, 0, []),
  (10, .ldc 61, 2, 0, 1000001, 1, 272, []),
  (12, .ireturn, 1, 0, 0, 0, 0, []),
  (13, .aload_n 0, 1, 0, 0, 0, 0, []),
  (14, .getfield 37, 3, 0, 8, 16, 264, [(16, 0)]),
  (17, .iload_n 1, 1, 0, 0, 0, 0, []),
  (18, .baload, 1, 0, 0, 0, 0, []),
  (19, .ifCond .ne 6, 3, 0, 25, 0, 0, []),
  (22, .ldc 161, 2, 0, 1000002, 1, 305, []),
  (24, .ireturn, 1, 0, 0, 0, 0, []),
  (25, .aload_n 0, 1, 0, 0, 0, 0, []),
  (26, .bipush 86, 2, 0, 86, 0, 0, []),
  (28, .bipush 43, 2, 0, 43, 0, 0, []),
  (30, .iload_n 1, 1, 0, 0, 0, 0, []),
  (31, .imul, 1, 0, 0, 0, 0, []),
  (32, .iadd, 1, 0, 0, 0, 0, []),
  (33, .iconst 0, 1, 0, 0, 0, 0, []),
  (34, .invokevirtual 120, 3, 0, 135, 1, 293, [(2, 0)]),
  (37, .aload_n 0, 1, 0, 0, 0, 0, []),
  (38, .iconst 0, 1, 0, 0, 0, 0, []),
  (39, .putfield 124, 3, 0, 8, 1, 294, [(1, 1)]),
  (42, .iconst 1, 1, 0, 1, 0, 0, []),
  (43, .ireturn, 1, 0, 0, 0, 0, [])]
def tX8_kind : List zR := [(0, .aload_n 0, 1, 0, 0, 0, 0, []),
  (1, .iload_n 1, 1, 0, 0, 0, 0, []),
  (2, .invokevirtual 183, 3, 0, 136, 1, 314, [(1, 0)]),
  (5, .ifCond .eq 15, 3, 0, 20, 0, 0, []),
  (8, .aload_n 0, 1, 0, 0, 0, 0, []),
  (9, .getfield 7, 3, 0, 8, 0, 255, [(0, 0)]),
  (12, .bipush 7, 2, 0, 7, 0, 0, []),
  (14, .iload_n 1, 1, 0, 0, 0, 0, []),
  (15, .iadd, 1, 0, 0, 0, 0, []),
  (16, .iaload, 1, 0, 0, 0, 0, []),
  (17, .goto 5, 3, 0, 22, 0, 0, []),
  (20, .ldc 61, 2, 0, 1000001, 1, 272, []),
  (22, .ireturn, 1, 0, 0, 0, 0, [])]
def tX8_isA : List zR := [(0, .iload_n 1, 1, 0, 0, 0, 0, []),
  (1, .ifCond .eq 33, 3, 0, 34, 0, 0, []),
  (4, .iload_n 1, 1, 0, 0, 0, 0, []),
  (5, .iload_n 0, 1, 0, 0, 0, 0, []),
  (6, .if_icmp .eq 28, 3, 0, 34, 0, 0, []),
  (9, .iload_n 1, 1, 0, 0, 0, 0, []),
  (10, .iconst 1, 1, 0, 1, 0, 0, []),
  (11, .if_icmp .ne 13, 3, 0, 24, 0, 0, []),
  (14, .iload_n 0, 1, 0, 0, 0, 0, []),
  (15, .iconst 2, 1, 0, 2, 0, 0, []),
  (16, .if_icmp .eq 18, 3, 0, 34, 0, 0, []),
  (19, .iload_n 0, 1, 0, 0, 0, 0, []),
  (20, .iconst 3, 1, 0, 3, 0, 0, []),
  (21, .if_icmp .eq 13, 3, 0, 34, 0, 0, []),
  (24, .iload_n 1, 1, 0, 0, 0, 0, []),
  (25, .iconst 4, 1, 0, 4, 0, 0, []),
  (26, .if_icmp .ne 12, 3, 0, 38, 0, 0, []),
  (29, .iload_n 0, 1, 0, 0, 0, 0, []),
  (30, .iconst 5, 1, 0, 5, 0, 0, []),
  (31, .if_icmp .ne 7, 3, 0, 38, 0, 0, []),
  (34, .iconst 1, 1, 0, 1, 0, 0, []),
  (35, .goto 4, 3, 0, 39, 0, 0, []),
  (38, .iconst 0, 1, 0, 0, 0, 0, []),
  (39, .ireturn, 1, 0, 0, 1, 0, [])]
def tX8_as : List zR := [(0, .aload_n 0, 1, 0, 0, 0, 0, []),
  (1, .iload_n 1, 1, 0, 0, 0, 0, []),
  (2, .invokevirtual 183, 3, 0, 136, 1, 314, [(1, 0)]),
  (5, .ifCond .eq 15, 3, 0, 20, 0, 0, []),
  (8, .iload_n 2, 1, 0, 0, 0, 0, []),
  (9, .i2l, 1, 0, 0, 0, 0, []),
  (10, .lconst 0, 1, 0, 0, 0, 0, []),
  (11, .ldc2_w 225, 3, 0, 5, 0, 330, []),
  (14, .invokestatic 44, 3, 0, 132, 0, 266, [(3, 0)]),
  (17, .ifCond .ne 6, 3, 0, 23, 0, 0, []),
  (20, .ldc 61, 2, 0, 1000001, 1, 272, []),
  (22, .ireturn, 1, 0, 0, 0, 0, []),
  (23, .aload_n 0, 1, 0, 0, 0, 0, []),
  (24, .getfield 7, 3, 0, 8, 0, 255, [(0, 0)]),
  (27, .bipush 7, 2, 0, 7, 0, 0, []),
  (29, .iload_n 1, 1, 0, 0, 0, 0, []),
  (30, .iadd, 1, 0, 0, 0, 0, []),
  (31, .iaload, 1, 0, 0, 0, 0, []),
  (32, .iload_n 2, 1, 0, 0, 0, 0, []),
  (33, .invokestatic 247, 3, 0, 204, 0, 340, [(2, 0)]),
  (36, .ifCond .ne 9, 3, 0, 45, 0, 0, []),
  (39, .aload_n 0, 1, 0, 0, 0, 0, []),
  (40, .iconst 3, 1, 0, 3, 0, 0, []),
  (41, .invokevirtual 62, 3, 0, 140, 1, 273, [(1, 0)]),
  (44, .ireturn, 1, 0, 0, 0, 0, []),
  (45, .aload_n 0, 1, 0, 0, 0, 0, []),
  (46, .iconst 0, 1, 0, 0, 0, 0, []),
  (47, .putfield 50, 3, 0, 8, 5, 268, [(5, 1)]),
  (50, .iload_n 1, 1, 0, 0, 0, 0, []),
  (51, .ireturn, 1, 0, 0, 0, 0, [])]
def tX8_traces : List zR := [(0, .aload_n 0, 1, 0, 0, 0, 0, []),
  (1, .getfield 250, 3, 0, 8, 18, 341, [(18, 1)]),
  (4, .bipush 16, 2, 0, 16, 0, 0, []),
  (6, .if_icmp .ge 23, 3, 0, 29, 0, 0, []),
  (9, .aload_n 0, 1, 0, 0, 0, 0, []),
  (10, .getfield 41, 3, 0, 8, 17, 265, [(17, 0)]),
  (13, .aload_n 0, 1, 0, 0, 0, 0, []),
  (14, .getfield 250, 3, 0, 8, 18, 341, [(18, 1)]),
  (17, .iload_n 1, 1, 0, 0, 0, 0, []),
  (18, .iastore, 1, 0, 0, 0, 0, []),
  (19, .aload_n 0, 1, 0, 0, 0, 0, []),
  (20, .dup, 1, 0, 0, 0, 0, []),
  (21, .getfield 250, 3, 0, 8, 18, 341, [(18, 1)]),
  (24, .iconst 1, 1, 0, 1, 0, 0, []),
  (25, .iadd, 1, 0, 0, 0, 0, []),
  (26, .putfield 250, 3, 0, 8, 18, 341, [(18, 1)]),
  (29, .return_, 1, 0, 0, 0, 0, [])]
def tX8_size10 : List zR := [(0, .aload_n 0, 1, 0, 0, 0, 0, []),
  (1, .bipush 10, 2, 0, 10, 0, 0, []),
  (3, .invokevirtual 253, 3, 0, 206, 1, 342, [(1, 0)]),
  (6, .aload_n 0, 1, 0, 0, 0, 0, []),
  (7, .getfield 7, 3, 0, 8, 0, 255, [(0, 0)]),
  (10, .bipush 25, 2, 0, 25, 0, 0, []),
  (12, .iload_n 1, 1, 0, 0, 0, 0, []),
  (13, .iadd, 1, 0, 0, 0, 0, []),
  (14, .iaload, 1, 0, 0, 0, 0, []),
  (15, .ireturn, 1, 0, 0, 0, 0, [])]
def tX8_size11 : List zR := [(0, .aload_n 0, 1, 0, 0, 0, 0, []),
  (1, .bipush 11, 2, 0, 11, 0, 0, []),
  (3, .invokevirtual 253, 3, 0, 206, 1, 342, [(1, 0)]),
  (6, .aload_n 0, 1, 0, 0, 0, 0, []),
  (7, .iload_n 1, 1, 0, 0, 0, 0, []),
  (8, .invokevirtual 256, 3, 0, 207, 1, 343, [(1, 0)]),
  (11, .istore_n 2, 1, 0, 0, 0, 0, []),
  (12, .iload_n 2, 1, 0, 0, 0, 0, []),
  (13, .aload_n 0, 1, 0, 0, 0, 0, []),
  (14, .iload_n 1, 1, 0, 0, 0, 0, []),
  (15, .invokevirtual 259, 3, 0, 213, 1, 344, [(1, 0)]),
  (18, .iadd, 1, 0, 0, 0, 0, []),
  (19, .ireturn, 1, 0, 0, 0, 0, [])]
def tX8_size13 : List zR := [(0, .aload_n 0, 1, 0, 0, 0, 0, []),
  (1, .bipush 13, 2, 0, 13, 0, 0, []),
  (3, .invokevirtual 253, 3, 0, 206, 1, 342, [(1, 0)]),
  (6, .aload_n 0, 1, 0, 0, 0, 0, []),
  (7, .iload_n 1, 1, 0, 0, 0, 0, []),
  (8, .invokevirtual 256, 3, 0, 207, 1, 343, [(1, 0)]),
  (11, .bipush 100, 2, 0, 100, 0, 0, []),
  (13, .isub, 1, 0, 0, 0, 0, []),
  (14, .ireturn, 1, 0, 0, 0, 0, [])]
def tX8_sizeOf : List zR := [(0, .aload_n 0, 1, 0, 0, 0, 0, []),
  (1, .getfield 7, 3, 0, 8, 0, 255, [(0, 0)]),
  (4, .bipush 7, 2, 0, 7, 0, 0, []),
  (6, .iload_n 1, 1, 0, 0, 0, 0, []),
  (7, .iadd, 1, 0, 0, 0, 0, []),
  (8, .iaload, 1, 0, 0, 0, 0, []),
  (9, .tableswitch 64 2 5 #[31, 64, 44, 50], 31, 0, 73, 0, 0, [(2, 40), (3, 73), (4, 53), (5, 59)]),
  (40, .aload_n 0, 1, 0, 0, 0, 0, []),
  (41, .bipush 12, 2, 0, 12, 0, 0, []),
  (43, .invokevirtual 253, 3, 0, 206, 1, 342, [(1, 0)]),
  (46, .aload_n 0, 1, 0, 0, 0, 0, []),
  (47, .iload_n 1, 1, 0, 0, 0, 0, []),
  (48, .invokevirtual 262, 3, 0, 208, 1, 345, [(1, 0)]),
  (51, .ineg, 1, 0, 0, 0, 0, []),
  (52, .ireturn, 1, 0, 0, 0, 0, []),
  (53, .aload_n 0, 1, 0, 0, 0, 0, []),
  (54, .iload_n 1, 1, 0, 0, 0, 0, []),
  (55, .invokevirtual 265, 3, 0, 209, 1, 346, [(1, 0)]),
  (58, .ireturn, 1, 0, 0, 0, 0, []),
  (59, .aload_n 0, 1, 0, 0, 0, 0, []),
  (60, .bipush 14, 2, 0, 14, 0, 0, []),
  (62, .invokevirtual 253, 3, 0, 206, 1, 342, [(1, 0)]),
  (65, .iconst 2, 1, 0, 2, 0, 0, []),
  (66, .aload_n 0, 1, 0, 0, 0, 0, []),
  (67, .iload_n 1, 1, 0, 0, 0, 0, []),
  (68, .invokevirtual 265, 3, 0, 209, 1, 346, [(1, 0)]),
  (71, .imul, 1, 0, 0, 0, 0, []),
  (72, .ireturn, 1, 0, 0, 0, 0, []),
  (73, .aload_n 0, 1, 0, 0, 0, 0, []),
  (74, .iload_n 1, 1, 0, 0, 0, 0, []),
  (75, .invokevirtual 262, 3, 0, 208, 1, 345, [(1, 0)]),
  (78, .ireturn, 1, 0, 0, 0, 0, [])]
def tX8_mark20 : List zR := [(0, .aload_n 0, 1, 0, 0, 0, 0, []),
  (1, .bipush 20, 2, 0, 20, 0, 0, []),
  (3, .invokevirtual 253, 3, 0, 206, 1, 342, [(1, 0)]),
  (6, .iload_n 1, 1, 0, 0, 0, 0, []),
  (7, .ireturn, 1, 0, 0, 0, 0, [])]
def tX8_mark21 : List zR := [(0, .aload_n 0, 1, 0, 0, 0, 0, []),
  (1, .bipush 21, 2, 0, 21, 0, 0, []),
  (3, .invokevirtual 253, 3, 0, 206, 1, 342, [(1, 0)]),
  (6, .aload_n 0, 1, 0, 0, 0, 0, []),
  (7, .iload_n 1, 1, 0, 0, 0, 0, []),
  (8, .invokevirtual 268, 3, 0, 211, 1, 347, [(1, 0)]),
  (11, .aload_n 0, 1, 0, 0, 0, 0, []),
  (12, .getfield 7, 3, 0, 8, 0, 255, [(0, 0)]),
  (15, .bipush 31, 2, 0, 31, 0, 0, []),
  (17, .iload_n 1, 1, 0, 0, 0, 0, []),
  (18, .iadd, 1, 0, 0, 0, 0, []),
  (19, .iaload, 1, 0, 0, 0, 0, []),
  (20, .iadd, 1, 0, 0, 0, 0, []),
  (21, .ireturn, 1, 0, 0, 0, 0, [])]
def tX8_markOf : List zR := [(0, .aload_n 0, 1, 0, 0, 0, 0, []),
  (1, .getfield 7, 3, 0, 8, 0, 255, [(0, 0)]),
  (4, .bipush 7, 2, 0, 7, 0, 0, []),
  (6, .iload_n 1, 1, 0, 0, 0, 0, []),
  (7, .iadd, 1, 0, 0, 0, 0, []),
  (8, .iaload, 1, 0, 0, 0, 0, []),
  (9, .lookupswitch 57 #[(2, 27), (3, 41)], 27, 0, 66, 0, 0, [(2, 36), (3, 50)]),
  (36, .aload_n 0, 1, 0, 0, 0, 0, []),
  (37, .bipush 24, 2, 0, 24, 0, 0, []),
  (39, .invokevirtual 253, 3, 0, 206, 1, 342, [(1, 0)]),
  (42, .iconst 2, 1, 0, 2, 0, 0, []),
  (43, .aload_n 0, 1, 0, 0, 0, 0, []),
  (44, .iload_n 1, 1, 0, 0, 0, 0, []),
  (45, .invokevirtual 271, 3, 0, 212, 1, 348, [(1, 0)]),
  (48, .imul, 1, 0, 0, 0, 0, []),
  (49, .ireturn, 1, 0, 0, 0, 0, []),
  (50, .aload_n 0, 1, 0, 0, 0, 0, []),
  (51, .bipush 22, 2, 0, 22, 0, 0, []),
  (53, .invokevirtual 253, 3, 0, 206, 1, 342, [(1, 0)]),
  (56, .aload_n 0, 1, 0, 0, 0, 0, []),
  (57, .iload_n 1, 1, 0, 0, 0, 0, []),
  (58, .invokevirtual 271, 3, 0, 212, 1, 348, [(1, 0)]),
  (61, .sipush 1000, 3, 0, 1000, 0, 0, []),
  (64, .isub, 1, 0, 0, 0, 0, []),
  (65, .ireturn, 1, 0, 0, 0, 0, []),
  (66, .aload_n 0, 1, 0, 0, 0, 0, []),
  (67, .iload_n 1, 1, 0, 0, 0, 0, []),
  (68, .invokevirtual 271, 3, 0, 212, 1, 348, [(1, 0)]),
  (71, .ireturn, 1, 0, 0, 0, 0, [])]
def tX8_mark23 : List zR := [(0, .aload_n 0, 1, 0, 0, 0, 0, []),
  (1, .bipush 23, 2, 0, 23, 0, 0, []),
  (3, .invokevirtual 253, 3, 0, 206, 1, 342, [(1, 0)]),
  (6, .aload_n 0, 1, 0, 0, 0, 0, []),
  (7, .iload_n 1, 1, 0, 0, 0, 0, []),
  (8, .invokevirtual 268, 3, 0, 211, 1, 347, [(1, 0)]),
  (11, .istore_n 2, 1, 0, 0, 0, 0, []),
  (12, .iload_n 2, 1, 0, 0, 0, 0, []),
  (13, .aload_n 0, 1, 0, 0, 0, 0, []),
  (14, .iload_n 1, 1, 0, 0, 0, 0, []),
  (15, .invokevirtual 274, 3, 0, 210, 1, 349, [(1, 0)]),
  (18, .isub, 1, 0, 0, 0, 0, []),
  (19, .ireturn, 1, 0, 0, 0, 0, [])]
def tX8_ask : List zR := [(0, .aload_n 0, 1, 0, 0, 0, 0, []),
  (1, .iload_n 1, 1, 0, 0, 0, 0, []),
  (2, .invokevirtual 183, 3, 0, 136, 1, 314, [(1, 0)]),
  (5, .ifCond .eq 13, 3, 0, 18, 0, 0, []),
  (8, .iload_n 2, 1, 0, 0, 0, 0, []),
  (9, .i2l, 1, 0, 0, 0, 0, []),
  (10, .lconst 0, 1, 0, 0, 0, 0, []),
  (11, .lconst 1, 1, 0, 1, 0, 0, []),
  (12, .invokestatic 44, 3, 0, 132, 0, 266, [(3, 0)]),
  (15, .ifCond .ne 6, 3, 0, 21, 0, 0, []),
  (18, .ldc 61, 2, 0, 1000001, 1, 272, []),
  (20, .ireturn, 1, 0, 0, 0, 0, []),
  (21, .aload_n 0, 1, 0, 0, 0, 0, []),
  (22, .iconst 0, 1, 0, 0, 0, 0, []),
  (23, .putfield 250, 3, 0, 8, 18, 341, [(18, 1)]),
  (26, .iload_n 2, 1, 0, 0, 0, 0, []),
  (27, .ifCond .ne 11, 3, 0, 38, 0, 0, []),
  (30, .aload_n 0, 1, 0, 0, 0, 0, []),
  (31, .iload_n 1, 1, 0, 0, 0, 0, []),
  (32, .invokevirtual 274, 3, 0, 210, 1, 349, [(1, 0)]),
  (35, .goto 29, 3, 0, 64, 0, 0, []),
  (38, .aload_n 0, 1, 0, 0, 0, 0, []),
  (39, .getfield 7, 3, 0, 8, 0, 255, [(0, 0)]),
  (42, .bipush 7, 2, 0, 7, 0, 0, []),
  (44, .iload_n 1, 1, 0, 0, 0, 0, []),
  (45, .iadd, 1, 0, 0, 0, 0, []),
  (46, .iaload, 1, 0, 0, 0, 0, []),
  (47, .iconst 4, 1, 0, 4, 0, 0, []),
  (48, .if_icmp .lt 11, 3, 0, 59, 0, 0, []),
  (51, .aload_n 0, 1, 0, 0, 0, 0, []),
  (52, .iload_n 1, 1, 0, 0, 0, 0, []),
  (53, .invokevirtual 277, 3, 0, 214, 1, 350, [(1, 0)]),
  (56, .goto 8, 3, 0, 64, 0, 0, []),
  (59, .aload_n 0, 1, 0, 0, 0, 0, []),
  (60, .iload_n 1, 1, 0, 0, 0, 0, []),
  (61, .invokevirtual 259, 3, 0, 213, 1, 344, [(1, 0)]),
  (64, .ireturn, 1, 0, 0, 0, 0, [])]
def tX8_trace : List zR := [(0, .iload_n 1, 1, 0, 0, 0, 0, []),
  (1, .i2l, 1, 0, 0, 0, 0, []),
  (2, .lconst 0, 1, 0, 0, 0, 0, []),
  (3, .aload_n 0, 1, 0, 0, 0, 0, []),
  (4, .getfield 250, 3, 0, 8, 18, 341, [(18, 1)]),
  (7, .iconst 1, 1, 0, 1, 0, 0, []),
  (8, .isub, 1, 0, 0, 0, 0, []),
  (9, .i2l, 1, 0, 0, 0, 0, []),
  (10, .invokestatic 44, 3, 0, 132, 0, 266, [(3, 0)]),
  (13, .ifCond .eq 12, 3, 0, 25, 0, 0, []),
  (16, .aload_n 0, 1, 0, 0, 0, 0, []),
  (17, .getfield 41, 3, 0, 8, 17, 265, [(17, 0)]),
  (20, .iload_n 1, 1, 0, 0, 0, 0, []),
  (21, .iaload, 1, 0, 0, 0, 0, []),
  (22, .goto 5, 3, 0, 27, 0, 0, []),
  (25, .ldc 198, 2, 0, 1000000, 1, 319, []),
  (27, .ireturn, 1, 0, 0, 0, 0, [])]
def tX8_rowsThere : List zR := [(0, .iconst 0, 1, 0, 0, 0, 0, []),
  (1, .istore_n 1, 1, 0, 0, 0, 0, []),
  (2, .iconst 0, 1, 0, 0, 0, 0, []),
  (3, .istore_n 2, 1, 0, 0, 0, 0, []),
  (4, .iload_n 2, 1, 1, 0, 0, 0, []),
  (5, .bipush 8, 2, 0, 8, 0, 0, []),
  (7, .if_icmp .ge 26, 3, 0, 33, 0, 0, []),
  (10, .iload_n 1, 1, 0, 0, 0, 0, []),
  (11, .aload_n 0, 1, 0, 0, 0, 0, []),
  (12, .getfield 16, 3, 0, 8, 6, 257, [(6, 0)]),
  (15, .iload_n 2, 1, 0, 0, 0, 0, []),
  (16, .iaload, 1, 0, 0, 0, 0, []),
  (17, .ifCond .lt 7, 3, 0, 24, 0, 0, []),
  (20, .iconst 1, 1, 0, 1, 0, 0, []),
  (21, .goto 4, 3, 0, 25, 0, 0, []),
  (24, .iconst 0, 1, 0, 0, 0, 0, []),
  (25, .iadd, 1, 0, 0, 0, 0, []),
  (26, .istore_n 1, 1, 0, 0, 0, 0, []),
  (27, .iinc 2 1, 3, 0, 1, 0, 0, []),
  (30, .goto (-26), 3, 0, 4, 0, 0, []),
  (33, .iload_n 1, 1, 0, 0, 0, 0, []),
  (34, .ireturn, 1, 0, 0, 0, 0, [])]
def tX8_waiting : List zR := [(0, .iconst 0, 1, 0, 0, 0, 0, []),
  (1, .istore_n 1, 1, 0, 0, 0, 0, []),
  (2, .iconst 0, 1, 0, 0, 0, 0, []),
  (3, .istore_n 2, 1, 0, 0, 0, 0, []),
  (4, .iload_n 2, 1, 1, 0, 0, 0, []),
  (5, .aload_n 0, 1, 0, 0, 0, 0, []),
  (6, .getfield 7, 3, 0, 8, 0, 255, [(0, 0)]),
  (9, .iconst 0, 1, 0, 0, 0, 0, []),
  (10, .iaload, 1, 0, 0, 0, 0, []),
  (11, .if_icmp .ge 31, 3, 0, 42, 0, 0, []),
  (14, .iload_n 1, 1, 0, 0, 0, 0, []),
  (15, .aload_n 0, 1, 0, 0, 0, 0, []),
  (16, .getfield 7, 3, 0, 8, 0, 255, [(0, 0)]),
  (19, .bipush 13, 2, 0, 13, 0, 0, []),
  (21, .iload_n 2, 1, 0, 0, 0, 0, []),
  (22, .iadd, 1, 0, 0, 0, 0, []),
  (23, .iaload, 1, 0, 0, 0, 0, []),
  (24, .bipush 10, 2, 0, 10, 0, 0, []),
  (26, .if_icmp .ge 7, 3, 0, 33, 0, 0, []),
  (29, .iconst 1, 1, 0, 1, 0, 0, []),
  (30, .goto 4, 3, 0, 34, 0, 0, []),
  (33, .iconst 0, 1, 0, 0, 0, 0, []),
  (34, .iadd, 1, 0, 0, 0, 0, []),
  (35, .istore_n 1, 1, 0, 0, 0, 0, []),
  (36, .iinc 2 1, 3, 0, 1, 0, 0, []),
  (39, .goto (-35), 3, 0, 4, 0, 0, []),
  (42, .iload_n 1, 1, 0, 0, 0, 0, []),
  (43, .ireturn, 1, 0, 0, 0, 0, [])]
def tX8_count : List zR := [(0, .iload_n 1, 1, 0, 0, 0, 0, []),
  (1, .tableswitch 108 0 8 #[51, 56, 63, 70, 78, 83, 92, 98, 103], 51, 0, 109, 0, 0, [(0, 52), (1, 57), (2, 64), (3, 71), (4, 79), (5, 84), (6, 93), (7, 99), (8, 104)]),
  (52, .aload_n 0, 1, 0, 0, 0, 0, []),
  (53, .invokevirtual 280, 3, 0, 217, 1, 351, [(0, 0)]),
  (56, .ireturn, 1, 0, 0, 0, 0, []),
  (57, .aload_n 0, 1, 0, 0, 0, 0, []),
  (58, .getfield 7, 3, 0, 8, 0, 255, [(0, 0)]),
  (61, .iconst 0, 1, 0, 0, 0, 0, []),
  (62, .iaload, 1, 0, 0, 0, 0, []),
  (63, .ireturn, 1, 0, 0, 0, 0, []),
  (64, .aload_n 0, 1, 0, 0, 0, 0, []),
  (65, .getfield 7, 3, 0, 8, 0, 255, [(0, 0)]),
  (68, .iconst 1, 1, 0, 1, 0, 0, []),
  (69, .iaload, 1, 0, 0, 0, 0, []),
  (70, .ireturn, 1, 0, 0, 0, 0, []),
  (71, .aload_n 0, 1, 0, 0, 0, 0, []),
  (72, .getfield 7, 3, 0, 8, 0, 255, [(0, 0)]),
  (75, .bipush 6, 2, 0, 6, 0, 0, []),
  (77, .iaload, 1, 0, 0, 0, 0, []),
  (78, .ireturn, 1, 0, 0, 0, 0, []),
  (79, .aload_n 0, 1, 0, 0, 0, 0, []),
  (80, .invokevirtual 283, 3, 0, 218, 1, 352, [(0, 0)]),
  (83, .ireturn, 1, 0, 0, 0, 0, []),
  (84, .aload_n 0, 1, 0, 0, 0, 0, []),
  (85, .iconst 0, 1, 0, 0, 0, 0, []),
  (86, .invokevirtual 173, 3, 0, 158, 1, 310, [(1, 0)]),
  (89, .invokestatic 133, 3, 0, 134, 0, 297, [(1, 0)]),
  (92, .ireturn, 1, 0, 0, 0, 0, []),
  (93, .aload_n 0, 1, 0, 0, 0, 0, []),
  (94, .iconst 0, 1, 0, 0, 0, 0, []),
  (95, .invokevirtual 214, 3, 0, 169, 1, 326, [(1, 0)]),
  (98, .ireturn, 1, 0, 0, 0, 0, []),
  (99, .aload_n 0, 1, 0, 0, 0, 0, []),
  (100, .getfield 124, 3, 0, 8, 1, 294, [(1, 1)]),
  (103, .ireturn, 1, 0, 0, 0, 0, []),
  (104, .aload_n 0, 1, 0, 0, 0, 0, []),
  (105, .getfield 72, 3, 0, 8, 3, 276, [(3, 1)]),
  (108, .ireturn, 1, 0, 0, 0, 0, []),
  (109, .ldc 61, 2, 0, 1000001, 1, 272, []),
  (111, .ireturn, 1, 0, 0, 0, 0, [])]
def tX8_status : List zR := [(0, .aload_n 0, 1, 0, 0, 0, 0, []),
  (1, .getfield 50, 3, 0, 8, 5, 268, [(5, 1)]),
  (4, .ireturn, 1, 0, 0, 0, 0, [])]
def tJ6_bitCount_0f7a4 : List zR := [(0, .iload_n 0, 1, 0, 0, 0, 0, []),
  (1, .iload_n 0, 1, 0, 0, 0, 0, []),
  (2, .iconst 1, 1, 0, 1, 0, 0, []),
  (3, .iushr, 1, 0, 0, 0, 0, []),
  (4, .ldc_w 265, 3, 0, 1431655765, 0, 353, []),
  (7, .iand, 1, 0, 0, 0, 0, []),
  (8, .isub, 1, 0, 0, 0, 0, []),
  (9, .istore_n 0, 1, 0, 0, 0, 0, []),
  (10, .iload_n 0, 1, 0, 0, 0, 0, []),
  (11, .ldc_w 266, 3, 0, 858993459, 0, 354, []),
  (14, .iand, 1, 0, 0, 0, 0, []),
  (15, .iload_n 0, 1, 0, 0, 0, 0, []),
  (16, .iconst 2, 1, 0, 2, 0, 0, []),
  (17, .iushr, 1, 0, 0, 0, 0, []),
  (18, .ldc_w 266, 3, 0, 858993459, 0, 354, []),
  (21, .iand, 1, 0, 0, 0, 0, []),
  (22, .iadd, 1, 0, 0, 0, 0, []),
  (23, .istore_n 0, 1, 0, 0, 0, 0, []),
  (24, .iload_n 0, 1, 0, 0, 0, 0, []),
  (25, .iload_n 0, 1, 0, 0, 0, 0, []),
  (26, .iconst 4, 1, 0, 4, 0, 0, []),
  (27, .iushr, 1, 0, 0, 0, 0, []),
  (28, .iadd, 1, 0, 0, 0, 0, []),
  (29, .ldc_w 267, 3, 0, 252645135, 0, 355, []),
  (32, .iand, 1, 0, 0, 0, 0, []),
  (33, .istore_n 0, 1, 0, 0, 0, 0, []),
  (34, .iload_n 0, 1, 0, 0, 0, 0, []),
  (35, .iload_n 0, 1, 0, 0, 0, 0, []),
  (36, .bipush 8, 2, 0, 8, 0, 0, []),
  (38, .iushr, 1, 0, 0, 0, 0, []),
  (39, .iadd, 1, 0, 0, 0, 0, []),
  (40, .istore_n 0, 1, 0, 0, 0, 0, []),
  (41, .iload_n 0, 1, 0, 0, 0, 0, []),
  (42, .iload_n 0, 1, 0, 0, 0, 0, []),
  (43, .bipush 16, 2, 0, 16, 0, 0, []),
  (45, .iushr, 1, 0, 0, 0, 0, []),
  (46, .iadd, 1, 0, 0, 0, 0, []),
  (47, .istore_n 0, 1, 0, 0, 0, 0, []),
  (48, .iload_n 0, 1, 0, 0, 0, 0, []),
  (49, .bipush 63, 2, 0, 63, 0, 0, []),
  (51, .iand, 1, 0, 0, 0, 0, []),
  (52, .ireturn, 1, 0, 0, 0, 0, [])]
def tJ9_max_7cf53 : List zR := [(0, .iload_n 0, 1, 0, 0, 0, 0, []),
  (1, .iload_n 1, 1, 0, 0, 0, 0, []),
  (2, .if_icmp .lt 7, 3, 0, 9, 0, 0, []),
  (5, .iload_n 0, 1, 0, 0, 0, 0, []),
  (6, .goto 4, 3, 0, 10, 0, 0, []),
  (9, .iload_n 1, 1, 0, 0, 0, 0, []),
  (10, .ireturn, 1, 0, 0, 0, 0, [])]
def tJ9_min_7cf53 : List zR := [(0, .iload_n 0, 1, 0, 0, 0, 0, []),
  (1, .iload_n 1, 1, 0, 0, 0, 0, []),
  (2, .if_icmp .gt 7, 3, 0, 9, 0, 0, []),
  (5, .iload_n 0, 1, 0, 0, 0, 0, []),
  (6, .goto 4, 3, 0, 10, 0, 0, []),
  (9, .iload_n 1, 1, 0, 0, 0, 0, []),
  (10, .ireturn, 1, 0, 0, 0, 0, [])]
def tJ7_fill_53178 : List zR := [(0, .iconst 0, 1, 0, 0, 0, 0, []),
  (1, .istore_n 2, 1, 0, 0, 0, 0, []),
  (2, .aload_n 0, 1, 0, 0, 0, 0, []),
  (3, .arraylength, 1, 0, 0, 0, 0, []),
  (4, .istore_n 3, 1, 0, 0, 0, 0, []),
  (5, .iload_n 2, 1, 1, 0, 0, 0, []),
  (6, .iload_n 3, 1, 0, 0, 0, 0, []),
  (7, .if_icmp .ge 13, 3, 0, 20, 0, 0, []),
  (10, .aload_n 0, 1, 0, 0, 0, 0, []),
  (11, .iload_n 2, 1, 0, 0, 0, 0, []),
  (12, .iload_n 1, 1, 0, 0, 0, 0, []),
  (13, .iastore, 1, 0, 0, 0, 0, []),
  (14, .iinc 2 1, 3, 0, 1, 0, 0, []),
  (17, .goto (-12), 3, 0, 5, 0, 0, []),
  (20, .return_, 1, 0, 0, 0, 0, [])]
def tL_law : List zR := [(0, .new 7, 3, 0, 7, 0, 356, []),
  (3, .dup, 1, 0, 0, 0, 0, []),
  (4, .invokespecial 9, 3, 0, 90, 2, 357, [(0, 1)]),
  (7, .astore_n 1, 1, 0, 0, 0, 0, []),
  (8, .new 10, 3, 0, 8, 0, 358, []),
  (11, .dup, 1, 0, 0, 0, 0, []),
  (12, .invokespecial 12, 3, 0, 131, 2, 359, [(0, 1)]),
  (15, .astore_n 2, 1, 0, 0, 0, 0, []),
  (16, .iconst 0, 1, 0, 0, 0, 0, []),
  (17, .istore_n 3, 1, 0, 0, 0, 0, []),
  (18, .iload_n 3, 1, 1, 0, 0, 0, []),
  (19, .aload_n 0, 1, 0, 0, 0, 0, []),
  (20, .arraylength, 1, 0, 0, 0, 0, []),
  (21, .bipush 6, 2, 0, 6, 0, 0, []),
  (23, .isub, 1, 0, 0, 0, 0, []),
  (24, .if_icmp .gt 1270, 3, 0, 1294, 0, 0, []),
  (27, .aload_n 0, 1, 0, 0, 0, 0, []),
  (28, .iload_n 3, 1, 0, 0, 0, 0, []),
  (29, .iaload, 1, 0, 0, 0, 0, []),
  (30, .bipush 63, 2, 0, 63, 0, 0, []),
  (32, .iand, 1, 0, 0, 0, 0, []),
  (33, .tableswitch 1255 0 36 #[163, 206, 249, 312, 335, 358, 371, 384, 397, 420, 443, 466, 489, 532, 565, 588, 631, 654, 677, 690, 713, 746, 779, 812, 835, 868, 901, 964, 1018, 1061, 1084, 1107, 1130, 1163, 1196, 1219, 1242], 163, 0, 1288, 0, 0, [(0, 196), (1, 239), (2, 282), (3, 345), (4, 368), (5, 391), (6, 404), (7, 417), (8, 430), (9, 453), (10, 476), (11, 499), (12, 522), (13, 565), (14, 598), (15, 621), (16, 664), (17, 687), (18, 710), (19, 723), (20, 746), (21, 779), (22, 812), (23, 845), (24, 868), (25, 901), (26, 934), (27, 997), (28, 1051), (29, 1094), (30, 1117), (31, 1140), (32, 1163), (33, 1196), (34, 1229), (35, 1252), (36, 1275)]),
  (196, .aload_n 1, 1, 0, 0, 0, 0, []),
  (197, .aload_n 0, 1, 0, 0, 0, 0, []),
  (198, .iload_n 3, 1, 0, 0, 0, 0, []),
  (199, .iconst 1, 1, 0, 1, 0, 0, []),
  (200, .iadd, 1, 0, 0, 0, 0, []),
  (201, .iaload, 1, 0, 0, 0, 0, []),
  (202, .aload_n 0, 1, 0, 0, 0, 0, []),
  (203, .iload_n 3, 1, 0, 0, 0, 0, []),
  (204, .iconst 2, 1, 0, 2, 0, 0, []),
  (205, .iadd, 1, 0, 0, 0, 0, []),
  (206, .iaload, 1, 0, 0, 0, 0, []),
  (207, .aload_n 0, 1, 0, 0, 0, 0, []),
  (208, .iload_n 3, 1, 0, 0, 0, 0, []),
  (209, .iconst 3, 1, 0, 3, 0, 0, []),
  (210, .iadd, 1, 0, 0, 0, 0, []),
  (211, .iaload, 1, 0, 0, 0, 0, []),
  (212, .invokevirtual 13, 3, 0, 91, 1, 360, [(3, 0)]),
  (215, .aload_n 2, 1, 0, 0, 0, 0, []),
  (216, .aload_n 0, 1, 0, 0, 0, 0, []),
  (217, .iload_n 3, 1, 0, 0, 0, 0, []),
  (218, .iconst 1, 1, 0, 1, 0, 0, []),
  (219, .iadd, 1, 0, 0, 0, 0, []),
  (220, .iaload, 1, 0, 0, 0, 0, []),
  (221, .aload_n 0, 1, 0, 0, 0, 0, []),
  (222, .iload_n 3, 1, 0, 0, 0, 0, []),
  (223, .iconst 2, 1, 0, 2, 0, 0, []),
  (224, .iadd, 1, 0, 0, 0, 0, []),
  (225, .iaload, 1, 0, 0, 0, 0, []),
  (226, .aload_n 0, 1, 0, 0, 0, 0, []),
  (227, .iload_n 3, 1, 0, 0, 0, 0, []),
  (228, .iconst 3, 1, 0, 3, 0, 0, []),
  (229, .iadd, 1, 0, 0, 0, 0, []),
  (230, .iaload, 1, 0, 0, 0, 0, []),
  (231, .invokevirtual 17, 3, 0, 142, 1, 361, [(3, 0)]),
  (234, .if_icmp .eq 1054, 3, 0, 1288, 0, 0, []),
  (237, .iconst 0, 1, 0, 0, 0, 0, []),
  (238, .ireturn, 1, 0, 0, 1, 0, []),
  (239, .aload_n 1, 1, 0, 0, 0, 0, []),
  (240, .aload_n 0, 1, 0, 0, 0, 0, []),
  (241, .iload_n 3, 1, 0, 0, 0, 0, []),
  (242, .iconst 1, 1, 0, 1, 0, 0, []),
  (243, .iadd, 1, 0, 0, 0, 0, []),
  (244, .iaload, 1, 0, 0, 0, 0, []),
  (245, .aload_n 0, 1, 0, 0, 0, 0, []),
  (246, .iload_n 3, 1, 0, 0, 0, 0, []),
  (247, .iconst 2, 1, 0, 2, 0, 0, []),
  (248, .iadd, 1, 0, 0, 0, 0, []),
  (249, .iaload, 1, 0, 0, 0, 0, []),
  (250, .aload_n 0, 1, 0, 0, 0, 0, []),
  (251, .iload_n 3, 1, 0, 0, 0, 0, []),
  (252, .iconst 3, 1, 0, 3, 0, 0, []),
  (253, .iadd, 1, 0, 0, 0, 0, []),
  (254, .iaload, 1, 0, 0, 0, 0, []),
  (255, .invokevirtual 18, 3, 0, 92, 1, 362, [(3, 0)]),
  (258, .aload_n 2, 1, 0, 0, 0, 0, []),
  (259, .aload_n 0, 1, 0, 0, 0, 0, []),
  (260, .iload_n 3, 1, 0, 0, 0, 0, []),
  (261, .iconst 1, 1, 0, 1, 0, 0, []),
  (262, .iadd, 1, 0, 0, 0, 0, []),
  (263, .iaload, 1, 0, 0, 0, 0, []),
  (264, .aload_n 0, 1, 0, 0, 0, 0, []),
  (265, .iload_n 3, 1, 0, 0, 0, 0, []),
  (266, .iconst 2, 1, 0, 2, 0, 0, []),
  (267, .iadd, 1, 0, 0, 0, 0, []),
  (268, .iaload, 1, 0, 0, 0, 0, []),
  (269, .aload_n 0, 1, 0, 0, 0, 0, []),
  (270, .iload_n 3, 1, 0, 0, 0, 0, []),
  (271, .iconst 3, 1, 0, 3, 0, 0, []),
  (272, .iadd, 1, 0, 0, 0, 0, []),
  (273, .iaload, 1, 0, 0, 0, 0, []),
  (274, .invokevirtual 21, 3, 0, 143, 1, 363, [(3, 0)]),
  (277, .if_icmp .eq 1011, 3, 0, 1288, 0, 0, []),
  (280, .iconst 0, 1, 0, 0, 0, 0, []),
  (281, .ireturn, 1, 0, 0, 1, 0, []),
  (282, .aload_n 1, 1, 0, 0, 0, 0, []),
  (283, .aload_n 0, 1, 0, 0, 0, 0, []),
  (284, .iload_n 3, 1, 0, 0, 0, 0, []),
  (285, .iconst 1, 1, 0, 1, 0, 0, []),
  (286, .iadd, 1, 0, 0, 0, 0, []),
  (287, .iaload, 1, 0, 0, 0, 0, []),
  (288, .aload_n 0, 1, 0, 0, 0, 0, []),
  (289, .iload_n 3, 1, 0, 0, 0, 0, []),
  (290, .iconst 2, 1, 0, 2, 0, 0, []),
  (291, .iadd, 1, 0, 0, 0, 0, []),
  (292, .iaload, 1, 0, 0, 0, 0, []),
  (293, .aload_n 0, 1, 0, 0, 0, 0, []),
  (294, .iload_n 3, 1, 0, 0, 0, 0, []),
  (295, .iconst 3, 1, 0, 3, 0, 0, []),
  (296, .iadd, 1, 0, 0, 0, 0, []),
  (297, .iaload, 1, 0, 0, 0, 0, []),
  (298, .aload_n 0, 1, 0, 0, 0, 0, []),
  (299, .iload_n 3, 1, 0, 0, 0, 0, []),
  (300, .iconst 4, 1, 0, 4, 0, 0, []),
  (301, .iadd, 1, 0, 0, 0, 0, []),
  (302, .iaload, 1, 0, 0, 0, 0, []),
  (303, .aload_n 0, 1, 0, 0, 0, 0, []),
  (304, .iload_n 3, 1, 0, 0, 0, 0, []),
  (305, .iconst 5, 1, 0, 5, 0, 0, []),
  (306, .iadd, 1, 0, 0, 0, 0, []),
  (307, .iaload, 1, 0, 0, 0, 0, []),
  (308, .invokevirtual 22, 3, 0, 93, 1, 364, [(5, 0)]),
  (311, .aload_n 2, 1, 0, 0, 0, 0, []),
  (312, .aload_n 0, 1, 0, 0, 0, 0, []),
  (313, .iload_n 3, 1, 0, 0, 0, 0, []),
  (314, .iconst 1, 1, 0, 1, 0, 0, []),
  (315, .iadd, 1, 0, 0, 0, 0, []),
  (316, .iaload, 1, 0, 0, 0, 0, []),
  (317, .aload_n 0, 1, 0, 0, 0, 0, []),
  (318, .iload_n 3, 1, 0, 0, 0, 0, []),
  (319, .iconst 2, 1, 0, 2, 0, 0, []),
  (320, .iadd, 1, 0, 0, 0, 0, []),
  (321, .iaload, 1, 0, 0, 0, 0, []),
  (322, .aload_n 0, 1, 0, 0, 0, 0, []),
  (323, .iload_n 3, 1, 0, 0, 0, 0, []),
  (324, .iconst 3, 1, 0, 3, 0, 0, []),
  (325, .iadd, 1, 0, 0, 0, 0, []),
  (326, .iaload, 1, 0, 0, 0, 0, []),
  (327, .aload_n 0, 1, 0, 0, 0, 0, []),
  (328, .iload_n 3, 1, 0, 0, 0, 0, []),
  (329, .iconst 4, 1, 0, 4, 0, 0, []),
  (330, .iadd, 1, 0, 0, 0, 0, []),
  (331, .iaload, 1, 0, 0, 0, 0, []),
  (332, .aload_n 0, 1, 0, 0, 0, 0, []),
  (333, .iload_n 3, 1, 0, 0, 0, 0, []),
  (334, .iconst 5, 1, 0, 5, 0, 0, []),
  (335, .iadd, 1, 0, 0, 0, 0, []),
  (336, .iaload, 1, 0, 0, 0, 0, []),
  (337, .invokevirtual 26, 3, 0, 144, 1, 365, [(5, 0)]),
  (340, .if_icmp .eq 948, 3, 0, 1288, 0, 0, []),
  (343, .iconst 0, 1, 0, 0, 0, 0, []),
  (344, .ireturn, 1, 0, 0, 1, 0, []),
  (345, .aload_n 1, 1, 0, 0, 0, 0, []),
  (346, .aload_n 0, 1, 0, 0, 0, 0, []),
  (347, .iload_n 3, 1, 0, 0, 0, 0, []),
  (348, .iconst 1, 1, 0, 1, 0, 0, []),
  (349, .iadd, 1, 0, 0, 0, 0, []),
  (350, .iaload, 1, 0, 0, 0, 0, []),
  (351, .invokevirtual 27, 3, 0, 94, 1, 366, [(1, 0)]),
  (354, .aload_n 2, 1, 0, 0, 0, 0, []),
  (355, .aload_n 0, 1, 0, 0, 0, 0, []),
  (356, .iload_n 3, 1, 0, 0, 0, 0, []),
  (357, .iconst 1, 1, 0, 1, 0, 0, []),
  (358, .iadd, 1, 0, 0, 0, 0, []),
  (359, .iaload, 1, 0, 0, 0, 0, []),
  (360, .invokevirtual 31, 3, 0, 145, 1, 367, [(1, 0)]),
  (363, .if_icmp .eq 925, 3, 0, 1288, 0, 0, []),
  (366, .iconst 0, 1, 0, 0, 0, 0, []),
  (367, .ireturn, 1, 0, 0, 1, 0, []),
  (368, .aload_n 1, 1, 0, 0, 0, 0, []),
  (369, .aload_n 0, 1, 0, 0, 0, 0, []),
  (370, .iload_n 3, 1, 0, 0, 0, 0, []),
  (371, .iconst 1, 1, 0, 1, 0, 0, []),
  (372, .iadd, 1, 0, 0, 0, 0, []),
  (373, .iaload, 1, 0, 0, 0, 0, []),
  (374, .invokevirtual 32, 3, 0, 95, 1, 368, [(1, 0)]),
  (377, .aload_n 2, 1, 0, 0, 0, 0, []),
  (378, .aload_n 0, 1, 0, 0, 0, 0, []),
  (379, .iload_n 3, 1, 0, 0, 0, 0, []),
  (380, .iconst 1, 1, 0, 1, 0, 0, []),
  (381, .iadd, 1, 0, 0, 0, 0, []),
  (382, .iaload, 1, 0, 0, 0, 0, []),
  (383, .invokevirtual 35, 3, 0, 146, 1, 369, [(1, 0)]),
  (386, .if_icmp .eq 902, 3, 0, 1288, 0, 0, []),
  (389, .iconst 0, 1, 0, 0, 0, 0, []),
  (390, .ireturn, 1, 0, 0, 1, 0, []),
  (391, .aload_n 1, 1, 0, 0, 0, 0, []),
  (392, .invokevirtual 36, 3, 0, 96, 1, 370, [(0, 0)]),
  (395, .aload_n 2, 1, 0, 0, 0, 0, []),
  (396, .invokevirtual 40, 3, 0, 155, 1, 371, [(0, 0)]),
  (399, .if_icmp .eq 889, 3, 0, 1288, 0, 0, []),
  (402, .iconst 0, 1, 0, 0, 0, 0, []),
  (403, .ireturn, 1, 0, 0, 1, 0, []),
  (404, .aload_n 1, 1, 0, 0, 0, 0, []),
  (405, .invokevirtual 41, 3, 0, 97, 1, 372, [(0, 0)]),
  (408, .aload_n 2, 1, 0, 0, 0, 0, []),
  (409, .invokevirtual 44, 3, 0, 156, 1, 373, [(0, 0)]),
  (412, .if_icmp .eq 876, 3, 0, 1288, 0, 0, []),
  (415, .iconst 0, 1, 0, 0, 0, 0, []),
  (416, .ireturn, 1, 0, 0, 1, 0, []),
  (417, .aload_n 1, 1, 0, 0, 0, 0, []),
  (418, .invokevirtual 45, 3, 0, 98, 1, 374, [(0, 0)]),
  (421, .aload_n 2, 1, 0, 0, 0, 0, []),
  (422, .invokevirtual 48, 3, 0, 171, 1, 375, [(0, 0)]),
  (425, .if_icmp .eq 863, 3, 0, 1288, 0, 0, []),
  (428, .iconst 0, 1, 0, 0, 0, 0, []),
  (429, .ireturn, 1, 0, 0, 1, 0, []),
  (430, .aload_n 1, 1, 0, 0, 0, 0, []),
  (431, .aload_n 0, 1, 0, 0, 0, 0, []),
  (432, .iload_n 3, 1, 0, 0, 0, 0, []),
  (433, .iconst 1, 1, 0, 1, 0, 0, []),
  (434, .iadd, 1, 0, 0, 0, 0, []),
  (435, .iaload, 1, 0, 0, 0, 0, []),
  (436, .invokevirtual 49, 3, 0, 99, 1, 376, [(1, 1)]),
  (439, .aload_n 2, 1, 0, 0, 0, 0, []),
  (440, .aload_n 0, 1, 0, 0, 0, 0, []),
  (441, .iload_n 3, 1, 0, 0, 0, 0, []),
  (442, .iconst 1, 1, 0, 1, 0, 0, []),
  (443, .iadd, 1, 0, 0, 0, 0, []),
  (444, .iaload, 1, 0, 0, 0, 0, []),
  (445, .invokevirtual 52, 3, 0, 172, 1, 377, [(1, 0)]),
  (448, .if_icmp .eq 840, 3, 0, 1288, 0, 0, []),
  (451, .iconst 0, 1, 0, 0, 0, 0, []),
  (452, .ireturn, 1, 0, 0, 1, 0, []),
  (453, .aload_n 1, 1, 0, 0, 0, 0, []),
  (454, .aload_n 0, 1, 0, 0, 0, 0, []),
  (455, .iload_n 3, 1, 0, 0, 0, 0, []),
  (456, .iconst 1, 1, 0, 1, 0, 0, []),
  (457, .iadd, 1, 0, 0, 0, 0, []),
  (458, .iaload, 1, 0, 0, 0, 0, []),
  (459, .invokevirtual 53, 3, 0, 100, 1, 378, [(1, 1)]),
  (462, .aload_n 2, 1, 0, 0, 0, 0, []),
  (463, .aload_n 0, 1, 0, 0, 0, 0, []),
  (464, .iload_n 3, 1, 0, 0, 0, 0, []),
  (465, .iconst 1, 1, 0, 1, 0, 0, []),
  (466, .iadd, 1, 0, 0, 0, 0, []),
  (467, .iaload, 1, 0, 0, 0, 0, []),
  (468, .invokevirtual 56, 3, 0, 173, 1, 379, [(1, 0)]),
  (471, .if_icmp .eq 817, 3, 0, 1288, 0, 0, []),
  (474, .iconst 0, 1, 0, 0, 0, 0, []),
  (475, .ireturn, 1, 0, 0, 1, 0, []),
  (476, .aload_n 1, 1, 0, 0, 0, 0, []),
  (477, .aload_n 0, 1, 0, 0, 0, 0, []),
  (478, .iload_n 3, 1, 0, 0, 0, 0, []),
  (479, .iconst 1, 1, 0, 1, 0, 0, []),
  (480, .iadd, 1, 0, 0, 0, 0, []),
  (481, .iaload, 1, 0, 0, 0, 0, []),
  (482, .invokevirtual 57, 3, 0, 101, 1, 380, [(1, 1)]),
  (485, .aload_n 2, 1, 0, 0, 0, 0, []),
  (486, .aload_n 0, 1, 0, 0, 0, 0, []),
  (487, .iload_n 3, 1, 0, 0, 0, 0, []),
  (488, .iconst 1, 1, 0, 1, 0, 0, []),
  (489, .iadd, 1, 0, 0, 0, 0, []),
  (490, .iaload, 1, 0, 0, 0, 0, []),
  (491, .invokevirtual 60, 3, 0, 174, 1, 381, [(1, 0)]),
  (494, .if_icmp .eq 794, 3, 0, 1288, 0, 0, []),
  (497, .iconst 0, 1, 0, 0, 0, 0, []),
  (498, .ireturn, 1, 0, 0, 1, 0, []),
  (499, .aload_n 1, 1, 0, 0, 0, 0, []),
  (500, .aload_n 0, 1, 0, 0, 0, 0, []),
  (501, .iload_n 3, 1, 0, 0, 0, 0, []),
  (502, .iconst 1, 1, 0, 1, 0, 0, []),
  (503, .iadd, 1, 0, 0, 0, 0, []),
  (504, .iaload, 1, 0, 0, 0, 0, []),
  (505, .invokevirtual 61, 3, 0, 102, 1, 382, [(1, 1)]),
  (508, .aload_n 2, 1, 0, 0, 0, 0, []),
  (509, .aload_n 0, 1, 0, 0, 0, 0, []),
  (510, .iload_n 3, 1, 0, 0, 0, 0, []),
  (511, .iconst 1, 1, 0, 1, 0, 0, []),
  (512, .iadd, 1, 0, 0, 0, 0, []),
  (513, .iaload, 1, 0, 0, 0, 0, []),
  (514, .invokevirtual 64, 3, 0, 175, 1, 383, [(1, 0)]),
  (517, .if_icmp .eq 771, 3, 0, 1288, 0, 0, []),
  (520, .iconst 0, 1, 0, 0, 0, 0, []),
  (521, .ireturn, 1, 0, 0, 1, 0, []),
  (522, .aload_n 1, 1, 0, 0, 0, 0, []),
  (523, .aload_n 0, 1, 0, 0, 0, 0, []),
  (524, .iload_n 3, 1, 0, 0, 0, 0, []),
  (525, .iconst 1, 1, 0, 1, 0, 0, []),
  (526, .iadd, 1, 0, 0, 0, 0, []),
  (527, .iaload, 1, 0, 0, 0, 0, []),
  (528, .aload_n 0, 1, 0, 0, 0, 0, []),
  (529, .iload_n 3, 1, 0, 0, 0, 0, []),
  (530, .iconst 2, 1, 0, 2, 0, 0, []),
  (531, .iadd, 1, 0, 0, 0, 0, []),
  (532, .iaload, 1, 0, 0, 0, 0, []),
  (533, .aload_n 0, 1, 0, 0, 0, 0, []),
  (534, .iload_n 3, 1, 0, 0, 0, 0, []),
  (535, .iconst 3, 1, 0, 3, 0, 0, []),
  (536, .iadd, 1, 0, 0, 0, 0, []),
  (537, .iaload, 1, 0, 0, 0, 0, []),
  (538, .invokevirtual 65, 3, 0, 103, 1, 384, [(3, 1)]),
  (541, .aload_n 2, 1, 0, 0, 0, 0, []),
  (542, .aload_n 0, 1, 0, 0, 0, 0, []),
  (543, .iload_n 3, 1, 0, 0, 0, 0, []),
  (544, .iconst 1, 1, 0, 1, 0, 0, []),
  (545, .iadd, 1, 0, 0, 0, 0, []),
  (546, .iaload, 1, 0, 0, 0, 0, []),
  (547, .aload_n 0, 1, 0, 0, 0, 0, []),
  (548, .iload_n 3, 1, 0, 0, 0, 0, []),
  (549, .iconst 2, 1, 0, 2, 0, 0, []),
  (550, .iadd, 1, 0, 0, 0, 0, []),
  (551, .iaload, 1, 0, 0, 0, 0, []),
  (552, .aload_n 0, 1, 0, 0, 0, 0, []),
  (553, .iload_n 3, 1, 0, 0, 0, 0, []),
  (554, .iconst 3, 1, 0, 3, 0, 0, []),
  (555, .iadd, 1, 0, 0, 0, 0, []),
  (556, .iaload, 1, 0, 0, 0, 0, []),
  (557, .invokevirtual 68, 3, 0, 177, 1, 385, [(3, 0)]),
  (560, .if_icmp .eq 728, 3, 0, 1288, 0, 0, []),
  (563, .iconst 0, 1, 0, 0, 0, 0, []),
  (564, .ireturn, 1, 0, 0, 1, 0, []),
  (565, .aload_n 1, 1, 0, 0, 0, 0, []),
  (566, .aload_n 0, 1, 0, 0, 0, 0, []),
  (567, .iload_n 3, 1, 0, 0, 0, 0, []),
  (568, .iconst 1, 1, 0, 1, 0, 0, []),
  (569, .iadd, 1, 0, 0, 0, 0, []),
  (570, .iaload, 1, 0, 0, 0, 0, []),
  (571, .aload_n 0, 1, 0, 0, 0, 0, []),
  (572, .iload_n 3, 1, 0, 0, 0, 0, []),
  (573, .iconst 2, 1, 0, 2, 0, 0, []),
  (574, .iadd, 1, 0, 0, 0, 0, []),
  (575, .iaload, 1, 0, 0, 0, 0, []),
  (576, .invokevirtual 69, 3, 0, 104, 1, 386, [(2, 0)]),
  (579, .aload_n 2, 1, 0, 0, 0, 0, []),
  (580, .aload_n 0, 1, 0, 0, 0, 0, []),
  (581, .iload_n 3, 1, 0, 0, 0, 0, []),
  (582, .iconst 1, 1, 0, 1, 0, 0, []),
  (583, .iadd, 1, 0, 0, 0, 0, []),
  (584, .iaload, 1, 0, 0, 0, 0, []),
  (585, .aload_n 0, 1, 0, 0, 0, 0, []),
  (586, .iload_n 3, 1, 0, 0, 0, 0, []),
  (587, .iconst 2, 1, 0, 2, 0, 0, []),
  (588, .iadd, 1, 0, 0, 0, 0, []),
  (589, .iaload, 1, 0, 0, 0, 0, []),
  (590, .invokevirtual 73, 3, 0, 178, 1, 387, [(2, 0)]),
  (593, .if_icmp .eq 695, 3, 0, 1288, 0, 0, []),
  (596, .iconst 0, 1, 0, 0, 0, 0, []),
  (597, .ireturn, 1, 0, 0, 1, 0, []),
  (598, .aload_n 1, 1, 0, 0, 0, 0, []),
  (599, .aload_n 0, 1, 0, 0, 0, 0, []),
  (600, .iload_n 3, 1, 0, 0, 0, 0, []),
  (601, .iconst 1, 1, 0, 1, 0, 0, []),
  (602, .iadd, 1, 0, 0, 0, 0, []),
  (603, .iaload, 1, 0, 0, 0, 0, []),
  (604, .invokevirtual 74, 3, 0, 105, 1, 388, [(1, 0)]),
  (607, .aload_n 2, 1, 0, 0, 0, 0, []),
  (608, .aload_n 0, 1, 0, 0, 0, 0, []),
  (609, .iload_n 3, 1, 0, 0, 0, 0, []),
  (610, .iconst 1, 1, 0, 1, 0, 0, []),
  (611, .iadd, 1, 0, 0, 0, 0, []),
  (612, .iaload, 1, 0, 0, 0, 0, []),
  (613, .invokevirtual 77, 3, 0, 179, 1, 389, [(1, 0)]),
  (616, .if_icmp .eq 672, 3, 0, 1288, 0, 0, []),
  (619, .iconst 0, 1, 0, 0, 0, 0, []),
  (620, .ireturn, 1, 0, 0, 1, 0, []),
  (621, .aload_n 1, 1, 0, 0, 0, 0, []),
  (622, .aload_n 0, 1, 0, 0, 0, 0, []),
  (623, .iload_n 3, 1, 0, 0, 0, 0, []),
  (624, .iconst 1, 1, 0, 1, 0, 0, []),
  (625, .iadd, 1, 0, 0, 0, 0, []),
  (626, .iaload, 1, 0, 0, 0, 0, []),
  (627, .aload_n 0, 1, 0, 0, 0, 0, []),
  (628, .iload_n 3, 1, 0, 0, 0, 0, []),
  (629, .iconst 2, 1, 0, 2, 0, 0, []),
  (630, .iadd, 1, 0, 0, 0, 0, []),
  (631, .iaload, 1, 0, 0, 0, 0, []),
  (632, .aload_n 0, 1, 0, 0, 0, 0, []),
  (633, .iload_n 3, 1, 0, 0, 0, 0, []),
  (634, .iconst 3, 1, 0, 3, 0, 0, []),
  (635, .iadd, 1, 0, 0, 0, 0, []),
  (636, .iaload, 1, 0, 0, 0, 0, []),
  (637, .invokevirtual 78, 3, 0, 106, 1, 390, [(3, 0)]),
  (640, .aload_n 2, 1, 0, 0, 0, 0, []),
  (641, .aload_n 0, 1, 0, 0, 0, 0, []),
  (642, .iload_n 3, 1, 0, 0, 0, 0, []),
  (643, .iconst 1, 1, 0, 1, 0, 0, []),
  (644, .iadd, 1, 0, 0, 0, 0, []),
  (645, .iaload, 1, 0, 0, 0, 0, []),
  (646, .aload_n 0, 1, 0, 0, 0, 0, []),
  (647, .iload_n 3, 1, 0, 0, 0, 0, []),
  (648, .iconst 2, 1, 0, 2, 0, 0, []),
  (649, .iadd, 1, 0, 0, 0, 0, []),
  (650, .iaload, 1, 0, 0, 0, 0, []),
  (651, .aload_n 0, 1, 0, 0, 0, 0, []),
  (652, .iload_n 3, 1, 0, 0, 0, 0, []),
  (653, .iconst 3, 1, 0, 3, 0, 0, []),
  (654, .iadd, 1, 0, 0, 0, 0, []),
  (655, .iaload, 1, 0, 0, 0, 0, []),
  (656, .invokevirtual 81, 3, 0, 182, 1, 391, [(3, 0)]),
  (659, .if_icmp .eq 629, 3, 0, 1288, 0, 0, []),
  (662, .iconst 0, 1, 0, 0, 0, 0, []),
  (663, .ireturn, 1, 0, 0, 1, 0, []),
  (664, .aload_n 1, 1, 0, 0, 0, 0, []),
  (665, .aload_n 0, 1, 0, 0, 0, 0, []),
  (666, .iload_n 3, 1, 0, 0, 0, 0, []),
  (667, .iconst 1, 1, 0, 1, 0, 0, []),
  (668, .iadd, 1, 0, 0, 0, 0, []),
  (669, .iaload, 1, 0, 0, 0, 0, []),
  (670, .invokevirtual 82, 3, 0, 107, 1, 392, [(1, 0)]),
  (673, .aload_n 2, 1, 0, 0, 0, 0, []),
  (674, .aload_n 0, 1, 0, 0, 0, 0, []),
  (675, .iload_n 3, 1, 0, 0, 0, 0, []),
  (676, .iconst 1, 1, 0, 1, 0, 0, []),
  (677, .iadd, 1, 0, 0, 0, 0, []),
  (678, .iaload, 1, 0, 0, 0, 0, []),
  (679, .invokevirtual 85, 3, 0, 183, 1, 393, [(1, 0)]),
  (682, .if_icmp .eq 606, 3, 0, 1288, 0, 0, []),
  (685, .iconst 0, 1, 0, 0, 0, 0, []),
  (686, .ireturn, 1, 0, 0, 1, 0, []),
  (687, .aload_n 1, 1, 0, 0, 0, 0, []),
  (688, .aload_n 0, 1, 0, 0, 0, 0, []),
  (689, .iload_n 3, 1, 0, 0, 0, 0, []),
  (690, .iconst 1, 1, 0, 1, 0, 0, []),
  (691, .iadd, 1, 0, 0, 0, 0, []),
  (692, .iaload, 1, 0, 0, 0, 0, []),
  (693, .invokevirtual 86, 3, 0, 108, 1, 394, [(1, 0)]),
  (696, .aload_n 2, 1, 0, 0, 0, 0, []),
  (697, .aload_n 0, 1, 0, 0, 0, 0, []),
  (698, .iload_n 3, 1, 0, 0, 0, 0, []),
  (699, .iconst 1, 1, 0, 1, 0, 0, []),
  (700, .iadd, 1, 0, 0, 0, 0, []),
  (701, .iaload, 1, 0, 0, 0, 0, []),
  (702, .invokevirtual 89, 3, 0, 185, 1, 395, [(1, 0)]),
  (705, .if_icmp .eq 583, 3, 0, 1288, 0, 0, []),
  (708, .iconst 0, 1, 0, 0, 0, 0, []),
  (709, .ireturn, 1, 0, 0, 1, 0, []),
  (710, .aload_n 1, 1, 0, 0, 0, 0, []),
  (711, .invokevirtual 90, 3, 0, 109, 1, 396, [(0, 0)]),
  (714, .aload_n 2, 1, 0, 0, 0, 0, []),
  (715, .invokevirtual 93, 3, 0, 186, 1, 397, [(0, 0)]),
  (718, .if_icmp .eq 570, 3, 0, 1288, 0, 0, []),
  (721, .iconst 0, 1, 0, 0, 0, 0, []),
  (722, .ireturn, 1, 0, 0, 1, 0, []),
  (723, .aload_n 1, 1, 0, 0, 0, 0, []),
  (724, .aload_n 0, 1, 0, 0, 0, 0, []),
  (725, .iload_n 3, 1, 0, 0, 0, 0, []),
  (726, .iconst 1, 1, 0, 1, 0, 0, []),
  (727, .iadd, 1, 0, 0, 0, 0, []),
  (728, .iaload, 1, 0, 0, 0, 0, []),
  (729, .invokevirtual 94, 3, 0, 110, 1, 398, [(1, 0)]),
  (732, .aload_n 2, 1, 0, 0, 0, 0, []),
  (733, .aload_n 0, 1, 0, 0, 0, 0, []),
  (734, .iload_n 3, 1, 0, 0, 0, 0, []),
  (735, .iconst 1, 1, 0, 1, 0, 0, []),
  (736, .iadd, 1, 0, 0, 0, 0, []),
  (737, .iaload, 1, 0, 0, 0, 0, []),
  (738, .invokevirtual 97, 3, 0, 187, 1, 399, [(1, 0)]),
  (741, .if_icmp .eq 547, 3, 0, 1288, 0, 0, []),
  (744, .iconst 0, 1, 0, 0, 0, 0, []),
  (745, .ireturn, 1, 0, 0, 1, 0, []),
  (746, .aload_n 1, 1, 0, 0, 0, 0, []),
  (747, .aload_n 0, 1, 0, 0, 0, 0, []),
  (748, .iload_n 3, 1, 0, 0, 0, 0, []),
  (749, .iconst 1, 1, 0, 1, 0, 0, []),
  (750, .iadd, 1, 0, 0, 0, 0, []),
  (751, .iaload, 1, 0, 0, 0, 0, []),
  (752, .aload_n 0, 1, 0, 0, 0, 0, []),
  (753, .iload_n 3, 1, 0, 0, 0, 0, []),
  (754, .iconst 2, 1, 0, 2, 0, 0, []),
  (755, .iadd, 1, 0, 0, 0, 0, []),
  (756, .iaload, 1, 0, 0, 0, 0, []),
  (757, .invokevirtual 98, 3, 0, 111, 1, 400, [(2, 0)]),
  (760, .aload_n 2, 1, 0, 0, 0, 0, []),
  (761, .aload_n 0, 1, 0, 0, 0, 0, []),
  (762, .iload_n 3, 1, 0, 0, 0, 0, []),
  (763, .iconst 1, 1, 0, 1, 0, 0, []),
  (764, .iadd, 1, 0, 0, 0, 0, []),
  (765, .iaload, 1, 0, 0, 0, 0, []),
  (766, .aload_n 0, 1, 0, 0, 0, 0, []),
  (767, .iload_n 3, 1, 0, 0, 0, 0, []),
  (768, .iconst 2, 1, 0, 2, 0, 0, []),
  (769, .iadd, 1, 0, 0, 0, 0, []),
  (770, .iaload, 1, 0, 0, 0, 0, []),
  (771, .invokevirtual 101, 3, 0, 188, 1, 401, [(2, 0)]),
  (774, .if_icmp .eq 514, 3, 0, 1288, 0, 0, []),
  (777, .iconst 0, 1, 0, 0, 0, 0, []),
  (778, .ireturn, 1, 0, 0, 1, 0, []),
  (779, .aload_n 1, 1, 0, 0, 0, 0, []),
  (780, .aload_n 0, 1, 0, 0, 0, 0, []),
  (781, .iload_n 3, 1, 0, 0, 0, 0, []),
  (782, .iconst 1, 1, 0, 1, 0, 0, []),
  (783, .iadd, 1, 0, 0, 0, 0, []),
  (784, .iaload, 1, 0, 0, 0, 0, []),
  (785, .aload_n 0, 1, 0, 0, 0, 0, []),
  (786, .iload_n 3, 1, 0, 0, 0, 0, []),
  (787, .iconst 2, 1, 0, 2, 0, 0, []),
  (788, .iadd, 1, 0, 0, 0, 0, []),
  (789, .iaload, 1, 0, 0, 0, 0, []),
  (790, .invokevirtual 102, 3, 0, 112, 1, 402, [(2, 0)]),
  (793, .aload_n 2, 1, 0, 0, 0, 0, []),
  (794, .aload_n 0, 1, 0, 0, 0, 0, []),
  (795, .iload_n 3, 1, 0, 0, 0, 0, []),
  (796, .iconst 1, 1, 0, 1, 0, 0, []),
  (797, .iadd, 1, 0, 0, 0, 0, []),
  (798, .iaload, 1, 0, 0, 0, 0, []),
  (799, .aload_n 0, 1, 0, 0, 0, 0, []),
  (800, .iload_n 3, 1, 0, 0, 0, 0, []),
  (801, .iconst 2, 1, 0, 2, 0, 0, []),
  (802, .iadd, 1, 0, 0, 0, 0, []),
  (803, .iaload, 1, 0, 0, 0, 0, []),
  (804, .invokevirtual 105, 3, 0, 189, 1, 403, [(2, 0)]),
  (807, .if_icmp .eq 481, 3, 0, 1288, 0, 0, []),
  (810, .iconst 0, 1, 0, 0, 0, 0, []),
  (811, .ireturn, 1, 0, 0, 1, 0, []),
  (812, .aload_n 1, 1, 0, 0, 0, 0, []),
  (813, .aload_n 0, 1, 0, 0, 0, 0, []),
  (814, .iload_n 3, 1, 0, 0, 0, 0, []),
  (815, .iconst 1, 1, 0, 1, 0, 0, []),
  (816, .iadd, 1, 0, 0, 0, 0, []),
  (817, .iaload, 1, 0, 0, 0, 0, []),
  (818, .aload_n 0, 1, 0, 0, 0, 0, []),
  (819, .iload_n 3, 1, 0, 0, 0, 0, []),
  (820, .iconst 2, 1, 0, 2, 0, 0, []),
  (821, .iadd, 1, 0, 0, 0, 0, []),
  (822, .iaload, 1, 0, 0, 0, 0, []),
  (823, .invokevirtual 106, 3, 0, 113, 1, 404, [(2, 0)]),
  (826, .aload_n 2, 1, 0, 0, 0, 0, []),
  (827, .aload_n 0, 1, 0, 0, 0, 0, []),
  (828, .iload_n 3, 1, 0, 0, 0, 0, []),
  (829, .iconst 1, 1, 0, 1, 0, 0, []),
  (830, .iadd, 1, 0, 0, 0, 0, []),
  (831, .iaload, 1, 0, 0, 0, 0, []),
  (832, .aload_n 0, 1, 0, 0, 0, 0, []),
  (833, .iload_n 3, 1, 0, 0, 0, 0, []),
  (834, .iconst 2, 1, 0, 2, 0, 0, []),
  (835, .iadd, 1, 0, 0, 0, 0, []),
  (836, .iaload, 1, 0, 0, 0, 0, []),
  (837, .invokevirtual 109, 3, 0, 192, 1, 405, [(2, 0)]),
  (840, .if_icmp .eq 448, 3, 0, 1288, 0, 0, []),
  (843, .iconst 0, 1, 0, 0, 0, 0, []),
  (844, .ireturn, 1, 0, 0, 1, 0, []),
  (845, .aload_n 1, 1, 0, 0, 0, 0, []),
  (846, .aload_n 0, 1, 0, 0, 0, 0, []),
  (847, .iload_n 3, 1, 0, 0, 0, 0, []),
  (848, .iconst 1, 1, 0, 1, 0, 0, []),
  (849, .iadd, 1, 0, 0, 0, 0, []),
  (850, .iaload, 1, 0, 0, 0, 0, []),
  (851, .invokevirtual 110, 3, 0, 114, 1, 406, [(1, 0)]),
  (854, .aload_n 2, 1, 0, 0, 0, 0, []),
  (855, .aload_n 0, 1, 0, 0, 0, 0, []),
  (856, .iload_n 3, 1, 0, 0, 0, 0, []),
  (857, .iconst 1, 1, 0, 1, 0, 0, []),
  (858, .iadd, 1, 0, 0, 0, 0, []),
  (859, .iaload, 1, 0, 0, 0, 0, []),
  (860, .invokevirtual 113, 3, 0, 193, 1, 407, [(1, 0)]),
  (863, .if_icmp .eq 425, 3, 0, 1288, 0, 0, []),
  (866, .iconst 0, 1, 0, 0, 0, 0, []),
  (867, .ireturn, 1, 0, 0, 1, 0, []),
  (868, .aload_n 1, 1, 0, 0, 0, 0, []),
  (869, .aload_n 0, 1, 0, 0, 0, 0, []),
  (870, .iload_n 3, 1, 0, 0, 0, 0, []),
  (871, .iconst 1, 1, 0, 1, 0, 0, []),
  (872, .iadd, 1, 0, 0, 0, 0, []),
  (873, .iaload, 1, 0, 0, 0, 0, []),
  (874, .aload_n 0, 1, 0, 0, 0, 0, []),
  (875, .iload_n 3, 1, 0, 0, 0, 0, []),
  (876, .iconst 2, 1, 0, 2, 0, 0, []),
  (877, .iadd, 1, 0, 0, 0, 0, []),
  (878, .iaload, 1, 0, 0, 0, 0, []),
  (879, .invokevirtual 114, 3, 0, 115, 1, 408, [(2, 0)]),
  (882, .aload_n 2, 1, 0, 0, 0, 0, []),
  (883, .aload_n 0, 1, 0, 0, 0, 0, []),
  (884, .iload_n 3, 1, 0, 0, 0, 0, []),
  (885, .iconst 1, 1, 0, 1, 0, 0, []),
  (886, .iadd, 1, 0, 0, 0, 0, []),
  (887, .iaload, 1, 0, 0, 0, 0, []),
  (888, .aload_n 0, 1, 0, 0, 0, 0, []),
  (889, .iload_n 3, 1, 0, 0, 0, 0, []),
  (890, .iconst 2, 1, 0, 2, 0, 0, []),
  (891, .iadd, 1, 0, 0, 0, 0, []),
  (892, .iaload, 1, 0, 0, 0, 0, []),
  (893, .invokevirtual 117, 3, 0, 194, 1, 409, [(2, 0)]),
  (896, .if_icmp .eq 392, 3, 0, 1288, 0, 0, []),
  (899, .iconst 0, 1, 0, 0, 0, 0, []),
  (900, .ireturn, 1, 0, 0, 1, 0, []),
  (901, .aload_n 1, 1, 0, 0, 0, 0, []),
  (902, .aload_n 0, 1, 0, 0, 0, 0, []),
  (903, .iload_n 3, 1, 0, 0, 0, 0, []),
  (904, .iconst 1, 1, 0, 1, 0, 0, []),
  (905, .iadd, 1, 0, 0, 0, 0, []),
  (906, .iaload, 1, 0, 0, 0, 0, []),
  (907, .aload_n 0, 1, 0, 0, 0, 0, []),
  (908, .iload_n 3, 1, 0, 0, 0, 0, []),
  (909, .iconst 2, 1, 0, 2, 0, 0, []),
  (910, .iadd, 1, 0, 0, 0, 0, []),
  (911, .iaload, 1, 0, 0, 0, 0, []),
  (912, .invokevirtual 118, 3, 0, 116, 1, 410, [(2, 0)]),
  (915, .aload_n 2, 1, 0, 0, 0, 0, []),
  (916, .aload_n 0, 1, 0, 0, 0, 0, []),
  (917, .iload_n 3, 1, 0, 0, 0, 0, []),
  (918, .iconst 1, 1, 0, 1, 0, 0, []),
  (919, .iadd, 1, 0, 0, 0, 0, []),
  (920, .iaload, 1, 0, 0, 0, 0, []),
  (921, .aload_n 0, 1, 0, 0, 0, 0, []),
  (922, .iload_n 3, 1, 0, 0, 0, 0, []),
  (923, .iconst 2, 1, 0, 2, 0, 0, []),
  (924, .iadd, 1, 0, 0, 0, 0, []),
  (925, .iaload, 1, 0, 0, 0, 0, []),
  (926, .invokevirtual 121, 3, 0, 196, 1, 411, [(2, 0)]),
  (929, .if_icmp .eq 359, 3, 0, 1288, 0, 0, []),
  (932, .iconst 0, 1, 0, 0, 0, 0, []),
  (933, .ireturn, 1, 0, 0, 1, 0, []),
  (934, .aload_n 1, 1, 0, 0, 0, 0, []),
  (935, .aload_n 0, 1, 0, 0, 0, 0, []),
  (936, .iload_n 3, 1, 0, 0, 0, 0, []),
  (937, .iconst 1, 1, 0, 1, 0, 0, []),
  (938, .iadd, 1, 0, 0, 0, 0, []),
  (939, .iaload, 1, 0, 0, 0, 0, []),
  (940, .aload_n 0, 1, 0, 0, 0, 0, []),
  (941, .iload_n 3, 1, 0, 0, 0, 0, []),
  (942, .iconst 2, 1, 0, 2, 0, 0, []),
  (943, .iadd, 1, 0, 0, 0, 0, []),
  (944, .iaload, 1, 0, 0, 0, 0, []),
  (945, .aload_n 0, 1, 0, 0, 0, 0, []),
  (946, .iload_n 3, 1, 0, 0, 0, 0, []),
  (947, .iconst 3, 1, 0, 3, 0, 0, []),
  (948, .iadd, 1, 0, 0, 0, 0, []),
  (949, .iaload, 1, 0, 0, 0, 0, []),
  (950, .aload_n 0, 1, 0, 0, 0, 0, []),
  (951, .iload_n 3, 1, 0, 0, 0, 0, []),
  (952, .iconst 4, 1, 0, 4, 0, 0, []),
  (953, .iadd, 1, 0, 0, 0, 0, []),
  (954, .iaload, 1, 0, 0, 0, 0, []),
  (955, .aload_n 0, 1, 0, 0, 0, 0, []),
  (956, .iload_n 3, 1, 0, 0, 0, 0, []),
  (957, .iconst 5, 1, 0, 5, 0, 0, []),
  (958, .iadd, 1, 0, 0, 0, 0, []),
  (959, .iaload, 1, 0, 0, 0, 0, []),
  (960, .invokevirtual 122, 3, 0, 117, 1, 412, [(5, 0)]),
  (963, .aload_n 2, 1, 0, 0, 0, 0, []),
  (964, .aload_n 0, 1, 0, 0, 0, 0, []),
  (965, .iload_n 3, 1, 0, 0, 0, 0, []),
  (966, .iconst 1, 1, 0, 1, 0, 0, []),
  (967, .iadd, 1, 0, 0, 0, 0, []),
  (968, .iaload, 1, 0, 0, 0, 0, []),
  (969, .aload_n 0, 1, 0, 0, 0, 0, []),
  (970, .iload_n 3, 1, 0, 0, 0, 0, []),
  (971, .iconst 2, 1, 0, 2, 0, 0, []),
  (972, .iadd, 1, 0, 0, 0, 0, []),
  (973, .iaload, 1, 0, 0, 0, 0, []),
  (974, .aload_n 0, 1, 0, 0, 0, 0, []),
  (975, .iload_n 3, 1, 0, 0, 0, 0, []),
  (976, .iconst 3, 1, 0, 3, 0, 0, []),
  (977, .iadd, 1, 0, 0, 0, 0, []),
  (978, .iaload, 1, 0, 0, 0, 0, []),
  (979, .aload_n 0, 1, 0, 0, 0, 0, []),
  (980, .iload_n 3, 1, 0, 0, 0, 0, []),
  (981, .iconst 4, 1, 0, 4, 0, 0, []),
  (982, .iadd, 1, 0, 0, 0, 0, []),
  (983, .iaload, 1, 0, 0, 0, 0, []),
  (984, .aload_n 0, 1, 0, 0, 0, 0, []),
  (985, .iload_n 3, 1, 0, 0, 0, 0, []),
  (986, .iconst 5, 1, 0, 5, 0, 0, []),
  (987, .iadd, 1, 0, 0, 0, 0, []),
  (988, .iaload, 1, 0, 0, 0, 0, []),
  (989, .invokevirtual 125, 3, 0, 198, 1, 413, [(5, 0)]),
  (992, .if_icmp .eq 296, 3, 0, 1288, 0, 0, []),
  (995, .iconst 0, 1, 0, 0, 0, 0, []),
  (996, .ireturn, 1, 0, 0, 1, 0, []),
  (997, .aload_n 1, 1, 0, 0, 0, 0, []),
  (998, .aload_n 0, 1, 0, 0, 0, 0, []),
  (999, .iload_n 3, 1, 0, 0, 0, 0, []),
  (1000, .iconst 1, 1, 0, 1, 0, 0, []),
  (1001, .iadd, 1, 0, 0, 0, 0, []),
  (1002, .iaload, 1, 0, 0, 0, 0, []),
  (1003, .aload_n 0, 1, 0, 0, 0, 0, []),
  (1004, .iload_n 3, 1, 0, 0, 0, 0, []),
  (1005, .iconst 2, 1, 0, 2, 0, 0, []),
  (1006, .iadd, 1, 0, 0, 0, 0, []),
  (1007, .iaload, 1, 0, 0, 0, 0, []),
  (1008, .aload_n 0, 1, 0, 0, 0, 0, []),
  (1009, .iload_n 3, 1, 0, 0, 0, 0, []),
  (1010, .iconst 3, 1, 0, 3, 0, 0, []),
  (1011, .iadd, 1, 0, 0, 0, 0, []),
  (1012, .iaload, 1, 0, 0, 0, 0, []),
  (1013, .aload_n 0, 1, 0, 0, 0, 0, []),
  (1014, .iload_n 3, 1, 0, 0, 0, 0, []),
  (1015, .iconst 4, 1, 0, 4, 0, 0, []),
  (1016, .iadd, 1, 0, 0, 0, 0, []),
  (1017, .iaload, 1, 0, 0, 0, 0, []),
  (1018, .invokevirtual 126, 3, 0, 118, 1, 414, [(4, 1)]),
  (1021, .aload_n 2, 1, 0, 0, 0, 0, []),
  (1022, .aload_n 0, 1, 0, 0, 0, 0, []),
  (1023, .iload_n 3, 1, 0, 0, 0, 0, []),
  (1024, .iconst 1, 1, 0, 1, 0, 0, []),
  (1025, .iadd, 1, 0, 0, 0, 0, []),
  (1026, .iaload, 1, 0, 0, 0, 0, []),
  (1027, .aload_n 0, 1, 0, 0, 0, 0, []),
  (1028, .iload_n 3, 1, 0, 0, 0, 0, []),
  (1029, .iconst 2, 1, 0, 2, 0, 0, []),
  (1030, .iadd, 1, 0, 0, 0, 0, []),
  (1031, .iaload, 1, 0, 0, 0, 0, []),
  (1032, .aload_n 0, 1, 0, 0, 0, 0, []),
  (1033, .iload_n 3, 1, 0, 0, 0, 0, []),
  (1034, .iconst 3, 1, 0, 3, 0, 0, []),
  (1035, .iadd, 1, 0, 0, 0, 0, []),
  (1036, .iaload, 1, 0, 0, 0, 0, []),
  (1037, .aload_n 0, 1, 0, 0, 0, 0, []),
  (1038, .iload_n 3, 1, 0, 0, 0, 0, []),
  (1039, .iconst 4, 1, 0, 4, 0, 0, []),
  (1040, .iadd, 1, 0, 0, 0, 0, []),
  (1041, .iaload, 1, 0, 0, 0, 0, []),
  (1042, .invokevirtual 130, 3, 0, 199, 1, 415, [(4, 0)]),
  (1045, .lcmp, 1, 0, 0, 0, 0, []),
  (1046, .ifCond .eq 242, 3, 0, 1288, 0, 0, []),
  (1049, .iconst 0, 1, 0, 0, 0, 0, []),
  (1050, .ireturn, 1, 0, 0, 1, 0, []),
  (1051, .aload_n 1, 1, 0, 0, 0, 0, []),
  (1052, .aload_n 0, 1, 0, 0, 0, 0, []),
  (1053, .iload_n 3, 1, 0, 0, 0, 0, []),
  (1054, .iconst 1, 1, 0, 1, 0, 0, []),
  (1055, .iadd, 1, 0, 0, 0, 0, []),
  (1056, .iaload, 1, 0, 0, 0, 0, []),
  (1057, .aload_n 0, 1, 0, 0, 0, 0, []),
  (1058, .iload_n 3, 1, 0, 0, 0, 0, []),
  (1059, .iconst 2, 1, 0, 2, 0, 0, []),
  (1060, .iadd, 1, 0, 0, 0, 0, []),
  (1061, .iaload, 1, 0, 0, 0, 0, []),
  (1062, .aload_n 0, 1, 0, 0, 0, 0, []),
  (1063, .iload_n 3, 1, 0, 0, 0, 0, []),
  (1064, .iconst 3, 1, 0, 3, 0, 0, []),
  (1065, .iadd, 1, 0, 0, 0, 0, []),
  (1066, .iaload, 1, 0, 0, 0, 0, []),
  (1067, .invokevirtual 131, 3, 0, 119, 1, 416, [(3, 0)]),
  (1070, .aload_n 2, 1, 0, 0, 0, 0, []),
  (1071, .aload_n 0, 1, 0, 0, 0, 0, []),
  (1072, .iload_n 3, 1, 0, 0, 0, 0, []),
  (1073, .iconst 1, 1, 0, 1, 0, 0, []),
  (1074, .iadd, 1, 0, 0, 0, 0, []),
  (1075, .iaload, 1, 0, 0, 0, 0, []),
  (1076, .aload_n 0, 1, 0, 0, 0, 0, []),
  (1077, .iload_n 3, 1, 0, 0, 0, 0, []),
  (1078, .iconst 2, 1, 0, 2, 0, 0, []),
  (1079, .iadd, 1, 0, 0, 0, 0, []),
  (1080, .iaload, 1, 0, 0, 0, 0, []),
  (1081, .aload_n 0, 1, 0, 0, 0, 0, []),
  (1082, .iload_n 3, 1, 0, 0, 0, 0, []),
  (1083, .iconst 3, 1, 0, 3, 0, 0, []),
  (1084, .iadd, 1, 0, 0, 0, 0, []),
  (1085, .iaload, 1, 0, 0, 0, 0, []),
  (1086, .invokevirtual 134, 3, 0, 200, 1, 417, [(3, 0)]),
  (1089, .if_icmp .eq 199, 3, 0, 1288, 0, 0, []),
  (1092, .iconst 0, 1, 0, 0, 0, 0, []),
  (1093, .ireturn, 1, 0, 0, 1, 0, []),
  (1094, .aload_n 1, 1, 0, 0, 0, 0, []),
  (1095, .aload_n 0, 1, 0, 0, 0, 0, []),
  (1096, .iload_n 3, 1, 0, 0, 0, 0, []),
  (1097, .iconst 1, 1, 0, 1, 0, 0, []),
  (1098, .iadd, 1, 0, 0, 0, 0, []),
  (1099, .iaload, 1, 0, 0, 0, 0, []),
  (1100, .invokevirtual 135, 3, 0, 120, 1, 418, [(1, 1)]),
  (1103, .aload_n 2, 1, 0, 0, 0, 0, []),
  (1104, .aload_n 0, 1, 0, 0, 0, 0, []),
  (1105, .iload_n 3, 1, 0, 0, 0, 0, []),
  (1106, .iconst 1, 1, 0, 1, 0, 0, []),
  (1107, .iadd, 1, 0, 0, 0, 0, []),
  (1108, .iaload, 1, 0, 0, 0, 0, []),
  (1109, .invokevirtual 138, 3, 0, 201, 1, 419, [(1, 0)]),
  (1112, .if_icmp .eq 176, 3, 0, 1288, 0, 0, []),
  (1115, .iconst 0, 1, 0, 0, 0, 0, []),
  (1116, .ireturn, 1, 0, 0, 1, 0, []),
  (1117, .aload_n 1, 1, 0, 0, 0, 0, []),
  (1118, .aload_n 0, 1, 0, 0, 0, 0, []),
  (1119, .iload_n 3, 1, 0, 0, 0, 0, []),
  (1120, .iconst 1, 1, 0, 1, 0, 0, []),
  (1121, .iadd, 1, 0, 0, 0, 0, []),
  (1122, .iaload, 1, 0, 0, 0, 0, []),
  (1123, .invokevirtual 139, 3, 0, 121, 1, 420, [(1, 0)]),
  (1126, .aload_n 2, 1, 0, 0, 0, 0, []),
  (1127, .aload_n 0, 1, 0, 0, 0, 0, []),
  (1128, .iload_n 3, 1, 0, 0, 0, 0, []),
  (1129, .iconst 1, 1, 0, 1, 0, 0, []),
  (1130, .iadd, 1, 0, 0, 0, 0, []),
  (1131, .iaload, 1, 0, 0, 0, 0, []),
  (1132, .invokevirtual 142, 3, 0, 202, 1, 421, [(1, 0)]),
  (1135, .if_icmp .eq 153, 3, 0, 1288, 0, 0, []),
  (1138, .iconst 0, 1, 0, 0, 0, 0, []),
  (1139, .ireturn, 1, 0, 0, 1, 0, []),
  (1140, .aload_n 1, 1, 0, 0, 0, 0, []),
  (1141, .aload_n 0, 1, 0, 0, 0, 0, []),
  (1142, .iload_n 3, 1, 0, 0, 0, 0, []),
  (1143, .iconst 1, 1, 0, 1, 0, 0, []),
  (1144, .iadd, 1, 0, 0, 0, 0, []),
  (1145, .iaload, 1, 0, 0, 0, 0, []),
  (1146, .invokevirtual 143, 3, 0, 122, 1, 422, [(1, 0)]),
  (1149, .aload_n 2, 1, 0, 0, 0, 0, []),
  (1150, .aload_n 0, 1, 0, 0, 0, 0, []),
  (1151, .iload_n 3, 1, 0, 0, 0, 0, []),
  (1152, .iconst 1, 1, 0, 1, 0, 0, []),
  (1153, .iadd, 1, 0, 0, 0, 0, []),
  (1154, .iaload, 1, 0, 0, 0, 0, []),
  (1155, .invokevirtual 146, 3, 0, 203, 1, 423, [(1, 0)]),
  (1158, .if_icmp .eq 130, 3, 0, 1288, 0, 0, []),
  (1161, .iconst 0, 1, 0, 0, 0, 0, []),
  (1162, .ireturn, 1, 0, 0, 1, 0, []),
  (1163, .aload_n 1, 1, 0, 0, 0, 0, []),
  (1164, .aload_n 0, 1, 0, 0, 0, 0, []),
  (1165, .iload_n 3, 1, 0, 0, 0, 0, []),
  (1166, .iconst 1, 1, 0, 1, 0, 0, []),
  (1167, .iadd, 1, 0, 0, 0, 0, []),
  (1168, .iaload, 1, 0, 0, 0, 0, []),
  (1169, .aload_n 0, 1, 0, 0, 0, 0, []),
  (1170, .iload_n 3, 1, 0, 0, 0, 0, []),
  (1171, .iconst 2, 1, 0, 2, 0, 0, []),
  (1172, .iadd, 1, 0, 0, 0, 0, []),
  (1173, .iaload, 1, 0, 0, 0, 0, []),
  (1174, .invokevirtual 147, 3, 0, 123, 1, 424, [(2, 0)]),
  (1177, .aload_n 2, 1, 0, 0, 0, 0, []),
  (1178, .aload_n 0, 1, 0, 0, 0, 0, []),
  (1179, .iload_n 3, 1, 0, 0, 0, 0, []),
  (1180, .iconst 1, 1, 0, 1, 0, 0, []),
  (1181, .iadd, 1, 0, 0, 0, 0, []),
  (1182, .iaload, 1, 0, 0, 0, 0, []),
  (1183, .aload_n 0, 1, 0, 0, 0, 0, []),
  (1184, .iload_n 3, 1, 0, 0, 0, 0, []),
  (1185, .iconst 2, 1, 0, 2, 0, 0, []),
  (1186, .iadd, 1, 0, 0, 0, 0, []),
  (1187, .iaload, 1, 0, 0, 0, 0, []),
  (1188, .invokevirtual 150, 3, 0, 205, 1, 425, [(2, 0)]),
  (1191, .if_icmp .eq 97, 3, 0, 1288, 0, 0, []),
  (1194, .iconst 0, 1, 0, 0, 0, 0, []),
  (1195, .ireturn, 1, 0, 0, 1, 0, []),
  (1196, .aload_n 1, 1, 0, 0, 0, 0, []),
  (1197, .aload_n 0, 1, 0, 0, 0, 0, []),
  (1198, .iload_n 3, 1, 0, 0, 0, 0, []),
  (1199, .iconst 1, 1, 0, 1, 0, 0, []),
  (1200, .iadd, 1, 0, 0, 0, 0, []),
  (1201, .iaload, 1, 0, 0, 0, 0, []),
  (1202, .aload_n 0, 1, 0, 0, 0, 0, []),
  (1203, .iload_n 3, 1, 0, 0, 0, 0, []),
  (1204, .iconst 2, 1, 0, 2, 0, 0, []),
  (1205, .iadd, 1, 0, 0, 0, 0, []),
  (1206, .iaload, 1, 0, 0, 0, 0, []),
  (1207, .invokevirtual 151, 3, 0, 124, 1, 426, [(2, 0)]),
  (1210, .aload_n 2, 1, 0, 0, 0, 0, []),
  (1211, .aload_n 0, 1, 0, 0, 0, 0, []),
  (1212, .iload_n 3, 1, 0, 0, 0, 0, []),
  (1213, .iconst 1, 1, 0, 1, 0, 0, []),
  (1214, .iadd, 1, 0, 0, 0, 0, []),
  (1215, .iaload, 1, 0, 0, 0, 0, []),
  (1216, .aload_n 0, 1, 0, 0, 0, 0, []),
  (1217, .iload_n 3, 1, 0, 0, 0, 0, []),
  (1218, .iconst 2, 1, 0, 2, 0, 0, []),
  (1219, .iadd, 1, 0, 0, 0, 0, []),
  (1220, .iaload, 1, 0, 0, 0, 0, []),
  (1221, .invokevirtual 154, 3, 0, 215, 1, 427, [(2, 0)]),
  (1224, .if_icmp .eq 64, 3, 0, 1288, 0, 0, []),
  (1227, .iconst 0, 1, 0, 0, 0, 0, []),
  (1228, .ireturn, 1, 0, 0, 1, 0, []),
  (1229, .aload_n 1, 1, 0, 0, 0, 0, []),
  (1230, .aload_n 0, 1, 0, 0, 0, 0, []),
  (1231, .iload_n 3, 1, 0, 0, 0, 0, []),
  (1232, .iconst 1, 1, 0, 1, 0, 0, []),
  (1233, .iadd, 1, 0, 0, 0, 0, []),
  (1234, .iaload, 1, 0, 0, 0, 0, []),
  (1235, .invokevirtual 155, 3, 0, 125, 1, 428, [(1, 0)]),
  (1238, .aload_n 2, 1, 0, 0, 0, 0, []),
  (1239, .aload_n 0, 1, 0, 0, 0, 0, []),
  (1240, .iload_n 3, 1, 0, 0, 0, 0, []),
  (1241, .iconst 1, 1, 0, 1, 0, 0, []),
  (1242, .iadd, 1, 0, 0, 0, 0, []),
  (1243, .iaload, 1, 0, 0, 0, 0, []),
  (1244, .invokevirtual 158, 3, 0, 216, 1, 429, [(1, 0)]),
  (1247, .if_icmp .eq 41, 3, 0, 1288, 0, 0, []),
  (1250, .iconst 0, 1, 0, 0, 0, 0, []),
  (1251, .ireturn, 1, 0, 0, 1, 0, []),
  (1252, .aload_n 1, 1, 0, 0, 0, 0, []),
  (1253, .aload_n 0, 1, 0, 0, 0, 0, []),
  (1254, .iload_n 3, 1, 0, 0, 0, 0, []),
  (1255, .iconst 1, 1, 0, 1, 0, 0, []),
  (1256, .iadd, 1, 0, 0, 0, 0, []),
  (1257, .iaload, 1, 0, 0, 0, 0, []),
  (1258, .invokevirtual 159, 3, 0, 126, 1, 430, [(1, 0)]),
  (1261, .aload_n 2, 1, 0, 0, 0, 0, []),
  (1262, .aload_n 0, 1, 0, 0, 0, 0, []),
  (1263, .iload_n 3, 1, 0, 0, 0, 0, []),
  (1264, .iconst 1, 1, 0, 1, 0, 0, []),
  (1265, .iadd, 1, 0, 0, 0, 0, []),
  (1266, .iaload, 1, 0, 0, 0, 0, []),
  (1267, .invokevirtual 162, 3, 0, 219, 1, 431, [(1, 0)]),
  (1270, .if_icmp .eq 18, 3, 0, 1288, 0, 0, []),
  (1273, .iconst 0, 1, 0, 0, 0, 0, []),
  (1274, .ireturn, 1, 0, 0, 1, 0, []),
  (1275, .aload_n 1, 1, 0, 0, 0, 0, []),
  (1276, .invokevirtual 163, 3, 0, 127, 1, 432, [(0, 0)]),
  (1279, .aload_n 2, 1, 0, 0, 0, 0, []),
  (1280, .invokevirtual 166, 3, 0, 220, 1, 433, [(0, 0)]),
  (1283, .if_icmp .eq 5, 3, 0, 1288, 0, 0, []),
  (1286, .iconst 0, 1, 0, 0, 0, 0, []),
  (1287, .ireturn, 1, 0, 0, 1, 0, []),
  (1288, .iinc 3 6, 3, 0, 6, 0, 0, []),
  (1291, .goto (-1273), 3, 0, 18, 0, 0, []),
  (1294, .iconst 1, 1, 0, 1, 0, 0, []),
  (1295, .ireturn, 1, 0, 0, 1, 0, [])]
def mX0_init : zMt := (yX0_init, cX0_init, 1, none, tX0_init, [2, 1, 0, 224, 223, 0, 80, 0, 0])
def mX0_isEmpty : zMt := (yX0_isEmpty, cX0_isEmpty, 1, (some .boolean), tX0_isEmpty, [0, 0, 0, 460, 458, 459, 80, 0, 0])
def mX0_forget : zMt := (yX0_forget, cX0_forget, 1, none, tX0_forget, [0, 0, 0, 448, 446, 447, 80, 0, 0])
def mX0_keep : zMt := (yX0_keep, cX0_keep, 2, none, tX0_keep, [0, 1, 1, 478, 476, 477, 80, 0, 0])
def mX0_takeBack : zMt := (yX0_takeBack, cX0_takeBack, 3, (some .int), tX0_takeBack, [0, 0, 1, 465, 463, 464, 80, 0, 0])
def mX1_init : zMt := (yX1_init, cX1_init, 1, none, tX1_init, [2, 1, 0, 288, 287, 0, 83, 1, 1])
def mX1_isKind : zMt := (yX1_isKind, cX1_isKind, 1, (some .boolean), tX1_isKind, [1, 0, 1, 581, 580, 0, 83, 1, 1])
def mX1_isOne : zMt := (yX1_isOne, cX1_isOne, 2, (some .boolean), tX1_isOne, [1, 0, 2, 578, 577, 0, 83, 1, 1])
def mX1_answer : zMt := (yX1_answer, cX1_answer, 4, (some .int), tX1_answer, [0, 0, 3, 841, 839, 840, 83, 1, 1])
def mX1_bodyFor : zMt := (yX1_bodyFor, cX1_bodyFor, 4, (some .int), tX1_bodyFor, [1, 0, 3, 844, 843, 0, 83, 1, 1])
def mX1_begin : zMt := (yX1_begin, cX1_begin, 6, (some .int), tX1_begin, [0, 0, 4, 852, 851, 27, 83, 1, 1])
def mX1_leave : zMt := (yX1_leave, cX1_leave, 2, none, tX1_leave, [0, 0, 1, 856, 855, 28, 83, 1, 1])
def mX2_init : zMt := (yX2_init, cX2_init, 1, none, tX2_init, [2, 1, 0, 243, 242, 0, 81, 2, 2])
def mX2_behind : zMt := (yX2_behind, cX2_behind, 3, (some (.object "DishLift$House")), tX2_behind, [0, 0, 2, 601, 599, 600, 81, 2, 2])
def mX2_passTrial : zMt := (yX2_passTrial, cX2_passTrial, 3, none, tX2_passTrial, [0, 0, 1, 606, 605, 15, 81, 2, 2])
def mX2_firstServed : zMt := (yX2_firstServed, cX2_firstServed, 5, (some .int), tX2_firstServed, [0, 0, 3, 620, 618, 619, 81, 2, 2])
def mX2_bestStand : zMt := (yX2_bestStand, cX2_bestStand, 7, (some .int), tX2_bestStand, [0, 0, 2, 647, 645, 646, 81, 2, 2])
def mX2_goodFrom : zMt := (yX2_goodFrom, cX2_goodFrom, 4, (some .int), tX2_goodFrom, [0, 0, 3, 651, 649, 650, 81, 2, 2])
def mX2_leastRoom : zMt := (yX2_leastRoom, cX2_leastRoom, 4, (some .int), tX2_leastRoom, [0, 0, 2, 662, 660, 661, 81, 2, 2])
def mX2_leastRope : zMt := (yX2_leastRope, cX2_leastRope, 4, (some .int), tX2_leastRope, [0, 0, 2, 671, 669, 670, 81, 2, 2])
def mX2_servesAll : zMt := (yX2_servesAll, cX2_servesAll, 5, (some .boolean), tX2_servesAll, [0, 0, 4, 666, 665, 16, 81, 2, 2])
def mX2_isLoad : zMt := (yX2_isLoad, cX2_isLoad, 2, (some .boolean), tX2_isLoad, [1, 0, 2, 712, 711, 0, 81, 2, 2])
def mX2_loads : zMt := (yX2_loads, cX2_loads, 3, (some .int), tX2_loads, [1, 0, 1, 709, 708, 0, 81, 2, 2])
def mX2_fullestLoad : zMt := (yX2_fullestLoad, cX2_fullestLoad, 3, (some .int), tX2_fullestLoad, [1, 0, 1, 716, 715, 0, 81, 2, 2])
def mX2_isFuller : zMt := (yX2_isFuller, cX2_isFuller, 4, (some .boolean), tX2_isFuller, [1, 0, 3, 719, 718, 0, 81, 2, 2])
def mX2_shareOf : zMt := (yX2_shareOf, cX2_shareOf, 8, (some .int), tX2_shareOf, [1, 0, 3, 726, 725, 0, 81, 2, 2])
def mX2_played : zMt := (yX2_played, cX2_played, 4, (some .int), tX2_played, [0, 0, 3, 738, 736, 737, 81, 2, 2])
def mX2_playedFrom : zMt := (yX2_playedFrom, cX2_playedFrom, 10, (some .int), tX2_playedFrom, [0, 0, 5, 742, 741, 20, 81, 2, 2])
def mX2_heatServedFrom : zMt := (yX2_heatServedFrom, cX2_heatServedFrom, 4, (some .int), tX2_heatServedFrom, [0, 0, 3, 746, 745, 21, 81, 2, 2])
def mX2_allThatFits : zMt := (yX2_allThatFits, cX2_allThatFits, 13, (some .int), tX2_allThatFits, [0, 0, 6, 759, 757, 758, 81, 2, 2])
def mX2_lastOf : zMt := (yX2_lastOf, cX2_lastOf, 2, (some .int), tX2_lastOf, [1, 0, 2, 762, 761, 0, 81, 2, 2])
def mX2_suppose : zMt := (yX2_suppose, cX2_suppose, 5, none, tX2_suppose, [0, 0, 4, 766, 765, 22, 81, 2, 2])
def mX2_isTold : zMt := (yX2_isTold, cX2_isTold, 6, (some .boolean), tX2_isTold, [0, 0, 4, 770, 769, 23, 81, 2, 2])
def mX2_casesInAll : zMt := (yX2_casesInAll, cX2_casesInAll, 4, (some .long), tX2_casesInAll, [1, 0, 1, 790, 789, 0, 81, 2, 2])
def mX2_commonDivisor : zMt := (yX2_commonDivisor, cX2_commonDivisor, 11, (some .long), tX2_commonDivisor, [1, 0, 2, 799, 798, 0, 81, 2, 2])
def mX2_casesServed : zMt := (yX2_casesServed, cX2_casesServed, 5, (some .long), tX2_casesServed, [0, 1, 4, 779, 777, 778, 81, 2, 2])
def mX2_casesFrom : zMt := (yX2_casesFrom, cX2_casesFrom, 6, (some .long), tX2_casesFrom, [0, 1, 4, 787, 786, 25, 81, 2, 2])
def mX2_branch : zMt := (yX2_branch, cX2_branch, 8, (some .long), tX2_branch, [0, 1, 5, 795, 794, 26, 81, 2, 2])
def mX2_lineAt : zMt := (yX2_lineAt, cX2_lineAt, 2, (some (.object "DishLift$House")), tX2_lineAt, [0, 1, 1, 783, 782, 24, 81, 2, 2])
def mX2_draw : zMt := (yX2_draw, cX2_draw, 11, (some .int), tX2_draw, [0, 0, 3, 808, 806, 807, 81, 2, 2])
def mX3_init : zMt := (yX3_init, cX3_init, 1, none, tX3_init, [2, 1, 0, 149, 148, 0, 79, 3, 3])
def mX3_build : zMt := (yX3_build, cX3_build, 4, none, tX3_build, [0, 0, 3, 428, 426, 427, 79, 3, 3])
def mX3_become : zMt := (yX3_become, cX3_become, 3, none, tX3_become, [0, 0, 1, 444, 442, 443, 79, 3, 3])
def mX3_isAs : zMt := (yX3_isAs, cX3_isAs, 3, (some .boolean), tX3_isAs, [0, 0, 1, 684, 682, 683, 79, 3, 3])
def mX3_stands : zMt := (yX3_stands, cX3_stands, 1, (some .boolean), tX3_stands, [0, 0, 0, 474, 472, 473, 79, 3, 3])
def mX3_isDish : zMt := (yX3_isDish, cX3_isDish, 2, (some .boolean), tX3_isDish, [0, 0, 1, 514, 512, 513, 79, 3, 3])
def mX3_isFloor : zMt := (yX3_isFloor, cX3_isFloor, 2, (some .boolean), tX3_isFloor, [0, 0, 1, 550, 548, 549, 79, 3, 3])
def mX3_all : zMt := (yX3_all, cX3_all, 1, (some .int), tX3_all, [0, 0, 0, 630, 628, 629, 79, 3, 3])
def mX3_those : zMt := (yX3_those, cX3_those, 4, (some .int), tX3_those, [0, 0, 1, 500, 498, 499, 79, 3, 3])
def mX3_served : zMt := (yX3_served, cX3_served, 1, (some .int), tX3_served, [0, 0, 0, 542, 540, 541, 79, 3, 3])
def mX3_servedGood : zMt := (yX3_servedGood, cX3_servedGood, 3, (some .int), tX3_servedGood, [0, 0, 0, 638, 636, 637, 79, 3, 3])
def mX3_isGood : zMt := (yX3_isGood, cX3_isGood, 2, (some .boolean), tX3_isGood, [0, 0, 1, 575, 573, 574, 79, 3, 3])
def mX3_weightOf : zMt := (yX3_weightOf, cX3_weightOf, 4, (some .int), tX3_weightOf, [0, 0, 1, 504, 502, 503, 79, 3, 3])
def mX3_heatOf : zMt := (yX3_heatOf, cX3_heatOf, 4, (some .int), tX3_heatOf, [0, 0, 1, 730, 728, 729, 79, 3, 3])
def mX3_sendBack : zMt := (yX3_sendBack, cX3_sendBack, 4, none, tX3_sendBack, [0, 0, 3, 567, 565, 566, 79, 3, 3])
def mX3_pass : zMt := (yX3_pass, cX3_pass, 5, none, tX3_pass, [0, 0, 2, 488, 486, 487, 79, 3, 3])
def mX3_letOut : zMt := (yX3_letOut, cX3_letOut, 2, none, tX3_letOut, [0, 0, 0, 492, 491, 8, 79, 3, 3])
def mX3_takeIn : zMt := (yX3_takeIn, cX3_takeIn, 7, none, tX3_takeIn, [0, 0, 1, 496, 495, 9, 79, 3, 3])
def mX3_called : zMt := (yX3_called, cX3_called, 3, (some .int), tX3_called, [0, 0, 0, 522, 520, 521, 79, 3, 3])
def mX3_goOn : zMt := (yX3_goOn, cX3_goOn, 4, (some .boolean), tX3_goOn, [0, 0, 0, 518, 517, 10, 79, 3, 3])
def mX3_age : zMt := (yX3_age, cX3_age, 3, none, tX3_age, [0, 0, 2, 526, 525, 11, 79, 3, 3])
def mX3_cool : zMt := (yX3_cool, cX3_cool, 2, none, tX3_cool, [0, 0, 1, 530, 529, 12, 79, 3, 3])
def mX3_warm : zMt := (yX3_warm, cX3_warm, 2, none, tX3_warm, [0, 0, 1, 538, 537, 14, 79, 3, 3])
def mX3_lose : zMt := (yX3_lose, cX3_lose, 2, none, tX3_lose, [0, 0, 1, 534, 533, 13, 79, 3, 3])
def mX4_init : zMt := (yX4_init, cX4_init, 1, none, tX4_init, [2, 1, 0, 259, 258, 0, 82, 4, 4])
def mX4_search : zMt := (yX4_search, cX4_search, 3, none, tX4_search, [0, 0, 2, 680, 678, 679, 82, 4, 4])
def mX4_fill : zMt := (yX4_fill, cX4_fill, 4, none, tX4_fill, [0, 0, 2, 690, 689, 17, 82, 4, 4])
def mX4_isNeedless : zMt := (yX4_isNeedless, cX4_isNeedless, 4, (some .boolean), tX4_isNeedless, [0, 0, 2, 702, 701, 19, 82, 4, 4])
def mX4_weigh : zMt := (yX4_weigh, cX4_weigh, 4, none, tX4_weigh, [0, 0, 0, 694, 693, 18, 82, 4, 4])
def mX5_init : zMt := (yX5_init, cX5_init, 1, none, tX5_init, [2, 1, 0, 100, 99, 0, 76, 5, 5])
def mX5_isRow : zMt := (yX5_isRow, cX5_isRow, 1, (some .boolean), tX5_isRow, [1, 0, 1, 336, 335, 0, 76, 5, 5])
def mX5_isLane : zMt := (yX5_isLane, cX5_isLane, 1, (some .boolean), tX5_isLane, [1, 0, 1, 339, 338, 0, 76, 5, 5])
def mX5_isMissing : zMt := (yX5_isMissing, cX5_isMissing, 2, (some .boolean), tX5_isMissing, [0, 0, 1, 361, 359, 360, 76, 5, 5])
def mX5_covers : zMt := (yX5_covers, cX5_covers, 4, (some .boolean), tX5_covers, [0, 0, 3, 365, 363, 364, 76, 5, 5])
def mX5_begin : zMt := (yX5_begin, cX5_begin, 4, none, tX5_begin, [0, 0, 3, 349, 347, 348, 76, 5, 5])
def mX5_put : zMt := (yX5_put, cX5_put, 5, (some .int), tX5_put, [0, 0, 3, 369, 367, 368, 76, 5, 5])
def mX5_lose : zMt := (yX5_lose, cX5_lose, 2, (some .int), tX5_lose, [0, 0, 1, 384, 382, 383, 76, 5, 5])
def mX5_present : zMt := (yX5_present, cX5_present, 3, (some .int), tX5_present, [0, 0, 0, 868, 866, 867, 76, 5, 5])
def mX6_init : zMt := (yX6_init, cX6_init, 1, none, tX6_init, [2, 1, 0, 124, 123, 0, 78, 6, 6])
def mX6_isFull : zMt := (yX6_isFull, cX6_isFull, 1, (some .boolean), tX6_isFull, [0, 0, 0, 392, 390, 391, 78, 6, 6])
def mX6_add : zMt := (yX6_add, cX6_add, 2, (some .int), tX6_add, [0, 0, 1, 397, 395, 396, 78, 6, 6])
def mX6_tells : zMt := (yX6_tells, cX6_tells, 3, (some .boolean), tX6_tells, [0, 0, 1, 405, 403, 404, 78, 6, 6])
def mX6_readLaw : zMt := (yX6_readLaw, cX6_readLaw, 4, (some .boolean), tX6_readLaw, [0, 0, 1, 409, 408, 2, 78, 6, 6])
def mX6_readDishes : zMt := (yX6_readDishes, cX6_readDishes, 3, (some .boolean), tX6_readDishes, [0, 0, 1, 432, 431, 6, 78, 6, 6])
def mX6_readDish : zMt := (yX6_readDish, cX6_readDish, 4, (some .boolean), tX6_readDish, [0, 0, 2, 436, 435, 7, 78, 6, 6])
def mX6_kindOf : zMt := (yX6_kindOf, cX6_kindOf, 1, (some .int), tX6_kindOf, [1, 0, 1, 439, 438, 0, 78, 6, 6])
def mX6_readNumber : zMt := (yX6_readNumber, cX6_readNumber, 6, (some .boolean), tX6_readNumber, [0, 0, 3, 421, 420, 5, 78, 6, 6])
def mX6_isFigure : zMt := (yX6_isFigure, cX6_isFigure, 1, (some .boolean), tX6_isFigure, [1, 0, 1, 424, 423, 0, 78, 6, 6])
def mX6_readByte : zMt := (yX6_readByte, cX6_readByte, 2, (some .boolean), tX6_readByte, [0, 0, 1, 413, 412, 3, 78, 6, 6])
def mX6_fails : zMt := (yX6_fails, cX6_fails, 2, (some .boolean), tX6_fails, [0, 0, 1, 417, 416, 4, 78, 6, 6])
def mX7_init : zMt := (yX7_init, cX7_init, 1, none, tX7_init, [2, 1, 0, 92, 91, 0, 75, 7, 7])
def mX7_row : zMt := (yX7_row, cX7_row, 4, (some .int), tX7_row, [0, 0, 3, 333, 331, 332, 75, 7, 7])
def mX7_set : zMt := (yX7_set, cX7_set, 4, (some .int), tX7_set, [0, 0, 3, 357, 355, 356, 75, 7, 7])
def mX7_copy : zMt := (yX7_copy, cX7_copy, 6, (some .int), tX7_copy, [0, 0, 5, 373, 371, 372, 75, 7, 7])
def mX7_drop : zMt := (yX7_drop, cX7_drop, 2, (some .int), tX7_drop, [0, 0, 1, 380, 378, 379, 75, 7, 7])
def mX7_feed : zMt := (yX7_feed, cX7_feed, 2, (some .int), tX7_feed, [0, 0, 1, 388, 386, 387, 75, 7, 7])
def mX7_house : zMt := (yX7_house, cX7_house, 1, (some .int), tX7_house, [0, 0, 0, 401, 399, 400, 75, 7, 7])
def mX7_fault : zMt := (yX7_fault, cX7_fault, 1, (some .int), tX7_fault, [0, 0, 0, 452, 450, 451, 75, 7, 7])
def mX7_undo : zMt := (yX7_undo, cX7_undo, 1, (some .int), tX7_undo, [0, 0, 0, 456, 454, 455, 75, 7, 7])
def mX7_minutes : zMt := (yX7_minutes, cX7_minutes, 3, (some .int), tX7_minutes, [0, 1, 1, 470, 468, 469, 75, 7, 7])
def mX7_pull : zMt := (yX7_pull, cX7_pull, 3, (some .int), tX7_pull, [0, 1, 1, 546, 544, 545, 75, 7, 7])
def mX7_rope : zMt := (yX7_rope, cX7_rope, 3, (some .int), tX7_rope, [0, 1, 1, 554, 552, 553, 75, 7, 7])
def mX7_room : zMt := (yX7_room, cX7_room, 3, (some .int), tX7_room, [0, 1, 1, 558, 556, 557, 75, 7, 7])
def mX7_send : zMt := (yX7_send, cX7_send, 4, (some .int), tX7_send, [0, 1, 3, 562, 560, 561, 75, 7, 7])
def mX7_dish : zMt := (yX7_dish, cX7_dish, 3, (some .int), tX7_dish, [0, 0, 2, 571, 569, 570, 75, 7, 7])
def mX7_car : zMt := (yX7_car, cX7_car, 2, (some .int), tX7_car, [0, 0, 1, 587, 585, 586, 75, 7, 7])
def mX7_ahead : zMt := (yX7_ahead, cX7_ahead, 5, (some .int), tX7_ahead, [0, 0, 3, 594, 592, 593, 75, 7, 7])
def mX7_later : zMt := (yX7_later, cX7_later, 2, (some .int), tX7_later, [0, 0, 1, 612, 610, 611, 75, 7, 7])
def mX7_when : zMt := (yX7_when, cX7_when, 2, (some .int), tX7_when, [0, 0, 1, 616, 614, 615, 75, 7, 7])
def mX7_done : zMt := (yX7_done, cX7_done, 1, (some .int), tX7_done, [0, 0, 0, 626, 624, 625, 75, 7, 7])
def mX7_fine : zMt := (yX7_fine, cX7_fine, 2, (some .int), tX7_fine, [0, 0, 1, 634, 632, 633, 75, 7, 7])
def mX7_site : zMt := (yX7_site, cX7_site, 4, (some .int), tX7_site, [0, 0, 2, 643, 641, 642, 75, 7, 7])
def mX7_need : zMt := (yX7_need, cX7_need, 3, (some .int), tX7_need, [0, 0, 2, 658, 656, 657, 75, 7, 7])
def mX7_ranks : zMt := (yX7_ranks, cX7_ranks, 3, (some .int), tX7_ranks, [0, 0, 2, 675, 673, 674, 75, 7, 7])
def mX7_holds : zMt := (yX7_holds, cX7_holds, 2, (some .int), tX7_holds, [0, 0, 1, 706, 704, 705, 75, 7, 7])
def mX7_share : zMt := (yX7_share, cX7_share, 3, (some .int), tX7_share, [0, 0, 2, 723, 721, 722, 75, 7, 7])
def mX7_byTurns : zMt := (yX7_byTurns, cX7_byTurns, 3, (some .int), tX7_byTurns, [0, 0, 2, 734, 732, 733, 75, 7, 7])
def mX7_who : zMt := (yX7_who, cX7_who, 6, (some .int), tX7_who, [0, 0, 5, 755, 753, 754, 75, 7, 7])
def mX7_stuck : zMt := (yX7_stuck, cX7_stuck, 11, (some .long), tX7_stuck, [0, 1, 4, 774, 772, 773, 75, 7, 7])
def mX7_drawn : zMt := (yX7_drawn, cX7_drawn, 5, (some .int), tX7_drawn, [0, 0, 3, 803, 801, 802, 75, 7, 7])
def mX7_image : zMt := (yX7_image, cX7_image, 2, (some .int), tX7_image, [0, 1, 1, 819, 817, 818, 75, 7, 7])
def mX7_restore : zMt := (yX7_restore, cX7_restore, 2, (some .int), tX7_restore, [0, 0, 1, 823, 821, 822, 75, 7, 7])
def mX7_kind : zMt := (yX7_kind, cX7_kind, 2, (some .int), tX7_kind, [0, 0, 1, 827, 825, 826, 75, 7, 7])
def mX7_as : zMt := (yX7_as, cX7_as, 3, (some .int), tX7_as, [0, 0, 2, 831, 829, 830, 75, 7, 7])
def mX7_ask : zMt := (yX7_ask, cX7_ask, 3, (some .int), tX7_ask, [0, 0, 2, 837, 835, 836, 75, 7, 7])
def mX7_trace : zMt := (yX7_trace, cX7_trace, 2, (some .int), tX7_trace, [0, 0, 1, 860, 858, 859, 75, 7, 7])
def mX7_count : zMt := (yX7_count, cX7_count, 2, (some .int), tX7_count, [0, 0, 1, 864, 862, 863, 75, 7, 7])
def mX7_status : zMt := (yX7_status, cX7_status, 1, (some .int), tX7_status, [0, 0, 0, 874, 872, 873, 75, 7, 7])
def mX7_found : zMt := (yX7_found, cX7_found, 2, (some .int), tX7_found, [0, 0, 1, 344, 343, 0, 75, 7, 7])
def mX7_foundNothing : zMt := (yX7_foundNothing, cX7_foundNothing, 2, (some .int), tX7_foundNothing, [0, 0, 1, 353, 352, 1, 75, 7, 7])
def mX7_isOutside : zMt := (yX7_isOutside, cX7_isOutside, 3, (some .boolean), tX7_isOutside, [1, 0, 3, 597, 596, 0, 75, 7, 7])
def mX8_init : zMt := (yX8_init, cX8_init, 2, none, tX8_init, [2, 1, 0, 879, 878, 0, 84, 8, 8])
def mX8_in : zMt := (yX8_in, cX8_in, 6, (some .boolean), tX8_in, [1, 0, 3, 950, 949, 0, 84, 8, 8])
def mX8_has : zMt := (yX8_has, cX8_has, 2, (some .boolean), tX8_has, [1, 0, 2, 1065, 1064, 0, 84, 8, 8])
def mX8_ones : zMt := (yX8_ones, cX8_ones, 3, (some .int), tX8_ones, [1, 0, 1, 1058, 1057, 0, 84, 8, 8])
def mX8_copyOf : zMt := (yX8_copyOf, cX8_copyOf, 4, none, tX8_copyOf, [0, 0, 2, 1021, 1020, 38, 84, 8, 8])
def mX8_isDish : zMt := (yX8_isDish, cX8_isDish, 2, (some .boolean), tX8_isDish, [0, 0, 1, 1111, 1110, 51, 84, 8, 8])
def mX8_isFloor : zMt := (yX8_isFloor, cX8_isFloor, 2, (some .boolean), tX8_isFloor, [0, 0, 1, 1093, 1092, 50, 84, 8, 8])
def mX8_isHouse : zMt := (yX8_isHouse, cX8_isHouse, 1, (some .boolean), tX8_isHouse, [0, 0, 0, 1038, 1037, 39, 84, 8, 8])
def mX8_isRow : zMt := (yX8_isRow, cX8_isRow, 1, (some .boolean), tX8_isRow, [1, 0, 1, 946, 945, 0, 84, 8, 8])
def mX8_finds : zMt := (yX8_finds, cX8_finds, 2, (some .int), tX8_finds, [0, 0, 1, 956, 955, 29, 84, 8, 8])
def mX8_against : zMt := (yX8_against, cX8_against, 4, (some .int), tX8_against, [0, 0, 3, 965, 964, 30, 84, 8, 8])
def mX8_row : zMt := (yX8_row, cX8_row, 5, (some .int), tX8_row, [0, 0, 3, 943, 941, 942, 84, 8, 8])
def mX8_set : zMt := (yX8_set, cX8_set, 5, (some .int), tX8_set, [0, 0, 3, 961, 959, 960, 84, 8, 8])
def mX8_copy : zMt := (yX8_copy, cX8_copy, 7, (some .int), tX8_copy, [0, 0, 5, 969, 967, 968, 84, 8, 8])
def mX8_drop : zMt := (yX8_drop, cX8_drop, 3, (some .int), tX8_drop, [0, 0, 1, 973, 971, 972, 84, 8, 8])
def mX8_feed : zMt := (yX8_feed, cX8_feed, 2, (some .int), tX8_feed, [0, 0, 1, 977, 975, 976, 84, 8, 8])
def mX8_here : zMt := (yX8_here, cX8_here, 1, (some .int), tX8_here, [0, 0, 0, 999, 998, 34, 84, 8, 8])
def mX8_fails : zMt := (yX8_fails, cX8_fails, 3, (some .boolean), tX8_fails, [0, 0, 2, 1003, 1002, 35, 84, 8, 8])
def mX8_takes : zMt := (yX8_takes, cX8_takes, 2, (some .boolean), tX8_takes, [0, 0, 1, 995, 994, 33, 84, 8, 8])
def mX8_takesNumber : zMt := (yX8_takesNumber, cX8_takesNumber, 4, (some .boolean), tX8_takesNumber, [0, 0, 2, 1007, 1006, 36, 84, 8, 8])
def mX8_kindOf : zMt := (yX8_kindOf, cX8_kindOf, 1, (some .int), tX8_kindOf, [1, 0, 1, 1016, 1015, 0, 84, 8, 8])
def mX8_takesLaw : zMt := (yX8_takesLaw, cX8_takesLaw, 1, (some .boolean), tX8_takesLaw, [0, 0, 0, 991, 990, 32, 84, 8, 8])
def mX8_takesDish : zMt := (yX8_takesDish, cX8_takesDish, 3, (some .boolean), tX8_takesDish, [0, 0, 0, 1013, 1012, 37, 84, 8, 8])
def mX8_takesAll : zMt := (yX8_takesAll, cX8_takesAll, 1, (some .boolean), tX8_takesAll, [0, 0, 0, 987, 986, 31, 84, 8, 8])
def mX8_house : zMt := (yX8_house, cX8_house, 2, (some .int), tX8_house, [0, 0, 0, 983, 981, 982, 84, 8, 8])
def mX8_fault : zMt := (yX8_fault, cX8_fault, 1, (some .int), tX8_fault, [0, 0, 0, 1025, 1023, 1024, 84, 8, 8])
def mX8_insideOf : zMt := (yX8_insideOf, cX8_insideOf, 4, (some .int), tX8_insideOf, [0, 0, 1, 1055, 1054, 43, 84, 8, 8])
def mX8_servedOf : zMt := (yX8_servedOf, cX8_servedOf, 4, (some .int), tX8_servedOf, [0, 0, 1, 1085, 1084, 49, 84, 8, 8])
def mX8_weightOf : zMt := (yX8_weightOf, cX8_weightOf, 5, (some .int), tX8_weightOf, [0, 0, 2, 1062, 1061, 44, 84, 8, 8])
def mX8_serves : zMt := (yX8_serves, cX8_serves, 6, none, tX8_serves, [0, 0, 1, 1051, 1050, 42, 84, 8, 8])
def mX8_calledOf : zMt := (yX8_calledOf, cX8_calledOf, 5, (some .int), tX8_calledOf, [0, 0, 1, 1073, 1072, 46, 84, 8, 8])
def mX8_goes : zMt := (yX8_goes, cX8_goes, 5, (some .boolean), tX8_goes, [0, 0, 1, 1069, 1068, 45, 84, 8, 8])
def mX8_cools : zMt := (yX8_cools, cX8_cools, 4, none, tX8_cools, [0, 0, 2, 1077, 1076, 47, 84, 8, 8])
def mX8_coolsOne : zMt := (yX8_coolsOne, cX8_coolsOne, 9, none, tX8_coolsOne, [0, 0, 3, 1081, 1080, 48, 84, 8, 8])
def mX8_passes : zMt := (yX8_passes, cX8_passes, 2, none, tX8_passes, [0, 0, 1, 1047, 1046, 41, 84, 8, 8])
def mX8_isGood : zMt := (yX8_isGood, cX8_isGood, 2, (some .boolean), tX8_isGood, [1, 0, 2, 1123, 1122, 0, 84, 8, 8])
def mX8_fineOf : zMt := (yX8_fineOf, cX8_fineOf, 4, (some .int), tX8_fineOf, [0, 0, 1, 1164, 1163, 56, 84, 8, 8])
def mX8_heatServed : zMt := (yX8_heatServed, cX8_heatServed, 4, (some .int), tX8_heatServed, [0, 0, 1, 1202, 1201, 60, 84, 8, 8])
def mX8_heatOf : zMt := (yX8_heatOf, cX8_heatOf, 4, (some .int), tX8_heatOf, [0, 0, 1, 1198, 1197, 59, 84, 8, 8])
def mX8_minds : zMt := (yX8_minds, cX8_minds, 2, none, tX8_minds, [0, 0, 0, 1043, 1042, 40, 84, 8, 8])
def mX8_undo : zMt := (yX8_undo, cX8_undo, 1, (some .int), tX8_undo, [0, 0, 0, 1029, 1027, 1028, 84, 8, 8])
def mX8_minutes : zMt := (yX8_minutes, cX8_minutes, 3, (some .int), tX8_minutes, [0, 0, 1, 1034, 1032, 1033, 84, 8, 8])
def mX8_pull : zMt := (yX8_pull, cX8_pull, 3, (some .int), tX8_pull, [0, 0, 1, 1089, 1087, 1088, 84, 8, 8])
def mX8_rope : zMt := (yX8_rope, cX8_rope, 3, (some .int), tX8_rope, [0, 0, 1, 1097, 1095, 1096, 84, 8, 8])
def mX8_room : zMt := (yX8_room, cX8_room, 3, (some .int), tX8_room, [0, 0, 1, 1102, 1100, 1101, 84, 8, 8])
def mX8_sendsBack : zMt := (yX8_sendsBack, cX8_sendsBack, 5, none, tX8_sendsBack, [0, 0, 4, 1116, 1115, 52, 84, 8, 8])
def mX8_send : zMt := (yX8_send, cX8_send, 4, (some .int), tX8_send, [0, 0, 3, 1107, 1105, 1106, 84, 8, 8])
def mX8_dish : zMt := (yX8_dish, cX8_dish, 3, (some .int), tX8_dish, [0, 0, 2, 1120, 1118, 1119, 84, 8, 8])
def mX8_car : zMt := (yX8_car, cX8_car, 2, (some .int), tX8_car, [0, 0, 1, 1127, 1125, 1126, 84, 8, 8])
def mX8_tries : zMt := (yX8_tries, cX8_tries, 1, none, tX8_tries, [0, 0, 0, 1135, 1134, 53, 84, 8, 8])
def mX8_goesOn : zMt := (yX8_goesOn, cX8_goesOn, 3, none, tX8_goesOn, [0, 0, 1, 1139, 1138, 54, 84, 8, 8])
def mX8_ahead : zMt := (yX8_ahead, cX8_ahead, 4, (some .int), tX8_ahead, [0, 0, 3, 1131, 1129, 1130, 84, 8, 8])
def mX8_later : zMt := (yX8_later, cX8_later, 2, (some .int), tX8_later, [0, 0, 1, 1143, 1141, 1142, 84, 8, 8])
def mX8_allServed : zMt := (yX8_allServed, cX8_allServed, 3, (some .int), tX8_allServed, [0, 0, 1, 1151, 1150, 55, 84, 8, 8])
def mX8_when : zMt := (yX8_when, cX8_when, 2, (some .int), tX8_when, [0, 0, 1, 1147, 1145, 1146, 84, 8, 8])
def mX8_done : zMt := (yX8_done, cX8_done, 1, (some .int), tX8_done, [0, 0, 0, 1156, 1154, 1155, 84, 8, 8])
def mX8_fine : zMt := (yX8_fine, cX8_fine, 2, (some .int), tX8_fine, [0, 0, 1, 1160, 1158, 1159, 84, 8, 8])
def mX8_site : zMt := (yX8_site, cX8_site, 7, (some .int), tX8_site, [0, 0, 2, 1168, 1166, 1167, 84, 8, 8])
def mX8_need : zMt := (yX8_need, cX8_need, 5, (some .int), tX8_need, [0, 0, 2, 1172, 1170, 1171, 84, 8, 8])
def mX8_waitsBy : zMt := (yX8_waitsBy, cX8_waitsBy, 4, (some .int), tX8_waitsBy, [0, 0, 1, 1185, 1184, 58, 84, 8, 8])
def mX8_bestRanks : zMt := (yX8_bestRanks, cX8_bestRanks, 7, (some .int), tX8_bestRanks, [0, 0, 1, 1180, 1179, 57, 84, 8, 8])
def mX8_ranks : zMt := (yX8_ranks, cX8_ranks, 4, (some .int), tX8_ranks, [0, 0, 2, 1176, 1174, 1175, 84, 8, 8])
def mX8_holds : zMt := (yX8_holds, cX8_holds, 7, (some .int), tX8_holds, [0, 0, 1, 1189, 1187, 1188, 84, 8, 8])
def mX8_share : zMt := (yX8_share, cX8_share, 8, (some .int), tX8_share, [0, 0, 2, 1193, 1191, 1192, 84, 8, 8])
def mX8_heatFrom : zMt := (yX8_heatFrom, cX8_heatFrom, 3, (some .int), tX8_heatFrom, [0, 0, 2, 1211, 1210, 61, 84, 8, 8])
def mX8_byTurns : zMt := (yX8_byTurns, cX8_byTurns, 9, (some .int), tX8_byTurns, [0, 0, 2, 1206, 1204, 1205, 84, 8, 8])
def mX8_isSo : zMt := (yX8_isSo, cX8_isSo, 6, (some .boolean), tX8_isSo, [0, 0, 3, 1221, 1220, 62, 84, 8, 8])
def mX8_who : zMt := (yX8_who, cX8_who, 12, (some .int), tX8_who, [0, 0, 5, 1215, 1213, 1214, 84, 8, 8])
def mX8_stuck : zMt := (yX8_stuck, cX8_stuck, 15, (some .long), tX8_stuck, [0, 0, 4, 1225, 1223, 1224, 84, 8, 8])
def mX8_drawn : zMt := (yX8_drawn, cX8_drawn, 11, (some .int), tX8_drawn, [0, 0, 3, 1232, 1230, 1231, 84, 8, 8])
def mX8_image : zMt := (yX8_image, cX8_image, 2, (some .int), tX8_image, [0, 0, 1, 1240, 1238, 1239, 84, 8, 8])
def mX8_restore : zMt := (yX8_restore, cX8_restore, 2, (some .int), tX8_restore, [0, 0, 1, 1244, 1242, 1243, 84, 8, 8])
def mX8_kind : zMt := (yX8_kind, cX8_kind, 2, (some .int), tX8_kind, [0, 0, 1, 1248, 1246, 1247, 84, 8, 8])
def mX8_isA : zMt := (yX8_isA, cX8_isA, 2, (some .boolean), tX8_isA, [1, 0, 2, 1255, 1254, 0, 84, 8, 8])
def mX8_as : zMt := (yX8_as, cX8_as, 3, (some .int), tX8_as, [0, 0, 2, 1252, 1250, 1251, 84, 8, 8])
def mX8_traces : zMt := (yX8_traces, cX8_traces, 2, none, tX8_traces, [0, 0, 1, 1267, 1266, 64, 84, 8, 8])
def mX8_size10 : zMt := (yX8_size10, cX8_size10, 2, (some .int), tX8_size10, [0, 0, 1, 1275, 1274, 66, 84, 8, 8])
def mX8_size11 : zMt := (yX8_size11, cX8_size11, 3, (some .int), tX8_size11, [0, 0, 1, 1271, 1270, 65, 84, 8, 8])
def mX8_size13 : zMt := (yX8_size13, cX8_size13, 2, (some .int), tX8_size13, [0, 0, 1, 1291, 1290, 70, 84, 8, 8])
def mX8_sizeOf : zMt := (yX8_sizeOf, cX8_sizeOf, 2, (some .int), tX8_sizeOf, [0, 0, 1, 1263, 1262, 63, 84, 8, 8])
def mX8_mark20 : zMt := (yX8_mark20, cX8_mark20, 2, (some .int), tX8_mark20, [0, 0, 1, 1287, 1286, 69, 84, 8, 8])
def mX8_mark21 : zMt := (yX8_mark21, cX8_mark21, 2, (some .int), tX8_mark21, [0, 0, 1, 1283, 1282, 68, 84, 8, 8])
def mX8_markOf : zMt := (yX8_markOf, cX8_markOf, 2, (some .int), tX8_markOf, [0, 0, 1, 1279, 1278, 67, 84, 8, 8])
def mX8_mark23 : zMt := (yX8_mark23, cX8_mark23, 3, (some .int), tX8_mark23, [0, 0, 1, 1295, 1294, 71, 84, 8, 8])
def mX8_ask : zMt := (yX8_ask, cX8_ask, 3, (some .int), tX8_ask, [0, 0, 2, 1259, 1257, 1258, 84, 8, 8])
def mX8_trace : zMt := (yX8_trace, cX8_trace, 2, (some .int), tX8_trace, [0, 0, 1, 1299, 1297, 1298, 84, 8, 8])
def mX8_rowsThere : zMt := (yX8_rowsThere, cX8_rowsThere, 3, (some .int), tX8_rowsThere, [0, 0, 0, 1307, 1306, 72, 84, 8, 8])
def mX8_waiting : zMt := (yX8_waiting, cX8_waiting, 3, (some .int), tX8_waiting, [0, 0, 0, 1311, 1310, 73, 84, 8, 8])
def mX8_count : zMt := (yX8_count, cX8_count, 2, (some .int), tX8_count, [0, 0, 1, 1303, 1301, 1302, 84, 8, 8])
def mX8_status : zMt := (yX8_status, cX8_status, 1, (some .int), tX8_status, [0, 0, 0, 1315, 1313, 1314, 84, 8, 8])
def mJ6_bitCount_0f7a4 : zMt := (yJ6_bitCount_0f7a4, cJ6_bitCount_0f7a4, 1, (some .int), tJ6_bitCount_0f7a4, [1, 0, 1, 507, 506, 0, 87, 99, 10])
def mJ9_max_7cf53 : zMt := (yJ9_max_7cf53, cJ9_max_7cf53, 2, (some .int), tJ9_max_7cf53, [1, 0, 2, 750, 749, 0, 86, 99, 11])
def mJ9_min_7cf53 : zMt := (yJ9_min_7cf53, cJ9_min_7cf53, 2, (some .int), tJ9_min_7cf53, [1, 0, 2, 482, 481, 0, 86, 99, 11])
def mJ7_fill_53178 : zMt := (yJ7_fill_53178, cJ7_fill_53178, 4, none, tJ7_fill_53178, [1, 0, 2, 106, 105, 0, 77, 99, 12])
def mL_law : zMt := (x, code, 4, some .boolean, tL_law, [1, 1, 1, 0, 0, 0, 0, 99, 9])
def zm (y : Nat) : zMt := (bif Nat.blt y 113 then (bif Nat.blt y 56 then (bif Nat.blt y 28 then (bif Nat.blt y 14 then (bif Nat.blt y 7 then (bif Nat.blt y 3 then (bif Nat.blt y 1 then mX0_init else (bif Nat.blt y 2 then mX0_isEmpty else mX0_forget)) else (bif Nat.blt y 5 then (bif Nat.blt y 4 then mX0_keep else mX0_takeBack) else (bif Nat.blt y 6 then mX1_init else mX1_isKind))) else (bif Nat.blt y 10 then (bif Nat.blt y 8 then mX1_isOne else (bif Nat.blt y 9 then mX1_answer else mX1_bodyFor)) else (bif Nat.blt y 12 then (bif Nat.blt y 11 then mX1_begin else mX1_leave) else (bif Nat.blt y 13 then mX2_init else mX2_behind)))) else (bif Nat.blt y 21 then (bif Nat.blt y 17 then (bif Nat.blt y 15 then mX2_passTrial else (bif Nat.blt y 16 then mX2_firstServed else mX2_bestStand)) else (bif Nat.blt y 19 then (bif Nat.blt y 18 then mX2_goodFrom else mX2_leastRoom) else (bif Nat.blt y 20 then mX2_leastRope else mX2_servesAll))) else (bif Nat.blt y 24 then (bif Nat.blt y 22 then mX2_isLoad else (bif Nat.blt y 23 then mX2_loads else mX2_fullestLoad)) else (bif Nat.blt y 26 then (bif Nat.blt y 25 then mX2_isFuller else mX2_shareOf) else (bif Nat.blt y 27 then mX2_played else mX2_playedFrom))))) else (bif Nat.blt y 42 then (bif Nat.blt y 35 then (bif Nat.blt y 31 then (bif Nat.blt y 29 then mX2_heatServedFrom else (bif Nat.blt y 30 then mX2_allThatFits else mX2_lastOf)) else (bif Nat.blt y 33 then (bif Nat.blt y 32 then mX2_suppose else mX2_isTold) else (bif Nat.blt y 34 then mX2_casesInAll else mX2_commonDivisor))) else (bif Nat.blt y 38 then (bif Nat.blt y 36 then mX2_casesServed else (bif Nat.blt y 37 then mX2_casesFrom else mX2_branch)) else (bif Nat.blt y 40 then (bif Nat.blt y 39 then mX2_lineAt else mX2_draw) else (bif Nat.blt y 41 then mX3_init else mX3_build)))) else (bif Nat.blt y 49 then (bif Nat.blt y 45 then (bif Nat.blt y 43 then mX3_become else (bif Nat.blt y 44 then mX3_isAs else mX3_stands)) else (bif Nat.blt y 47 then (bif Nat.blt y 46 then mX3_isDish else mX3_isFloor) else (bif Nat.blt y 48 then mX3_all else mX3_those))) else (bif Nat.blt y 52 then (bif Nat.blt y 50 then mX3_served else (bif Nat.blt y 51 then mX3_servedGood else mX3_isGood)) else (bif Nat.blt y 54 then (bif Nat.blt y 53 then mX3_weightOf else mX3_heatOf) else (bif Nat.blt y 55 then mX3_sendBack else mX3_pass)))))) else (bif Nat.blt y 84 then (bif Nat.blt y 70 then (bif Nat.blt y 63 then (bif Nat.blt y 59 then (bif Nat.blt y 57 then mX3_letOut else (bif Nat.blt y 58 then mX3_takeIn else mX3_called)) else (bif Nat.blt y 61 then (bif Nat.blt y 60 then mX3_goOn else mX3_age) else (bif Nat.blt y 62 then mX3_cool else mX3_warm))) else (bif Nat.blt y 66 then (bif Nat.blt y 64 then mX3_lose else (bif Nat.blt y 65 then mX4_init else mX4_search)) else (bif Nat.blt y 68 then (bif Nat.blt y 67 then mX4_fill else mX4_isNeedless) else (bif Nat.blt y 69 then mX4_weigh else mX5_init)))) else (bif Nat.blt y 77 then (bif Nat.blt y 73 then (bif Nat.blt y 71 then mX5_isRow else (bif Nat.blt y 72 then mX5_isLane else mX5_isMissing)) else (bif Nat.blt y 75 then (bif Nat.blt y 74 then mX5_covers else mX5_begin) else (bif Nat.blt y 76 then mX5_put else mX5_lose))) else (bif Nat.blt y 80 then (bif Nat.blt y 78 then mX5_present else (bif Nat.blt y 79 then mX6_init else mX6_isFull)) else (bif Nat.blt y 82 then (bif Nat.blt y 81 then mX6_add else mX6_tells) else (bif Nat.blt y 83 then mX6_readLaw else mX6_readDishes))))) else (bif Nat.blt y 98 then (bif Nat.blt y 91 then (bif Nat.blt y 87 then (bif Nat.blt y 85 then mX6_readDish else (bif Nat.blt y 86 then mX6_kindOf else mX6_readNumber)) else (bif Nat.blt y 89 then (bif Nat.blt y 88 then mX6_isFigure else mX6_readByte) else (bif Nat.blt y 90 then mX6_fails else mX7_init))) else (bif Nat.blt y 94 then (bif Nat.blt y 92 then mX7_row else (bif Nat.blt y 93 then mX7_set else mX7_copy)) else (bif Nat.blt y 96 then (bif Nat.blt y 95 then mX7_drop else mX7_feed) else (bif Nat.blt y 97 then mX7_house else mX7_fault)))) else (bif Nat.blt y 105 then (bif Nat.blt y 101 then (bif Nat.blt y 99 then mX7_undo else (bif Nat.blt y 100 then mX7_minutes else mX7_pull)) else (bif Nat.blt y 103 then (bif Nat.blt y 102 then mX7_rope else mX7_room) else (bif Nat.blt y 104 then mX7_send else mX7_dish))) else (bif Nat.blt y 109 then (bif Nat.blt y 107 then (bif Nat.blt y 106 then mX7_car else mX7_ahead) else (bif Nat.blt y 108 then mX7_later else mX7_when)) else (bif Nat.blt y 111 then (bif Nat.blt y 110 then mX7_done else mX7_fine) else (bif Nat.blt y 112 then mX7_site else mX7_need))))))) else (bif Nat.blt y 169 then (bif Nat.blt y 141 then (bif Nat.blt y 127 then (bif Nat.blt y 120 then (bif Nat.blt y 116 then (bif Nat.blt y 114 then mX7_ranks else (bif Nat.blt y 115 then mX7_holds else mX7_share)) else (bif Nat.blt y 118 then (bif Nat.blt y 117 then mX7_byTurns else mX7_who) else (bif Nat.blt y 119 then mX7_stuck else mX7_drawn))) else (bif Nat.blt y 123 then (bif Nat.blt y 121 then mX7_image else (bif Nat.blt y 122 then mX7_restore else mX7_kind)) else (bif Nat.blt y 125 then (bif Nat.blt y 124 then mX7_as else mX7_ask) else (bif Nat.blt y 126 then mX7_trace else mX7_count)))) else (bif Nat.blt y 134 then (bif Nat.blt y 130 then (bif Nat.blt y 128 then mX7_status else (bif Nat.blt y 129 then mX7_found else mX7_foundNothing)) else (bif Nat.blt y 132 then (bif Nat.blt y 131 then mX7_isOutside else mX8_init) else (bif Nat.blt y 133 then mX8_in else mX8_has))) else (bif Nat.blt y 137 then (bif Nat.blt y 135 then mX8_ones else (bif Nat.blt y 136 then mX8_copyOf else mX8_isDish)) else (bif Nat.blt y 139 then (bif Nat.blt y 138 then mX8_isFloor else mX8_isHouse) else (bif Nat.blt y 140 then mX8_isRow else mX8_finds))))) else (bif Nat.blt y 155 then (bif Nat.blt y 148 then (bif Nat.blt y 144 then (bif Nat.blt y 142 then mX8_against else (bif Nat.blt y 143 then mX8_row else mX8_set)) else (bif Nat.blt y 146 then (bif Nat.blt y 145 then mX8_copy else mX8_drop) else (bif Nat.blt y 147 then mX8_feed else mX8_here))) else (bif Nat.blt y 151 then (bif Nat.blt y 149 then mX8_fails else (bif Nat.blt y 150 then mX8_takes else mX8_takesNumber)) else (bif Nat.blt y 153 then (bif Nat.blt y 152 then mX8_kindOf else mX8_takesLaw) else (bif Nat.blt y 154 then mX8_takesDish else mX8_takesAll)))) else (bif Nat.blt y 162 then (bif Nat.blt y 158 then (bif Nat.blt y 156 then mX8_house else (bif Nat.blt y 157 then mX8_fault else mX8_insideOf)) else (bif Nat.blt y 160 then (bif Nat.blt y 159 then mX8_servedOf else mX8_weightOf) else (bif Nat.blt y 161 then mX8_serves else mX8_calledOf))) else (bif Nat.blt y 165 then (bif Nat.blt y 163 then mX8_goes else (bif Nat.blt y 164 then mX8_cools else mX8_coolsOne)) else (bif Nat.blt y 167 then (bif Nat.blt y 166 then mX8_passes else mX8_isGood) else (bif Nat.blt y 168 then mX8_fineOf else mX8_heatServed)))))) else (bif Nat.blt y 197 then (bif Nat.blt y 183 then (bif Nat.blt y 176 then (bif Nat.blt y 172 then (bif Nat.blt y 170 then mX8_heatOf else (bif Nat.blt y 171 then mX8_minds else mX8_undo)) else (bif Nat.blt y 174 then (bif Nat.blt y 173 then mX8_minutes else mX8_pull) else (bif Nat.blt y 175 then mX8_rope else mX8_room))) else (bif Nat.blt y 179 then (bif Nat.blt y 177 then mX8_sendsBack else (bif Nat.blt y 178 then mX8_send else mX8_dish)) else (bif Nat.blt y 181 then (bif Nat.blt y 180 then mX8_car else mX8_tries) else (bif Nat.blt y 182 then mX8_goesOn else mX8_ahead)))) else (bif Nat.blt y 190 then (bif Nat.blt y 186 then (bif Nat.blt y 184 then mX8_later else (bif Nat.blt y 185 then mX8_allServed else mX8_when)) else (bif Nat.blt y 188 then (bif Nat.blt y 187 then mX8_done else mX8_fine) else (bif Nat.blt y 189 then mX8_site else mX8_need))) else (bif Nat.blt y 193 then (bif Nat.blt y 191 then mX8_waitsBy else (bif Nat.blt y 192 then mX8_bestRanks else mX8_ranks)) else (bif Nat.blt y 195 then (bif Nat.blt y 194 then mX8_holds else mX8_share) else (bif Nat.blt y 196 then mX8_heatFrom else mX8_byTurns))))) else (bif Nat.blt y 211 then (bif Nat.blt y 204 then (bif Nat.blt y 200 then (bif Nat.blt y 198 then mX8_isSo else (bif Nat.blt y 199 then mX8_who else mX8_stuck)) else (bif Nat.blt y 202 then (bif Nat.blt y 201 then mX8_drawn else mX8_image) else (bif Nat.blt y 203 then mX8_restore else mX8_kind))) else (bif Nat.blt y 207 then (bif Nat.blt y 205 then mX8_isA else (bif Nat.blt y 206 then mX8_as else mX8_traces)) else (bif Nat.blt y 209 then (bif Nat.blt y 208 then mX8_size10 else mX8_size11) else (bif Nat.blt y 210 then mX8_size13 else mX8_sizeOf)))) else (bif Nat.blt y 218 then (bif Nat.blt y 214 then (bif Nat.blt y 212 then mX8_mark20 else (bif Nat.blt y 213 then mX8_mark21 else mX8_markOf)) else (bif Nat.blt y 216 then (bif Nat.blt y 215 then mX8_mark23 else mX8_ask) else (bif Nat.blt y 217 then mX8_trace else mX8_rowsThere))) else (bif Nat.blt y 222 then (bif Nat.blt y 220 then (bif Nat.blt y 219 then mX8_waiting else mX8_count) else (bif Nat.blt y 221 then mX8_status else mJ6_bitCount_0f7a4)) else (bif Nat.blt y 224 then (bif Nat.blt y 223 then mJ9_max_7cf53 else mJ9_min_7cf53) else (bif Nat.blt y 225 then mJ7_fill_53178 else mL_law))))))))
/-- the links: sort, own type, entry, two numbers, place of its word -/
def zLL : List (Nat × Nat × Nat × Nat × Nat × Nat) := [(3, 0, 1, 0, 0, 225), (7, 0, 9, 3, 0, 226), (0, 0, 11, 0, 0, 228), (0, 0, 15, 0, 2, 230), (0, 0, 19, 0, 1, 229), (2, 0, 22, 40, 0, 479), (1, 0, 23, 42, 0, 466), (1, 0, 27, 223, 0, 480), (3, 1, 1, 0, 0, 289), (0, 1, 9, 1, 0, 290), (8, 1, 13, 4010, 0, 582), (1, 1, 16, 6, 0, 579), (0, 1, 20, 1, 1, 292), (1, 1, 24, 9, 0, 842), (1, 1, 28, 10, 0, 849), (0, 1, 32, 3, 7, 174), (8, 1, 37, 4020, 0, 845), (8, 1, 40, 4030, 0, 847), (1, 1, 43, 11, 0, 853), (0, 1, 47, 3, 10, 187), (0, 1, 50, 3, 11, 191), (3, 2, 3, 0, 0, 244), (7, 2, 9, 3, 0, 245), (2, 2, 11, 40, 0, 246), (0, 2, 12, 2, 0, 247), (0, 2, 18, 2, 1, 249), (1, 2, 22, 42, 0, 602), (1, 2, 26, 14, 0, 603), (8, 2, 30, 4000, 0, 607), (1, 2, 34, 55, 0, 608), (1, 2, 38, 49, 0, 621), (5, 2, 42, 1000000, 1, 622), (0, 2, 43, 3, 0, 152), (1, 2, 47, 17, 0, 648), (0, 2, 51, 3, 4, 164), (1, 2, 54, 50, 0, 652), (1, 2, 57, 221, 0, 653), (0, 2, 63, 3, 2, 159), (1, 2, 66, 20, 0, 663), (0, 2, 70, 3, 1, 156), (1, 2, 73, 47, 0, 667), (1, 2, 76, 52, 0, 713), (1, 2, 79, 21, 0, 710), (1, 2, 83, 24, 0, 717), (1, 2, 87, 53, 0, 727), (0, 2, 90, 3, 11, 193), (0, 2, 93, 3, 6, 172), (1, 2, 96, 27, 0, 739), (1, 2, 100, 28, 0, 743), (1, 2, 103, 46, 0, 747), (1, 2, 107, 222, 0, 748), (1, 2, 113, 223, 0, 751), (1, 2, 116, 30, 0, 760), (1, 2, 120, 31, 0, 763), (1, 2, 124, 32, 0, 767), (0, 2, 130, 3, 7, 176), (6, 2, 133, 10, 0, 791), (1, 2, 135, 38, 0, 780), (1, 2, 139, 36, 0, 784), (0, 2, 143, 3, 8, 182), (1, 2, 146, 33, 0, 788), (1, 2, 150, 37, 0, 792), (1, 2, 154, 44, 0, 809), (6, 2, 158, 16807, 0, 810), (6, 2, 160, 2147483647, 0, 811), (6, 2, 162, 61, 0, 812), (1, 2, 164, 54, 0, 813), (6, 2, 168, 4, 0, 814), (3, 3, 1, 0, 0, 150), (0, 3, 9, 3, 7, 173), (0, 3, 13, 3, 8, 178), (0, 3, 16, 3, 9, 183), (0, 3, 19, 3, 10, 186), (0, 3, 22, 3, 11, 190), (0, 3, 25, 3, 0, 151), (0, 3, 29, 3, 1, 155), (0, 3, 32, 3, 2, 158), (0, 3, 35, 3, 3, 161), (0, 3, 38, 3, 4, 163), (0, 3, 41, 3, 5, 166), (0, 3, 44, 3, 6, 168), (1, 3, 47, 48, 0, 497), (1, 3, 51, 51, 0, 639), (1, 3, 57, 7, 0, 576), (1, 3, 61, 56, 0, 489), (1, 3, 64, 57, 0, 493), (1, 3, 68, 59, 0, 515), (1, 3, 72, 60, 0, 523), (1, 3, 76, 52, 0, 501), (1, 3, 79, 221, 0, 505), (1, 3, 84, 45, 0, 511), (1, 3, 87, 58, 0, 519), (1, 3, 91, 61, 0, 527), (1, 3, 95, 63, 0, 531), (1, 3, 98, 62, 0, 535), (3, 4, 1, 0, 0, 260), (7, 4, 7, 3, 0, 261), (2, 4, 9, 40, 0, 262), (0, 4, 10, 4, 0, 263), (0, 4, 16, 4, 1, 264), (0, 4, 19, 4, 2, 265), (0, 4, 23, 4, 3, 266), (0, 4, 26, 4, 4, 268), (1, 4, 30, 43, 0, 681), (1, 4, 34, 42, 0, 685), (5, 4, 40, 2147483647, 0, 686), (0, 4, 41, 4, 5, 269), (1, 4, 44, 66, 0, 687), (0, 4, 48, 3, 6, 169), (1, 4, 51, 68, 0, 691), (1, 4, 54, 67, 0, 699), (0, 4, 58, 3, 8, 179), (1, 4, 61, 49, 0, 695), (1, 4, 65, 221, 0, 696), (1, 4, 69, 55, 0, 697), (4, 4, 73, 0, 0, 698), (3, 5, 1, 0, 0, 101), (0, 5, 9, 5, 0, 107), (0, 5, 13, 5, 1, 109), (0, 5, 18, 5, 2, 110), (1, 5, 21, 224, 0, 104), (1, 5, 27, 72, 0, 869), (3, 6, 1, 0, 0, 125), (0, 6, 9, 6, 0, 126), (0, 6, 13, 6, 1, 127), (0, 6, 17, 6, 2, 129), (1, 6, 20, 82, 0, 406), (1, 6, 24, 83, 0, 429), (1, 6, 27, 88, 0, 410), (1, 6, 33, 86, 0, 418), (0, 6, 37, 6, 4, 133), (1, 6, 40, 41, 0, 425), (1, 6, 44, 84, 0, 433), (1, 6, 48, 85, 0, 437), (1, 6, 52, 89, 0, 414), (0, 6, 55, 3, 7, 175), (0, 6, 58, 3, 0, 153), (0, 6, 61, 3, 8, 180), (0, 6, 64, 3, 9, 184), (0, 6, 67, 3, 10, 188), (0, 6, 70, 3, 11, 192), (0, 6, 73, 3, 6, 171), (1, 6, 78, 87, 0, 422), (0, 6, 81, 6, 3, 132), (3, 7, 1, 0, 0, 93), (7, 7, 7, 5, 0, 96), (1, 7, 9, 69, 0, 98), (0, 7, 10, 7, 0, 299), (7, 7, 16, 6, 0, 120), (2, 7, 18, 78, 0, 122), (0, 7, 19, 7, 1, 300), (7, 7, 23, 3, 0, 145), (2, 7, 25, 40, 0, 147), (0, 7, 26, 7, 2, 301), (0, 7, 30, 7, 3, 302), (7, 7, 33, 0, 0, 220), (2, 7, 35, 0, 0, 222), (0, 7, 36, 7, 4, 303), (0, 7, 40, 7, 5, 304), (7, 7, 44, 2, 0, 239), (2, 7, 46, 12, 0, 241), (0, 7, 47, 7, 6, 305), (7, 7, 51, 4, 0, 255), (2, 7, 53, 64, 0, 257), (0, 7, 54, 7, 7, 306), (7, 7, 58, 1, 0, 284), (2, 7, 60, 5, 0, 286), (0, 7, 61, 7, 8, 307), (0, 7, 65, 7, 9, 308), (1, 7, 69, 70, 0, 334), (1, 7, 73, 71, 0, 337), (5, 7, 76, 1000001, 1, 340), (1, 7, 77, 128, 0, 341), (1, 7, 81, 74, 0, 346), (1, 7, 85, 129, 0, 350), (1, 7, 88, 72, 0, 358), (1, 7, 91, 73, 0, 362), (1, 7, 95, 75, 0, 366), (0, 7, 99, 5, 0, 108), (0, 7, 103, 5, 2, 111), (4, 7, 107, 0, 0, 374), (1, 7, 113, 76, 0, 381), (1, 7, 116, 79, 0, 389), (5, 7, 120, 1000003, 1, 393), (1, 7, 121, 80, 0, 394), (1, 7, 124, 81, 0, 402), (5, 7, 128, 1000100, 1, 440), (0, 7, 129, 6, 2, 130), (1, 7, 132, 42, 0, 441), (1, 7, 136, 2, 0, 445), (0, 7, 139, 3, 6, 170), (0, 7, 142, 6, 3, 131), (1, 7, 145, 1, 0, 457), (5, 7, 148, 1000002, 1, 461), (1, 7, 149, 4, 0, 462), (1, 7, 153, 44, 0, 471), (0, 7, 156, 3, 3, 162), (1, 7, 159, 3, 0, 475), (8, 7, 162, 4000, 0, 483), (1, 7, 165, 55, 0, 485), (1, 7, 169, 49, 0, 539), (1, 7, 173, 46, 0, 547), (0, 7, 176, 3, 4, 165), (0, 7, 179, 3, 2, 160), (0, 7, 182, 3, 1, 157), (1, 7, 185, 45, 0, 563), (0, 7, 188, 3, 8, 181), (0, 7, 191, 3, 9, 185), (1, 7, 194, 54, 0, 564), (0, 7, 197, 3, 10, 189), (0, 7, 200, 3, 11, 194), (1, 7, 203, 51, 0, 572), (0, 7, 206, 3, 0, 154), (0, 7, 209, 3, 5, 167), (1, 7, 212, 48, 0, 588), (1, 7, 215, 58, 0, 589), (1, 7, 218, 52, 0, 590), (1, 7, 221, 130, 0, 595), (1, 7, 224, 13, 0, 598), (1, 7, 228, 15, 0, 617), (1, 7, 232, 47, 0, 627), (1, 7, 235, 50, 0, 635), (1, 7, 238, 16, 0, 644), (1, 7, 242, 17, 0, 654), (1, 7, 245, 18, 0, 659), (1, 7, 248, 19, 0, 668), (5, 7, 251, 1000000, 1, 676), (1, 7, 252, 65, 0, 677), (0, 7, 256, 4, 5, 270), (0, 7, 259, 4, 3, 267), (1, 7, 262, 22, 0, 707), (1, 7, 265, 23, 0, 714), (1, 7, 268, 25, 0, 724), (1, 7, 271, 26, 0, 735), (1, 7, 274, 29, 0, 756), (6, 7, 278, 1000001, 1, 775), (1, 7, 280, 35, 0, 776), (1, 7, 284, 33, 0, 796), (1, 7, 288, 34, 0, 797), (5, 7, 292, 999999, 0, 804), (1, 7, 293, 39, 0, 805), (0, 7, 296, 2, 0, 248), (1, 7, 299, 53, 0, 815), (0, 7, 302, 3, 7, 177), (1, 7, 305, 6, 0, 832), (1, 7, 308, 7, 0, 833), (1, 7, 312, 8, 0, 838), (0, 7, 315, 1, 1, 293), (0, 7, 318, 1, 0, 291), (1, 7, 321, 77, 0, 865), (1, 7, 324, 221, 0, 870), (0, 7, 329, 0, 2, 231), (0, 7, 332, 6, 1, 128), (5, 7, 335, 1000010, 1, 345), (3, 8, 1, 0, 0, 880), (0, 8, 7, 8, 0, 881), (0, 8, 13, 8, 2, 883), (0, 8, 16, 8, 6, 887), (0, 8, 19, 8, 7, 888), (0, 8, 22, 8, 8, 889), (0, 8, 25, 8, 9, 890), (0, 8, 28, 8, 13, 894), (0, 8, 31, 8, 14, 895), (0, 8, 34, 8, 15, 896), (0, 8, 37, 8, 16, 897), (0, 8, 41, 8, 17, 898), (1, 8, 44, 132, 0, 948), (6, 8, 48, 7, 0, 947), (0, 8, 50, 8, 5, 886), (5, 8, 54, 1000010, 1, 957), (1, 8, 55, 139, 0, 944), (6, 8, 59, 2, 0, 951), (5, 8, 61, 1000001, 1, 952), (1, 8, 62, 140, 0, 953), (1, 8, 66, 141, 0, 962), (6, 8, 70, 255, 0, 978), (0, 8, 72, 8, 3, 884), (5, 8, 75, 1000003, 1, 979), (0, 8, 76, 8, 10, 891), (0, 8, 79, 8, 4, 885), (0, 8, 82, 8, 11, 892), (1, 8, 85, 147, 0, 996), (1, 8, 89, 148, 0, 1000), (0, 8, 93, 8, 12, 893), (6, 8, 96, 48, 0, 1008), (6, 8, 98, 57, 0, 1009), (1, 8, 100, 149, 0, 992), (1, 8, 103, 150, 0, 1004), (1, 8, 106, 151, 0, 1014), (1, 8, 109, 152, 0, 988), (1, 8, 113, 153, 0, 1010), (1, 8, 116, 154, 0, 984), (5, 8, 119, 1000100, 1, 1017), (1, 8, 120, 135, 0, 1018), (0, 8, 124, 8, 1, 882), (1, 8, 127, 133, 0, 1063), (1, 8, 130, 157, 0, 1052), (1, 8, 133, 134, 0, 1056), (1, 8, 136, 159, 0, 1059), (1, 8, 140, 161, 0, 1070), (1, 8, 143, 164, 0, 1078), (1, 8, 147, 160, 0, 1048), (1, 8, 151, 162, 0, 1066), (1, 8, 154, 163, 0, 1074), (1, 8, 158, 166, 0, 1121), (5, 8, 161, 1000002, 1, 1030), (1, 8, 162, 138, 0, 1035), (6, 8, 165, 24, 0, 1039), (1, 8, 167, 170, 0, 1040), (1, 8, 170, 165, 0, 1044), (1, 8, 173, 158, 0, 1082), (1, 8, 176, 137, 0, 1090), (6, 8, 179, 40, 0, 1098), (6, 8, 181, 4, 0, 1103), (1, 8, 183, 136, 0, 1108), (6, 8, 186, 60, 0, 1112), (1, 8, 188, 176, 0, 1113), (1, 8, 192, 180, 0, 1132), (1, 8, 195, 181, 0, 1136), (5, 8, 198, 1000000, 1, 1152), (1, 8, 199, 184, 0, 1148), (1, 8, 202, 167, 0, 1161), (5, 8, 205, 100000000, 0, 1181), (1, 8, 206, 190, 0, 1182), (1, 8, 209, 191, 0, 1177), (6, 8, 212, 999, 0, 1194), (1, 8, 214, 169, 0, 1195), (1, 8, 217, 168, 0, 1199), (6, 8, 220, 20, 0, 1207), (1, 8, 222, 195, 0, 1208), (6, 8, 225, 5, 0, 1216), (6, 8, 227, 12, 0, 1217), (1, 8, 229, 197, 0, 1218), (6, 8, 233, 8, 0, 1226), (6, 8, 235, 10, 0, 1227), (6, 8, 237, 1000001, 1, 1228), (6, 8, 239, 999999, 0, 1233), (6, 8, 241, 16807, 0, 1234), (6, 8, 243, 2147483647, 0, 1235), (6, 8, 245, 61, 0, 1236), (1, 8, 247, 204, 0, 1253), (0, 8, 250, 8, 18, 899), (1, 8, 253, 206, 0, 1264), (1, 8, 256, 207, 0, 1272), (1, 8, 259, 213, 0, 1276), (1, 8, 262, 208, 0, 1268), (1, 8, 265, 209, 0, 1288), (1, 8, 268, 211, 0, 1284), (1, 8, 271, 212, 0, 1280), (1, 8, 274, 210, 0, 1260), (1, 8, 277, 214, 0, 1292), (1, 8, 280, 217, 0, 1304), (1, 8, 283, 218, 0, 1308), (5, 10, 265, 1431655765, 0, 508), (5, 10, 266, 858993459, 0, 509), (5, 10, 267, 252645135, 0, 510), (7, 9, 7, 7, 0, 88), (1, 9, 9, 90, 0, 90), (7, 9, 10, 8, 0, 875), (1, 9, 12, 131, 0, 877), (1, 9, 13, 91, 0, 330), (1, 9, 17, 142, 0, 940), (1, 9, 18, 92, 0, 354), (1, 9, 21, 143, 0, 958), (1, 9, 22, 93, 0, 370), (1, 9, 26, 144, 0, 966), (1, 9, 27, 94, 0, 377), (1, 9, 31, 145, 0, 970), (1, 9, 32, 95, 0, 385), (1, 9, 35, 146, 0, 974), (1, 9, 36, 96, 0, 398), (1, 9, 40, 155, 0, 980), (1, 9, 41, 97, 0, 449), (1, 9, 44, 156, 0, 1022), (1, 9, 45, 98, 0, 453), (1, 9, 48, 171, 0, 1026), (1, 9, 49, 99, 0, 467), (1, 9, 52, 172, 0, 1031), (1, 9, 53, 100, 0, 543), (1, 9, 56, 173, 0, 1086), (1, 9, 57, 101, 0, 551), (1, 9, 60, 174, 0, 1094), (1, 9, 61, 102, 0, 555), (1, 9, 64, 175, 0, 1099), (1, 9, 65, 103, 0, 559), (1, 9, 68, 177, 0, 1104), (1, 9, 69, 104, 0, 568), (1, 9, 73, 178, 0, 1117), (1, 9, 74, 105, 0, 584), (1, 9, 77, 179, 0, 1124), (1, 9, 78, 106, 0, 591), (1, 9, 81, 182, 0, 1128), (1, 9, 82, 107, 0, 609), (1, 9, 85, 183, 0, 1140), (1, 9, 86, 108, 0, 613), (1, 9, 89, 185, 0, 1144), (1, 9, 90, 109, 0, 623), (1, 9, 93, 186, 0, 1153), (1, 9, 94, 110, 0, 631), (1, 9, 97, 187, 0, 1157), (1, 9, 98, 111, 0, 640), (1, 9, 101, 188, 0, 1165), (1, 9, 102, 112, 0, 655), (1, 9, 105, 189, 0, 1169), (1, 9, 106, 113, 0, 672), (1, 9, 109, 192, 0, 1173), (1, 9, 110, 114, 0, 703), (1, 9, 113, 193, 0, 1186), (1, 9, 114, 115, 0, 720), (1, 9, 117, 194, 0, 1190), (1, 9, 118, 116, 0, 731), (1, 9, 121, 196, 0, 1203), (1, 9, 122, 117, 0, 752), (1, 9, 125, 198, 0, 1212), (1, 9, 126, 118, 0, 771), (1, 9, 130, 199, 0, 1222), (1, 9, 131, 119, 0, 800), (1, 9, 134, 200, 0, 1229), (1, 9, 135, 120, 0, 816), (1, 9, 138, 201, 0, 1237), (1, 9, 139, 121, 0, 820), (1, 9, 142, 202, 0, 1241), (1, 9, 143, 122, 0, 824), (1, 9, 146, 203, 0, 1245), (1, 9, 147, 123, 0, 828), (1, 9, 150, 205, 0, 1249), (1, 9, 151, 124, 0, 834), (1, 9, 154, 215, 0, 1256), (1, 9, 155, 125, 0, 857), (1, 9, 158, 216, 0, 1296), (1, 9, 159, 126, 0, 861), (1, 9, 162, 219, 0, 1300), (1, 9, 163, 127, 0, 871), (1, 9, 166, 220, 0, 1312)]
end
section
/-! THE WORLD OF A LOGICAL MEMORY -/
abbrev zMem : Type := Nat → Int32
abbrev zLk : Type := Nat → Option Nat
def zcell (X : Nat) (κ : Nat → ClassId) (φ : Nat → Nat) (mem : zMem) (lk : zLk) (o : Nat) : va_E :=
  if kd o < 9 then .inr (kd o, (List.range (znf (kd o))).map (fun k => if zisI (kd o) k = true then Value.int (mem (o + zoff (kd o) k)) else va_rf ((lk (o + zoff (kd o) k)).map φ)))
  else if kd o < 11 then .inl (κ (kd o), ln X o, .inl (fun i => if i < ln X o then mem (o + i) else 0))
  else .inl (κ (kd o), ln X o, .inr (.inr (.inr (.inr (fun i => if i < ln X o then (lk (o + i)).map φ else none)))))
def zW (X : Nat) (κ : Nat → ClassId) (φ : Nat → Nat) (mem : zMem) (lk : zLk) (L : List Nat) : va_W := L.map (fun o => (φ o, zcell X κ φ mem lk o))
theorem zcell_congr {X : Nat} {κ κ' : Nat → ClassId} {φ φ' : Nat → Nat} {mem mem' : zMem} {lk lk' : zLk} {o : Nat} (ho : kd o ≤ 12)
    (hm : ∀ j, zhas X o j → mem' (o + j) = mem (o + j)) (hl : ∀ j, zhas X o j → (lk' (o + j)).map φ' = (lk (o + j)).map φ) (hk : 9 ≤ kd o → κ' (kd o) = κ (kd o)) :
    zcell X κ' φ' mem' lk' o = zcell X κ φ mem lk o := by
  unfold zcell
  by_cases h9 : kd o < 9
  · rw [if_pos h9, if_pos h9]
    congr 2
    apply List.map_congr_left
    intro k hk'
    have hh : zhas X o (zoff (kd o) k) := Or.inl ⟨h9, k, List.mem_range.mp hk', rfl⟩
    rw [hm _ hh, hl _ hh]
  · rw [if_neg h9, if_neg h9, hk (by omega)]
    have hh : ∀ i, i < ln X o → zhas X o i := fun i hi => Or.inr ⟨by omega, by omega, hi⟩
    by_cases h11 : kd o < 11
    · rw [if_pos h11, if_pos h11]
      have : (fun i => if i < ln X o then mem' (o + i) else 0) = (fun i => if i < ln X o then mem (o + i) else 0) := by
        funext i
        by_cases hi : i < ln X o
        · rw [if_pos hi, if_pos hi, hm _ (hh i hi)]
        · rw [if_neg hi, if_neg hi]
      rw [this]
    · rw [if_neg h11, if_neg h11]
      have : (fun i => if i < ln X o then (lk' (o + i)).map φ' else none) = (fun i => if i < ln X o then (lk (o + i)).map φ else none) := by
        funext i
        by_cases hi : i < ln X o
        · rw [if_pos hi, if_pos hi, hl _ (hh i hi)]
        · rw [if_neg hi, if_neg hi]
      rw [this]
theorem zW_get {X : Nat} {κ : Nat → ClassId} {φ : Nat → Nat} {mem : zMem} {lk : zLk} {L : List Nat} {k o : Nat} (h : L[k]? = some o) : (zW X κ φ mem lk L)[k]? = some (φ o, zcell X κ φ mem lk o) := by
  unfold zW
  rw [List.getElem?_map, h]; rfl
theorem zW_of {X : Nat} {κ : Nat → ClassId} {φ : Nat → Nat} {mem : zMem} {lk : zLk} {L : List Nat} {k : Nat} {q : Nat × va_E} (h : (zW X κ φ mem lk L)[k]? = some q) : ∃ o, L[k]? = some o ∧ q = (φ o, zcell X κ φ mem lk o) := by
  unfold zW at h
  rw [List.getElem?_map] at h
  cases hL : L[k]? with
  | none => rw [hL] at h; cases h
  | some o => rw [hL] at h; cases h; exact ⟨o, rfl, rfl⟩
theorem zW_set {X : Nat} {κ : Nat → ClassId} {φ : Nat → Nat} {mem mem' : zMem} {lk lk' : zLk} {L : List Nat} {k o : Nat} (h : L[k]? = some o) (hn : ∀ i, L[i]? = some o → i = k)
    (hc : ∀ o', o' ∈ L → o' ≠ o → zcell X κ φ mem' lk' o' = zcell X κ φ mem lk o') : (zW X κ φ mem lk L).set k (φ o, zcell X κ φ mem' lk' o) = zW X κ φ mem' lk' L := by
  apply List.ext_getElem?
  intro i
  unfold zW
  rw [List.getElem?_set]
  by_cases hi : k = i
  · subst hi
    rw [if_pos rfl, List.getElem?_map, h]
    have : k < (List.map (fun o => (φ o, zcell X κ φ mem lk o)) L).length := by
      rw [List.length_map]; exact (List.getElem?_eq_some_iff.mp h).1
    rw [if_pos this]; rfl
  · rw [if_neg hi, List.getElem?_map, List.getElem?_map]
    cases hL : L[i]? with
    | none => rfl
    | some o' =>
      have hne : o' ≠ o := fun e => hi (hn i (by rw [hL, e])).symm
      show some (φ o', zcell X κ φ mem lk o') = some (φ o', zcell X κ φ mem' lk' o')
      rw [hc o' (List.mem_of_getElem? hL) hne]
/-- values, in the machine's addresses -/
def ztr (φ : Nat → Nat) : Value → Value
  | .ref o => .ref (φ o)
  | v => v
theorem ztr_cat (φ : Nat → Nat) (v : Value) : (ztr φ v).category = v.category := by cases v <;> rfl
/-- a reference is of the world, or only read -/
def zin (L : List Nat) : Value → Prop
  | .ref o => o ∈ L ∨ kd o = 13
  | _ => True
def zins (L : List Nat) (vs : List Value) : Prop := ∀ v ∈ vs, zin L v
/-- the arrays that are only read, and the statics that hold them -/
def zst4 : List (Nat × String × String) := [(4000, "DishLift$House", "BY_NUMBER"), (4010, "DishLift$Asks", "NEXT_KIND"), (4020, "DishLift$Asks", "SIZE_BODIES"), (4030, "DishLift$Asks", "MARK_BODIES")]
def zXt (X : Nat) (A : Nat → Prop) (φ : Nat → Nat) (mem : zMem) (s : State) (H : Heap) : Prop :=
  (∀ o, kd o = 13 → va_T .int (φ o) (ln X o) (fun i => .int (mem (o + i))) A s H) ∧ ∀ q ∈ zst4, va_Z q.2.1 q.2.2 "[I" (.ref (φ q.1)) A s H
/-- the heap holds the memory -/
def zSm (X : Nat) (A : Nat → Prop) (D : va_G) (κ : Nat → ClassId) (φ : Nat → Nat) (mem : zMem) (lk : zLk) (L : List Nat) (s : State) (H : Heap) : Prop :=
  va_P D vwCl (zW X κ φ mem lk L) H ∧ va_D A (zW X κ φ mem lk L) ∧ va_K D vwCl [] s ∧ (∀ o ∈ L, ∀ ty, zaty (kd o) = some ty → ArrOfT s (κ (kd o)) ty ∧ va_RA s (κ (kd o)) ty) ∧
  (∀ o ∈ L, kd o ≤ 12) ∧ (∀ o ∈ L, ∀ j, zhas X o j → ∀ t, lk (o + j) = some t → t ∈ L)
theorem zSm.inj {X : Nat} {A : Nat → Prop} {D : va_G} {κ : Nat → ClassId} {φ : Nat → Nat} {mem : zMem} {lk : zLk} {L : List Nat} {s : State} {H : Heap} (h : zSm X A D κ φ mem lk L s H) {i j o : Nat} (hi : L[i]? = some o) (hj : L[j]? = some o) : i = j :=
  h.2.1.1 i j _ _ (zW_get hi) (zW_get hj) rfl
theorem zSm.moved {X : Nat} {A : Nat → Prop} {D : va_G} {κ : Nat → ClassId} {φ : Nat → Nat} {mem : zMem} {lk : zLk} {L : List Nat} {s U : State} {H : Heap} (hvm : s.vm.Alike U.vm) (h : zSm X A D κ φ mem lk L s H) : zSm X A D κ φ mem lk L U H :=
  ⟨h.1, h.2.1, va_K.moved hvm h.2.2.1, fun o ho ty hty => ⟨arrOfT_moved hvm (h.2.2.2.1 o ho ty hty).1, (h.2.2.2.1 o ho ty hty).2.moved hvm⟩, h.2.2.2.2.1, h.2.2.2.2.2⟩
theorem zXt.moved {X : Nat} {A : Nat → Prop} {φ : Nat → Nat} {mem : zMem} {s U : State} {H : Heap} (hvm : s.vm.Alike U.vm) (h : zXt X A φ mem s H) : zXt X A φ mem U H :=
  ⟨fun o ho => (h.1 o ho).moved hvm, fun q hq => (h.2 q hq).moved hvm⟩
theorem zXt.kept {X : Nat} {A : Nat → Prop} {φ : Nat → Nat} {mem : zMem} {s : State} {H H1 : Heap} (h : zXt X A φ mem s H) (hq : ∀ a : Nat, a < H.size → ¬ A a → H1[a]? = H[a]?) : zXt X A φ mem s H1 :=
  ⟨fun o ho => (h.1 o ho).kept hq, fun q hq' => (h.2 q hq').kept hq⟩
/-- the memory of what is only read, and its addresses, stay -/
def zsameX (X : Nat) (φ φ' : Nat → Nat) (mem mem' : zMem) : Prop := (∀ o, kd o = 13 → φ' o = φ o) ∧ ∀ o, kd o = 13 → ∀ i, mem' (o + i) = mem (o + i)
theorem zst4_kd : ∀ q ∈ zst4, kd q.1 = 13 := by decide +kernel
theorem zXt.same {X : Nat} {A : Nat → Prop} {φ φ' : Nat → Nat} {mem mem' : zMem} {s : State} {H : Heap} (h : zXt X A φ mem s H) (h1 : ∀ o, kd o = 13 → φ' o = φ o) (h2 : ∀ o, kd o = 13 → ∀ i, i < ln X o → mem' (o + i) = mem (o + i)) : zXt X A φ' mem' s H := by
  refine ⟨fun o ho => ?_, fun q hq => ?_⟩
  · have := h.1 o ho
    rw [h1 o ho]
    obtain ⟨cell, a1, a2, a3, a4, a5, a6, a7⟩ := this
    exact ⟨cell, a1, a2, a3, a4, a5, fun j hj => by rw [a6 j hj]; show some (Value.int (mem (o + j))) = some (Value.int (mem' (o + j))); rw [h2 o ho j hj], a7⟩
  · rw [h1 _ (zst4_kd q hq)]; exact h.2 q hq
/-- storing a number at a word of an id of the world -/
theorem mo_ne {X o o' j j' : Nat} (hX : X ≤ 3072) (h : zhas X o j) (h' : zhas X o' j') (hne : o' ≠ o) : o' + j' ≠ o + j := fun e => hne (by
  have a := mo_has hX h
  have b := mo_has hX h'
  rw [e, a] at b
  exact b.symm)
theorem upd_ne {f : Nat → Int32} {k j : Nat} {x : Int32} (h : j ≠ k) : upd f k x j = f j := if_neg h
theorem upd_eq {f : Nat → Int32} {k : Nat} {x : Int32} : upd f k x k = x := if_pos rfl
theorem zXt.sto {X : Nat} {A : Nat → Prop} {φ : Nat → Nat} {mem : zMem} {s : State} {H : Heap} (hX : X ≤ 3072) (h : zXt X A φ mem s H) {o j : Nat} (ho : kd o ≤ 12) (hj : zhas X o j) (x : Int32) : zXt X A φ (upd mem (o + j) x) s H := by
  refine h.same (fun _ _ => rfl) (fun o' ho' i hi => upd_ne (mo_ne hX hj (Or.inr ⟨by omega, by omega, hi⟩) (fun e => by subst e; omega)))
/-- the world behind a store of a number -/
theorem zSm.sto {X : Nat} {A : Nat → Prop} {D : va_G} {κ : Nat → ClassId} {φ : Nat → Nat} {mem : zMem} {lk : zLk} {L : List Nat} {s : State} {H H1 : Heap} (hX : X ≤ 3072) (h : zSm X A D κ φ mem lk L s H) {k o j : Nat} (hk : L[k]? = some o) (hj : zhas X o j) (x : Int32)
    (hP : va_P D vwCl ((zW X κ φ mem lk L).set k (φ o, zcell X κ φ (upd mem (o + j) x) lk o)) H1) (hD : va_D A ((zW X κ φ mem lk L).set k (φ o, zcell X κ φ (upd mem (o + j) x) lk o))) : zSm X A D κ φ (upd mem (o + j) x) lk L s H1 := by
  have e := zW_set (X := X) (κ := κ) (φ := φ) (mem := mem) (mem' := upd mem (o + j) x) (lk := lk) (lk' := lk) hk (fun i hi => h.inj hi hk) (fun o' ho' hne => zcell_congr (h.2.2.2.2.1 o' ho') (fun j' hj' => upd_ne (mo_ne hX hj hj' hne)) (fun _ _ => rfl) (fun _ => rfl))
  rw [e] at hP hD
  exact ⟨hP, hD, h.2.2.1, h.2.2.2.1, h.2.2.2.2.1, h.2.2.2.2.2⟩
/-- the world behind a store of a reference -/
theorem zSm.stl {X : Nat} {A : Nat → Prop} {D : va_G} {κ : Nat → ClassId} {φ : Nat → Nat} {mem : zMem} {lk : zLk} {L : List Nat} {s : State} {H H1 : Heap} (hX : X ≤ 3072) (h : zSm X A D κ φ mem lk L s H) {k o j v : Nat} (hk : L[k]? = some o) (hj : zhas X o j) (hv : v ∈ L)
    (hP : va_P D vwCl ((zW X κ φ mem lk L).set k (φ o, zcell X κ φ mem (va_up lk (o + j) (some v)) o)) H1) (hD : va_D A ((zW X κ φ mem lk L).set k (φ o, zcell X κ φ mem (va_up lk (o + j) (some v)) o))) : zSm X A D κ φ mem (va_up lk (o + j) (some v)) L s H1 := by
  have e := zW_set (X := X) (κ := κ) (φ := φ) (mem := mem) (mem' := mem) (lk := lk) (lk' := va_up lk (o + j) (some v)) hk (fun i hi => h.inj hi hk) (fun o' ho' hne => zcell_congr (h.2.2.2.2.1 o' ho') (fun _ _ => rfl) (fun j' hj' => by rw [va_up_ne _ _ (mo_ne hX hj hj' hne)]) (fun _ => rfl))
  rw [e] at hP hD
  refine ⟨hP, hD, h.2.2.1, h.2.2.2.1, h.2.2.2.2.1, fun o' ho' j' hj' t ht => ?_⟩
  by_cases e2 : o' + j' = o + j
  · rw [e2] at ht
    have : va_up lk (o + j) (some v) (o + j) = some v := if_pos rfl
    rw [this] at ht; cases ht; exact hv
  · rw [va_up_ne _ _ e2] at ht
    exact h.2.2.2.2.2 o' ho' j' hj' t ht
/-- a new id: its words are clean -/
def zclr (o : Nat) (mem : zMem) : zMem := fun x => if mo x = o then 0 else mem x
def zclk (o : Nat) (lk : zLk) : zLk := fun x => if mo x = o then none else lk x
theorem zclr_in {X o j : Nat} (hX : X ≤ 3072) (mem : zMem) (h : zhas X o j) : zclr o mem (o + j) = 0 := if_pos (mo_has hX h)
theorem zclk_in {X o j : Nat} (hX : X ≤ 3072) (lk : zLk) (h : zhas X o j) : zclk o lk (o + j) = none := if_pos (mo_has hX h)
theorem zclr_out {X o o' j : Nat} (hX : X ≤ 3072) (mem : zMem) (h : zhas X o' j) (hne : o' ≠ o) : zclr o mem (o' + j) = mem (o' + j) := if_neg (by rw [mo_has hX h]; exact hne)
theorem zclk_out {X o o' j : Nat} (hX : X ≤ 3072) (lk : zLk) (h : zhas X o' j) (hne : o' ≠ o) : zclk o lk (o' + j) = lk (o' + j) := if_neg (by rw [mo_has hX h]; exact hne)
theorem zW_push {X : Nat} {κ κ' : Nat → ClassId} {φ φ' : Nat → Nat} {mem mem' : zMem} {lk lk' : zLk} {L : List Nat} {o q : Nat} {ce : va_E} (hφ : φ' o = q) (hce : zcell X κ' φ' mem' lk' o = ce)
    (hc : ∀ o' ∈ L, (φ' o', zcell X κ' φ' mem' lk' o') = (φ o', zcell X κ φ mem lk o')) : zW X κ φ mem lk L ++ [(q, ce)] = zW X κ' φ' mem' lk' (L ++ [o]) := by
  unfold zW
  rw [List.map_append]
  congr 1
  · exact List.map_congr_left (fun o' ho' => (hc o' ho').symm)
  · rw [List.map_singleton, hφ, hce]
theorem zSm.push {X : Nat} {A : Nat → Prop} {D : va_G} {κ κ' : Nat → ClassId} {φ : Nat → Nat} {mem : zMem} {lk : zLk} {L : List Nat} {s : State} {H H1 : Heap} (hX : X ≤ 3072) (h : zSm X A D κ φ mem lk L s H) {o q : Nat} {ce : va_E} (ho : o ∉ L) (hko : kd o ≤ 12)
    (hκ : ∀ o' ∈ L, 9 ≤ kd o' → κ' (kd o') = κ (kd o')) (hty : ∀ ty, zaty (kd o) = some ty → ArrOfT s (κ' (kd o)) ty ∧ va_RA s (κ' (kd o)) ty)
    (hce : zcell X κ' (va_up φ o q) (zclr o mem) (zclk o lk) o = ce) (hP : va_P D vwCl (zW X κ φ mem lk L ++ [(q, ce)]) H1) (hD : va_D A (zW X κ φ mem lk L ++ [(q, ce)])) :
    zSm X A D κ' (va_up φ o q) (zclr o mem) (zclk o lk) (L ++ [o]) s H1 := by
  have hne : ∀ o' ∈ L, o' ≠ o := fun o' h1 e => ho (by rw [← e]; exact h1)
  have e := zW_push (X := X) (κ := κ) (κ' := κ') (φ := φ) (φ' := va_up φ o q) (mem := mem) (mem' := zclr o mem) (lk := lk) (lk' := zclk o lk) (L := L) (o := o) (q := q) (if_pos rfl) hce (fun o' ho' => by
    have h1 : va_up φ o q o' = φ o' := if_neg (hne o' ho')
    rw [h1]
    rw [zcell_congr (κ := κ) (φ := φ) (mem := mem) (lk := lk) (h.2.2.2.2.1 o' ho') (fun j hj => zclr_out hX mem hj (hne o' ho')) (fun j hj => ?_) (hκ o' ho')]
    rw [zclk_out hX lk hj (hne o' ho')]
    cases hl : lk (o' + j) with
    | none => rfl
    | some t =>
      show some (va_up φ o q t) = some (φ t)
      have ht := h.2.2.2.2.2 o' ho' j hj t hl
      exact congrArg some (if_neg (hne t ht)))
  rw [e] at hP hD
  refine ⟨hP, hD, h.2.2.1, fun o' ho' ty hy => ?_, fun o' ho' => ?_, fun o' ho' j hj t ht => ?_⟩
  · rcases List.mem_append.mp ho' with h1 | h1
    · have := h.2.2.2.1 o' h1 ty hy
      have h9 : 9 ≤ kd o' := by
        rcases Nat.lt_or_ge (kd o') 9 with g | g
        · exfalso
          rcases (show kd o' = 0 ∨ kd o' = 1 ∨ kd o' = 2 ∨ kd o' = 3 ∨ kd o' = 4 ∨ kd o' = 5 ∨ kd o' = 6 ∨ kd o' = 7 ∨ kd o' = 8 by omega) with g | g | g | g | g | g | g | g | g <;> rw [g] at hy <;> cases hy
        · exact g
      rw [hκ o' h1 h9]; exact this
    · rw [List.mem_singleton.mp h1] at hy ⊢
      exact hty ty hy
  · rcases List.mem_append.mp ho' with h1 | h1
    · exact h.2.2.2.2.1 o' h1
    · rw [List.mem_singleton.mp h1]; exact hko
  · rcases List.mem_append.mp ho' with h1 | h1
    · rw [zclk_out hX lk hj (hne o' h1)] at ht
      exact List.mem_append_left _ (h.2.2.2.2.2 o' h1 j hj t ht)
    · have e2 := List.mem_singleton.mp h1
      subst e2
      rw [zclk_in hX lk hj] at ht
      cases ht
theorem zXt.push {X : Nat} {A : Nat → Prop} {φ : Nat → Nat} {mem : zMem} {s : State} {H : Heap} (hX : X ≤ 3072) (h : zXt X A φ mem s H) {o q : Nat} (ho : kd o ≤ 12) : zXt X A (va_up φ o q) (zclr o mem) s H := by
  have hne : ∀ o', kd o' = 13 → o' ≠ o := fun o' h1 e => by subst e; omega
  exact h.same (fun o' h1 => if_neg (hne o' h1)) (fun o' h1 i hi => zclr_out hX mem (Or.inr ⟨by omega, by omega, hi⟩) (hne o' h1))
/-- the tables' words that every state behind keeps -/
def zgd : List Cond := lw_tbl.filter goodWord
theorem zgd_in {w : Cond} {i : Nat} (h : lw_tbl[i]? = some w) (g : goodWord w = true) : w ∈ zgd := List.mem_filter.mpr ⟨List.mem_of_getElem? h, g⟩
theorem zgd_good : ∀ ws : List Cond, (∀ w ∈ ws, w ∈ zgd) → GoodIn zgd ws := fun ws h w hw => ⟨h w hw, good_of_word (List.mem_filter.mp (h w hw)).2⟩
/-- the words on private constructors of nest mates -/
def zisN : Cond → Bool
  | .methodLinkNest .. => true
  | _ => false
def znw : List Cond := lw_tbl.filter zisN
theorem znw_in {w : Cond} {i : Nat} (h : lw_tbl[i]? = some w) (g : zisN w = true) : w ∈ znw := List.mem_filter.mpr ⟨List.mem_of_getElem? h, g⟩
theorem znw_warm {s U : State} (hW : s.WarmedH U.vm) (h : ∀ w ∈ znw, va_Nw w s) : ∀ w ∈ znw, va_Nw w U := fun w hw => by
  have hn := (List.mem_filter.mp hw).2
  have h1 := h w hw
  cases w <;> first | (cases hn; done) | exact va_Nw.warmM hW h1
end
section
/-! THE WALK: zE (from a place in a method), zOk (a call), zst (a row as a condition), zwp (rows as a condition) -/
abbrev zU : Value := .retAddr 0
abbrev zmN (y : Nat) : MethodName := (zm y).1
abbrev zmB (y : Nat) : ByteArray := (zm y).2.1
abbrev zmL (y : Nat) : Nat := (zm y).2.2.1
abbrev zmR (y : Nat) : Option FieldType := (zm y).2.2.2.1
abbrev zmT (y : Nat) : List zR := (zm y).2.2.2.2.1
abbrev zmF (y : Nat) : List Nat := (zm y).2.2.2.2.2
def zown (i : Nat) : String := [RX0, RX1, RX2, RX3, RX4, RX5, RX6, RX7, RX8, RL, RJ6, RJ9, RJ7].getD i ""
abbrev zmo (y : Nat) : Nat := (zmF y).getD 8 99
abbrev zmO (y : Nat) : String := zown (zmo y)
/-- what stands all through a method's body -/
def zCx (d y : Nat) (p : Program) (R : Room) (s : State) (m : MethodId) (args : Array Value) (meth : Method) (c : Code) : Prop :=
  0 < d ∧ p.tables.exec = Jvm.exec ∧ c.code = zmB y ∧ meth.sig.returnType = zmR y ∧ c.maxLocals = zmL y ∧ s.vm.findClass (zmO y) = some m.cls ∧ meth.locks = false ∧ meth.name = (zmN y).name ∧
  (∀ w ∈ zgd, w.before args s = true) ∧ (∀ w ∈ znw, va_Nw w s) ∧ va_AO "DishLift$House" s ∧ d ≤ R.frames ∧ 100 * d ≤ R.locals
/-- the locals -/
def zLs (φ : Nat → Nat) (n : Nat) (ls : List Value) (la : Array Slot) : Prop := la.size = n ∧ lv_wf la ∧ ls.length = n ∧ ∀ (i : Nat) (v : Value), ls[i]? = some v → v ≠ zU → la[i]? = some (.val (ztr φ v))
/-- where a method may return, and with what -/
def zRet (y pc : Nat) (r : Option Value) : Prop := match r with
  | some (.int v) => decode (zmB y) pc = .ok (.ireturn, 1) ∧ (zmR y = some .int ∨ (zmR y = some .boolean ∧ narrow .boolean (.int v) = .int v))
  | some (.long _) => decode (zmB y) pc = .ok (.lreturn, 1) ∧ zmR y = some .long
  | some (.ref _) => decode (zmB y) pc = .ok (.areturn, 1) ∧ ∃ C, zmR y = some (.object C)
  | none => decode (zmB y) pc = .ok (.return_, 1) ∧ zmR y = none
  | _ => False
def zE (X d y pc : Nat) (ls st : List Value) (mem : zMem) (lk : zLk) (L : List Nat) (lkf : zLk) (Lf : List Nat) (Q : Option Value → zMem → Prop) : Prop :=
  ∀ (p : Program) (l : Launch) (e : Env) (R : Room) (s : State) (m : MethodId) (args : Array Value) (below : List Frame) (meth : Method) (c : Code) (H : Heap) (locs : List Loc) (cells slots : Nat) (A : Nat → Prop) (D : va_G) (κ : Nat → ClassId) (φ : Nat → Nat) (Z : State → Prop) (la : Array Slot),
    X ≤ 3072 → zCx d y p R s m args meth c → zLs φ (zmL y) ls la → zSm X A D κ φ mem lk L s H → zXt X A φ mem s s.heap → va_S A s.heap H locs → (∀ q, s.heap.size ≤ q → A q) → zins L ls → zins L st →
    L.length ≤ Lf.length → cells + (Lf.length - L.length) ≤ R.cells → slots + 1300 * (Lf.length - L.length) ≤ R.slots →
    (∀ (r : Option Value) (mem' : zMem) (H' : Heap) (locs' : List Loc) (cells' slots' : Nat) (κ' : Nat → ClassId) (φ' : Nat → Nat) (pc' : Nat) (la' : Array Slot),
      Q r mem' → zSm X A D κ' φ' mem' lkf Lf s H' → zXt X A φ' mem' s s.heap → va_S A s.heap H' locs' → cells' ≤ R.cells → slots' ≤ R.slots → (∀ o, o ∈ L ∨ kd o = 13 → φ' o = φ o) → (∀ o ∈ L, o ∈ Lf) → (∀ v, r = some v → zin Lf v) → zRet y pc' r →
      W p l e R s m args below meth c H' locs' cells' slots' Z (F0 m pc' la' (r.map (ztr φ')).toList)) →
    W p l e R s m args below meth c H locs cells slots Z (F0 m pc la (st.map (ztr φ)))
/-- the room of a call d deep that makes n ids -/
def zRm (d n : Nat) : Room := { frames := d, cells := n, slots := 1300 * n, locals := 100 * d }
def zws (y : Nat) : List Cond := .code (zmN y) (zmB y) (zmL y) (zmR y) :: zgd
def zPre (X : Nat) (A : Nat → Prop) (D : va_G) (κ : Nat → ClassId) (φ : Nat → Nat) (args : List Value) (mem : zMem) (lk : zLk) (L : List Nat) (U : State) : Prop :=
  X ≤ 3072 ∧ zSm X A D κ φ mem lk L U U.heap ∧ zXt X A φ mem U U.heap ∧ (∀ q, U.heap.size ≤ q → A q) ∧ zins L args ∧ (∀ w ∈ znw, va_Nw w U) ∧ va_AO "DishLift$House" U
def zPost (X : Nat) (A : Nat → Prop) (D : va_G) (φ : Nat → Nat) (L : List Nat) (lkf : zLk) (Lf : List Nat) (Q : Option Value → zMem → Prop) : Array Value → State → Outcome → State → Prop := fun _ st oc t =>
  (∃ (r : Option Value) (mem' : zMem) (κ' : Nat → ClassId) (φ' : Nat → Nat), oc = .returned (r.map (ztr φ')) ∧ Q r mem' ∧ zSm X A D κ' φ' mem' lkf Lf t t.heap ∧ zXt X A φ' mem' t t.heap ∧ (∀ o, o ∈ L ∨ kd o = 13 → φ' o = φ o) ∧ (∀ o ∈ L, o ∈ Lf) ∧ (∀ v, r = some v → zin Lf v)) ∧ va_F A st t
/-- a call of method y, at most d deep: it comes back, with Q of its answer and the memory -/
def zOk (X d y : Nat) (args : List Value) (mem : zMem) (lk : zLk) (L : List Nat) (lkf : zLk) (Lf : List Nat) (Q : Option Value → zMem → Prop) : Prop :=
  0 < d ∧ ∀ (l : Launch) (A : Nat → Prop) (D : va_G) (κ : Nat → ClassId) (φ : Nat → Nat), Met l (zmN y) (zws y) (zRm d (Lf.length - L.length)) (va_Pc (args.map (ztr φ)) (zPre X A D κ φ args mem lk L)) (zPost X A D φ L lkf Lf Q) (Lf.length - L.length) (1300 * (Lf.length - L.length)) A
/-! the locals' moves -/
def zkl (ls : List Value) (i : Nat) : List Value := match i with
  | 0 => ls
  | k + 1 => match ls[k]? with
    | some (.long _) => ls.set k zU
    | some (.double _) => ls.set k zU
    | _ => ls
def zs1 (ls : List Value) (i : Nat) (v : Value) : List Value := (zkl ls i).set i v
def zs2 (ls : List Value) (i : Nat) (v : Value) : List Value := ((zkl ls i).set (i + 1) zU).set i v
def zfrom : List zR → Nat → List zR
  | [], _ => []
  | r :: l, pc => bif Nat.beq r.1 pc then r :: l else zfrom l pc
def zargs : List Value → List Value
  | [] => []
  | .long x :: vs => .long x :: zU :: zargs vs
  | .double x :: vs => .double x :: zU :: zargs vs
  | v :: vs => v :: zargs vs
def zpad (n : Nat) (l : List Value) : List Value := l ++ List.replicate (n - l.length) zU
abbrev zK : Type := List zR → List Value → List Value → zMem → zLk → List Nat → Prop
abbrev zB : Type := Nat → List Value → List Value → zMem → zLk → List Nat → Prop
def zjmp (tbl : List zR) (K : zK) (B : zB) (pc a : Nat) (ls st : List Value) (mem : zMem) (lk : zLk) (L : List Nat) : Prop := match Nat.ble a pc with
  | true => B a ls st mem lk L
  | false => K (zfrom tbl a) ls st mem lk L
def zpop : Nat → List Value → List Value → Option (List Value × List Value)
  | 0, acc, st => some (acc, st)
  | n + 1, acc, v :: st => zpop n (v :: acc) st
  | _ + 1, _, [] => none
def zcat (st : List Value) : Nat := (st.map fun v => v.category).sum
def zpush (r : Option Value) (st : List Value) : List Value := match r with
  | some v => v :: st
  | none => st
def zsw (x : Int32) (J : Nat → Prop) (dflt : Nat) : List (Nat × Nat) → Prop
  | [] => J dflt
  | (v, t) :: ts => (x = nI v → J t) ∧ (¬ x = nI v → zsw x J dflt ts)
/-! what stands on the stack, and in the locals -/
def zI1 (st : List Value) (k : Int32 → List Value → Prop) : Prop := match st with
  | .int x :: st' => k x st'
  | _ => False
def zI2 (st : List Value) (k : Int32 → Int32 → List Value → Prop) : Prop := match st with
  | .int z :: .int x :: st' => k z x st'
  | _ => False
def zL1 (st : List Value) (k : Int64 → List Value → Prop) : Prop := match st with
  | .long x :: st' => k x st'
  | _ => False
def zL2 (st : List Value) (k : Int64 → Int64 → List Value → Prop) : Prop := match st with
  | .long z :: .long x :: st' => k z x st'
  | _ => False
def zA1 (st : List Value) (k : Nat → List Value → Prop) : Prop := match st with
  | .ref o :: st' => k o st'
  | _ => False
def zIA (st : List Value) (k : Int32 → Nat → List Value → Prop) : Prop := match st with
  | .int i :: .ref o :: st' => k i o st'
  | _ => False
def zAA (st : List Value) (k : Nat → Nat → List Value → Prop) : Prop := match st with
  | .ref v :: .ref o :: st' => k v o st'
  | _ => False
def zIIA (st : List Value) (k : Int32 → Int32 → Nat → List Value → Prop) : Prop := match st with
  | .int v :: .int i :: .ref o :: st' => k v i o st'
  | _ => False
def zAIA (st : List Value) (k : Nat → Int32 → Nat → List Value → Prop) : Prop := match st with
  | .ref v :: .int i :: .ref o :: st' => k v i o st'
  | _ => False
def zlI (ls : List Value) (i : Nat) (k : Int32 → Prop) : Prop := match ls[i]? with
  | some (.int x) => k x
  | _ => False
def zlL (ls : List Value) (i : Nat) (k : Int64 → Prop) : Prop := match ls[i]? with
  | some (.long x) => k x
  | _ => False
def zlA (ls : List Value) (i : Nat) (k : Nat → Prop) : Prop := match ls[i]? with
  | some (.ref x) => k x
  | _ => False
def zlS (ls : List Value) (i : Nat) (k : Prop) : Prop := match ls[i]? with
  | some _ => k
  | _ => False
def zsg (b : Nat) (p n : Prop) : Prop := match b with
  | 0 => p
  | _ => n
def zcmp (c : ClassFile.Cond) (e ne lt ge gt le : Prop) : Prop := match c with
  | .eq => e
  | .ne => ne
  | .lt => lt
  | .ge => ge
  | .gt => gt
  | .le => le
def zcall (X d : Nat) (Lf : List Nat) (y' al : Nat) (args : List Value) (mem : zMem) (lk : zLk) (L : List Nat) (C : Option Value → zMem → zLk → List Nat → Prop) : Prop :=
  zsg al (zOk X (d - 1) y' args mem lk L lk L (fun r mem' => C r mem' lk L)) (∃ lk' L', L'.length ≤ Lf.length ∧ L.length ≤ L'.length ∧ zOk X (d - 1) y' args mem lk L lk' L' (fun r mem' => C r mem' lk' L'))
def zfit (st : List Value) (k : Prop) : Prop := match Nat.ble (zcat st) 8 with
  | true => k
  | false => False
def zts (ts : List (Nat × Nat)) (k : Nat → Nat → Prop) : Prop := match ts with
  | [(n, al)] => k n al
  | _ => False
def zargS (n : Nat) (st : List Value) (k : List Value → List Value → Prop) : Prop := match zpop n [] st with
  | some (args, st') => k args st'
  | none => False
def zargV (n : Nat) (st : List Value) (k : Nat → List Value → List Value → Prop) : Prop := match zpop (n + 1) [] st with
  | some (.ref o :: args, st') => k o args st'
  | _ => False
def zinv (b : Nat) (s v i n o c mx mn : Prop) : Prop := match b with
  | 0 => s
  | 1 => v
  | 2 => i
  | 3 => n
  | 4 => o
  | 5 => c
  | 6 => mx
  | 7 => mn
  | _ => False
def zcpS (st : List Value) (k : Int32 → Int32 → Nat → Int32 → Nat → List Value → Prop) : Prop := match st with
  | .int n :: .int dp :: .ref g :: .int sp :: .ref f :: st' => k n dp g sp f st'
  | _ => False
def zst (X d : Nat) (lkf : zLk) (Lf : List Nat) (Q : Option Value → zMem → Prop) (tbl : List zR) (K : zK) (B : zB) (r : zR) (nxt : List zR) (ls st : List Value) (mem : zMem) (lk : zLk) (L : List Nat) : Prop :=
  match r with
  | (pc, ins, _, _, a, b, _, ts) => match ins with
    | .iconst _ | .bipush _ | .sipush _ | .ldc _ | .ldc_w _ => zsg b (K nxt ls (.int (nI a) :: st) mem lk L) (K nxt ls (.int (-(nI a)) :: st) mem lk L)
    | .lconst _ | .ldc2_w _ => zsg b (K nxt ls (.long (lN a) :: st) mem lk L) (K nxt ls (.long (-(lN a)) :: st) mem lk L)
    | .iload_n k => zlI ls k (fun x => K nxt ls (.int x :: st) mem lk L)
    | .iload k => zlI ls k (fun x => K nxt ls (.int x :: st) mem lk L)
    | .lload_n k => zlL ls k (fun x => K nxt ls (.long x :: st) mem lk L)
    | .lload k => zlL ls k (fun x => K nxt ls (.long x :: st) mem lk L)
    | .aload_n k => zlA ls k (fun x => K nxt ls (.ref x :: st) mem lk L)
    | .aload k => zlA ls k (fun x => K nxt ls (.ref x :: st) mem lk L)
    | .istore_n k => zI1 st (fun x st' => zlS ls k (K nxt (zs1 ls k (.int x)) st' mem lk L))
    | .istore k => zI1 st (fun x st' => zlS ls k (K nxt (zs1 ls k (.int x)) st' mem lk L))
    | .astore_n k => zA1 st (fun x st' => zlS ls k (K nxt (zs1 ls k (.ref x)) st' mem lk L))
    | .astore k => zA1 st (fun x st' => zlS ls k (K nxt (zs1 ls k (.ref x)) st' mem lk L))
    | .lstore_n k => zL1 st (fun x st' => zlS ls ((k : Nat) + 1) (K nxt (zs2 ls k (.long x)) st' mem lk L))
    | .lstore k => zL1 st (fun x st' => zlS ls (k + 1) (K nxt (zs2 ls k (.long x)) st' mem lk L))
    | .iinc k _ => zlI ls k (fun x => zsg b (K nxt (zs1 ls k (.int (x + nI a))) st mem lk L) (K nxt (zs1 ls k (.int (x + -(nI a)))) st mem lk L))
    | .iadd => zI2 st (fun z x st' => K nxt ls (.int (x + z) :: st') mem lk L)
    | .isub => zI2 st (fun z x st' => K nxt ls (.int (x - z) :: st') mem lk L)
    | .imul => zI2 st (fun z x st' => K nxt ls (.int (x * z) :: st') mem lk L)
    | .iand => zI2 st (fun z x st' => K nxt ls (.int (x &&& z) :: st') mem lk L)
    | .ior => zI2 st (fun z x st' => K nxt ls (.int (x ||| z) :: st') mem lk L)
    | .ixor => zI2 st (fun z x st' => K nxt ls (.int (x ^^^ z) :: st') mem lk L)
    | .ishl => zI2 st (fun z x st' => K nxt ls (.int (x <<< (z &&& 31)) :: st') mem lk L)
    | .ishr => zI2 st (fun z x st' => K nxt ls (.int (x >>> (z &&& 31)) :: st') mem lk L)
    | .iushr => zI2 st (fun z x st' => K nxt ls (.int (x.toUInt32 >>> (z.toUInt32 &&& Int32.toUInt32 31)).toInt32 :: st') mem lk L)
    | .idiv => zI2 st (fun z x st' => ¬ z = 0 ∧ K nxt ls (.int (x / z) :: st') mem lk L)
    | .irem => zI2 st (fun z x st' => ¬ z = 0 ∧ K nxt ls (.int (x - x / z * z) :: st') mem lk L)
    | .ineg => zI1 st (fun x st' => K nxt ls (.int (-x) :: st') mem lk L)
    | .ladd => zL2 st (fun z x st' => K nxt ls (.long (x + z) :: st') mem lk L)
    | .lmul => zL2 st (fun z x st' => K nxt ls (.long (x * z) :: st') mem lk L)
    | .ldiv => zL2 st (fun z x st' => ¬ z = 0 ∧ K nxt ls (.long (x / z) :: st') mem lk L)
    | .lrem => zL2 st (fun z x st' => ¬ z = 0 ∧ K nxt ls (.long (x - x / z * z) :: st') mem lk L)
    | .lcmp => zL2 st (fun z x st' => K nxt ls (.int (lg_cmp x z) :: st') mem lk L)
    | .i2l => zI1 st (fun x st' => K nxt ls (.long x.toInt64 :: st') mem lk L)
    | .l2i => zL1 st (fun x st' => K nxt ls (.int x.toInt32 :: st') mem lk L)
    | .i2b => zI1 st (fun x st' => K nxt ls (.int x.toInt8.toInt32 :: st') mem lk L)
    | .i2s => zI1 st (fun x st' => K nxt ls (.int x.toInt16.toInt32 :: st') mem lk L)
    | .dup => (match st with
      | .int x :: st' => K nxt ls (.int x :: .int x :: st') mem lk L
      | .ref x :: st' => K nxt ls (.ref x :: .ref x :: st') mem lk L
      | _ => False)
    | .dup2 => zIA st (fun x o st' => K nxt ls (.int x :: .ref o :: .int x :: .ref o :: st') mem lk L)
    | .ifCond cnd _ => zI1 st (fun x st' => zcmp cnd ((x = 0 → zjmp tbl K B pc a ls st' mem lk L) ∧ (¬ x = 0 → K nxt ls st' mem lk L)) ((¬ x = 0 → zjmp tbl K B pc a ls st' mem lk L) ∧ (x = 0 → K nxt ls st' mem lk L)) ((x < 0 → zjmp tbl K B pc a ls st' mem lk L) ∧ (¬ x < 0 → K nxt ls st' mem lk L)) ((0 ≤ x → zjmp tbl K B pc a ls st' mem lk L) ∧ (¬ 0 ≤ x → K nxt ls st' mem lk L)) ((0 < x → zjmp tbl K B pc a ls st' mem lk L) ∧ (¬ 0 < x → K nxt ls st' mem lk L)) ((x ≤ 0 → zjmp tbl K B pc a ls st' mem lk L) ∧ (¬ x ≤ 0 → K nxt ls st' mem lk L)))
    | .if_icmp cnd _ => zI2 st (fun z x st' => zcmp cnd ((x = z → zjmp tbl K B pc a ls st' mem lk L) ∧ (¬ x = z → K nxt ls st' mem lk L)) ((¬ x = z → zjmp tbl K B pc a ls st' mem lk L) ∧ (x = z → K nxt ls st' mem lk L)) ((x < z → zjmp tbl K B pc a ls st' mem lk L) ∧ (¬ x < z → K nxt ls st' mem lk L)) ((z ≤ x → zjmp tbl K B pc a ls st' mem lk L) ∧ (¬ z ≤ x → K nxt ls st' mem lk L)) ((z < x → zjmp tbl K B pc a ls st' mem lk L) ∧ (¬ z < x → K nxt ls st' mem lk L)) ((x ≤ z → zjmp tbl K B pc a ls st' mem lk L) ∧ (¬ x ≤ z → K nxt ls st' mem lk L)))
    | .goto _ => zjmp tbl K B pc a ls st mem lk L
    | .ifnull _ => (match st with
      | .ref _ :: st' => K nxt ls st' mem lk L
      | .null :: st' => zjmp tbl K B pc a ls st' mem lk L
      | _ => False)
    | .ifnonnull _ => (match st with
      | .ref _ :: st' => zjmp tbl K B pc a ls st' mem lk L
      | .null :: st' => K nxt ls st' mem lk L
      | _ => False)
    | .tableswitch .. | .lookupswitch .. => zI1 st (fun x st' => zsw x (fun t => zjmp tbl K B pc t ls st' mem lk L) a ts)
    | .getfield _ => zA1 st (fun o st' => zts ts (fun _ i => zsg i (kd o = a ∧ ∃ t, lk (o + b) = some t ∧ K nxt ls (.ref t :: st') mem lk L) (kd o = a ∧ K nxt ls (.int (mem (o + b)) :: st') mem lk L)))
    | .putfield _ => zts ts (fun _ i => zsg i (zAA st (fun v o st' => kd o = a ∧ kd v ≠ 13 ∧ K nxt ls st' mem (va_up lk (o + b) (some v)) L)) (zIA st (fun v o st' => kd o = a ∧ K nxt ls st' (upd mem (o + b) v) lk L)))
    | .getstatic _ => K nxt ls (.ref a :: st) mem lk L
    | .iaload => zIA st (fun i o st' => (kd o = 9 ∨ kd o = 13) ∧ vp_in i (ln X o) ∧ K nxt ls (.int (mem (o + i.toNatClampNeg)) :: st') mem lk L)
    | .iastore => zIIA st (fun v i o st' => kd o = 9 ∧ vp_in i (ln X o) ∧ K nxt ls st' (upd mem (o + i.toNatClampNeg) v) lk L)
    | .baload => zIA st (fun i o st' => kd o = 10 ∧ vp_in i (ln X o) ∧ K nxt ls (.int (mem (o + i.toNatClampNeg)) :: st') mem lk L)
    | .bastore => zIIA st (fun v i o st' => kd o = 10 ∧ vp_in i (ln X o) ∧ vp_nar .boolean v = v ∧ K nxt ls st' (upd mem (o + i.toNatClampNeg) v) lk L)
    | .aaload => zIA st (fun i o st' => (kd o = 11 ∨ kd o = 12) ∧ vp_in i (ln X o) ∧ (lk (o + i.toNatClampNeg) = none → K nxt ls (.null :: st') mem lk L) ∧ (∀ t, lk (o + i.toNatClampNeg) = some t → K nxt ls (.ref t :: st') mem lk L))
    | .aastore => zAIA st (fun v i o st' => kd o = 11 ∧ kd v = 3 ∧ vp_in i (ln X o) ∧ K nxt ls st' mem (va_up lk (o + i.toNatClampNeg) (some v)) L)
    | .arraylength => zA1 st (fun o st' => (9 ≤ kd o ∧ kd o ≤ 13) ∧ K nxt ls (.int (nI (ln X o)) :: st') mem lk L)
    | .new _ => ∃ o, kd o = a ∧ o ∉ L ∧ L.length + 1 ≤ Lf.length ∧ K nxt ls (.ref o :: st) (zclr o mem) (zclk o lk) (L ++ [o])
    | .newarray .int => zI1 st (fun n st' => ∃ o, kd o = 9 ∧ n = nI (ln X o) ∧ o ∉ L ∧ L.length + 1 ≤ Lf.length ∧ K nxt ls (.ref o :: st') (zclr o mem) (zclk o lk) (L ++ [o]))
    | .newarray .boolean => zI1 st (fun n st' => ∃ o, kd o = 10 ∧ n = nI (ln X o) ∧ o ∉ L ∧ L.length + 1 ≤ Lf.length ∧ K nxt ls (.ref o :: st') (zclr o mem) (zclk o lk) (L ++ [o]))
    | .anewarray _ => zI1 st (fun n st' => ∃ o, kd o = 11 ∧ n = nI (ln X o) ∧ o ∉ L ∧ L.length + 1 ≤ Lf.length ∧ K nxt ls (.ref o :: st') (zclr o mem) (zclk o lk) (L ++ [o]))
    | .invokevirtual _ | .invokestatic _ | .invokespecial _ => zinv b
      (zts ts (fun n al => zargS n st (fun args st' => zfit st' (zcall X d Lf a al args mem lk L (fun r mem' lk' L' => K nxt ls (zpush r st') mem' lk' L')))))
      (zts ts (fun n al => zargV n st (fun o args st' => zfit st' ((zmF a)[7]? = some (kd o) ∧ zcall X d Lf a al (.ref o :: args) mem lk L (fun r mem' lk' L' => K nxt ls (zpush r st') mem' lk' L')))))
      (zts ts (fun n al => zargV n st (fun o args st' => zfit st' (zcall X d Lf a al (.ref o :: args) mem lk L (fun r mem' lk' L' => K nxt ls (zpush r st') mem' lk' L')))))
      (zts ts (fun n al => zargV n st (fun o args st' => zfit st' (zcall X d Lf a al (.ref o :: args) mem lk L (fun r mem' lk' L' => K nxt ls (zpush r st') mem' lk' L')))))
      (zA1 st (fun _ st' => zfit st' (K nxt ls st' mem lk L)))
      (zcpS st (fun n dp g sp f st' => zfit st' (kd f = 9 ∧ kd g = 9 ∧ ¬ sp < 0 ∧ ¬ dp < 0 ∧ ¬ n < 0 ∧ sp.toNatClampNeg + n.toNatClampNeg ≤ ln X f ∧ dp.toNatClampNeg + n.toNatClampNeg ≤ ln X g ∧ K nxt ls st' (fun x => if g + dp.toNatClampNeg ≤ x ∧ x < g + dp.toNatClampNeg + n.toNatClampNeg then mem (f + sp.toNatClampNeg + (x - (g + dp.toNatClampNeg))) else mem x) lk L)))
      (zI2 st (fun z x st' => zfit st' (K nxt ls (.int (if x < z then z else x) :: st') mem lk L)))
      (zI2 st (fun z x st' => zfit st' (K nxt ls (.int (if z < x then z else x) :: st') mem lk L)))
    | .ireturn => (match st with
      | [.int v] => zsg b (lk = lkf ∧ L = Lf ∧ Q (some (.int v)) mem) (lk = lkf ∧ L = Lf ∧ narrow .boolean (.int v) = .int v ∧ Q (some (.int v)) mem)
      | _ => False)
    | .lreturn => (match st with
      | [.long v] => lk = lkf ∧ L = Lf ∧ Q (some (.long v)) mem
      | _ => False)
    | .areturn => (match st with
      | [.ref v] => lk = lkf ∧ L = Lf ∧ Q (some (.ref v)) mem
      | _ => False)
    | .return_ => (match st with
      | [] => lk = lkf ∧ L = Lf ∧ Q none mem
      | _ => False)
    | _ => False
/-- rows from here on, up to n, to the next head of a loop -/
def zwp (X d y : Nat) (lkf : zLk) (Lf : List Nat) (Q : Option Value → zMem → Prop) (tbl : List zR) : Nat → zK
  | 0, [], _, _, _, _, _ => False
  | 0, r :: _, ls, st, mem, lk, L => zE X d y r.1 ls st mem lk L lkf Lf Q
  | _ + 1, [], _, _, _, _, _ => False
  | n + 1, r :: nxt, ls, st, mem, lk, L => match r.2.2.2.1 with
    | 0 => zst X d lkf Lf Q tbl (zwp X d y lkf Lf Q tbl n) (fun a ls st mem lk L => zE X d y a ls st mem lk L lkf Lf Q) r nxt ls st mem lk L
    | _ => zE X d y r.1 ls st mem lk L lkf Lf Q
end
section
/-! THE ROWS OF THE WALK ARE SOUND: rows that move locals and stack alone -/
theorem zins_cons {L : List Nat} {v : Value} {st : List Value} (h : zin L v) (hs : zins L st) : zins L (v :: st) := fun w hw => by
  rcases List.mem_cons.mp hw with e | e
  · rw [e]; exact h
  · exact hs w e
theorem zins_tl {L : List Nat} {v : Value} {st : List Value} (h : zins L (v :: st)) : zins L st := fun w hw => h w (List.mem_cons_of_mem _ hw)
theorem zins_hd {L : List Nat} {v : Value} {st : List Value} (h : zins L (v :: st)) : zin L v := h v List.mem_cons_self
theorem zins_set {L : List Nat} {v : Value} {ls : List Value} {i : Nat} (h : zin L v) (hs : zins L ls) : zins L (ls.set i v) := fun w hw => by
  rcases List.mem_or_eq_of_mem_set hw with e | e
  · exact hs w e
  · rw [e]; exact h
theorem zins_kl {L : List Nat} {ls : List Value} {i : Nat} (hs : zins L ls) : zins L (zkl ls i) := by
  unfold zkl
  split
  · exact hs
  · split
    · exact zins_set trivial hs
    · exact zins_set trivial hs
    · exact hs
theorem zins_s1 {L : List Nat} {v : Value} {ls : List Value} {i : Nat} (h : zin L v) (hs : zins L ls) : zins L (zs1 ls i v) := zins_set h (zins_kl hs)
theorem zins_s2 {L : List Nat} {v : Value} {ls : List Value} {i : Nat} (h : zin L v) (hs : zins L ls) : zins L (zs2 ls i v) := zins_set h (zins_set trivial (zins_kl hs))
theorem zins_at {L : List Nat} {v : Value} {ls : List Value} {i : Nat} (hs : zins L ls) (h : ls[i]? = some v) : zin L v := hs v (List.mem_of_getElem? h)
/-- the locals as the kit has them -/
def zlv (φ : Nat → Nat) (ls : List Value) : List (Nat × Value) := (List.range ls.length).filterMap fun i => match ls[i]? with
  | some v => if v = zU then none else some (i, ztr φ v)
  | none => none
theorem zlv_mem {φ : Nat → Nat} {ls : List Value} {q : Nat × Value} : q ∈ zlv φ ls ↔ ∃ v, ls[q.1]? = some v ∧ v ≠ zU ∧ q.2 = ztr φ v := by
  unfold zlv
  rw [List.mem_filterMap]
  constructor
  · rintro ⟨i, hi, h⟩
    split at h
    · rename_i v hv
      split at h
      · cases h
      · rename_i hne
        cases h
        exact ⟨v, hv, hne, rfl⟩
    · cases h
  · rintro ⟨v, hv, hne, hq⟩
    refine ⟨q.1, List.mem_range.mpr (List.getElem?_eq_some_iff.mp hv).1, ?_⟩
    rw [hv]
    show (if v = zU then none else some (q.1, ztr φ v)) = some q
    rw [if_neg hne, ← hq]
theorem zLs.has {φ : Nat → Nat} {n : Nat} {ls : List Value} {la : Array Slot} (h : zLs φ n ls la) : lv_has la n (zlv φ ls) := ⟨h.1, h.2.1, fun q hq => by
  obtain ⟨v, h1, h2, h3⟩ := zlv_mem.mp hq
  rw [h3]; exact h.2.2.2 q.1 v h1 h2⟩
theorem zkl_len (ls : List Value) (i : Nat) : (zkl ls i).length = ls.length := by
  unfold zkl
  split
  · rfl
  · split
    · rw [List.length_set]
    · rw [List.length_set]
    · rfl
theorem zkl_get {ls : List Value} {i j : Nat} {v : Value} (h : (zkl ls i)[j]? = some v) (hv : v ≠ zU) : ls[j]? = some v ∧ ¬ (j + 1 = i ∧ v.category = 2) := by
  have aux : ∀ k : Nat, (ls.set k zU)[j]? = some v → ls[j]? = some v ∧ ¬ k = j := fun k hk => by
    rw [List.getElem?_set] at hk
    by_cases e : k = j
    · rw [if_pos e] at hk
      split at hk
      · cases hk; exact absurd rfl hv
      · cases hk
    · rw [if_neg e] at hk
      exact ⟨hk, e⟩
  unfold zkl at h
  split at h
  · exact ⟨h, fun q => by omega⟩
  · rename_i k
    split at h
    · obtain ⟨h1, h2⟩ := aux k h
      exact ⟨h1, fun q => by omega⟩
    · obtain ⟨h1, h2⟩ := aux k h
      exact ⟨h1, fun q => by omega⟩
    · rename_i hx1 hx2
      refine ⟨h, fun q => ?_⟩
      have : k = j := by omega
      subst this
      cases v with
      | long x => exact hx1 x h
      | double x => exact hx2 x h
      | _ => exact absurd q.2 (by simp [Value.category])
theorem zLs.s1 {φ : Nat → Nat} {n i : Nat} {ls : List Value} {la la' : Array Slot} {v : Value} (h : zLs φ n ls la) (h' : lv_has la' n ((i, ztr φ v) :: (zlv φ ls).filter (fun q => !(q.1 == i) && !(q.1 + 1 == i && q.2.category == 2)))) : zLs φ n (zs1 ls i v) la' := by
  refine ⟨h'.1, h'.2.1, by unfold zs1; rw [List.length_set, zkl_len]; exact h.2.2.1, fun j w hj hw => ?_⟩
  unfold zs1 at hj
  rw [List.getElem?_set] at hj
  by_cases e : i = j
  · rw [if_pos e] at hj
    split at hj
    · cases hj
      exact h'.2.2 (j, ztr φ v) (by rw [e]; exact List.mem_cons_self)
    · cases hj
  · rw [if_neg e] at hj
    obtain ⟨h1, h2⟩ := zkl_get hj hw
    refine h'.2.2 (j, ztr φ w) (List.mem_cons_of_mem _ (List.mem_filter.mpr ⟨zlv_mem.mpr ⟨w, h1, hw, rfl⟩, ?_⟩))
    have e' : (j == i) = false := by simpa using fun q => e q.symm
    show (!(j == i) && !(j + 1 == i && (ztr φ w).category == 2)) = true
    rw [e', ztr_cat]
    by_cases e2 : j + 1 = i
    · have : ¬ w.category = 2 := fun q => h2 ⟨e2, q⟩
      simp [this]
    · simp [e2]
theorem zLs.s2 {φ : Nat → Nat} {n i : Nat} {ls : List Value} {la la' : Array Slot} {v : Value} (h : zLs φ n ls la) (h' : lv_has la' n ((i, ztr φ v) :: (zlv φ ls).filter (fun q => !(q.1 == i) && (!(q.1 == i + 1) && !(q.1 + 1 == i && q.2.category == 2))))) : zLs φ n (zs2 ls i v) la' := by
  refine ⟨h'.1, h'.2.1, by unfold zs2; rw [List.length_set, List.length_set, zkl_len]; exact h.2.2.1, fun j w hj hw => ?_⟩
  unfold zs2 at hj
  rw [List.getElem?_set] at hj
  by_cases e : i = j
  · rw [if_pos e] at hj
    split at hj
    · cases hj
      exact h'.2.2 (j, ztr φ v) (by rw [e]; exact List.mem_cons_self)
    · cases hj
  · rw [if_neg e, List.getElem?_set] at hj
    by_cases e3 : i + 1 = j
    · rw [if_pos e3] at hj
      split at hj
      · cases hj; exact absurd rfl hw
      · cases hj
    · rw [if_neg e3] at hj
      obtain ⟨h1, h2⟩ := zkl_get hj hw
      refine h'.2.2 (j, ztr φ w) (List.mem_cons_of_mem _ (List.mem_filter.mpr ⟨zlv_mem.mpr ⟨w, h1, hw, rfl⟩, ?_⟩))
      have e' : (j == i) = false := by simpa using fun q => e q.symm
      have e4 : (j == i + 1) = false := by simpa using fun q => e3 q.symm
      show (!(j == i) && (!(j == i + 1) && !(j + 1 == i && (ztr φ w).category == 2))) = true
      rw [e', e4, ztr_cat]
      by_cases e2 : j + 1 = i
      · have : ¬ w.category = 2 := fun q => h2 ⟨e2, q⟩
        simp [this]
      · simp [e2]
end
section
section ZE
variable {X d y pc : Nat} {ls st : List Value} {mem : zMem} {lk : zLk} {L : List Nat} {lkf : zLk} {Lf : List Nat} {Q : Option Value → zMem → Prop}
theorem zE_step {pc' : Nat} {ls' st' : List Value} (h : zE X d y pc' ls' st' mem lk L lkf Lf Q) (hi : zins L ls → zins L st → zins L ls' ∧ zins L st')
    (hw : ∀ (p : Program) (l : Launch) (e : Env) (R : Room) (s : State) (m : MethodId) (args : Array Value) (below : List Frame) (meth : Method) (c : Code) (H : Heap) (locs : List Loc) (cells slots : Nat) (φ : Nat → Nat) (Z : State → Prop) (la : Array Slot),
      zCx d y p R s m args meth c → zLs φ (zmL y) ls la → (∀ la', zLs φ (zmL y) ls' la' → W p l e R s m args below meth c H locs cells slots Z (F0 m pc' la' (st'.map (ztr φ)))) → W p l e R s m args below meth c H locs cells slots Z (F0 m pc la (st.map (ztr φ)))) :
    zE X d y pc ls st mem lk L lkf Lf Q := by
  intro p l e R s m args below meth c H locs cells slots A D κ φ Z la hX hC hL hS hXt hV hA h1 h2 h3 h4 h5 K
  obtain ⟨i1, i2⟩ := hi h1 h2
  exact hw p l e R s m args below meth c H locs cells slots φ Z la hC hL (fun la' hL' => h p l e R s m args below meth c H locs cells slots A D κ φ Z la' hX hC hL' hS hXt hV hA i1 i2 h3 h4 h5 K)
/-- two ways on -/
theorem zE_two {c1 : Prop} {pc1 pc2 : Nat} {st' : List Value} (h1 : c1 → zE X d y pc1 ls st' mem lk L lkf Lf Q) (h2 : ¬ c1 → zE X d y pc2 ls st' mem lk L lkf Lf Q) (hi : zins L st → zins L st')
    (hw : ∀ (p : Program) (l : Launch) (e : Env) (R : Room) (s : State) (m : MethodId) (args : Array Value) (below : List Frame) (meth : Method) (c : Code) (H : Heap) (locs : List Loc) (cells slots : Nat) (φ : Nat → Nat) (Z : State → Prop) (la : Array Slot),
      zCx d y p R s m args meth c → (c1 → W p l e R s m args below meth c H locs cells slots Z (F0 m pc1 la (st'.map (ztr φ)))) → (¬ c1 → W p l e R s m args below meth c H locs cells slots Z (F0 m pc2 la (st'.map (ztr φ)))) → W p l e R s m args below meth c H locs cells slots Z (F0 m pc la (st.map (ztr φ)))) :
    zE X d y pc ls st mem lk L lkf Lf Q := by
  intro p l e R s m args below meth c H locs cells slots A D κ φ Z la hX hC hL hS hXt hV hA i1 i2 h3 h4 h5 K
  exact hw p l e R s m args below meth c H locs cells slots φ Z la hC (fun hc => h1 hc p l e R s m args below meth c H locs cells slots A D κ φ Z la hX hC hL hS hXt hV hA i1 (hi i2) h3 h4 h5 K) (fun hc => h2 hc p l e R s m args below meth c H locs cells slots A D κ φ Z la hX hC hL hS hXt hV hA i1 (hi i2) h3 h4 h5 K)
theorem zE_iconst {n : Int} {v : Int32} (hd : decode (zmB y) pc = .ok (.iconst n, 1)) (hv : Int32.ofInt n = v) (h : zE X d y (pc + 1) ls (.int v :: st) mem lk L lkf Lf Q) : zE X d y pc ls st mem lk L lkf Lf Q :=
  zE_step h (fun a b => ⟨a, zins_cons trivial b⟩) (fun _ _ _ _ _ _ _ _ _ _ _ _ _ _ _ _ la hC hL K => lv_iconst hC.2.1 hC.2.2.1 hd hv (K la hL))
theorem zE_bipush {n : Int} {v : Int32} (hd : decode (zmB y) pc = .ok (.bipush n, 2)) (hv : (Int8.ofInt n).toInt32 = v) (h : zE X d y (pc + 2) ls (.int v :: st) mem lk L lkf Lf Q) : zE X d y pc ls st mem lk L lkf Lf Q :=
  zE_step h (fun a b => ⟨a, zins_cons trivial b⟩) (fun _ _ _ _ _ _ _ _ _ _ _ _ _ _ _ _ la hC hL K => lv_bipush hC.2.1 hC.2.2.1 hd hv (K la hL))
theorem zE_sipush {n : Int} {v : Int32} (hd : decode (zmB y) pc = .ok (.sipush n, 3)) (hv : (Int16.ofInt n).toInt32 = v) (h : zE X d y (pc + 3) ls (.int v :: st) mem lk L lkf Lf Q) : zE X d y pc ls st mem lk L lkf Lf Q :=
  zE_step h (fun a b => ⟨a, zins_cons trivial b⟩) (fun _ _ _ _ _ _ _ _ _ _ _ _ _ _ _ _ la hC hL K => lv_sipush hC.2.1 hC.2.2.1 hd hv (K la hL))
theorem zE_lconst {n : Fin 2} {v : Int64} (hd : decode (zmB y) pc = .ok (.lconst n, 1)) (hv : Int64.ofNat (n : Nat) = v) (h : zE X d y (pc + 1) ls (.long v :: st) mem lk L lkf Lf Q) : zE X d y pc ls st mem lk L lkf Lf Q :=
  zE_step h (fun a b => ⟨a, zins_cons trivial b⟩) (fun _ _ _ _ _ _ _ _ _ _ _ _ _ _ _ _ la hC hL K => lv_lconst hC.2.1 hC.2.2.1 hd hv (K la hL))
theorem zE_ldc {i : Nat} {v : Int32} (hd : decode (zmB y) pc = .ok (.ldc i, 2)) (hv : Cond.constant (zmO y) i v ∈ zgd) (h : zE X d y (pc + 2) ls (.int v :: st) mem lk L lkf Lf Q) : zE X d y pc ls st mem lk L lkf Lf Q :=
  zE_step h (fun a b => ⟨a, zins_cons trivial b⟩) (fun _ _ _ _ _ _ _ _ _ _ _ _ _ _ _ _ la hC hL K => lv_ldc hC.2.1 hC.2.2.1 hC.2.2.2.2.2.1 (hC.2.2.2.2.2.2.2.2.1 _ hv) hd (K la hL))
theorem zE_ldcw {i : Nat} {v : Int32} (hd : decode (zmB y) pc = .ok (.ldc_w i, 3)) (hv : Cond.constant (zmO y) i v ∈ zgd) (h : zE X d y (pc + 3) ls (.int v :: st) mem lk L lkf Lf Q) : zE X d y pc ls st mem lk L lkf Lf Q :=
  zE_step h (fun a b => ⟨a, zins_cons trivial b⟩) (fun _ _ _ _ _ _ _ _ _ _ _ _ _ _ _ _ la hC hL K => lv_ldcw hC.2.1 hC.2.2.1 hC.2.2.2.2.2.1 (hC.2.2.2.2.2.2.2.2.1 _ hv) hd (K la hL))
theorem zE_ldc2 {i : Nat} {v : Int64} (hd : decode (zmB y) pc = .ok (.ldc2_w i, 3)) (hv : Cond.constantLong (zmO y) i v ∈ zgd) (h : zE X d y (pc + 3) ls (.long v :: st) mem lk L lkf Lf Q) : zE X d y pc ls st mem lk L lkf Lf Q :=
  zE_step h (fun a b => ⟨a, zins_cons trivial b⟩) (fun _ _ _ _ _ _ _ _ _ _ _ _ _ _ _ _ la hC hL K => lv_ldc2 hC.2.1 hC.2.2.1 hC.2.2.2.2.2.1 (hC.2.2.2.2.2.2.2.2.1 _ hv) hd (K la hL))
theorem zE_iload_n {k : Fin 4} {x : Int32} (hd : decode (zmB y) pc = .ok (.iload_n k, 1)) (hl : ls[(k : Nat)]? = some (.int x)) (h : zE X d y (pc + 1) ls (.int x :: st) mem lk L lkf Lf Q) : zE X d y pc ls st mem lk L lkf Lf Q :=
  zE_step h (fun a b => ⟨a, zins_cons trivial b⟩) (fun _ _ _ _ _ _ _ _ _ _ _ _ _ _ _ _ la hC hL K => lv_iload_n hC.2.1 hC.2.2.1 hd rfl (hL.2.2.2 _ _ hl (fun q => by cases q)) (K la hL))
theorem zE_iload {k : Nat} {x : Int32} (hd : decode (zmB y) pc = .ok (.iload k, 2)) (hl : ls[k]? = some (.int x)) (h : zE X d y (pc + 2) ls (.int x :: st) mem lk L lkf Lf Q) : zE X d y pc ls st mem lk L lkf Lf Q :=
  zE_step h (fun a b => ⟨a, zins_cons trivial b⟩) (fun _ _ _ _ _ _ _ _ _ _ _ _ _ _ _ _ la hC hL K => lv_iload hC.2.1 hC.2.2.1 hd (hL.2.2.2 _ _ hl (fun q => by cases q)) (K la hL))
theorem zE_lload_n {k : Fin 4} {x : Int64} (hd : decode (zmB y) pc = .ok (.lload_n k, 1)) (hl : ls[(k : Nat)]? = some (.long x)) (h : zE X d y (pc + 1) ls (.long x :: st) mem lk L lkf Lf Q) : zE X d y pc ls st mem lk L lkf Lf Q :=
  zE_step h (fun a b => ⟨a, zins_cons trivial b⟩) (fun _ _ _ _ _ _ _ _ _ _ _ _ _ _ _ _ la hC hL K => lv_lload_n hC.2.1 hC.2.2.1 hd rfl (hL.2.2.2 _ _ hl (fun q => by cases q)) (K la hL))
theorem zE_lload {k : Nat} {x : Int64} (hd : decode (zmB y) pc = .ok (.lload k, 2)) (hl : ls[k]? = some (.long x)) (h : zE X d y (pc + 2) ls (.long x :: st) mem lk L lkf Lf Q) : zE X d y pc ls st mem lk L lkf Lf Q :=
  zE_step h (fun a b => ⟨a, zins_cons trivial b⟩) (fun _ _ _ _ _ _ _ _ _ _ _ _ _ _ _ _ la hC hL K => lv_lload hC.2.1 hC.2.2.1 hd (hL.2.2.2 _ _ hl (fun q => by cases q)) (K la hL))
theorem zE_aload_n {k : Fin 4} {x : Nat} (hd : decode (zmB y) pc = .ok (.aload_n k, 1)) (hl : ls[(k : Nat)]? = some (.ref x)) (h : zE X d y (pc + 1) ls (.ref x :: st) mem lk L lkf Lf Q) : zE X d y pc ls st mem lk L lkf Lf Q :=
  zE_step h (fun a b => ⟨a, zins_cons (zins_at a hl) b⟩) (fun _ _ _ _ _ _ _ _ _ _ _ _ _ _ _ _ la hC hL K => lv_aload_n hC.2.1 hC.2.2.1 hd rfl (hL.2.2.2 _ _ hl (fun q => by cases q)) (K la hL))
theorem zE_aload {k : Nat} {x : Nat} (hd : decode (zmB y) pc = .ok (.aload k, 2)) (hl : ls[k]? = some (.ref x)) (h : zE X d y (pc + 2) ls (.ref x :: st) mem lk L lkf Lf Q) : zE X d y pc ls st mem lk L lkf Lf Q :=
  zE_step h (fun a b => ⟨a, zins_cons (zins_at a hl) b⟩) (fun _ _ _ _ _ _ _ _ _ _ _ _ _ _ _ _ la hC hL K => lv_aload hC.2.1 hC.2.2.1 hd (hL.2.2.2 _ _ hl (fun q => by cases q)) (K la hL))
theorem zLs.lt {φ : Nat → Nat} {n : Nat} {ls : List Value} {la : Array Slot} (h : zLs φ n ls la) {i : Nat} {v : Value} (hi : ls[i]? = some v) : i < n := by
  rw [← h.2.2.1]; exact (List.getElem?_eq_some_iff.mp hi).1
theorem zE_istore_n {k : Fin 4} {x : Int32} {w : Value} (hd : decode (zmB y) pc = .ok (.istore_n k, 1)) (hw : ls[(k : Nat)]? = some w) (h : zE X d y (pc + 1) (zs1 ls k (.int x)) st mem lk L lkf Lf Q) : zE X d y pc ls (.int x :: st) mem lk L lkf Lf Q :=
  zE_step h (fun a b => ⟨zins_s1 trivial a, zins_tl b⟩) (fun _ _ _ _ _ _ _ _ _ _ _ _ _ _ φ _ la hC hL K => lv_istore_n hC.2.1 hC.2.2.1 hd rfl hL.has (hL.lt hw) rfl (fun la' h' => K la' (hL.s1 (v := .int x) h')))
theorem zE_istore {k : Nat} {x : Int32} {w : Value} (hd : decode (zmB y) pc = .ok (.istore k, 2)) (hw : ls[k]? = some w) (h : zE X d y (pc + 2) (zs1 ls k (.int x)) st mem lk L lkf Lf Q) : zE X d y pc ls (.int x :: st) mem lk L lkf Lf Q :=
  zE_step h (fun a b => ⟨zins_s1 trivial a, zins_tl b⟩) (fun _ _ _ _ _ _ _ _ _ _ _ _ _ _ φ _ la hC hL K => lv_istore hC.2.1 hC.2.2.1 hd hL.has (hL.lt hw) rfl (fun la' h' => K la' (hL.s1 (v := .int x) h')))
theorem zE_astore_n {k : Fin 4} {x : Nat} {w : Value} (hd : decode (zmB y) pc = .ok (.astore_n k, 1)) (hw : ls[(k : Nat)]? = some w) (h : zE X d y (pc + 1) (zs1 ls k (.ref x)) st mem lk L lkf Lf Q) : zE X d y pc ls (.ref x :: st) mem lk L lkf Lf Q :=
  zE_step h (fun a b => ⟨zins_s1 (zins_hd b) a, zins_tl b⟩) (fun _ _ _ _ _ _ _ _ _ _ _ _ _ _ φ _ la hC hL K => lv_astore_n hC.2.1 hC.2.2.1 hd rfl hL.has (hL.lt hw) rfl (fun la' h' => K la' (hL.s1 (v := .ref x) h')))
theorem zE_astore {k : Nat} {x : Nat} {w : Value} (hd : decode (zmB y) pc = .ok (.astore k, 2)) (hw : ls[k]? = some w) (h : zE X d y (pc + 2) (zs1 ls k (.ref x)) st mem lk L lkf Lf Q) : zE X d y pc ls (.ref x :: st) mem lk L lkf Lf Q :=
  zE_step h (fun a b => ⟨zins_s1 (zins_hd b) a, zins_tl b⟩) (fun _ _ _ _ _ _ _ _ _ _ _ _ _ _ φ _ la hC hL K => lv_astore hC.2.1 hC.2.2.1 hd hL.has (hL.lt hw) rfl (fun la' h' => K la' (hL.s1 (v := .ref x) h')))
theorem zE_lstore_n {k : Fin 4} {x : Int64} {w : Value} (hd : decode (zmB y) pc = .ok (.lstore_n k, 1)) (hw : ls[(k : Nat) + 1]? = some w) (h : zE X d y (pc + 1) (zs2 ls k (.long x)) st mem lk L lkf Lf Q) : zE X d y pc ls (.long x :: st) mem lk L lkf Lf Q :=
  zE_step h (fun a b => ⟨zins_s2 trivial a, zins_tl b⟩) (fun _ _ _ _ _ _ _ _ _ _ _ _ _ _ φ _ la hC hL K => lv_lstore_n hC.2.1 hC.2.2.1 hd rfl hL.has (hL.lt hw) rfl (fun la' h' => K la' (hL.s2 (v := .long x) h')))
theorem zE_lstore {k : Nat} {x : Int64} {w : Value} (hd : decode (zmB y) pc = .ok (.lstore k, 2)) (hw : ls[k + 1]? = some w) (h : zE X d y (pc + 2) (zs2 ls k (.long x)) st mem lk L lkf Lf Q) : zE X d y pc ls (.long x :: st) mem lk L lkf Lf Q :=
  zE_step h (fun a b => ⟨zins_s2 trivial a, zins_tl b⟩) (fun _ _ _ _ _ _ _ _ _ _ _ _ _ _ φ _ la hC hL K => lv_lstore hC.2.1 hC.2.2.1 hd hL.has (hL.lt hw) rfl (fun la' h' => K la' (hL.s2 (v := .long x) h')))
theorem zE_iinc {k : Nat} {n : Int} {x v : Int32} (hd : decode (zmB y) pc = .ok (.iinc k n, 3)) (hw : ls[k]? = some (.int x)) (hv : x + Int32.ofInt n = v) (h : zE X d y (pc + 3) (zs1 ls k (.int v)) st mem lk L lkf Lf Q) : zE X d y pc ls st mem lk L lkf Lf Q :=
  zE_step h (fun a b => ⟨zins_s1 trivial a, b⟩) (fun _ _ _ _ _ _ _ _ _ _ _ _ _ _ φ _ la hC hL K => by
    obtain ⟨q, hq⟩ := List.mem_iff_getElem?.mp (zlv_mem.mpr (⟨_, hw, (fun q => by cases q), rfl⟩ : ∃ v, ls[(k, Value.int x).1]? = some v ∧ v ≠ zU ∧ (k, Value.int x).2 = ztr φ v))
    exact lv_iinc hC.2.1 hC.2.2.1 hd hL.has hq hv (hL.lt hw) rfl (fun la' h' => K la' (hL.s1 (v := .int v) h')))
theorem zE_iadd {x z : Int32} (hd : decode (zmB y) pc = .ok (.iadd, 1)) (h : zE X d y (pc + 1) ls (.int (x + z) :: st) mem lk L lkf Lf Q) : zE X d y pc ls (.int z :: .int x :: st) mem lk L lkf Lf Q :=
  zE_step h (fun a b => ⟨a, zins_cons trivial (zins_tl (zins_tl b))⟩) (fun _ _ _ _ _ _ _ _ _ _ _ _ _ _ _ _ la hC hL K => lv_iadd hC.2.1 hC.2.2.1 hd (K la hL))
theorem zE_isub {x z : Int32} (hd : decode (zmB y) pc = .ok (.isub, 1)) (h : zE X d y (pc + 1) ls (.int (x - z) :: st) mem lk L lkf Lf Q) : zE X d y pc ls (.int z :: .int x :: st) mem lk L lkf Lf Q :=
  zE_step h (fun a b => ⟨a, zins_cons trivial (zins_tl (zins_tl b))⟩) (fun _ _ _ _ _ _ _ _ _ _ _ _ _ _ _ _ la hC hL K => lv_isub hC.2.1 hC.2.2.1 hd (K la hL))
theorem zE_imul {x z : Int32} (hd : decode (zmB y) pc = .ok (.imul, 1)) (h : zE X d y (pc + 1) ls (.int (x * z) :: st) mem lk L lkf Lf Q) : zE X d y pc ls (.int z :: .int x :: st) mem lk L lkf Lf Q :=
  zE_step h (fun a b => ⟨a, zins_cons trivial (zins_tl (zins_tl b))⟩) (fun _ _ _ _ _ _ _ _ _ _ _ _ _ _ _ _ la hC hL K => lv_imul hC.2.1 hC.2.2.1 hd (K la hL))
theorem zE_iand {x z : Int32} (hd : decode (zmB y) pc = .ok (.iand, 1)) (h : zE X d y (pc + 1) ls (.int (x &&& z) :: st) mem lk L lkf Lf Q) : zE X d y pc ls (.int z :: .int x :: st) mem lk L lkf Lf Q :=
  zE_step h (fun a b => ⟨a, zins_cons trivial (zins_tl (zins_tl b))⟩) (fun _ _ _ _ _ _ _ _ _ _ _ _ _ _ _ _ la hC hL K => lv_iand hC.2.1 hC.2.2.1 hd (K la hL))
theorem zE_ior {x z : Int32} (hd : decode (zmB y) pc = .ok (.ior, 1)) (h : zE X d y (pc + 1) ls (.int (x ||| z) :: st) mem lk L lkf Lf Q) : zE X d y pc ls (.int z :: .int x :: st) mem lk L lkf Lf Q :=
  zE_step h (fun a b => ⟨a, zins_cons trivial (zins_tl (zins_tl b))⟩) (fun _ _ _ _ _ _ _ _ _ _ _ _ _ _ _ _ la hC hL K => lv_ior hC.2.1 hC.2.2.1 hd (K la hL))
theorem zE_ixor {x z : Int32} (hd : decode (zmB y) pc = .ok (.ixor, 1)) (h : zE X d y (pc + 1) ls (.int (x ^^^ z) :: st) mem lk L lkf Lf Q) : zE X d y pc ls (.int z :: .int x :: st) mem lk L lkf Lf Q :=
  zE_step h (fun a b => ⟨a, zins_cons trivial (zins_tl (zins_tl b))⟩) (fun _ _ _ _ _ _ _ _ _ _ _ _ _ _ _ _ la hC hL K => lv_ixor hC.2.1 hC.2.2.1 hd (K la hL))
theorem zE_ishl {x z : Int32} (hd : decode (zmB y) pc = .ok (.ishl, 1)) (h : zE X d y (pc + 1) ls (.int (x <<< (z &&& 31)) :: st) mem lk L lkf Lf Q) : zE X d y pc ls (.int z :: .int x :: st) mem lk L lkf Lf Q :=
  zE_step h (fun a b => ⟨a, zins_cons trivial (zins_tl (zins_tl b))⟩) (fun _ _ _ _ _ _ _ _ _ _ _ _ _ _ _ _ la hC hL K => lv_ishl hC.2.1 hC.2.2.1 hd (K la hL))
theorem zE_ishr {x z : Int32} (hd : decode (zmB y) pc = .ok (.ishr, 1)) (h : zE X d y (pc + 1) ls (.int (x >>> (z &&& 31)) :: st) mem lk L lkf Lf Q) : zE X d y pc ls (.int z :: .int x :: st) mem lk L lkf Lf Q :=
  zE_step h (fun a b => ⟨a, zins_cons trivial (zins_tl (zins_tl b))⟩) (fun _ _ _ _ _ _ _ _ _ _ _ _ _ _ _ _ la hC hL K => lv_ishr hC.2.1 hC.2.2.1 hd (K la hL))
theorem zE_ladd {x z : Int64} (hd : decode (zmB y) pc = .ok (.ladd, 1)) (h : zE X d y (pc + 1) ls (.long (x + z) :: st) mem lk L lkf Lf Q) : zE X d y pc ls (.long z :: .long x :: st) mem lk L lkf Lf Q :=
  zE_step h (fun a b => ⟨a, zins_cons trivial (zins_tl (zins_tl b))⟩) (fun _ _ _ _ _ _ _ _ _ _ _ _ _ _ _ _ la hC hL K => lv_ladd hC.2.1 hC.2.2.1 hd (K la hL))
theorem zE_lmul {x z : Int64} (hd : decode (zmB y) pc = .ok (.lmul, 1)) (h : zE X d y (pc + 1) ls (.long (x * z) :: st) mem lk L lkf Lf Q) : zE X d y pc ls (.long z :: .long x :: st) mem lk L lkf Lf Q :=
  zE_step h (fun a b => ⟨a, zins_cons trivial (zins_tl (zins_tl b))⟩) (fun _ _ _ _ _ _ _ _ _ _ _ _ _ _ _ _ la hC hL K => lv_lmul hC.2.1 hC.2.2.1 hd (K la hL))
theorem zE_idiv {x z : Int32} (hd : decode (zmB y) pc = .ok (.idiv, 1)) (hne : ¬ z = 0) (h : zE X d y (pc + 1) ls (.int (x / z) :: st) mem lk L lkf Lf Q) : zE X d y pc ls (.int z :: .int x :: st) mem lk L lkf Lf Q :=
  zE_step h (fun a b => ⟨a, zins_cons trivial (zins_tl (zins_tl b))⟩) (fun _ _ _ _ _ _ _ _ _ _ _ _ _ _ _ _ la hC hL K => lv_idiv hC.2.1 hC.2.2.1 hd hne (K la hL))
theorem zE_irem {x z : Int32} (hd : decode (zmB y) pc = .ok (.irem, 1)) (hne : ¬ z = 0) (h : zE X d y (pc + 1) ls (.int (x - x / z * z) :: st) mem lk L lkf Lf Q) : zE X d y pc ls (.int z :: .int x :: st) mem lk L lkf Lf Q :=
  zE_step h (fun a b => ⟨a, zins_cons trivial (zins_tl (zins_tl b))⟩) (fun _ _ _ _ _ _ _ _ _ _ _ _ _ _ _ _ la hC hL K => lv_irem hC.2.1 hC.2.2.1 hd hne (K la hL))
theorem zE_ldiv {x z : Int64} (hd : decode (zmB y) pc = .ok (.ldiv, 1)) (hne : ¬ z = 0) (h : zE X d y (pc + 1) ls (.long (x / z) :: st) mem lk L lkf Lf Q) : zE X d y pc ls (.long z :: .long x :: st) mem lk L lkf Lf Q :=
  zE_step h (fun a b => ⟨a, zins_cons trivial (zins_tl (zins_tl b))⟩) (fun _ _ _ _ _ _ _ _ _ _ _ _ _ _ _ _ la hC hL K => lv_ldiv hC.2.1 hC.2.2.1 hd hne (K la hL))
theorem zE_lrem {x z : Int64} (hd : decode (zmB y) pc = .ok (.lrem, 1)) (hne : ¬ z = 0) (h : zE X d y (pc + 1) ls (.long (x - x / z * z) :: st) mem lk L lkf Lf Q) : zE X d y pc ls (.long z :: .long x :: st) mem lk L lkf Lf Q :=
  zE_step h (fun a b => ⟨a, zins_cons trivial (zins_tl (zins_tl b))⟩) (fun _ _ _ _ _ _ _ _ _ _ _ _ _ _ _ _ la hC hL K => lv_lrem hC.2.1 hC.2.2.1 hd hne (K la hL))
theorem zE_iushr {x z : Int32} (hd : decode (zmB y) pc = .ok (.iushr, 1)) (h : zE X d y (pc + 1) ls (.int (x.toUInt32 >>> (z.toUInt32 &&& Int32.toUInt32 31)).toInt32 :: st) mem lk L lkf Lf Q) : zE X d y pc ls (.int z :: .int x :: st) mem lk L lkf Lf Q :=
  zE_step h (fun a b => ⟨a, zins_cons trivial (zins_tl (zins_tl b))⟩) (fun _ _ _ _ _ _ _ _ _ _ _ _ _ _ _ _ la hC hL K => lv_iushr hC.2.1 hC.2.2.1 hd rfl (K la hL))
theorem zE_lcmp {x z : Int64} (hd : decode (zmB y) pc = .ok (.lcmp, 1)) (h : zE X d y (pc + 1) ls (.int (lg_cmp x z) :: st) mem lk L lkf Lf Q) : zE X d y pc ls (.long z :: .long x :: st) mem lk L lkf Lf Q :=
  zE_step h (fun a b => ⟨a, zins_cons trivial (zins_tl (zins_tl b))⟩) (fun _ _ _ _ _ _ _ _ _ _ _ _ _ _ _ _ la hC hL K => W.lcmp hC.2.1 hC.2.2.1 hd (K la hL))
theorem zE_ineg {x : Int32} (hd : decode (zmB y) pc = .ok (.ineg, 1)) (h : zE X d y (pc + 1) ls (.int (-x) :: st) mem lk L lkf Lf Q) : zE X d y pc ls (.int x :: st) mem lk L lkf Lf Q :=
  zE_step h (fun a b => ⟨a, zins_cons trivial (zins_tl b)⟩) (fun _ _ _ _ _ _ _ _ _ _ _ _ _ _ _ _ la hC hL K => lv_ineg hC.2.1 hC.2.2.1 hd (K la hL))
theorem zE_i2l {x : Int32} (hd : decode (zmB y) pc = .ok (.i2l, 1)) (h : zE X d y (pc + 1) ls (.long x.toInt64 :: st) mem lk L lkf Lf Q) : zE X d y pc ls (.int x :: st) mem lk L lkf Lf Q :=
  zE_step h (fun a b => ⟨a, zins_cons trivial (zins_tl b)⟩) (fun _ _ _ _ _ _ _ _ _ _ _ _ _ _ _ _ la hC hL K => lv_i2l hC.2.1 hC.2.2.1 hd rfl (K la hL))
theorem zE_l2i {x : Int64} (hd : decode (zmB y) pc = .ok (.l2i, 1)) (h : zE X d y (pc + 1) ls (.int x.toInt32 :: st) mem lk L lkf Lf Q) : zE X d y pc ls (.long x :: st) mem lk L lkf Lf Q :=
  zE_step h (fun a b => ⟨a, zins_cons trivial (zins_tl b)⟩) (fun _ _ _ _ _ _ _ _ _ _ _ _ _ _ _ _ la hC hL K => lv_l2i hC.2.1 hC.2.2.1 hd rfl (K la hL))
theorem zE_i2b {x : Int32} (hd : decode (zmB y) pc = .ok (.i2b, 1)) (h : zE X d y (pc + 1) ls (.int x.toInt8.toInt32 :: st) mem lk L lkf Lf Q) : zE X d y pc ls (.int x :: st) mem lk L lkf Lf Q :=
  zE_step h (fun a b => ⟨a, zins_cons trivial (zins_tl b)⟩) (fun _ _ _ _ _ _ _ _ _ _ _ _ _ _ _ _ la hC hL K => lv_i2b hC.2.1 hC.2.2.1 hd rfl (K la hL))
theorem zE_i2s {x : Int32} (hd : decode (zmB y) pc = .ok (.i2s, 1)) (h : zE X d y (pc + 1) ls (.int x.toInt16.toInt32 :: st) mem lk L lkf Lf Q) : zE X d y pc ls (.int x :: st) mem lk L lkf Lf Q :=
  zE_step h (fun a b => ⟨a, zins_cons trivial (zins_tl b)⟩) (fun _ _ _ _ _ _ _ _ _ _ _ _ _ _ _ _ la hC hL K => lv_i2s hC.2.1 hC.2.2.1 hd rfl (K la hL))
theorem zE_dupI {x : Int32} (hd : decode (zmB y) pc = .ok (.dup, 1)) (h : zE X d y (pc + 1) ls (.int x :: .int x :: st) mem lk L lkf Lf Q) : zE X d y pc ls (.int x :: st) mem lk L lkf Lf Q :=
  zE_step h (fun a b => ⟨a, zins_cons trivial b⟩) (fun _ _ _ _ _ _ _ _ _ _ _ _ _ _ _ _ la hC hL K => lv_dup hC.2.1 hC.2.2.1 hd rfl (K la hL))
theorem zE_dupR {x : Nat} (hd : decode (zmB y) pc = .ok (.dup, 1)) (h : zE X d y (pc + 1) ls (.ref x :: .ref x :: st) mem lk L lkf Lf Q) : zE X d y pc ls (.ref x :: st) mem lk L lkf Lf Q :=
  zE_step h (fun a b => ⟨a, zins_cons (zins_hd b) b⟩) (fun _ _ _ _ _ _ _ _ _ _ _ _ _ _ _ _ la hC hL K => lv_dup hC.2.1 hC.2.2.1 hd rfl (K la hL))
theorem zE_dup2 {x : Int32} {o : Nat} (hd : decode (zmB y) pc = .ok (.dup2, 1)) (h : zE X d y (pc + 1) ls (.int x :: .ref o :: .int x :: .ref o :: st) mem lk L lkf Lf Q) : zE X d y pc ls (.int x :: .ref o :: st) mem lk L lkf Lf Q :=
  zE_step h (fun a b => ⟨a, zins_cons trivial (zins_cons (zins_hd (zins_tl b)) b)⟩) (fun _ _ _ _ _ _ _ _ _ _ _ _ _ _ _ _ la hC hL K => lv_dup2_11 hC.2.1 hC.2.2.1 hd rfl rfl (K la hL))
theorem zE_if_eq {x : Int32} {off : Int} {tgt : Nat} (hd : decode (zmB y) pc = .ok (.ifCond .eq off, 3)) (ht : (pc : Int) + off = (tgt : Int)) (h1 : x = 0 → zE X d y tgt ls st mem lk L lkf Lf Q) (h2 : ¬ x = 0 → zE X d y (pc + 3) ls st mem lk L lkf Lf Q) : zE X d y pc ls (.int x :: st) mem lk L lkf Lf Q :=
  zE_two h1 h2 zins_tl (fun _ _ _ _ _ _ _ _ _ _ _ _ _ _ _ _ _ hC k1 k2 => lv_if_eq hC.2.1 hC.2.2.1 hd ht k1 k2)
theorem zE_icmp_eq {x z : Int32} {off : Int} {tgt : Nat} (hd : decode (zmB y) pc = .ok (.if_icmp .eq off, 3)) (ht : (pc : Int) + off = (tgt : Int)) (h1 : x = z → zE X d y tgt ls st mem lk L lkf Lf Q) (h2 : ¬ x = z → zE X d y (pc + 3) ls st mem lk L lkf Lf Q) : zE X d y pc ls (.int z :: .int x :: st) mem lk L lkf Lf Q :=
  zE_two h1 h2 (fun b => zins_tl (zins_tl b)) (fun _ _ _ _ _ _ _ _ _ _ _ _ _ _ _ _ _ hC k1 k2 => lv_icmp_eq hC.2.1 hC.2.2.1 hd ht k1 k2)
theorem zE_if_ne {x : Int32} {off : Int} {tgt : Nat} (hd : decode (zmB y) pc = .ok (.ifCond .ne off, 3)) (ht : (pc : Int) + off = (tgt : Int)) (h1 : ¬ x = 0 → zE X d y tgt ls st mem lk L lkf Lf Q) (h2 : x = 0 → zE X d y (pc + 3) ls st mem lk L lkf Lf Q) : zE X d y pc ls (.int x :: st) mem lk L lkf Lf Q :=
  zE_two (c1 := ¬ x = 0) h1 (fun q => h2 (Decidable.not_not.mp q)) zins_tl (fun _ _ _ _ _ _ _ _ _ _ _ _ _ _ _ _ _ hC k1 k2 => lv_if_ne hC.2.1 hC.2.2.1 hd ht k1 (fun q => k2 (fun z => z q)))
theorem zE_icmp_ne {x z : Int32} {off : Int} {tgt : Nat} (hd : decode (zmB y) pc = .ok (.if_icmp .ne off, 3)) (ht : (pc : Int) + off = (tgt : Int)) (h1 : ¬ x = z → zE X d y tgt ls st mem lk L lkf Lf Q) (h2 : x = z → zE X d y (pc + 3) ls st mem lk L lkf Lf Q) : zE X d y pc ls (.int z :: .int x :: st) mem lk L lkf Lf Q :=
  zE_two (c1 := ¬ x = z) h1 (fun q => h2 (Decidable.not_not.mp q)) (fun b => zins_tl (zins_tl b)) (fun _ _ _ _ _ _ _ _ _ _ _ _ _ _ _ _ _ hC k1 k2 => lv_icmp_ne hC.2.1 hC.2.2.1 hd ht k1 (fun q => k2 (fun z => z q)))
theorem zE_if_lt {x : Int32} {off : Int} {tgt : Nat} (hd : decode (zmB y) pc = .ok (.ifCond .lt off, 3)) (ht : (pc : Int) + off = (tgt : Int)) (h1 : x < 0 → zE X d y tgt ls st mem lk L lkf Lf Q) (h2 : ¬ x < 0 → zE X d y (pc + 3) ls st mem lk L lkf Lf Q) : zE X d y pc ls (.int x :: st) mem lk L lkf Lf Q :=
  zE_two h1 h2 zins_tl (fun _ _ _ _ _ _ _ _ _ _ _ _ _ _ _ _ _ hC k1 k2 => lv_if_lt hC.2.1 hC.2.2.1 hd ht k1 k2)
theorem zE_icmp_lt {x z : Int32} {off : Int} {tgt : Nat} (hd : decode (zmB y) pc = .ok (.if_icmp .lt off, 3)) (ht : (pc : Int) + off = (tgt : Int)) (h1 : x < z → zE X d y tgt ls st mem lk L lkf Lf Q) (h2 : ¬ x < z → zE X d y (pc + 3) ls st mem lk L lkf Lf Q) : zE X d y pc ls (.int z :: .int x :: st) mem lk L lkf Lf Q :=
  zE_two h1 h2 (fun b => zins_tl (zins_tl b)) (fun _ _ _ _ _ _ _ _ _ _ _ _ _ _ _ _ _ hC k1 k2 => lv_icmp_lt hC.2.1 hC.2.2.1 hd ht k1 k2)
theorem zE_if_ge {x : Int32} {off : Int} {tgt : Nat} (hd : decode (zmB y) pc = .ok (.ifCond .ge off, 3)) (ht : (pc : Int) + off = (tgt : Int)) (h1 : 0 ≤ x → zE X d y tgt ls st mem lk L lkf Lf Q) (h2 : ¬ 0 ≤ x → zE X d y (pc + 3) ls st mem lk L lkf Lf Q) : zE X d y pc ls (.int x :: st) mem lk L lkf Lf Q :=
  zE_two h1 h2 zins_tl (fun _ _ _ _ _ _ _ _ _ _ _ _ _ _ _ _ _ hC k1 k2 => lv_if_ge hC.2.1 hC.2.2.1 hd ht k1 k2)
theorem zE_icmp_ge {x z : Int32} {off : Int} {tgt : Nat} (hd : decode (zmB y) pc = .ok (.if_icmp .ge off, 3)) (ht : (pc : Int) + off = (tgt : Int)) (h1 : z ≤ x → zE X d y tgt ls st mem lk L lkf Lf Q) (h2 : ¬ z ≤ x → zE X d y (pc + 3) ls st mem lk L lkf Lf Q) : zE X d y pc ls (.int z :: .int x :: st) mem lk L lkf Lf Q :=
  zE_two h1 h2 (fun b => zins_tl (zins_tl b)) (fun _ _ _ _ _ _ _ _ _ _ _ _ _ _ _ _ _ hC k1 k2 => lv_icmp_ge hC.2.1 hC.2.2.1 hd ht k1 k2)
theorem zE_if_gt {x : Int32} {off : Int} {tgt : Nat} (hd : decode (zmB y) pc = .ok (.ifCond .gt off, 3)) (ht : (pc : Int) + off = (tgt : Int)) (h1 : 0 < x → zE X d y tgt ls st mem lk L lkf Lf Q) (h2 : ¬ 0 < x → zE X d y (pc + 3) ls st mem lk L lkf Lf Q) : zE X d y pc ls (.int x :: st) mem lk L lkf Lf Q :=
  zE_two h1 h2 zins_tl (fun _ _ _ _ _ _ _ _ _ _ _ _ _ _ _ _ _ hC k1 k2 => lv_if_gt hC.2.1 hC.2.2.1 hd ht k1 k2)
theorem zE_icmp_gt {x z : Int32} {off : Int} {tgt : Nat} (hd : decode (zmB y) pc = .ok (.if_icmp .gt off, 3)) (ht : (pc : Int) + off = (tgt : Int)) (h1 : z < x → zE X d y tgt ls st mem lk L lkf Lf Q) (h2 : ¬ z < x → zE X d y (pc + 3) ls st mem lk L lkf Lf Q) : zE X d y pc ls (.int z :: .int x :: st) mem lk L lkf Lf Q :=
  zE_two h1 h2 (fun b => zins_tl (zins_tl b)) (fun _ _ _ _ _ _ _ _ _ _ _ _ _ _ _ _ _ hC k1 k2 => lv_icmp_gt hC.2.1 hC.2.2.1 hd ht k1 k2)
theorem zE_if_le {x : Int32} {off : Int} {tgt : Nat} (hd : decode (zmB y) pc = .ok (.ifCond .le off, 3)) (ht : (pc : Int) + off = (tgt : Int)) (h1 : x ≤ 0 → zE X d y tgt ls st mem lk L lkf Lf Q) (h2 : ¬ x ≤ 0 → zE X d y (pc + 3) ls st mem lk L lkf Lf Q) : zE X d y pc ls (.int x :: st) mem lk L lkf Lf Q :=
  zE_two h1 h2 zins_tl (fun _ _ _ _ _ _ _ _ _ _ _ _ _ _ _ _ _ hC k1 k2 => lv_if_le hC.2.1 hC.2.2.1 hd ht k1 k2)
theorem zE_icmp_le {x z : Int32} {off : Int} {tgt : Nat} (hd : decode (zmB y) pc = .ok (.if_icmp .le off, 3)) (ht : (pc : Int) + off = (tgt : Int)) (h1 : x ≤ z → zE X d y tgt ls st mem lk L lkf Lf Q) (h2 : ¬ x ≤ z → zE X d y (pc + 3) ls st mem lk L lkf Lf Q) : zE X d y pc ls (.int z :: .int x :: st) mem lk L lkf Lf Q :=
  zE_two h1 h2 (fun b => zins_tl (zins_tl b)) (fun _ _ _ _ _ _ _ _ _ _ _ _ _ _ _ _ _ hC k1 k2 => lv_icmp_le hC.2.1 hC.2.2.1 hd ht k1 k2)
theorem zE_goto {off : Int} {tgt : Nat} (hd : decode (zmB y) pc = .ok (.goto off, 3)) (ht : (pc : Int) + off = (tgt : Int)) (h : zE X d y tgt ls st mem lk L lkf Lf Q) : zE X d y pc ls st mem lk L lkf Lf Q :=
  zE_step h (fun a b => ⟨a, b⟩) (fun _ _ _ _ _ _ _ _ _ _ _ _ _ _ _ _ la hC hL K => lv_goto hC.2.1 hC.2.2.1 hd ht (K la hL))
theorem zE_ifnull {x : Nat} {off : Int} (hd : decode (zmB y) pc = .ok (.ifnull off, 3)) (h : zE X d y (pc + 3) ls st mem lk L lkf Lf Q) : zE X d y pc ls (.ref x :: st) mem lk L lkf Lf Q :=
  zE_step h (fun a b => ⟨a, zins_tl b⟩) (fun _ _ _ _ _ _ _ _ _ _ _ _ _ _ _ _ la hC hL K => lv_ifnull hC.2.1 hC.2.2.1 hd (K la hL))
theorem zE_ifnullN {off : Int} {tgt : Nat} (hd : decode (zmB y) pc = .ok (.ifnull off, 3)) (ht : (pc : Int) + off = (tgt : Int)) (h : zE X d y tgt ls st mem lk L lkf Lf Q) : zE X d y pc ls (.null :: st) mem lk L lkf Lf Q :=
  zE_step h (fun a b => ⟨a, zins_tl b⟩) (fun _ _ _ _ _ _ _ _ _ _ _ _ _ _ _ _ la hC hL K => lv_ifnullN hC.2.1 hC.2.2.1 hd ht (K la hL))
theorem zE_ifnonnull {x : Nat} {off : Int} {tgt : Nat} (hd : decode (zmB y) pc = .ok (.ifnonnull off, 3)) (ht : (pc : Int) + off = (tgt : Int)) (h : zE X d y tgt ls st mem lk L lkf Lf Q) : zE X d y pc ls (.ref x :: st) mem lk L lkf Lf Q :=
  zE_step h (fun a b => ⟨a, zins_tl b⟩) (fun _ _ _ _ _ _ _ _ _ _ _ _ _ _ _ _ la hC hL K => lv_ifnonnull hC.2.1 hC.2.2.1 hd ht (K la hL))
theorem zE_ifnonnullN {off : Int} (hd : decode (zmB y) pc = .ok (.ifnonnull off, 3)) (h : zE X d y (pc + 3) ls st mem lk L lkf Lf Q) : zE X d y pc ls (.null :: st) mem lk L lkf Lf Q :=
  zE_step h (fun a b => ⟨a, zins_tl b⟩) (fun _ _ _ _ _ _ _ _ _ _ _ _ _ _ _ _ la hC hL K => lv_ifnonnullN hC.2.1 hC.2.2.1 hd (K la hL))
end ZE
end
section
/-! rows that read and write the world -/
theorem zuw0 : vwCl.all (fun q => (u_ws q.1 q.2.1 q.2.2).all (fun w => zgd.contains w)) = true := by decide +kernel
theorem zuw {a : Nat} {q : vw_C} (h : vwCl[a]? = some q) : ∀ w ∈ u_ws q.1 q.2.1 q.2.2, w ∈ zgd := fun w hw => by
  have h1 := List.all_eq_true.mp zuw0 q (List.mem_of_getElem? h)
  have h2 := List.all_eq_true.mp h1 w hw
  exact List.contains_iff_mem.mp h2
theorem zlt9 {a : Nat} {q : vw_C} (h : vwCl[a]? = some q) : a < 9 := (List.getElem?_eq_some_iff.mp h).1
theorem znf_ok {a : Nat} {q : vw_C} (h : vwCl[a]? = some q) : q.2.2 = znf a := by
  have := zlt9 h
  rcases (show a = 0 ∨ a = 1 ∨ a = 2 ∨ a = 3 ∨ a = 4 ∨ a = 5 ∨ a = 6 ∨ a = 7 ∨ a = 8 by omega) with rfl | rfl | rfl | rfl | rfl | rfl | rfl | rfl | rfl <;> cases h <;> rfl
/-- a type of fields: a number, or a reference -/
def ztyOk (i : Bool) (t : FieldType) : Prop := (i = true → t = .int) ∧ (i = false → (∃ n, t = .object n) ∨ ∃ u, t = .array u)
def ztyB (i : Bool) (t : FieldType) : Bool := match i, t with
  | true, .int => true
  | false, .object _ => true
  | false, .array _ => true
  | _, _ => false
theorem ztyB_ok {i : Bool} {t : FieldType} (h : ztyB i t = true) : ztyOk i t := by
  cases i <;> cases t <;> first | (cases h; done) | exact ⟨fun _ => rfl, fun q => by cases q⟩ | exact ⟨fun q => (by cases q), fun _ => Or.inl ⟨_, rfl⟩⟩ | exact ⟨fun q => (by cases q), fun _ => Or.inr ⟨_, rfl⟩⟩
theorem ztys {a : Nat} {q : vw_C} (h : vwCl[a]? = some q) : ∃ ty0 : Nat → FieldType, (∀ k, k < q.2.2 → parseFieldDescriptor (q.2.1 k).2.2.1 = some (ty0 k)) ∧ ∀ k, k < q.2.2 → ztyB (zisI a k) (ty0 k) = true := by
  have := zlt9 h
  rcases (show a = 0 ∨ a = 1 ∨ a = 2 ∨ a = 3 ∨ a = 4 ∨ a = 5 ∨ a = 6 ∨ a = 7 ∨ a = 8 by omega) with rfl | rfl | rfl | rfl | rfl | rfl | rfl | rfl | rfl <;> cases h
  · exact ⟨tyX0, tyX0_ok, by decide +kernel⟩
  · exact ⟨tyX1, tyX1_ok, by decide +kernel⟩
  · exact ⟨tyX2, tyX2_ok, by decide +kernel⟩
  · exact ⟨tyX3, tyX3_ok, by decide +kernel⟩
  · exact ⟨tyX4, tyX4_ok, by decide +kernel⟩
  · exact ⟨tyX5, tyX5_ok, by decide +kernel⟩
  · exact ⟨tyX6, tyX6_ok, by decide +kernel⟩
  · exact ⟨tyX7, tyX7_ok, by decide +kernel⟩
  · exact ⟨tyX8, tyX8_ok, by decide +kernel⟩
theorem znms {a : Nat} {q : vw_C} (h : vwCl[a]? = some q) : ∀ i, i < q.2.2 → ∀ j, j < q.2.2 → i ≠ j → (q.2.1 i).2.1 ≠ (q.2.1 j).2.1 := by
  have := zlt9 h
  rcases (show a = 0 ∨ a = 1 ∨ a = 2 ∨ a = 3 ∨ a = 4 ∨ a = 5 ∨ a = 6 ∨ a = 7 ∨ a = 8 by omega) with rfl | rfl | rfl | rfl | rfl | rfl | rfl | rfl | rfl <;> cases h
  · exact nmX0
  · exact nmX1
  · exact nmX2
  · exact nmX3
  · exact nmX4
  · exact nmX5
  · exact nmX6
  · exact nmX7
  · exact nmX8
def zfs (φ : Nat → Nat) (mem : zMem) (lk : zLk) (a o : Nat) : List Value := (List.range (znf a)).map (fun k => if zisI a k = true then Value.int (mem (o + zoff a k)) else va_rf ((lk (o + zoff a k)).map φ))
theorem zcell_obj {X : Nat} {κ : Nat → ClassId} {φ : Nat → Nat} {mem : zMem} {lk : zLk} {o a : Nat} (h : kd o = a) (h9 : a < 9) : zcell X κ φ mem lk o = .inr (a, zfs φ mem lk a o) := by
  unfold zcell zfs
  rw [h, if_pos h9]
theorem zcell_int {X : Nat} {κ : Nat → ClassId} {φ : Nat → Nat} {mem : zMem} {lk : zLk} {o a : Nat} (h : kd o = a) (h9 : a = 9 ∨ a = 10) : zcell X κ φ mem lk o = .inl (κ a, ln X o, .inl (fun i => if i < ln X o then mem (o + i) else 0)) := by
  unfold zcell
  rw [h, if_neg (by omega), if_pos (by omega)]
theorem zcell_ref {X : Nat} {κ : Nat → ClassId} {φ : Nat → Nat} {mem : zMem} {lk : zLk} {o a : Nat} (h : kd o = a) (h9 : a = 11 ∨ a = 12) : zcell X κ φ mem lk o = .inl (κ a, ln X o, .inr (.inr (.inr (.inr (fun i => if i < ln X o then (lk (o + i)).map φ else none))))) := by
  unfold zcell
  rw [h, if_neg (by omega), if_neg (by omega)]
theorem zfs_get {φ : Nat → Nat} {mem : zMem} {lk : zLk} {a o k : Nat} (hk : k < znf a) : (zfs φ mem lk a o)[k]? = some (if zisI a k = true then Value.int (mem (o + zoff a k)) else va_rf ((lk (o + zoff a k)).map φ)) := by
  unfold zfs
  rw [List.getElem?_map, List.getElem?_range hk]; rfl
theorem zfs_len {φ : Nat → Nat} {mem : zMem} {lk : zLk} {a o : Nat} : (zfs φ mem lk a o).length = znf a := by
  unfold zfs
  rw [List.length_map, List.length_range]
theorem zoff_inj {a k k' : Nat} (h : a < 9) (hk : k < znf a) (hk' : k' < znf a) (e : zoff a k = zoff a k') : k = k' := by
  by_cases h3 : a = 3
  · subst h3
    have hk2 : k < 12 := hk
    have hk3 : k' < 12 := hk'
    have : ∀ i, i < 12 → ∀ j, j < 12 → zoff 3 i = zoff 3 j → i = j := by decide +kernel
    exact this k hk2 k' hk3 e
  · have hb : Nat.beq a 3 = false := by rw [Bool.eq_false_iff, ne_eq, Nat.beq_eq]; exact h3
    unfold zoff at e
    rw [hb] at e
    exact e
theorem zfs_setI {φ : Nat → Nat} {mem : zMem} {lk : zLk} {a o k : Nat} {v : Int32} (h9 : a < 9) (hk : k < znf a) (hi : zisI a k = true) : (zfs φ mem lk a o).set k (.int v) = zfs φ (upd mem (o + zoff a k) v) lk a o := by
  apply List.ext_getElem?
  intro i
  rw [List.getElem?_set]
  by_cases hin : i < znf a
  · by_cases e : k = i
    · subst e
      rw [if_pos rfl, if_pos (by rw [zfs_len]; exact hk), zfs_get hk, if_pos hi, upd_eq]
    · rw [if_neg e, zfs_get hin, zfs_get hin]
      have : o + zoff a i ≠ o + zoff a k := fun q => e (zoff_inj h9 hk hin (by omega))
      rw [upd_ne this]
  · have h1 : (zfs φ (upd mem (o + zoff a k) v) lk a o)[i]? = none := List.getElem?_eq_none (by rw [zfs_len]; omega)
    have h2 : (zfs φ mem lk a o)[i]? = none := List.getElem?_eq_none (by rw [zfs_len]; omega)
    rw [if_neg (by omega), h1, h2]
theorem zfs_setR {φ : Nat → Nat} {mem : zMem} {lk : zLk} {a o k v : Nat} (h9 : a < 9) (hk : k < znf a) (hi : zisI a k = false) : (zfs φ mem lk a o).set k (.ref (φ v)) = zfs φ mem (va_up lk (o + zoff a k) (some v)) a o := by
  apply List.ext_getElem?
  intro i
  rw [List.getElem?_set]
  by_cases hin : i < znf a
  · by_cases e : k = i
    · subst e
      have : va_up lk (o + zoff a k) (some v) (o + zoff a k) = some v := if_pos rfl
      rw [if_pos rfl, if_pos (by rw [zfs_len]; exact hk), zfs_get hk, hi, this]; rfl
    · rw [if_neg e, zfs_get hin, zfs_get hin]
      have : o + zoff a i ≠ o + zoff a k := fun q => e (zoff_inj h9 hk hin (by omega))
      rw [va_up_ne _ _ this]
  · have h1 : (zfs φ mem (va_up lk (o + zoff a k) (some v)) a o)[i]? = none := List.getElem?_eq_none (by rw [zfs_len]; omega)
    have h2 : (zfs φ mem lk a o)[i]? = none := List.getElem?_eq_none (by rw [zfs_len]; omega)
    rw [if_neg (by omega), h1, h2]
theorem zK1 {X : Nat} {A : Nat → Prop} {D : va_G} {κ : Nat → ClassId} {φ : Nat → Nat} {mem : zMem} {lk : zLk} {L : List Nat} {s : State} {H : Heap} (h : zSm X A D κ φ mem lk L s H) {o : Nat} (ho : o ∈ L) {ty : FieldType} (ht : zaty (kd o) = some ty) : va_K D vwCl [(κ (kd o), ty)] s :=
  ⟨h.2.2.1.1, fun k q hq => by
    have h0 : k < 1 := (List.getElem?_eq_some_iff.mp hq).1
    rw [show k = 0 by omega] at hq
    cases hq
    exact h.2.2.2.1 o ho ty ht⟩
section ZH
variable {X d y pc : Nat} {ls st : List Value} {mem : zMem} {lk : zLk} {L : List Nat} {lkf : zLk} {Lf : List Nat} {Q : Option Value → zMem → Prop}
theorem zE_getI {o a k idx : Nat} {q : vw_C} (hd : decode (zmB y) pc = .ok (.getfield idx, 3)) (hko : kd o = a) (hc : vwCl[a]? = some q) (hk : k < znf a) (hi : zisI a k = true) (hlink : Cond.fieldLink (zmO y) idx (q.2.1 k).1 (q.2.1 k).2.1 (q.2.1 k).2.2.1 ∈ zgd)
    (h : zE X d y (pc + 3) ls (.int (mem (o + zoff a k)) :: st) mem lk L lkf Lf Q) : zE X d y pc ls (.ref o :: st) mem lk L lkf Lf Q := by
  intro p l e R s m args below meth c H locs cells slots A D κ φ Z la hX hC hL hS hXt hV hA i1 i2 h3 h4 h5 K
  have h9 := zlt9 hc
  have hoL : o ∈ L := (zins_hd i2).resolve_right (by omega)
  obtain ⟨q0, hq0⟩ := List.mem_iff_getElem?.mp hoL
  have he := zW_get (X := X) (κ := κ) (φ := φ) (mem := mem) (lk := lk) hq0
  rw [zcell_obj hko h9] at he
  refine va_get (C := q.1) (T := q.2.1) (N := q.2.2) hC.2.1 hC.2.2.1 hC.2.2.2.2.2.2.2.2.1 (zuw hc) hC.2.2.2.2.2.1 hS.2.2.1 hS.1 q0 he hc k (by rw [znf_ok hc]; exact hk) (hC.2.2.2.2.2.2.2.2.1 _ hlink) (fun _ h => h) (zfs_get hk) hd ?_
  rw [if_pos hi]
  exact h p l e R s m args below meth c H locs cells slots A D κ φ Z la hX hC hL hS hXt hV hA i1 (zins_cons trivial (zins_tl i2)) h3 h4 h5 K
theorem zE_getR {o a k idx t : Nat} {q : vw_C} (hd : decode (zmB y) pc = .ok (.getfield idx, 3)) (hko : kd o = a) (hc : vwCl[a]? = some q) (hk : k < znf a) (hi : zisI a k = false) (hlink : Cond.fieldLink (zmO y) idx (q.2.1 k).1 (q.2.1 k).2.1 (q.2.1 k).2.2.1 ∈ zgd)
    (ht : lk (o + zoff a k) = some t) (h : zE X d y (pc + 3) ls (.ref t :: st) mem lk L lkf Lf Q) : zE X d y pc ls (.ref o :: st) mem lk L lkf Lf Q := by
  intro p l e R s m args below meth c H locs cells slots A D κ φ Z la hX hC hL hS hXt hV hA i1 i2 h3 h4 h5 K
  have h9 := zlt9 hc
  have hoL : o ∈ L := (zins_hd i2).resolve_right (by omega)
  obtain ⟨q0, hq0⟩ := List.mem_iff_getElem?.mp hoL
  have he := zW_get (X := X) (κ := κ) (φ := φ) (mem := mem) (lk := lk) hq0
  rw [zcell_obj hko h9] at he
  refine va_get (C := q.1) (T := q.2.1) (N := q.2.2) hC.2.1 hC.2.2.1 hC.2.2.2.2.2.2.2.2.1 (zuw hc) hC.2.2.2.2.2.1 hS.2.2.1 hS.1 q0 he hc k (by rw [znf_ok hc]; exact hk) (hC.2.2.2.2.2.2.2.2.1 _ hlink) (fun _ h => h) (zfs_get hk) hd ?_
  rw [hi, ht]
  exact h p l e R s m args below meth c H locs cells slots A D κ φ Z la hX hC hL hS hXt hV hA i1 (zins_cons (Or.inl (hS.2.2.2.2.2 o hoL _ (Or.inl ⟨by omega, k, by rw [hko]; exact hk, by rw [hko]⟩) t ht)) (zins_tl i2)) h3 h4 h5 K
theorem zE_putI {o a k idx : Nat} {q : vw_C} {v : Int32} (hd : decode (zmB y) pc = .ok (.putfield idx, 3)) (hko : kd o = a) (hc : vwCl[a]? = some q) (hk : k < znf a) (hi : zisI a k = true) (hlink : Cond.fieldLink (zmO y) idx (q.2.1 k).1 (q.2.1 k).2.1 (q.2.1 k).2.2.1 ∈ zgd) (hfin : (q.2.1 k).2.2.2 = false)
    (h : zE X d y (pc + 3) ls st (upd mem (o + zoff a k) v) lk L lkf Lf Q) : zE X d y pc ls (.int v :: .ref o :: st) mem lk L lkf Lf Q := by
  intro p l e R s m args below meth c H locs cells slots A D κ φ Z la hX hC hL hS hXt hV hA i1 i2 h3 h4 h5 K
  have h9 := zlt9 hc
  have hoL : o ∈ L := (zins_hd (zins_tl i2)).resolve_right (by omega)
  obtain ⟨q0, hq0⟩ := List.mem_iff_getElem?.mp hoL
  have he := zW_get (X := X) (κ := κ) (φ := φ) (mem := mem) (lk := lk) hq0
  rw [zcell_obj hko h9] at he
  obtain ⟨ty0, ht1, ht2⟩ := ztys hc
  have hkN : k < q.2.2 := by rw [znf_ok hc]; exact hk
  have hty := (ztyB_ok (ht2 k hkN)).1 hi
  have hh : zhas X o (zoff a k) := Or.inl ⟨by omega, k, by rw [hko]; exact hk, by rw [hko]⟩
  refine va_put (C := q.1) (T := q.2.1) (N := q.2.2) hC.2.1 hC.2.2.1 hC.2.2.2.2.2.2.2.2.1 (zuw hc) ty0 ht1 (znms hc) hC.2.2.2.2.2.1 hS.2.2.1 hS.1 hS.2.1 hV q0 he hc k hkN (hC.2.2.2.2.2.2.2.2.1 _ hlink) (fun _ h => h) hfin (by rw [ht1 k hkN, hty]) rfl rfl (by rw [zfs_len]; exact hk) hd (fun H1 locs1 hP1 hD1 hV1 => ?_)
  rw [show ztr φ (Value.int v) = .int v from rfl, zfs_setI h9 hk hi, ← zcell_obj (X := X) (κ := κ) hko h9] at hP1 hD1
  exact h p l e R s m args below meth c H1 locs1 cells slots A D κ φ Z la hX hC hL (hS.sto hX hq0 hh v hP1 hD1) (hXt.sto hX (by omega) hh v) hV1 hA i1 (zins_tl (zins_tl i2)) h3 h4 h5 K
theorem zE_putR {o a k idx v : Nat} {q : vw_C} (hd : decode (zmB y) pc = .ok (.putfield idx, 3)) (hko : kd o = a) (hc : vwCl[a]? = some q) (hk : k < znf a) (hi : zisI a k = false) (hlink : Cond.fieldLink (zmO y) idx (q.2.1 k).1 (q.2.1 k).2.1 (q.2.1 k).2.2.1 ∈ zgd) (hfin : (q.2.1 k).2.2.2 = true) (hin : (zmN y).name = "<init>") (hown : (q.2.1 k).1 = zmO y) (hv : kd v ≠ 13)
    (h : zE X d y (pc + 3) ls st mem (va_up lk (o + zoff a k) (some v)) L lkf Lf Q) : zE X d y pc ls (.ref v :: .ref o :: st) mem lk L lkf Lf Q := by
  intro p l e R s m args below meth c H locs cells slots A D κ φ Z la hX hC hL hS hXt hV hA i1 i2 h3 h4 h5 K
  have h9 := zlt9 hc
  have hoL : o ∈ L := (zins_hd (zins_tl i2)).resolve_right (by omega)
  have hvL : v ∈ L := (zins_hd i2).resolve_right hv
  obtain ⟨q0, hq0⟩ := List.mem_iff_getElem?.mp hoL
  have he := zW_get (X := X) (κ := κ) (φ := φ) (mem := mem) (lk := lk) hq0
  rw [zcell_obj hko h9] at he
  obtain ⟨ty0, ht1, ht2⟩ := ztys hc
  have hkN : k < q.2.2 := by rw [znf_ok hc]; exact hk
  have hty := (ztyB_ok (ht2 k hkN)).2 hi
  have hh : zhas X o (zoff a k) := Or.inl ⟨by omega, k, by rw [hko]; exact hk, by rw [hko]⟩
  have hname : meth.name = "<init>" := hC.2.2.2.2.2.2.2.1.trans hin
  refine va_putF (C := q.1) (T := q.2.1) (N := q.2.2) (ty := ty0 k) hC.2.1 hC.2.2.1 hC.2.2.2.2.2.2.2.2.1 (zuw hc) ty0 ht1 (znms hc) hC.2.2.2.2.2.1 hS.2.2.1 hS.1 hS.2.1 hV q0 he hc k hkN (hC.2.2.2.2.2.2.2.2.1 _ hlink) (fun _ h => h) hfin hname hown (ht1 k hkN) ?_ ?_ (by rw [zfs_len]; exact hk) hd (fun H1 locs1 hP1 hD1 hV1 => ?_)
  · rcases hty with ⟨n, e⟩ | ⟨n, e⟩ <;> rw [e] <;> rfl
  · rcases hty with ⟨n, e⟩ | ⟨n, e⟩ <;> rw [e] <;> rfl
  · rw [show ztr φ (Value.ref v) = .ref (φ v) from rfl, zfs_setR h9 hk hi, ← zcell_obj (X := X) (κ := κ) hko h9] at hP1 hD1
    exact h p l e R s m args below meth c H1 locs1 cells slots A D κ φ Z la hX hC hL (hS.stl hX hq0 hh hvL hP1 hD1) hXt hV1 hA i1 (zins_tl (zins_tl i2)) h3 h4 h5 K
theorem zE_gets {a idx : Nat} {C n : String} (hd : decode (zmB y) pc = .ok (.getstatic idx, 3)) (ha : (a, C, n) ∈ zst4) (hlink : Cond.fieldLink (zmO y) idx C n "[I" ∈ zgd) (h : zE X d y (pc + 3) ls (.ref a :: st) mem lk L lkf Lf Q) : zE X d y pc ls st mem lk L lkf Lf Q := by
  intro p l e R s m args below meth c H locs cells slots A D κ φ Z la hX hC hL hS hXt hV hA i1 i2 h3 h4 h5 K
  exact va_gets hC.2.1 hC.2.2.1 (hXt.2 _ ha) hV hC.2.2.2.2.2.1 (hC.2.2.2.2.2.2.2.2.1 _ hlink) (fun _ h => h) hd (h p l e R s m args below meth c H locs cells slots A D κ φ Z la hX hC hL hS hXt hV hA i1 (zins_cons (Or.inr (zst4_kd _ ha)) i2) h3 h4 h5 K)
theorem vp_in_lt {i : Int32} {n : Nat} (h : vp_in i n) : i.toNatClampNeg < n := Nat.not_le.mp fun q => h (Or.inr q)
theorem zE_iald {o : Nat} {i : Int32} (hd : decode (zmB y) pc = .ok (.iaload, 1)) (hk : kd o = 9 ∨ kd o = 13) (hi : vp_in i (ln X o)) (h : zE X d y (pc + 1) ls (.int (mem (o + i.toNatClampNeg)) :: st) mem lk L lkf Lf Q) : zE X d y pc ls (.int i :: .ref o :: st) mem lk L lkf Lf Q := by
  intro p l e R s m args below meth c H locs cells slots A D κ φ Z la hX hC hL hS hXt hV hA i1 i2 h3 h4 h5 K
  have k1 := h p l e R s m args below meth c H locs cells slots A D κ φ Z la hX hC hL hS hXt hV hA i1 (zins_cons trivial (zins_tl (zins_tl i2))) h3 h4 h5 K
  rcases hk with hk | hk
  · have hoL : o ∈ L := (zins_hd (zins_tl i2)).resolve_right (by omega)
    obtain ⟨q0, hq0⟩ := List.mem_iff_getElem?.mp hoL
    have he := zW_get (X := X) (κ := κ) (φ := φ) (mem := mem) (lk := lk) hq0
    rw [zcell_int hk (Or.inl rfl)] at he
    have hK := zK1 hS hoL (ty := .int) (by rw [hk]; rfl)
    rw [hk] at hK
    refine va_iald hC.2.1 hC.2.2.1 hK hS.1 q0 0 he rfl hi hd ?_
    rw [if_pos (vp_in_lt hi)]
    exact k1
  · exact va_ti hC.2.1 hC.2.2.1 (hXt.1 o hk) hV hi rfl hd k1
theorem zE_iast {o : Nat} {i v : Int32} (hd : decode (zmB y) pc = .ok (.iastore, 1)) (hk : kd o = 9) (hi : vp_in i (ln X o)) (h : zE X d y (pc + 1) ls st (upd mem (o + i.toNatClampNeg) v) lk L lkf Lf Q) : zE X d y pc ls (.int v :: .int i :: .ref o :: st) mem lk L lkf Lf Q := by
  intro p l e R s m args below meth c H locs cells slots A D κ φ Z la hX hC hL hS hXt hV hA i1 i2 h3 h4 h5 K
  have hoL : o ∈ L := (zins_hd (zins_tl (zins_tl i2))).resolve_right (by omega)
  obtain ⟨q0, hq0⟩ := List.mem_iff_getElem?.mp hoL
  have he := zW_get (X := X) (κ := κ) (φ := φ) (mem := mem) (lk := lk) hq0
  rw [zcell_int hk (Or.inl rfl)] at he
  have hK := zK1 hS hoL (ty := .int) (by rw [hk]; rfl)
  rw [hk] at hK
  have hlt := vp_in_lt hi
  have hh : zhas X o i.toNatClampNeg := Or.inr ⟨by omega, by omega, hlt⟩
  have hf : upd (fun j => if j < ln X o then mem (o + j) else 0) i.toNatClampNeg v = (fun j => if j < ln X o then upd mem (o + i.toNatClampNeg) v (o + j) else 0) := by
    funext j
    by_cases e : j = i.toNatClampNeg
    · subst e; rw [upd_eq, if_pos hlt, upd_eq]
    · rw [upd_ne e, upd_ne (by omega)]
  refine va_iast hC.2.1 hC.2.2.1 hK hS.1 hS.2.1 hV q0 0 he rfl hi hd (fun H1 locs1 hP1 hD1 hV1 => ?_)
  rw [hf, ← zcell_int (κ := κ) (φ := φ) (lk := lk) hk (Or.inl rfl)] at hP1 hD1
  exact h p l e R s m args below meth c H1 locs1 cells slots A D κ φ Z la hX hC hL (hS.sto hX hq0 hh v hP1 hD1) (hXt.sto hX (by omega) hh v) hV1 hA i1 (zins_tl (zins_tl (zins_tl i2))) h3 h4 h5 K
theorem zE_bald {o : Nat} {i : Int32} (hd : decode (zmB y) pc = .ok (.baload, 1)) (hk : kd o = 10) (hi : vp_in i (ln X o)) (h : zE X d y (pc + 1) ls (.int (mem (o + i.toNatClampNeg)) :: st) mem lk L lkf Lf Q) : zE X d y pc ls (.int i :: .ref o :: st) mem lk L lkf Lf Q := by
  intro p l e R s m args below meth c H locs cells slots A D κ φ Z la hX hC hL hS hXt hV hA i1 i2 h3 h4 h5 K
  have k1 := h p l e R s m args below meth c H locs cells slots A D κ φ Z la hX hC hL hS hXt hV hA i1 (zins_cons trivial (zins_tl (zins_tl i2))) h3 h4 h5 K
  have hoL : o ∈ L := (zins_hd (zins_tl i2)).resolve_right (by omega)
  obtain ⟨q0, hq0⟩ := List.mem_iff_getElem?.mp hoL
  have he := zW_get (X := X) (κ := κ) (φ := φ) (mem := mem) (lk := lk) hq0
  rw [zcell_int hk (Or.inr rfl)] at he
  have hK := zK1 hS hoL (ty := .boolean) (by rw [hk]; rfl)
  rw [hk] at hK
  refine va_zald hC.2.1 hC.2.2.1 hK hS.1 q0 0 he rfl hi hd ?_
  rw [if_pos (vp_in_lt hi)]
  exact k1
theorem zE_bast {o : Nat} {i v : Int32} (hd : decode (zmB y) pc = .ok (.bastore, 1)) (hk : kd o = 10) (hi : vp_in i (ln X o)) (hv : vp_nar .boolean v = v) (h : zE X d y (pc + 1) ls st (upd mem (o + i.toNatClampNeg) v) lk L lkf Lf Q) : zE X d y pc ls (.int v :: .int i :: .ref o :: st) mem lk L lkf Lf Q := by
  intro p l e R s m args below meth c H locs cells slots A D κ φ Z la hX hC hL hS hXt hV hA i1 i2 h3 h4 h5 K
  have hoL : o ∈ L := (zins_hd (zins_tl (zins_tl i2))).resolve_right (by omega)
  obtain ⟨q0, hq0⟩ := List.mem_iff_getElem?.mp hoL
  have he := zW_get (X := X) (κ := κ) (φ := φ) (mem := mem) (lk := lk) hq0
  rw [zcell_int hk (Or.inr rfl)] at he
  have hK := zK1 hS hoL (ty := .boolean) (by rw [hk]; rfl)
  rw [hk] at hK
  have hlt := vp_in_lt hi
  have hh : zhas X o i.toNatClampNeg := Or.inr ⟨by omega, by omega, hlt⟩
  have hf : upd (fun j => if j < ln X o then mem (o + j) else 0) i.toNatClampNeg (vp_nar .boolean v) = (fun j => if j < ln X o then upd mem (o + i.toNatClampNeg) v (o + j) else 0) := by
    rw [hv]
    funext j
    by_cases e : j = i.toNatClampNeg
    · subst e; rw [upd_eq, if_pos hlt, upd_eq]
    · rw [upd_ne e, upd_ne (by omega)]
  refine va_zast hC.2.1 hC.2.2.1 hK hS.1 hS.2.1 hV q0 0 he rfl hi hd (fun H1 locs1 hP1 hD1 hV1 => ?_)
  rw [hf, ← zcell_int (κ := κ) (φ := φ) (lk := lk) hk (Or.inr rfl)] at hP1 hD1
  exact h p l e R s m args below meth c H1 locs1 cells slots A D κ φ Z la hX hC hL (hS.sto hX hq0 hh v hP1 hD1) (hXt.sto hX (by omega) hh v) hV1 hA i1 (zins_tl (zins_tl (zins_tl i2))) h3 h4 h5 K
theorem zE_aald {o : Nat} {i : Int32} (hd : decode (zmB y) pc = .ok (.aaload, 1)) (hk : kd o = 11 ∨ kd o = 12) (hi : vp_in i (ln X o)) (h0 : lk (o + i.toNatClampNeg) = none → zE X d y (pc + 1) ls (.null :: st) mem lk L lkf Lf Q)
    (h1 : ∀ t, lk (o + i.toNatClampNeg) = some t → zE X d y (pc + 1) ls (.ref t :: st) mem lk L lkf Lf Q) : zE X d y pc ls (.int i :: .ref o :: st) mem lk L lkf Lf Q := by
  intro p l e R s m args below meth c H locs cells slots A D κ φ Z la hX hC hL hS hXt hV hA i1 i2 h3 h4 h5 K
  have hoL : o ∈ L := (zins_hd (zins_tl i2)).resolve_right (by omega)
  obtain ⟨q0, hq0⟩ := List.mem_iff_getElem?.mp hoL
  have he := zW_get (X := X) (κ := κ) (φ := φ) (mem := mem) (lk := lk) hq0
  rw [zcell_ref rfl hk] at he
  have hlt := vp_in_lt hi
  have hh : zhas X o i.toNatClampNeg := Or.inr ⟨by omega, by omega, hlt⟩
  obtain ⟨ty, hty, href⟩ : ∃ ty, zaty (kd o) = some ty ∧ ty.isReference = true := by
    rcases hk with e | e <;> rw [e]
    · exact ⟨_, rfl, rfl⟩
    · exact ⟨_, rfl, rfl⟩
  have hK := zK1 hS hoL hty
  have kk : W p l e R s m args below meth c H locs cells slots Z (F0 m (pc + 1) la (va_rf ((lk (o + i.toNatClampNeg)).map φ) :: st.map (ztr φ))) := by
    cases hl : lk (o + i.toNatClampNeg) with
    | none => exact h0 hl p l e R s m args below meth c H locs cells slots A D κ φ Z la hX hC hL hS hXt hV hA i1 (zins_cons trivial (zins_tl (zins_tl i2))) h3 h4 h5 K
    | some t => exact h1 t hl p l e R s m args below meth c H locs cells slots A D κ φ Z la hX hC hL hS hXt hV hA i1 (zins_cons (Or.inl (hS.2.2.2.2.2 o hoL _ hh t hl)) (zins_tl (zins_tl i2))) h3 h4 h5 K
  refine W.aald (v := va_rf ((lk (o + i.toNatClampNeg)).map φ)) (ty := ty) hC.2.1 hC.2.2.1 (hS.1 q0 _ he) ((hK.2 0 _ rfl).1 (ln X o) (fun j => va_rf (if j < ln X o then (lk (o + j)).map φ else none))) href (fun q => by cases q) (by show ¬ (i < 0 ∨ (arrV _ _ _).slots.size ≤ _); rw [arrV_size]; exact hi) (by show (arrV _ _ _).slots[_]? = _; rw [arrV_read _ _ hlt]; show some (va_rf (if i.toNatClampNeg < ln X o then (lk (o + i.toNatClampNeg)).map φ else none)) = _; rw [if_pos hlt]) rfl rfl hd kk
theorem zE_aast {o v : Nat} {i : Int32} (hd : decode (zmB y) pc = .ok (.aastore, 1)) (hk : kd o = 11) (hkv : kd v = 3) (hi : vp_in i (ln X o)) (h : zE X d y (pc + 1) ls st mem (va_up lk (o + i.toNatClampNeg) (some v)) L lkf Lf Q) : zE X d y pc ls (.ref v :: .int i :: .ref o :: st) mem lk L lkf Lf Q := by
  intro p l e R s m args below meth c H locs cells slots A D κ φ Z la hX hC hL hS hXt hV hA i1 i2 h3 h4 h5 K
  have hoL : o ∈ L := (zins_hd (zins_tl (zins_tl i2))).resolve_right (by omega)
  have hvL : v ∈ L := (zins_hd i2).resolve_right (by omega)
  obtain ⟨q0, hq0⟩ := List.mem_iff_getElem?.mp hoL
  obtain ⟨q1, hq1⟩ := List.mem_iff_getElem?.mp hvL
  have he := zW_get (X := X) (κ := κ) (φ := φ) (mem := mem) (lk := lk) hq0
  rw [zcell_ref hk (Or.inl rfl)] at he
  have he1 := zW_get (X := X) (κ := κ) (φ := φ) (mem := mem) (lk := lk) hq1
  rw [zcell_obj hkv (by omega)] at he1
  have hK := zK1 hS hoL (ty := .object "DishLift$House") (by rw [hk]; rfl)
  rw [hk] at hK
  have hlt := vp_in_lt hi
  have hh : zhas X o i.toNatClampNeg := Or.inr ⟨by omega, by omega, hlt⟩
  have hf : va_up (fun j => if j < ln X o then (lk (o + j)).map φ else none) i.toNatClampNeg (some (φ v)) = (fun j => if j < ln X o then (va_up lk (o + i.toNatClampNeg) (some v) (o + j)).map φ else none) := by
    funext j
    by_cases e : j = i.toNatClampNeg
    · subst e
      have e1 : va_up (fun j => if j < ln X o then (lk (o + j)).map φ else none) i.toNatClampNeg (some (φ v)) i.toNatClampNeg = some (φ v) := if_pos rfl
      have e2 : va_up lk (o + i.toNatClampNeg) (some v) (o + i.toNatClampNeg) = some v := if_pos rfl
      rw [e1, if_pos hlt, e2]; rfl
    · rw [va_up_ne _ _ e, va_up_ne _ _ (by omega)]
  refine va_astq (r := (RX3, TX3, 12)) hC.2.1 hC.2.2.1 hK hS.1 hS.2.1 hV q0 0 q1 3 he rfl he1 rfl hi hd (fun H1 locs1 hP1 hD1 hV1 => ?_)
  rw [hf, ← zcell_ref (κ := κ) (mem := mem) hk (Or.inl rfl)] at hP1 hD1
  exact h p l e R s m args below meth c H1 locs1 cells slots A D κ φ Z la hX hC hL (hS.stl hX hq0 hh hvL hP1 hD1) hXt hV1 hA i1 (zins_tl (zins_tl (zins_tl i2))) h3 h4 h5 K
theorem zE_alen {o : Nat} (hd : decode (zmB y) pc = .ok (.arraylength, 1)) (hk : 9 ≤ kd o ∧ kd o ≤ 13) (h : zE X d y (pc + 1) ls (.int (nI (ln X o)) :: st) mem lk L lkf Lf Q) : zE X d y pc ls (.ref o :: st) mem lk L lkf Lf Q := by
  intro p l e R s m args below meth c H locs cells slots A D κ φ Z la hX hC hL hS hXt hV hA i1 i2 h3 h4 h5 K
  have k1 := h p l e R s m args below meth c H locs cells slots A D κ φ Z la hX hC hL hS hXt hV hA i1 (zins_cons trivial (zins_tl i2)) h3 h4 h5 K
  by_cases h13 : kd o = 13
  · exact va_tlen hC.2.1 hC.2.2.1 (hXt.1 o h13) hV rfl hd k1
  · have hoL : o ∈ L := (zins_hd i2).resolve_right h13
    obtain ⟨q0, hq0⟩ := List.mem_iff_getElem?.mp hoL
    have he := zW_get (X := X) (κ := κ) (φ := φ) (mem := mem) (lk := lk) hq0
    obtain ⟨ty, hty⟩ : ∃ ty, zaty (kd o) = some ty := by
      rcases (show kd o = 9 ∨ kd o = 10 ∨ kd o = 11 ∨ kd o = 12 by omega) with e | e | e | e <;> rw [e] <;> exact ⟨_, rfl⟩
    have hK := zK1 hS hoL hty
    by_cases h11 : kd o < 11
    · rw [zcell_int rfl (by omega)] at he
      exact va_alen hC.2.1 hC.2.2.1 hK hS.1 q0 0 he rfl rfl hd k1
    · rw [zcell_ref rfl (by omega)] at he
      exact va_alen hC.2.1 hC.2.2.1 hK hS.1 q0 0 he rfl rfl hd k1
end ZH
end
section
/-! rows that make, rows that call, rows that return -/
theorem ln_le0 : zZ.all (fun q => Nat.ble q.2.2 1247 || Nat.beq q.2.1 13) = true := by decide +kernel
theorem ln_le {X o : Nat} (h : kd o ≤ 12) : ln X o ≤ 1247 := by
  by_cases ho : o < 10000
  · rcases kd_lt ho with h9 | ⟨k, n, hz, hk, hm⟩
    · omega
    · have h1 := List.all_eq_true.mp ln_le0 _ hm
      simp only [Bool.or_eq_true, Nat.ble_eq, Nat.beq_eq] at h1
      have hne : o ≠ 5000 := fun e => by
        subst e
        have : kd 5000 = 13 := by decide +kernel
        omega
      unfold ln
      rw [show Nat.blt o 10000 = true by rw [Nat.blt_eq]; exact ho, hz, show Nat.beq o 5000 = false by rw [Bool.eq_false_iff, ne_eq, Nat.beq_eq]; exact hne]
      show n ≤ 1247
      omega
  · rw [ln_house X o (by omega)]; omega
theorem zin_mono {L L' : List Nat} (h : ∀ o ∈ L, o ∈ L') {v : Value} (hv : zin L v) : zin L' v := by
  cases v with
  | ref o => exact hv.imp (h o) id
  | _ => exact hv
theorem zins_mono {L L' : List Nat} (h : ∀ o ∈ L, o ∈ L') {vs : List Value} (hv : zins L vs) : zins L' vs := fun v hw => zin_mono h (hv v hw)
theorem ztr_agree {L : List Nat} {φ φ' : Nat → Nat} (h : ∀ o, o ∈ L ∨ kd o = 13 → φ' o = φ o) {v : Value} (hv : zin L v) : ztr φ' v = ztr φ v := by
  cases v with
  | ref o => exact congrArg Value.ref (h o hv)
  | _ => rfl
theorem ztrs_agree {L : List Nat} {φ φ' : Nat → Nat} (h : ∀ o, o ∈ L ∨ kd o = 13 → φ' o = φ o) {vs : List Value} (hv : zins L vs) : vs.map (ztr φ') = vs.map (ztr φ) := List.map_congr_left (fun v hw => ztr_agree h (hv v hw))
theorem zLs.agree {L : List Nat} {φ φ' : Nat → Nat} {n : Nat} {ls : List Value} {la : Array Slot} (hl : zLs φ n ls la) (h : ∀ o, o ∈ L ∨ kd o = 13 → φ' o = φ o) (hv : zins L ls) : zLs φ' n ls la :=
  ⟨hl.1, hl.2.1, hl.2.2.1, fun i v h1 h2 => by rw [ztr_agree h (zins_at hv h1)]; exact hl.2.2.2 i v h1 h2⟩
section ZC
variable {X d y pc : Nat} {ls st : List Value} {mem : zMem} {lk : zLk} {L : List Nat} {lkf : zLk} {Lf : List Nat} {Q : Option Value → zMem → Prop}
/-- behind a new id -/
theorem zE_made {o q N : Nat} {p : Program} {l : Launch} {e : Env} {R : Room} {s : State} {m : MethodId} {args : Array Value} {below : List Frame} {meth : Method} {c : Code} {H H1 : Heap} {locs : List Loc} {cells slots : Nat} {A : Nat → Prop} {D : va_G} {κ κ' : Nat → ClassId} {φ : Nat → Nat} {Z : State → Prop} {la : Array Slot} {pc' : Nat} {ce : va_E}
    (h : zE X d y pc' ls (.ref o :: st) (zclr o mem) (zclk o lk) (L ++ [o]) lkf Lf Q) (ho : o ∉ L) (hko : kd o ≤ 12) (hlen : L.length + 1 ≤ Lf.length) (hN : N ≤ 1300)
    (hX : X ≤ 3072) (hC : zCx d y p R s m args meth c) (hL : zLs φ (zmL y) ls la) (hS : zSm X A D κ φ mem lk L s H) (hXt : zXt X A φ mem s s.heap) (hA : ∀ q, s.heap.size ≤ q → A q) (i1 : zins L ls) (i2 : zins L st) (h4 : cells + (Lf.length - L.length) ≤ R.cells) (h5 : slots + 1300 * (Lf.length - L.length) ≤ R.slots)
    (K : ∀ (r : Option Value) (mem' : zMem) (H' : Heap) (locs' : List Loc) (cells' slots' : Nat) (κ' : Nat → ClassId) (φ' : Nat → Nat) (pc' : Nat) (la' : Array Slot),
      Q r mem' → zSm X A D κ' φ' mem' lkf Lf s H' → zXt X A φ' mem' s s.heap → va_S A s.heap H' locs' → cells' ≤ R.cells → slots' ≤ R.slots → (∀ o, o ∈ L ∨ kd o = 13 → φ' o = φ o) → (∀ o ∈ L, o ∈ Lf) → (∀ v, r = some v → zin Lf v) → zRet y pc' r →
      W p l e R s m args below meth c H' locs' cells' slots' Z (F0 m pc' la' (r.map (ztr φ')).toList))
    (hκ : ∀ o' ∈ L, 9 ≤ kd o' → κ' (kd o') = κ (kd o')) (hty : ∀ ty, zaty (kd o) = some ty → ArrOfT s (κ' (kd o)) ty ∧ va_RA s (κ' (kd o)) ty)
    (hce : zcell X κ' (va_up φ o q) (zclr o mem) (zclk o lk) o = ce) (hP : va_P D vwCl (zW X κ φ mem lk L ++ [(q, ce)]) H1) (hD : va_D A (zW X κ φ mem lk L ++ [(q, ce)])) (hV : va_S A s.heap H1 locs) :
    W p l e R s m args below meth c H1 locs (cells + 1) (slots + N) Z (F0 m pc' la (.ref q :: st.map (ztr φ))) := by
  have hag : ∀ o', o' ∈ L ∨ kd o' = 13 → va_up φ o q o' = φ o' := fun o' h' => if_neg (fun e2 => by
    subst e2
    rcases h' with h' | h'
    · exact ho h'
    · omega)
  have hsub : ∀ o' ∈ L, o' ∈ L ++ [o] := fun o' h' => List.mem_append_left _ h'
  have hlen' : (L ++ [o]).length = L.length + 1 := by simp
  have k1 := h p l e R s m args below meth c H1 locs (cells + 1) (slots + N) A D κ' (va_up φ o q) Z la hX hC (hL.agree hag i1) (hS.push hX ho hko hκ hty hce hP hD) (hXt.push hX hko) hV hA (zins_mono hsub i1) (zins_cons (Or.inl (List.mem_append_right _ List.mem_cons_self)) (zins_mono hsub i2)) (by rw [hlen']; exact hlen) (by rw [hlen']; omega) (by rw [hlen']; omega)
    (fun r mem' H' locs' cells' slots' κ'' φ'' pc'' la' a1 a2 a3 a4 a5 a6 a7 a8 a9 a10 => K r mem' H' locs' cells' slots' κ'' φ'' pc'' la' a1 a2 a3 a4 a5 a6 (fun o' h' => (a7 o' (h'.imp (hsub o') id)).trans (hag o' h')) (fun o' h' => a8 o' (hsub o' h')) a9 a10)
  rw [List.map_cons, ztrs_agree hag i2] at k1
  have e1 : ztr (va_up φ o q) (Value.ref o) = .ref q := congrArg Value.ref (if_pos rfl)
  rw [e1] at k1
  exact k1
theorem zE_new {o a idx : Nat} {q : vw_C} (hd : decode (zmB y) pc = .ok (.new idx, 3)) (hc : vwCl[a]? = some q) (hl1 : Cond.classLink (zmO y) idx q.1 ∈ zgd) (hl2 : Cond.instantiable q.1 q.2.2 ∈ zgd) (hl3 : Cond.initialized q.1 ∈ zgd) (hko : kd o = a) (ho : o ∉ L) (hlen : L.length + 1 ≤ Lf.length)
    (h : zE X d y (pc + 3) ls (.ref o :: st) (zclr o mem) (zclk o lk) (L ++ [o]) lkf Lf Q) : zE X d y pc ls st mem lk L lkf Lf Q := by
  intro p l e R s m args below meth c H locs cells slots A D κ φ Z la hX hC hL hS hXt hV hA i1 i2 h3 h4 h5 K
  have h9 := zlt9 hc
  obtain ⟨ty0, ht1, ht2⟩ := ztys hc
  have hN := znf_ok hc
  have hb : znf a ≤ 19 := by
    rcases (show a = 0 ∨ a = 1 ∨ a = 2 ∨ a = 3 ∨ a = 4 ∨ a = 5 ∨ a = 6 ∨ a = 7 ∨ a = 8 by omega) with rfl | rfl | rfl | rfl | rfl | rfl | rfl | rfl | rfl <;> decide
  refine va_new (ci := a) (C := q.1) (T := q.2.1) (N := q.2.2) (fs := (List.range (znf a)).map (fun k => if zisI a k = true then Value.int 0 else Value.null)) hC.2.1 hC.2.2.1 hC.2.2.2.2.2.2.2.2.1 (zuw hc) ty0 ht1 hC.2.2.2.2.2.1 (hC.2.2.2.2.2.2.2.2.1 _ hl1) (hC.2.2.2.2.2.2.2.2.1 _ hl2) (hC.2.2.2.2.2.2.2.2.1 _ hl3) hS.2.2.1 hS.1 hS.2.1 hV hA hc ?_ (by omega) (by rw [hN]; omega) hd (fun q1 H1 hP1 hD1 hV1 => ?_)
  · intro j hj
    have hj' : j < znf a := by rw [← hN]; exact hj
    unfold vp_V
    rw [List.getD_eq_getElem?_getD, List.getElem?_map, List.getElem?_range hj']
    show _ = (if zisI a j = true then Value.int 0 else Value.null)
    have := ztyB_ok (ht2 j hj)
    cases hz : zisI a j with
    | true => rw [this.1 hz]; rfl
    | false =>
      rcases this.2 hz with ⟨n, e⟩ | ⟨n, e⟩ <;> rw [e] <;> rfl
  · refine zE_made (κ := κ) (κ' := κ) (N := q.2.2) h ho (by omega) hlen (by rw [hN]; omega) hX hC hL hS hXt hA i1 i2 h4 h5 K (fun _ _ _ => rfl) (fun ty hy => ?_) ?_ hP1 hD1 hV1
    · exfalso
      rw [hko] at hy
      rcases (show a = 0 ∨ a = 1 ∨ a = 2 ∨ a = 3 ∨ a = 4 ∨ a = 5 ∨ a = 6 ∨ a = 7 ∨ a = 8 by omega) with rfl | rfl | rfl | rfl | rfl | rfl | rfl | rfl | rfl <;> cases hy
    · rw [zcell_obj hko h9]
      unfold zfs
      congr 2
      apply List.map_congr_left
      intro k hk
      have hh : zhas X o (zoff a k) := Or.inl ⟨by omega, k, by rw [hko]; exact List.mem_range.mp hk, by rw [hko]⟩
      rw [zclr_in hX mem hh, zclk_in hX lk hh]; rfl
theorem nI_ok {n : Nat} (h : n ≤ 1247) : ¬ nI n < 0 ∧ (nI n).toNatClampNeg = n := ⟨nI_pos (by omega), nI_clamp (by omega)⟩
theorem zRA_uniq {s : State} {c1 c2 : ClassId} {ty : FieldType} (h1 : va_RA s c1 ty) (h2 : va_RA s c2 ty) : c1 = c2 := by
  cases ty with
  | object C =>
    obtain ⟨-, -, -, -, -, g1⟩ := h1
    obtain ⟨-, -, -, -, -, g2⟩ := h2
    exact Option.some.inj (g1.symm.trans g2)
  | _ => exact Option.some.inj (Eq.trans (Eq.symm h1) h2)
theorem zaty_inj {a b : Nat} {ty : FieldType} (h : zaty a = some ty) (h' : zaty b = some ty) : a = b := by
  unfold zaty at h h'
  split at h <;> split at h' <;> first | rfl | (cases h; cases h'; done) | (cases h; done) | (cases h'; done)
theorem zκ {X : Nat} {A : Nat → Prop} {D : va_G} {κ : Nat → ClassId} {φ : Nat → Nat} {mem : zMem} {lk : zLk} {L : List Nat} {s : State} {H : Heap} (hS : zSm X A D κ φ mem lk L s H) {a : Nat} {ty : FieldType} (ha : zaty a = some ty) {cA : ClassId} (hr : va_RA s cA ty) : ∀ o' ∈ L, 9 ≤ kd o' → va_up κ a cA (kd o') = κ (kd o') := fun o' ho' _ => by
  by_cases e : kd o' = a
  · have h1 := (hS.2.2.2.1 o' ho' ty (by rw [e]; exact ha)).2
    rw [e] at h1 ⊢
    rw [show va_up κ a cA a = cA from if_pos rfl]
    exact zRA_uniq hr h1
  · exact va_up_ne _ _ e
theorem zE_newI {o : Nat} {n : Int32} (hd : decode (zmB y) pc = .ok (.newarray .int, 2)) (hw : Cond.arrayClass .int ∈ zgd) (hko : kd o = 9) (hn : n = nI (ln X o)) (ho : o ∉ L) (hlen : L.length + 1 ≤ Lf.length)
    (h : zE X d y (pc + 2) ls (.ref o :: st) (zclr o mem) (zclk o lk) (L ++ [o]) lkf Lf Q) : zE X d y pc ls (.int n :: st) mem lk L lkf Lf Q := by
  intro p l e R s m args below meth c H locs cells slots A D κ φ Z la hX hC hL hS hXt hV hA i1 i2 h3 h4 h5 K
  have hle := ln_le (X := X) (o := o) (by omega)
  obtain ⟨n1, n2⟩ := nI_ok hle
  subst hn
  refine va_newa (atype := .int) (ty := .int) (a0 := (ln X o, .inl (fun _ => 0))) hC.2.1 hC.2.2.1 (hC.2.2.2.2.2.2.2.2.1 _ hw) rfl hS.2.2.1 hS.1 hS.2.1 hV hA (fun _ => rfl) n1 n2 (by show ln X o * 4 ≤ _; omega) (by omega) (by omega) hd (fun q1 cA H1 hK1 hP1 hD1 hV1 => ?_)
  have hr : ArrOfT s cA .int ∧ va_RA s cA .int := hK1.2 0 _ rfl
  have hup : va_up κ 9 cA 9 = cA := if_pos rfl
  refine zE_made (κ := κ) (κ' := va_up κ 9 cA) (N := ln X o) h ho (by omega) hlen (by omega) hX hC hL hS hXt hA i1 (zins_tl i2) h4 h5 K (zκ hS rfl hr.2) (fun ty hy => ?_) ?_ hP1 hD1 hV1
  · rw [hko] at hy ⊢; cases hy; rw [hup]; exact hr
  · rw [zcell_int hko (Or.inl rfl), hup]
    have : (fun i => if i < ln X o then zclr o mem (o + i) else 0) = fun _ => 0 := by
      funext i
      by_cases hi : i < ln X o
      · rw [if_pos hi, zclr_in hX mem (Or.inr ⟨by omega, by omega, hi⟩)]
      · rw [if_neg hi]
    rw [this]
theorem zE_newZ {o : Nat} {n : Int32} (hd : decode (zmB y) pc = .ok (.newarray .boolean, 2)) (hw : Cond.arrayClass .boolean ∈ zgd) (hko : kd o = 10) (hn : n = nI (ln X o)) (ho : o ∉ L) (hlen : L.length + 1 ≤ Lf.length)
    (h : zE X d y (pc + 2) ls (.ref o :: st) (zclr o mem) (zclk o lk) (L ++ [o]) lkf Lf Q) : zE X d y pc ls (.int n :: st) mem lk L lkf Lf Q := by
  intro p l e R s m args below meth c H locs cells slots A D κ φ Z la hX hC hL hS hXt hV hA i1 i2 h3 h4 h5 K
  have hle := ln_le (X := X) (o := o) (by omega)
  obtain ⟨n1, n2⟩ := nI_ok hle
  subst hn
  refine va_newa (atype := .boolean) (ty := .boolean) (a0 := (ln X o, .inl (fun _ => 0))) hC.2.1 hC.2.2.1 (hC.2.2.2.2.2.2.2.2.1 _ hw) rfl hS.2.2.1 hS.1 hS.2.1 hV hA (fun _ => rfl) n1 n2 (by show ln X o * 1 ≤ _; omega) (by omega) (by omega) hd (fun q1 cA H1 hK1 hP1 hD1 hV1 => ?_)
  have hr : ArrOfT s cA .boolean ∧ va_RA s cA .boolean := hK1.2 0 _ rfl
  have hup : va_up κ 10 cA 10 = cA := if_pos rfl
  refine zE_made (κ := κ) (κ' := va_up κ 10 cA) (N := ln X o) h ho (by omega) hlen (by omega) hX hC hL hS hXt hA i1 (zins_tl i2) h4 h5 K (zκ hS rfl hr.2) (fun ty hy => ?_) ?_ hP1 hD1 hV1
  · rw [hko] at hy ⊢; cases hy; rw [hup]; exact hr
  · rw [zcell_int hko (Or.inr rfl), hup]
    have : (fun i => if i < ln X o then zclr o mem (o + i) else 0) = fun _ => 0 := by
      funext i
      by_cases hi : i < ln X o
      · rw [if_pos hi, zclr_in hX mem (Or.inr ⟨by omega, by omega, hi⟩)]
      · rw [if_neg hi]
    rw [this]
theorem zE_anew {o idx : Nat} {n : Int32} (hd : decode (zmB y) pc = .ok (.anewarray idx, 3)) (hw : Cond.classLink (zmO y) idx "DishLift$House" ∈ zgd) (hko : kd o = 11) (hn : n = nI (ln X o)) (ho : o ∉ L) (hlen : L.length + 1 ≤ Lf.length)
    (h : zE X d y (pc + 3) ls (.ref o :: st) (zclr o mem) (zclk o lk) (L ++ [o]) lkf Lf Q) : zE X d y pc ls (.int n :: st) mem lk L lkf Lf Q := by
  intro p l e R s m args below meth c H locs cells slots A D κ φ Z la hX hC hL hS hXt hV hA i1 i2 h3 h4 h5 K
  have hle := ln_le (X := X) (o := o) (by omega)
  obtain ⟨n1, n2⟩ := nI_ok hle
  subst hn
  refine va_newq (C := "DishLift$House") hC.2.1 hC.2.2.1 hC.2.2.2.2.2.1 (hC.2.2.2.2.2.2.2.2.1 _ hw) hC.2.2.2.2.2.2.2.2.2.2.1 hS.2.2.1 hS.1 hS.2.1 hV hA n1 n2 (by omega) (by omega) (by omega) hd (fun q1 cA H1 hK1 hP1 hD1 hV1 => ?_)
  have hr : ArrOfT s cA (.object "DishLift$House") ∧ va_RA s cA (.object "DishLift$House") := hK1.2 0 _ rfl
  have hup : va_up κ 11 cA 11 = cA := if_pos rfl
  refine zE_made (κ := κ) (κ' := va_up κ 11 cA) (N := ln X o) h ho (by omega) hlen (by omega) hX hC hL hS hXt hA i1 (zins_tl i2) h4 h5 K (zκ hS rfl hr.2) (fun ty hy => ?_) ?_ hP1 hD1 hV1
  · rw [hko] at hy ⊢; cases hy; rw [hup]; exact hr
  · rw [zcell_ref hko (Or.inl rfl), hup]
    have : (fun i => if i < ln X o then (zclk o lk (o + i)).map (va_up φ o q1) else none) = fun _ => none := by
      funext i
      by_cases hi : i < ln X o
      · rw [if_pos hi, zclk_in hX lk (Or.inr ⟨by omega, by omega, hi⟩)]; rfl
      · rw [if_neg hi]
    rw [this]
theorem zE_ret {r : Option Value} {stk : List Value} (hs : stk = r.toList) (hr : zRet y pc r) (h1 : lk = lkf) (h2 : L = Lf) (h : Q r mem) : zE X d y pc ls stk mem lk L lkf Lf Q := by
  intro p l e R s m args below meth c H locs cells slots A D κ φ Z la hX hC hL hS hXt hV hA i1 i2 h3 h4 h5 K
  subst h1; subst h2; subst hs
  have k1 := K r mem H locs cells slots κ φ pc la h hS hXt hV (by omega) (by omega) (fun _ _ => rfl) (fun _ h => h) (fun v hv => i2 v (by rw [hv]; exact List.mem_cons_self)) hr
  rw [show (r.toList).map (ztr φ) = (r.map (ztr φ)).toList by cases r <;> rfl]
  exact k1
theorem zE_oinit {idx o : Nat} (hd : decode (zmB y) pc = .ok (.invokespecial idx, 3)) (hl1 : Cond.methodLink (zmO y) idx Lib.objectInit ∈ zgd) (hl2 : Cond.instanceMethod Lib.objectInit ∈ zgd) (hl3 : Cond.code Lib.objectInit ⟨#[0xb1]⟩ 1 none ∈ zgd) (hst : zcat st ≤ 8) (h : zE X d y (pc + 3) ls st mem lk L lkf Lf Q) : zE X d y pc ls (.ref o :: st) mem lk L lkf Lf Q :=
  zE_step h (fun a b => ⟨a, zins_tl b⟩) (fun p l e R s m args below meth c H locs cells slots φ Z la hC hL K => by
    have hcat : ((st.map (ztr φ)).map fun v => v.category).sum = zcat st := by
      unfold zcat
      rw [List.map_map]
      congr 1
      exact List.map_congr_left (fun v _ => ztr_cat φ v)
    have hd1 := hC.1
    have hf := hC.2.2.2.2.2.2.2.2.2.2.2.1
    have hlo := hC.2.2.2.2.2.2.2.2.2.2.2.2
    refine W.objInit hC.2.1 hC.2.2.1 hC.2.2.2.2.2.1 (hC.2.2.2.2.2.2.2.2.1 _ hl1) (hC.2.2.2.2.2.2.2.2.1 _ hl2) (hC.2.2.2.2.2.2.2.2.1 _ hl3) (g := F0 m pc la ((Value.ref o :: st).map (ztr φ))) rfl (hL.1.trans hC.2.2.2.2.1.symm) (a := φ o) (rest := st.map (ztr φ)) rfl hd (by omega) ?_ (K la hL)
    have := lv_room (m := m) (pc := pc) (ls := la) (rest := (Value.ref o :: st).map (ztr φ)) (st := st.map (ztr φ)) (by rw [hcat]; exact hst)
    omega)
end ZC
end
section
/-! calls -/
/-- what the tables say of a method -/
def zMk (y : Nat) : Prop := (Cond.code (zmN y) (zmB y) (zmL y) (zmR y) ∈ zgd) ∧ (Cond.initialized (zmN y).cls ∈ zgd) ∧ ((zmN y).cls ≠ "java/lang/invoke/MethodHandle" ∧ (zmN y).cls ≠ "java/lang/invoke/VarHandle") ∧ zmL y ≤ 80 ∧ plainName (zmN y).cls = true
theorem zpop_ok : ∀ (n : Nat) (acc st args st' : List Value), zpop n acc st = some (args, st') → ∃ as, as.length = n ∧ args = as.reverse ++ acc ∧ st = as ++ st'
  | 0, acc, st, args, st', h => by cases h; exact ⟨[], rfl, rfl, rfl⟩
  | n + 1, acc, [], args, st', h => by cases h
  | n + 1, acc, v :: st, args, st', h => by
    obtain ⟨as, h1, h2, h3⟩ := zpop_ok n (v :: acc) st args st' h
    exact ⟨v :: as, by simp [h1], by rw [h2]; simp, by rw [h3]; rfl⟩
theorem zcat_tr (φ : Nat → Nat) (st : List Value) : ((st.map (ztr φ)).map fun v => v.category).sum = zcat st := by
  unfold zcat
  rw [List.map_map]
  congr 1
  exact List.map_congr_left (fun v _ => ztr_cat φ v)
theorem zXt_eq {X : Nat} {A : Nat → Prop} {φ φ' : Nat → Nat} {mem mem' : zMem} {s U : State} {H H1 : Heap} (h : zXt X A φ mem s H) (h' : zXt X A φ' mem' U H1) (hq : ∀ a : Nat, a < H.size → ¬ A a → H1[a]? = H[a]?) (hφ : ∀ o, kd o = 13 → φ' o = φ o) : ∀ o, kd o = 13 → ∀ i, i < ln X o → mem' (o + i) = mem (o + i) := by
  intro o ho i hi
  obtain ⟨c1, a1, a2, a3, a4, a5, a6, a7⟩ := h.1 o ho
  obtain ⟨c2, b1, b2, b3, b4, b5, b6, b7⟩ := h'.1 o ho
  rw [hφ o ho, hq _ (Array.getElem?_eq_some_iff.mp a1).1 a7, a1] at b1
  cases b1
  have e : some (Value.int (mem' (o + i))) = some (Value.int (mem (o + i))) := (b6 i hi).symm.trans (a6 i hi)
  injection e with e
  injection e with e
theorem znw_same {u U : State} (h : u.vm = U.vm) (hw : ∀ w ∈ znw, va_Nw w u) : ∀ w ∈ znw, va_Nw w U := fun w hm => by
  have hn := (List.mem_filter.mp hm).2
  have h1 := hw w hm
  cases w <;> first | (cases hn; done) | exact va_Nw.same rfl h h1
section ZV
variable {X d y pc : Nat} {ls st : List Value} {mem : zMem} {lk : zLk} {L : List Nat} {lkf : zLk} {Lf : List Nat} {Q : Option Value → zMem → Prop}
/-- behind a call -/
theorem zE_back {p : Program} {l : Launch} {e : Env} {R : Room} {s : State} {m : MethodId} {args : Array Value} {below : List Frame} {meth : Method} {c : Code} {H : Heap} {locs : List Loc} {cells slots : Nat} {A : Nat → Prop} {D : va_G} {φ : Nat → Nat} {Z : State → Prop} {la : Array Slot}
    {lk' : zLk} {L' : List Nat} {Q' : Option Value → zMem → Prop} {stk : List Value} {arr : Array Value}
    (hr : va_Run p l e R s m args below meth c H locs cells slots (L'.length - L.length) (1300 * (L'.length - L.length)) (F0 m pc la stk) (st.map (ztr φ)) (zPost X A D φ L lk' L' Q' arr) A)
    (hQ : ∀ r mem', Q' r mem' → zE X d y (pc + 3) ls (zpush r st) mem' lk' L' lkf Lf Q) (hl1 : L'.length ≤ Lf.length) (hl2 : L.length ≤ L'.length)
    (hX : X ≤ 3072) (hC : zCx d y p R s m args meth c) (hL : zLs φ (zmL y) ls la) (hXt : zXt X A φ mem s s.heap) (hV : va_S A s.heap H locs) (hA : ∀ q, s.heap.size ≤ q → A q) (i1 : zins L ls) (i2 : zins L st) (h4 : cells + (Lf.length - L.length) ≤ R.cells) (h5 : slots + 1300 * (Lf.length - L.length) ≤ R.slots)
    (K : ∀ (r : Option Value) (mem' : zMem) (H' : Heap) (locs' : List Loc) (cells' slots' : Nat) (κ' : Nat → ClassId) (φ' : Nat → Nat) (pc' : Nat) (la' : Array Slot),
      Q r mem' → zSm X A D κ' φ' mem' lkf Lf s H' → zXt X A φ' mem' s s.heap → va_S A s.heap H' locs' → cells' ≤ R.cells → slots' ≤ R.slots → (∀ o, o ∈ L ∨ kd o = 13 → φ' o = φ o) → (∀ o ∈ L, o ∈ Lf) → (∀ v, r = some v → zin Lf v) → zRet y pc' r →
      W p l e R s m args below meth c H' locs' cells' slots' Z (F0 m pc' la' (r.map (ztr φ')).toList)) :
    W p l e R s m args below meth c H locs cells slots Z (F0 m pc la stk) := by
  intro T hT XX
  obtain ⟨v, st₀, t, T', Lc, h0, X', hLc, e1, e2, ⟨⟨r, mem', κ', φ', hv, hq, hS', hX', hag, hsub, hrin⟩, hz, hk⟩, go⟩ := hr T hT XX
  cases hv
  rw [h0] at hz hk
  have hvm : s.vm.Alike t.vm := by rw [← e2]; exact X'.warmed.alike
  have hS2 : zSm X A D κ' φ' mem' lk' L' s T'.heap := by rw [e1]; exact hS'.moved hvm.symm
  have hkk : ∀ a : Nat, a < s.heap.size → ¬ A a → t.heap[a]? = s.heap[a]? := fun a g1 g2 => (hk a (Nat.lt_of_lt_of_le g1 hV.1) g2).trans (hV.2.1 a g1 g2)
  have hag13 : ∀ o, kd o = 13 → φ' o = φ o := fun o ho => hag o (Or.inr ho)
  have hX2 : zXt X A φ' mem' s s.heap := hXt.same hag13 (zXt_eq hXt hX' hkk hag13)
  have hV2 : va_S A s.heap T'.heap (locs ++ Lc) := ⟨Nat.le_trans hV.1 (by rw [e1]; exact hz), fun q g1 g2 => by rw [e1]; exact hkk q g1 g2, fun q hq => by
    rcases List.mem_append.mp hq with g | g
    · exact hV.2.2 q g
    · exact hLc q g⟩
  have hin : zins L' (zpush r st) := by
    cases r with
    | none => exact zins_mono hsub i2
    | some v => exact zins_cons (hrin v rfl) (zins_mono hsub i2)
  obtain ⟨t2, b1, b2⟩ := hQ r mem' hq p l e R s m args below meth c T'.heap (locs ++ Lc) (cells + (L'.length - L.length)) (slots + 1300 * (L'.length - L.length)) A D κ' φ' Z la hX hC (hL.agree hag i1) hS2 hX2 hV2 hA (zins_mono hsub i1) hin hl1 (by omega) (by omega)
    (fun r' mem'' H' locs' cells' slots' κ'' φ'' pc'' la' a1 a2 a3 a4 a5 a6 a7 a8 a9 a10 => K r' mem'' H' locs' cells' slots' κ'' φ'' pc'' la' a1 a2 a3 a4 a5 a6 (fun o' h' => (a7 o' (h'.imp (hsub o') id)).trans (hag o' h')) (fun o' h' => a8 o' (hsub o' h')) a9 a10) T' rfl X'
  refine ⟨t2, go t2 ?_, b2⟩
  have es : (zpush r st).map (ztr φ') = (r.map (ztr φ')).toList ++ st.map (ztr φ) := by
    cases r with
    | none => exact ztrs_agree hag i2
    | some v =>
      show ztr φ' v :: st.map (ztr φ') = ztr φ' v :: st.map (ztr φ)
      rw [ztrs_agree hag i2]
  rw [es] at b1
  exact b1
theorem zPre_blind {A : Nat → Prop} {D : va_G} {κ : Nat → ClassId} {φ : Nat → Nat} {av : List Value} {args : List Value} : FrameBlind (va_Pc av (zPre X A D κ φ args mem lk L)) := fun a U g mk h => by
  obtain ⟨h1, h2, h3, h4, h5, h6, h7, h8⟩ := h
  exact ⟨h1, h2, h3.moved (Vm.Alike.refl U.vm), h4.moved (Vm.Alike.refl U.vm), h5, h6, znw_same (u := U) (U := U.calling g mk a) rfl h7, va_AO.moved (u := U) (U := U.calling g mk a) (Vm.Alike.refl U.vm) h8⟩
theorem zPre_of {p : Program} {R : Room} {s : State} {m : MethodId} {args : Array Value} {meth : Method} {c : Code} {H : Heap} {locs : List Loc} {A : Nat → Prop} {D : va_G} {κ : Nat → ClassId} {φ : Nat → Nat} {as : List Value} (hX : X ≤ 3072) (hC : zCx d y p R s m args meth c) (hS : zSm X A D κ φ mem lk L s H) (hXt : zXt X A φ mem s s.heap) (hV : va_S A s.heap H locs) (hA : ∀ q, s.heap.size ≤ q → A q) (hi : zins L as) :
    ∀ U : State, U.heap = H → s.WarmedH U.vm → va_Pc (as.map (ztr φ)) (zPre X A D κ φ as mem lk L) (as.map (ztr φ)).toArray U := fun U hU hW => by
  refine ⟨rfl, hX, ?_, ?_, ?_, hi, znw_warm hW hC.2.2.2.2.2.2.2.2.2.1, va_AO.moved hW.alike hC.2.2.2.2.2.2.2.2.2.2.1⟩
  · rw [hU]; exact hS.moved hW.alike
  · rw [hU]; exact (hXt.kept hV.2.1).moved hW.alike
  · rw [hU]; exact fun q hq => hA q (Nat.le_trans hV.1 hq)
theorem zws_good {y' : Nat} (h : zMk y') : GoodIn zgd (zws y') := zgd_good _ (fun w hw => by
  rcases List.mem_cons.mp hw with e | e
  · rw [e]; exact h.1
  · exact e)
theorem zE_callS {y' n idx : Nat} {as : List Value} {lk' : zLk} {L' : List Nat} {Q' : Option Value → zMem → Prop} {stk : List Value} (hd : decode (zmB y) pc = .ok (.invokestatic idx, 3)) (hm : zMk y') (hl : Cond.methodLink (zmO y) idx (zmN y') ∈ zgd) (hst : Cond.static (zmN y') ∈ zgd) (hn : (parseMethodDescriptor (zmN y').desc).map (fun d => d.parameters.length) = some n)
    (hp : zpop n [] stk = some (as, st)) (hcat : zcat st ≤ 8) (hl1 : L'.length ≤ Lf.length) (hl2 : L.length ≤ L'.length) (hok : zOk X (d - 1) y' as mem lk L lk' L' Q') (hQ : ∀ r mem', Q' r mem' → zE X d y (pc + 3) ls (zpush r st) mem' lk' L' lkf Lf Q) : zE X d y pc ls stk mem lk L lkf Lf Q := by
  intro p l e R s m args below meth c H locs cells slots A D κ φ Z la hX hC hL hS hXt hV hA i1 i2 h3 h4 h5 K
  obtain ⟨ra, q1, q2, q3⟩ := zpop_ok _ _ _ _ _ hp
  rw [List.append_nil] at q2
  have hia : zins L as := fun v hv => i2 v (by rw [q3]; exact List.mem_append_left _ (by rw [q2] at hv; exact List.mem_reverse.mp hv))
  have hit : zins L st := fun v hv => i2 v (by rw [q3]; exact List.mem_append_right _ hv)
  obtain ⟨hd0, hM⟩ := hok
  have hf := hC.2.2.2.2.2.2.2.2.2.2.2.1
  have hlo := hC.2.2.2.2.2.2.2.2.2.2.2.2
  have hml := hm.2.2.2.1
  have hlas : (as.map (ztr φ)).length = n := by rw [List.length_map, q2, List.length_reverse]; exact q1
  have hstk : stk.map (ztr φ) = (as.map (ztr φ)).reverse ++ st.map (ztr φ) := by rw [q3, q2, List.map_append, List.map_reverse, List.reverse_reverse]
  refine zE_back (st := st) (va_runS (ws := zws y') (rm := zRm (d - 1) (L'.length - L.length)) (As := as.map (ztr φ)) (rest := st.map (ztr φ)) ⟨hC.2.1, hC.2.2.1, hC.2.2.2.2.1, hC.2.2.2.2.2.1, hC.2.2.2.2.2.2.2.2.1⟩ (hM l A D κ φ)
    ⟨callB_of n hC.2.2.2.2.2.2.2.2.1 (zws_good hm) rfl rfl rfl (hC.2.2.2.2.2.2.2.2.1 _ hm.2.1) (hC.2.2.2.2.2.2.2.2.1 _ hl) ⟨hm.2.2.1.1, hm.2.2.1.2, hn⟩ ⟨by show d - 1 + 1 ≤ R.frames; omega, by show 8 + (zmL y' + 11) + 100 * (d - 1) ≤ R.locals; omega⟩, hC.2.2.2.2.2.2.2.2.1 _ hst⟩
    ⟨zPre_blind, zPre_of hX hC hS hXt hV hA hia⟩ rfl hlas hL.1 hstk (lv_room (by rw [zcat_tr]; exact hcat)) hd ⟨by omega, by omega⟩) hQ hl1 hl2 hX hC hL hXt hV hA i1 hit h4 h5 K
theorem zE_callV {y' n idx o : Nat} {q : vw_C} {as : List Value} {lk' : zLk} {L' : List Nat} {Q' : Option Value → zMem → Prop} {stk : List Value} (hd : decode (zmB y) pc = .ok (.invokevirtual idx, 3)) (hm : zMk y') (hl : Cond.methodLink (zmO y) idx (zmN y') ∈ zgd) (hin : Cond.instanceMethod (zmN y') ∈ zgd) (hse : Cond.selects (zmN y').cls (zmN y') (zmN y') ∈ zgd) (hn : (parseMethodDescriptor (zmN y').desc).map (fun d => d.parameters.length) = some n) (hc : vwCl[kd o]? = some q) (hqc : q.1 = (zmN y').cls)
    (hp : zpop (n + 1) [] stk = some (.ref o :: as, st)) (hcat : zcat st ≤ 8) (hl1 : L'.length ≤ Lf.length) (hl2 : L.length ≤ L'.length) (hok : zOk X (d - 1) y' (.ref o :: as) mem lk L lk' L' Q') (hQ : ∀ r mem', Q' r mem' → zE X d y (pc + 3) ls (zpush r st) mem' lk' L' lkf Lf Q) : zE X d y pc ls stk mem lk L lkf Lf Q := by
  intro p l e R s m args below meth c H locs cells slots A D κ φ Z la hX hC hL hS hXt hV hA i1 i2 h3 h4 h5 K
  obtain ⟨ra, q1, q2, q3⟩ := zpop_ok _ _ _ _ _ hp
  rw [List.append_nil] at q2
  have hia : zins L (.ref o :: as) := fun v hv => i2 v (by rw [q3]; exact List.mem_append_left _ (by rw [q2] at hv; exact List.mem_reverse.mp hv))
  have hit : zins L st := fun v hv => i2 v (by rw [q3]; exact List.mem_append_right _ hv)
  obtain ⟨hd0, hM⟩ := hok
  have hf := hC.2.2.2.2.2.2.2.2.2.2.2.1
  have hlo := hC.2.2.2.2.2.2.2.2.2.2.2.2
  have hml := hm.2.2.2.1
  have hlas : (as.map (ztr φ)).length = n := by
    have : (Value.ref o :: as).length = n + 1 := by rw [q2, List.length_reverse]; exact q1
    rw [List.length_map]; simpa using this
  have hstk : stk.map (ztr φ) = (as.map (ztr φ)).reverse ++ .ref (φ o) :: st.map (ztr φ) := by
    have h1 : ra = as.reverse ++ [.ref o] := by
      have := congrArg List.reverse q2
      rw [List.reverse_reverse] at this
      rw [← this]; simp
    rw [q3, h1]; simp [ztr]
  have h9 := zlt9 hc
  have hoL : o ∈ L := (zins_hd hia).resolve_right (by omega)
  obtain ⟨q0, hq0⟩ := List.mem_iff_getElem?.mp hoL
  have he := zW_get (X := X) (κ := κ) (φ := φ) (mem := mem) (lk := lk) hq0
  rw [zcell_obj rfl h9] at he
  have hrecv := va_recv hS.2.2.1 hS.1 hc he
  rw [hqc] at hrecv
  refine zE_back (st := st) (va_runV (C := (zmN y').cls) (b := φ o) (ws := zws y') (rm := zRm (d - 1) (L'.length - L.length)) (As := as.map (ztr φ)) (rest := st.map (ztr φ)) ⟨hC.2.1, hC.2.2.1, hC.2.2.2.2.1, hC.2.2.2.2.2.1, hC.2.2.2.2.2.2.2.2.1⟩ (hM l A D κ φ)
    ⟨callB_of n hC.2.2.2.2.2.2.2.2.1 (zws_good hm) rfl rfl rfl (hC.2.2.2.2.2.2.2.2.1 _ hm.2.1) (hC.2.2.2.2.2.2.2.2.1 _ hl) ⟨hm.2.2.1.1, hm.2.2.1.2, hn⟩ ⟨by show d - 1 + 1 ≤ R.frames; omega, by show 8 + (zmL y' + 11) + 100 * (d - 1) ≤ R.locals; omega⟩, hC.2.2.2.2.2.2.2.2.1 _ hin, hC.2.2.2.2.2.2.2.2.1 _ hse⟩
    ⟨zPre_blind, hrecv, zPre_of hX hC hS hXt hV hA hia⟩ rfl hlas hL.1 hstk (lv_room (by rw [zcat_tr]; exact hcat)) hd ⟨by omega, by omega⟩) hQ hl1 hl2 hX hC hL hXt hV hA i1 hit h4 h5 K
theorem zE_callI {y' n idx o : Nat} {as : List Value} {lk' : zLk} {L' : List Nat} {Q' : Option Value → zMem → Prop} {stk : List Value} (hd : decode (zmB y) pc = .ok (.invokespecial idx, 3)) (hm : zMk y') (hl : Cond.methodLink (zmO y) idx (zmN y') ∈ zgd) (hin : Cond.instanceMethod (zmN y') ∈ zgd) (hni : (zmN y').name = "<init>") (hrn : zmR y' = none) (hn : (parseMethodDescriptor (zmN y').desc).map (fun d => d.parameters.length) = some n)
    (hp : zpop (n + 1) [] stk = some (.ref o :: as, st)) (hcat : zcat st ≤ 8) (hl1 : L'.length ≤ Lf.length) (hl2 : L.length ≤ L'.length) (hok : zOk X (d - 1) y' (.ref o :: as) mem lk L lk' L' Q') (hQ : ∀ r mem', Q' r mem' → zE X d y (pc + 3) ls (zpush r st) mem' lk' L' lkf Lf Q) : zE X d y pc ls stk mem lk L lkf Lf Q := by
  intro p l e R s m args below meth c H locs cells slots A D κ φ Z la hX hC hL hS hXt hV hA i1 i2 h3 h4 h5 K
  obtain ⟨ra, q1, q2, q3⟩ := zpop_ok _ _ _ _ _ hp
  rw [List.append_nil] at q2
  have hia : zins L (.ref o :: as) := fun v hv => i2 v (by rw [q3]; exact List.mem_append_left _ (by rw [q2] at hv; exact List.mem_reverse.mp hv))
  have hit : zins L st := fun v hv => i2 v (by rw [q3]; exact List.mem_append_right _ hv)
  obtain ⟨hd0, hM⟩ := hok
  have hf := hC.2.2.2.2.2.2.2.2.2.2.2.1
  have hlo := hC.2.2.2.2.2.2.2.2.2.2.2.2
  have hml := hm.2.2.2.1
  have hlas : (as.map (ztr φ)).length = n := by
    have : (Value.ref o :: as).length = n + 1 := by rw [q2, List.length_reverse]; exact q1
    rw [List.length_map]; simpa using this
  have hstk : stk.map (ztr φ) = (as.map (ztr φ)).reverse ++ .ref (φ o) :: st.map (ztr φ) := by
    have h1 : ra = as.reverse ++ [.ref o] := by
      have := congrArg List.reverse q2
      rw [List.reverse_reverse] at this
      rw [← this]; simp
    rw [q3, h1]; simp [ztr]
  refine zE_back (st := st) (va_runI (bytes := zmB y') (maxL := zmL y') (b := φ o) (ws := zws y') (rm := zRm (d - 1) (L'.length - L.length)) (As := as.map (ztr φ)) (rest := st.map (ztr φ)) ⟨hC.2.1, hC.2.2.1, hC.2.2.2.2.1, hC.2.2.2.2.2.1, hC.2.2.2.2.2.2.2.2.1⟩ (hM l A D κ φ)
    ⟨callB_of n hC.2.2.2.2.2.2.2.2.1 (zws_good hm) (by rw [← hrn]; rfl) rfl rfl (hC.2.2.2.2.2.2.2.2.1 _ hm.2.1) (hC.2.2.2.2.2.2.2.2.1 _ hl) ⟨hm.2.2.1.1, hm.2.2.1.2, hn⟩ ⟨by show d - 1 + 1 ≤ R.frames; omega, by show 8 + (zmL y' + 11) + 100 * (d - 1) ≤ R.locals; omega⟩, hni, hC.2.2.2.2.2.2.2.2.1 _ hin⟩
    ⟨zPre_blind, zPre_of hX hC hS hXt hV hA hia⟩ rfl hlas hL.1 hstk (lv_room (by rw [zcat_tr]; exact hcat)) hd ⟨by omega, by omega⟩) hQ hl1 hl2 hX hC hL hXt hV hA i1 hit h4 h5 K
theorem zE_callN {y' n idx o : Nat} {host : String} {as : List Value} {lk' : zLk} {L' : List Nat} {Q' : Option Value → zMem → Prop} {stk : List Value} (hd : decode (zmB y) pc = .ok (.invokespecial idx, 3)) (hm : zMk y') (hl : Cond.methodLinkNest (zmO y) idx (zmN y') host ∈ znw) (hin : Cond.instanceMethod (zmN y') ∈ zgd) (hni : (zmN y').name = "<init>") (hrn : zmR y' = none) (hn : (parseMethodDescriptor (zmN y').desc).map (fun d => d.parameters.length) = some n)
    (hp : zpop (n + 1) [] stk = some (.ref o :: as, st)) (hcat : zcat st ≤ 8) (hl1 : L'.length ≤ Lf.length) (hl2 : L.length ≤ L'.length) (hok : zOk X (d - 1) y' (.ref o :: as) mem lk L lk' L' Q') (hQ : ∀ r mem', Q' r mem' → zE X d y (pc + 3) ls (zpush r st) mem' lk' L' lkf Lf Q) : zE X d y pc ls stk mem lk L lkf Lf Q := by
  intro p l e R s m args below meth c H locs cells slots A D κ φ Z la hX hC hL hS hXt hV hA i1 i2 h3 h4 h5 K
  obtain ⟨ra, q1, q2, q3⟩ := zpop_ok _ _ _ _ _ hp
  rw [List.append_nil] at q2
  have hia : zins L (.ref o :: as) := fun v hv => i2 v (by rw [q3]; exact List.mem_append_left _ (by rw [q2] at hv; exact List.mem_reverse.mp hv))
  have hit : zins L st := fun v hv => i2 v (by rw [q3]; exact List.mem_append_right _ hv)
  obtain ⟨hd0, hM⟩ := hok
  have hf := hC.2.2.2.2.2.2.2.2.2.2.2.1
  have hlo := hC.2.2.2.2.2.2.2.2.2.2.2.2
  have hml := hm.2.2.2.1
  have hlas : (as.map (ztr φ)).length = n := by
    have : (Value.ref o :: as).length = n + 1 := by rw [q2, List.length_reverse]; exact q1
    rw [List.length_map]; simpa using this
  have hstk : stk.map (ztr φ) = (as.map (ztr φ)).reverse ++ .ref (φ o) :: st.map (ztr φ) := by
    have h1 : ra = as.reverse ++ [.ref o] := by
      have := congrArg List.reverse q2
      rw [List.reverse_reverse] at this
      rw [← this]; simp
    rw [q3, h1]; simp [ztr]
  refine zE_back (st := st) (va_runIN (bytes := zmB y') (maxL := zmL y') (b := φ o) (ws := zws y') (rm := zRm (d - 1) (L'.length - L.length)) (As := as.map (ztr φ)) (rest := st.map (ztr φ)) ⟨hC.2.1, hC.2.2.1, hC.2.2.2.2.1, hC.2.2.2.2.2.1, hC.2.2.2.2.2.2.2.2.1⟩ (hM l A D κ φ)
    ⟨va_cnB n hC.2.2.2.2.2.2.2.2.1 (zws_good hm) (by rw [← hrn]; rfl) rfl rfl (hC.2.2.2.2.2.2.2.2.2.1 _ hl) (hC.2.2.2.2.2.2.2.2.1 _ hm.2.1) ⟨hm.2.2.1.1, hm.2.2.1.2, hn⟩ ⟨by show d - 1 + 1 ≤ R.frames; omega, by show 8 + (zmL y' + 11) + 100 * (d - 1) ≤ R.locals; omega⟩, hni, hC.2.2.2.2.2.2.2.2.1 _ hin⟩
    ⟨zPre_blind, zPre_of hX hC hS hXt hV hA hia⟩ rfl hlas hL.1 hstk (lv_room (by rw [zcat_tr]; exact hcat)) hd ⟨by omega, by omega⟩) hQ hl1 hl2 hX hC hL hXt hV hA i1 hit h4 h5 K
end ZV
end
section
/-! a method's contract out of the walk of its body; the checks of rows; rows as a condition are sound -/
theorem zargs_lv (φ : Nat → Nat) : ∀ (as : List Value) (k i : Nat) (v : Value), (zargs as)[i]? = some v → v ≠ zU → (k + i, ztr φ v) ∈ lv_args k (as.map (ztr φ))
  | [], k, i, v, h, _ => by cases i <;> cases h
  | w :: as, k, i, v, h, hv => by
    have two : ∀ x : Value, x.category = 2 → (x :: zU :: zargs as)[i]? = some v → (k + i, ztr φ v) ∈ lv_args k ((x :: as).map (ztr φ)) := fun x hx h => by
      have he : lv_args k ((x :: as).map (ztr φ)) = (k, ztr φ x) :: lv_args (k + 2) (as.map (ztr φ)) := by
        show (k, ztr φ x) :: lv_args (if (ztr φ x).category = 2 then k + 2 else k + 1) _ = _
        rw [ztr_cat, if_pos hx]
      rw [he]
      match i, h with
      | 0, h => cases h; exact List.mem_cons_self
      | 1, h => cases h; exact absurd rfl hv
      | i + 2, h =>
        have := zargs_lv φ as (k + 2) i v h hv
        rw [show k + (i + 2) = k + 2 + i by omega]
        exact List.mem_cons_of_mem _ this
    have one : ∀ x : Value, ¬ x.category = 2 → (x :: zargs as)[i]? = some v → (k + i, ztr φ v) ∈ lv_args k ((x :: as).map (ztr φ)) := fun x hx h => by
      have he : lv_args k ((x :: as).map (ztr φ)) = (k, ztr φ x) :: lv_args (k + 1) (as.map (ztr φ)) := by
        show (k, ztr φ x) :: lv_args (if (ztr φ x).category = 2 then k + 2 else k + 1) _ = _
        rw [ztr_cat, if_neg hx]
      rw [he]
      match i, h with
      | 0, h => cases h; exact List.mem_cons_self
      | i + 1, h =>
        have := zargs_lv φ as (k + 1) i v h hv
        rw [show k + (i + 1) = k + 1 + i by omega]
        exact List.mem_cons_of_mem _ this
    cases w with
    | long x => exact two _ rfl h
    | double x => exact two _ rfl h
    | int x => exact one _ (by simp [Value.category]) h
    | float x => exact one _ (by simp [Value.category]) h
    | null => exact one _ (by simp [Value.category]) h
    | ref x => exact one _ (by simp [Value.category]) h
    | retAddr x => exact one _ (by simp [Value.category]) h
theorem zargs_len (φ : Nat → Nat) : ∀ as : List Value, (lg_sl (as.map (ztr φ))).length = (zargs as).length
  | [] => rfl
  | w :: as => by
    have ih := zargs_len φ as
    have e : lg_sl ((w :: as).map (ztr φ)) = (if (ztr φ w).category = 2 then [.val (ztr φ w), .second] else [.val (ztr φ w)]) ++ lg_sl (as.map (ztr φ)) := rfl
    rw [e, List.length_append, ih, ztr_cat]
    cases w <;> simp [Value.category, zargs] <;> omega
theorem zLs_entry (φ : Nat → Nat) (as : List Value) {n : Nat} (h : (zargs as).length ≤ n) : zLs φ n (zpad n (zargs as)) (lg_sl (as.map (ztr φ)) ++ List.replicate (n - (lg_sl (as.map (ztr φ))).length) Slot.unset).toArray := by
  have hl := lv_entry (as.map (ztr φ)) (n := n) (by rw [zargs_len]; exact h)
  refine ⟨hl.1, hl.2.1, ?_, fun i v hi hv => ?_⟩
  · unfold zpad
    rw [List.length_append, List.length_replicate]
    omega
  · unfold zpad at hi
    rw [List.getElem?_append] at hi
    by_cases hlt : i < (zargs as).length
    · rw [if_pos hlt] at hi
      have := hl.2.2 _ (zargs_lv φ as 0 i v hi hv)
      rw [show 0 + i = i by omega] at this
      exact this
    · rw [if_neg hlt] at hi
      exact absurd (List.eq_of_mem_replicate (List.mem_of_getElem? hi)) hv
section ZO
variable {X d y pc : Nat} {ls st : List Value} {mem : zMem} {lk : zLk} {L : List Nat} {lkf : zLk} {Lf : List Nat} {Q : Option Value → zMem → Prop}
theorem zins_pad {L : List Nat} {as : List Value} {n : Nat} (h : zins L as) : zins L (zpad n (zargs as)) := by
  have g : ∀ as : List Value, zins L as → zins L (zargs as) := by
    intro as
    induction as with
    | nil => exact fun h => h
    | cons w as ih =>
      intro h
      have h1 := zins_hd h
      have h2 := ih (zins_tl h)
      cases w <;> first | exact zins_cons h1 (zins_cons trivial h2) | exact zins_cons h1 h2
  intro v hv
  rcases List.mem_append.mp hv with e | e
  · exact g as h v e
  · rw [List.eq_of_mem_replicate e]; trivial
theorem zOk_of {as : List Value} (hm : zMk y) (hown : zmO y = (zmN y).cls) (hd : 0 < d) (hlen : L.length ≤ Lf.length) (hsz : (zargs as).length ≤ zmL y) (h : zE X d y 0 (zpad (zmL y) (zargs as)) [] mem lk L lkf Lf Q) : zOk X d y as mem lk L lkf Lf Q := by
  refine ⟨hd, fun l A D κ φ => Met.ofW (cc := zmB y) (maxL := zmL y) (ret := zmR y) hm.2.2.2.2 rfl ?_⟩
  intro p e s m args below meth c s₁ B hml hv
  obtain ⟨rfl, hX, hS, hXt, hA, hi, hnw, hao⟩ := hv
  have hts0 := atoms_spec (ws := zws y) B.pre
  have hC : zCx d y p (headSpec (zws y) (zRm d (Lf.length - L.length))).room s m (as.map (ztr φ)).toArray meth c :=
    ⟨hd, B.exec, B.bytes, B.returns, hml, by rw [hown]; exact findClass_of_methodNamed B.named, B.notSynchronized, (name_of_methodNamed B.named B.method).1, fun w hw => hts0 w (List.mem_cons_of_mem _ hw), hnw, hao, Nat.le_refl _, Nat.le_refl _⟩
  rw [lg_entry_eq]
  refine h p l e _ s m _ below meth c s.heap [] 0 0 A D κ φ _ _ hX hC (zLs_entry φ as hsz) hS hXt va_S.rf hA (zins_pad hi) (fun v hv => by cases hv) hlen (by show 0 + _ ≤ Lf.length - L.length; omega) (by show 0 + _ ≤ 1300 * (Lf.length - L.length); omega) ?_
  intro r mem' H' locs' cells' slots' κ' φ' pc' la' hQ hS' hX' hV' hc hs hag hsub hrin hret
  refine W.widen (k := Lf.length - L.length) (n := 1300 * (Lf.length - L.length)) hc hs ?_
  have hq : ∀ t : State, t.heap = H' → s.WarmedH t.vm → zPost X A D φ L lkf Lf Q (as.map (ztr φ)).toArray s (.returned (r.map (ztr φ'))) t := fun t ht hW => by
    refine ⟨⟨r, mem', κ', φ', rfl, hQ, ?_, ?_, hag, hsub, hrin⟩, hV'.F ht⟩
    · rw [ht]; exact hS'.moved hW.alike
    · rw [ht]; exact (hX'.kept hV'.2.1).moved hW.alike
  have hx := B.exec
  have hb := B.bytes
  have hrt := B.returns
  have hlocks := B.notSynchronized
  match r, hret, hq with
  | none, hret, hq => exact W.vret hx hb (by rw [hrt]; exact hret.2) hq hV'.2.2 hret.1
  | some (.int v), hret, hq =>
    rcases hret.2 with g | g
    · exact W.iret hx hb (by rw [hrt]; exact g) hq hV'.2.2 hret.1
    · exact W.zret hx hb (by rw [hrt]; exact g.1) g.2 hq hV'.2.2 hret.1
  | some (.long v), hret, hq => exact W.lret hx hb (by rw [hrt]; exact hret.2) hq hV'.2.2 hret.1
  | some (.ref v), hret, hq =>
    obtain ⟨C, g⟩ := hret.2
    exact W.aret (rt := .object C) hx hb (by rw [hrt]; exact g) (Or.inl ⟨C, rfl⟩) (Or.inr ⟨_, rfl⟩) hq hV'.2.2 hret.1
theorem zSm.stm {A : Nat → Prop} {D : va_G} {κ : Nat → ClassId} {φ : Nat → Nat} {mem' : zMem} {s : State} {H H1 : Heap} (h : zSm X A D κ φ mem lk L s H) {k o : Nat} (hk : L[k]? = some o) (hne : ∀ o' ∈ L, o' ≠ o → ∀ j, zhas X o' j → mem' (o' + j) = mem (o' + j))
    (hP : va_P D vwCl ((zW X κ φ mem lk L).set k (φ o, zcell X κ φ mem' lk o)) H1) (hD : va_D A ((zW X κ φ mem lk L).set k (φ o, zcell X κ φ mem' lk o))) : zSm X A D κ φ mem' lk L s H1 := by
  have e := zW_set (X := X) (κ := κ) (φ := φ) (mem := mem) (mem' := mem') (lk := lk) (lk' := lk) hk (fun i hi => h.inj hi hk) (fun o' ho' hn => zcell_congr (h.2.2.2.2.1 o' ho') (hne o' ho' hn) (fun _ _ => rfl) (fun _ => rfl))
  rw [e] at hP hD
  exact ⟨hP, hD, h.2.2.1, h.2.2.2.1, h.2.2.2.2.1, h.2.2.2.2.2⟩
theorem zE_copy {idx f g : Nat} {n dp sp : Int32} (hd : decode (zmB y) pc = .ok (.invokestatic idx, 3)) (hl1 : Cond.methodLink (zmO y) idx arraycopyName ∈ zgd) (hl2 : Cond.native arraycopyName ∈ zgd) (hl3 : Cond.static arraycopyName ∈ zgd) (hl4 : Cond.initialized "java/lang/System" ∈ zgd) (hcat : zcat st ≤ 8)
    (hf : kd f = 9) (hg : kd g = 9) (h1 : ¬ sp < 0) (h2 : ¬ dp < 0) (h3 : ¬ n < 0) (h4 : sp.toNatClampNeg + n.toNatClampNeg ≤ ln X f) (h5 : dp.toNatClampNeg + n.toNatClampNeg ≤ ln X g)
    (h : zE X d y (pc + 3) ls st (fun x => if g + dp.toNatClampNeg ≤ x ∧ x < g + dp.toNatClampNeg + n.toNatClampNeg then mem (f + sp.toNatClampNeg + (x - (g + dp.toNatClampNeg))) else mem x) lk L lkf Lf Q) : zE X d y pc ls (.int n :: .int dp :: .ref g :: .int sp :: .ref f :: st) mem lk L lkf Lf Q := by
  intro p l e R s m args below meth c H locs cells slots A D κ φ Z la hX hC hL hS hXt hV hA i1 i2 a3 a4 a5 K
  have hfr := hC.2.2.2.2.2.2.2.2.2.2.2.1
  have hlo := hC.2.2.2.2.2.2.2.2.2.2.2.2
  have hd0 := hC.1
  have hgL : g ∈ L := (zins_hd (zins_tl (zins_tl i2))).resolve_right (by omega)
  have hfL : f ∈ L := (zins_hd (zins_tl (zins_tl (zins_tl (zins_tl i2))))).resolve_right (by omega)
  obtain ⟨q0, hq0⟩ := List.mem_iff_getElem?.mp hfL
  obtain ⟨q1, hq1⟩ := List.mem_iff_getElem?.mp hgL
  have he0 := zW_get (X := X) (κ := κ) (φ := φ) (mem := mem) (lk := lk) hq0
  have he1 := zW_get (X := X) (κ := κ) (φ := φ) (mem := mem) (lk := lk) hq1
  rw [zcell_int hf (Or.inl rfl)] at he0
  rw [zcell_int hg (Or.inl rfl)] at he1
  have hK := zK1 hS hgL (ty := .int) (by rw [hg]; rfl)
  rw [hg] at hK
  have hwords : ∀ i, i < ln X g → zhas X g i := fun i hi => Or.inr ⟨by omega, by omega, hi⟩
  have hout : ∀ o' j, zhas X o' j → o' ≠ g → ¬ (g + dp.toNatClampNeg ≤ o' + j ∧ o' + j < g + dp.toNatClampNeg + n.toNatClampNeg) := fun o' j hj hne q => by
    have := mo_ne hX (hwords (o' + j - g) (by omega)) hj hne
    omega
  have hf2 : va_cpy (fun i => if i < ln X f then mem (f + i) else 0) (fun i => if i < ln X g then mem (g + i) else 0) sp.toNatClampNeg dp.toNatClampNeg n.toNatClampNeg = (fun i => if i < ln X g then (if g + dp.toNatClampNeg ≤ g + i ∧ g + i < g + dp.toNatClampNeg + n.toNatClampNeg then mem (f + sp.toNatClampNeg + (g + i - (g + dp.toNatClampNeg))) else mem (g + i)) else 0) := by
    funext i
    show (if dp.toNatClampNeg ≤ i ∧ i < dp.toNatClampNeg + n.toNatClampNeg then (if sp.toNatClampNeg + (i - dp.toNatClampNeg) < ln X f then mem (f + (sp.toNatClampNeg + (i - dp.toNatClampNeg))) else 0) else (if i < ln X g then mem (g + i) else 0)) = _
    by_cases hi : dp.toNatClampNeg ≤ i ∧ i < dp.toNatClampNeg + n.toNatClampNeg
    · rw [if_pos hi, if_pos (by omega), if_pos (by omega), if_pos (by omega)]
      congr 1
      omega
    · rw [if_neg hi]
      by_cases hi2 : i < ln X g
      · rw [if_pos hi2, if_pos hi2, if_neg (by omega)]
      · rw [if_neg hi2, if_neg hi2]
  refine va_copyi (ty := .int) hC.2.1 hC.2.2.1 (hC.2.2.2.2.1.trans hL.1.symm) hC.2.2.2.2.2.1 (hC.2.2.2.2.2.2.2.2.1 _ hl1) (hC.2.2.2.2.2.2.2.2.1 _ hl2) (hC.2.2.2.2.2.2.2.2.1 _ hl3) (hC.2.2.2.2.2.2.2.2.1 _ hl4) hK hS.1 hS.2.1 hV q0 q1 0 0 he0 he1 rfl rfl rfl h1 h2 h3 h4 h5 (fun _ _ => rfl) (by omega) ?_ hd (fun H1 locs1 hP1 hD1 hV1 => ?_)
  · rw [zcat_tr]
    have : nativeFrameWords "java/lang/System" "arraycopy" 5 = 7 := by decide +kernel
    omega
  · rw [hf2, ← zcell_int (κ := κ) (φ := φ) (mem := fun x => if g + dp.toNatClampNeg ≤ x ∧ x < g + dp.toNatClampNeg + n.toNatClampNeg then mem (f + sp.toNatClampNeg + (x - (g + dp.toNatClampNeg))) else mem x) (lk := lk) hg (Or.inl rfl)] at hP1 hD1
    exact h p l e R s m args below meth c H1 locs1 cells slots A D κ φ Z la hX hC hL (hS.stm hq1 (fun o' ho' hne j hj => if_neg (hout o' j hj hne)) hP1 hD1) (hXt.same (fun _ _ => rfl) (fun o' ho' i hi => if_neg (hout o' i (Or.inr ⟨by omega, by omega, hi⟩) (fun e => by subst e; omega)))) hV1 hA i1 (zins_tl (zins_tl (zins_tl (zins_tl (zins_tl i2))))) a3 a4 a5 K
end ZO
end
section
/-! the checks of rows, by program -/
def zcv (a b : Nat) : Int32 := match b with
  | 0 => nI a
  | _ => -(nI a)
def zclv (a b : Nat) : Int64 := match b with
  | 0 => lN a
  | _ => -(lN a)
def zword (c : Nat) (w : Cond) : Bool := decide (lw_tbl[c]? = some w)
/-- what the tables must say of a method -/
def zmkB (y : Nat) : Bool := match zmF y with
  | [md, _, n, pc, pi, ps, pn, k, _] => zword pc (.code (zmN y) (zmB y) (zmL y) (zmR y)) && (zword pn (.initialized (zmN y).cls) && (decide ((zmN y).cls ≠ "java/lang/invoke/MethodHandle") && (decide ((zmN y).cls ≠ "java/lang/invoke/VarHandle") && (Nat.ble (zmL y) 80 && (plainName (zmN y).cls && (decide (zmO y = (zmN y).cls) && (decide ((parseMethodDescriptor (zmN y).desc).map (fun d => d.parameters.length) = some n) &&
      (match md with
        | 1 => zword pi (.static (zmN y))
        | 2 => zword pi (.instanceMethod (zmN y)) && (decide ((zmN y).name = "<init>") && (decide (zmR y = none) && decide ((vwCl[k]?).map (fun q => q.1) = some (zmN y).cls)))
        | _ => zword pi (.instanceMethod (zmN y)) && (zword ps (.selects (zmN y).cls (zmN y) (zmN y)) && decide ((vwCl[k]?).map (fun q => q.1) = some (zmN y).cls))))))))))
  | _ => false
def zswB (pc : Nat) : Int → List Int → List (Nat × Nat) → Bool
  | _, [], [] => true
  | v, o :: os, (w, t) :: ts => Nat.blt w 1000000 && (decide ((w : Int) = v) && (decide ((pc : Int) + o = (t : Int)) && zswB pc (v + 1) os ts))
  | _, _, _ => false
def zlkB (pc : Nat) : List (Int × Int) → List (Nat × Nat) → Bool
  | [], [] => true
  | (v, o) :: os, (w, t) :: ts => Nat.blt w 1000000 && (decide ((w : Int) = v) && (decide ((pc : Int) + o = (t : Int)) && zlkB pc os ts))
  | _, _ => false
/-- the word of a link -/
def zlW (t o i u v : Nat) : Cond := match t with
  | 0 => (match vwCl[u]? with
    | some q => .fieldLink (zown o) i (q.2.1 v).1 (q.2.1 v).2.1 (q.2.1 v).2.2.1
    | none => .returned)
  | 1 => .methodLink (zown o) i (zmN u)
  | 2 => .methodLinkNest (zown o) i (zmN u) "DishLift"
  | 3 => .methodLink (zown o) i Lib.objectInit
  | 4 => .methodLink (zown o) i arraycopyName
  | 5 => .constant (zown o) i (zcv u v)
  | 6 => .constantLong (zown o) i (zclv u v)
  | 7 => (match vwCl[u]? with
    | some q => .classLink (zown o) i q.1
    | none => .returned)
  | 8 => (match zst4.find? (fun q => Nat.beq q.1 u) with
    | some q => .fieldLink (zown o) i q.2.1 q.2.2 "[I"
    | none => .returned)
  | _ => .returned
theorem zLL_ok : zLL.all (fun q => zword q.2.2.2.2.2 (zlW q.1 q.2.1 q.2.2.1 q.2.2.2.1 q.2.2.2.2.1)) = true := by decide +kernel
def zlk (c t o i u v : Nat) : Bool := match zLL[c]? with
  | some (t', o', i', u', v', _) => Nat.beq t' t && (Nat.beq o' o && (Nat.beq i' i && (Nat.beq u' u && Nat.beq v' v)))
  | none => false
theorem zlk_at {c t o i u v : Nat} (h : zlk c t o i u v = true) : ∃ p : Nat, lw_tbl[p]? = some (zlW t o i u v) := by
  unfold zlk at h
  split at h
  · rename_i t' o' i' u' v' p hz
    simp only [Bool.and_eq_true, Nat.beq_eq] at h
    obtain ⟨rfl, rfl, rfl, rfl, rfl⟩ := h
    exact ⟨p, of_decide_eq_true (List.all_eq_true.mp zLL_ok _ (List.mem_of_getElem? hz))⟩
  · cases h
def zfinB (a k : Nat) : Bool := match vwCl[a]? with
  | some q => (q.2.1 k).2.2.2
  | none => false
def zfB (o idx a b c k i : Nat) (pf : Bool) (md : Nat) : Bool := Nat.blt a 9 && (Nat.blt k (znf a) && (Nat.beq b (zoff a k) && (decide (zisI a k = (match i with | 0 => false | _ => true)) && (zlk c 0 o idx a k && (!pf || (match i with
      | 0 => zfinB a k && (Nat.beq md 2 && Nat.beq o a)
      | _ => !(zfinB a k)))))))
/-- the methods that are called by contract -/
def zmlB (y : Nat) : Bool := Nat.blt y 222 || Nat.beq y 224
def zmdB (ts : List (Nat × Nat)) (F : List Nat) (m0 : Nat) : Bool := match ts, F with
  | [(n, _)], [md, _, n', _, _, _, _, _, _] => Nat.beq n n' && Nat.beq md m0
  | _, _ => false
/-- a row is what the bytes say, and its words are in the tables -/
def zrc (y : Nat) (r : zR) : Bool := match r with
  | (pc, ins, len, _, a, b, c, ts) => decide (decode (zmB y) pc = .ok (ins, len)) && (match ins with
    | .iconst n => Nat.beq len 1 && decide (Int32.ofInt n = zcv a b)
    | .bipush n => Nat.beq len 2 && decide ((Int8.ofInt n).toInt32 = zcv a b)
    | .sipush n => Nat.beq len 3 && decide ((Int16.ofInt n).toInt32 = zcv a b)
    | .lconst n => Nat.beq len 1 && decide (Int64.ofNat (n : Nat) = zclv a b)
    | .ldc k => Nat.beq len 2 && zlk c 5 (zmo y) k a b
    | .ldc_w k => Nat.beq len 3 && zlk c 5 (zmo y) k a b
    | .ldc2_w k => Nat.beq len 3 && zlk c 6 (zmo y) k a b
    | .iload _ | .lload _ | .aload _ | .istore _ | .lstore _ | .astore _ => Nat.beq len 2
    | .iinc _ n => Nat.beq len 3 && decide (Int32.ofInt n = zcv a b)
    | .ifCond _ off | .if_icmp _ off | .goto off | .ifnull off | .ifnonnull off => Nat.beq len 3 && decide ((pc : Int) + off = (a : Int))
    | .tableswitch dflt lo hi offs => decide ((pc : Int) + dflt = (a : Int)) && (decide (hi = lo + (offs.size : Int) - 1) && (decide (0 ≤ lo) && zswB pc lo offs.toList ts))
    | .lookupswitch dflt ps => decide ((pc : Int) + dflt = (a : Int)) && ((ps.toList.zip (ps.toList.drop 1)).all (fun (a, next) => a.1 < next.1) && zlkB pc ps.toList ts)
    | .getfield k => Nat.beq len 3 && (match ts with
      | [(sl, i)] => zfB (zmo y) k a b c sl i false 0
      | _ => false)
    | .putfield k => Nat.beq len 3 && (match ts with
      | [(sl, i)] => zmlB y && zfB (zmo y) k a b c sl i true ((zmF y).getD 0 9)
      | _ => false)
    | .getstatic k => Nat.beq len 3 && (zst4.any (fun q => Nat.beq q.1 a) && zlk c 8 (zmo y) k a 0)
    | .new k => Nat.beq len 3 && (Nat.blt a 9 && zlk c 7 (zmo y) k a 0)
    | .newarray _ => Nat.beq len 2
    | .anewarray k => Nat.beq len 3 && zlk c 7 (zmo y) k 3 0
    | .multianewarray .. => true
    | .invokevirtual k => Nat.beq len 3 && (Nat.beq b 1 && (zmlB a && (zlk c 1 (zmo y) k a 0 && zmdB ts (zmF a) 0)))
    | .invokestatic k => Nat.beq len 3 && (match b with
      | 5 => zlk c 4 (zmo y) k 0 0
      | 6 => Nat.beq a 222 && zlk c 1 (zmo y) k a 0
      | 7 => Nat.beq a 223 && zlk c 1 (zmo y) k a 0
      | 0 => zmlB a && (zlk c 1 (zmo y) k a 0 && zmdB ts (zmF a) 1)
      | _ => false)
    | .invokespecial k => Nat.beq len 3 && (match b with
      | 4 => zlk c 3 (zmo y) k 0 0
      | 2 => zmlB a && (zlk c 1 (zmo y) k a 0 && zmdB ts (zmF a) 2)
      | 3 => zmlB a && (zlk c 2 (zmo y) k a 0 && zmdB ts (zmF a) 2)
      | _ => false)
    | .ireturn => Nat.beq len 1 && (match b with
      | 0 => decide (zmR y = some .int)
      | _ => decide (zmR y = some .boolean))
    | .lreturn => Nat.beq len 1 && decide (zmR y = some .long)
    | .areturn => Nat.beq len 1 && (match zmR y with
      | some (.object _) => true
      | _ => false)
    | .return_ => Nat.beq len 1 && decide (zmR y = none)
    | _ => Nat.beq len 1)
def zadj : List zR → Bool
  | r :: r' :: l => Nat.beq (r.1 + r.2.2.1) r'.1 && zadj (r' :: l)
  | _ => true
def zchk (y : Nat) : Bool := (zmT y).all (zrc y) && zadj (zmT y)
end
section
theorem zmk_0 : zmkB 0 = true := by decide +kernel
theorem zmk_1 : zmkB 1 = true := by decide +kernel
theorem zmk_2 : zmkB 2 = true := by decide +kernel
theorem zmk_3 : zmkB 3 = true := by decide +kernel
theorem zmk_4 : zmkB 4 = true := by decide +kernel
theorem zmk_5 : zmkB 5 = true := by decide +kernel
theorem zmk_6 : zmkB 6 = true := by decide +kernel
theorem zmk_7 : zmkB 7 = true := by decide +kernel
theorem zmk_8 : zmkB 8 = true := by decide +kernel
theorem zmk_9 : zmkB 9 = true := by decide +kernel
theorem zmk_10 : zmkB 10 = true := by decide +kernel
theorem zmk_11 : zmkB 11 = true := by decide +kernel
theorem zmk_12 : zmkB 12 = true := by decide +kernel
theorem zmk_13 : zmkB 13 = true := by decide +kernel
theorem zmk_14 : zmkB 14 = true := by decide +kernel
theorem zmk_15 : zmkB 15 = true := by decide +kernel
theorem zmk_16 : zmkB 16 = true := by decide +kernel
theorem zmk_17 : zmkB 17 = true := by decide +kernel
theorem zmk_18 : zmkB 18 = true := by decide +kernel
theorem zmk_19 : zmkB 19 = true := by decide +kernel
theorem zmk_20 : zmkB 20 = true := by decide +kernel
theorem zmk_21 : zmkB 21 = true := by decide +kernel
theorem zmk_22 : zmkB 22 = true := by decide +kernel
theorem zmk_23 : zmkB 23 = true := by decide +kernel
theorem zmk_24 : zmkB 24 = true := by decide +kernel
theorem zmk_25 : zmkB 25 = true := by decide +kernel
theorem zmk_26 : zmkB 26 = true := by decide +kernel
theorem zmk_27 : zmkB 27 = true := by decide +kernel
theorem zmk_28 : zmkB 28 = true := by decide +kernel
theorem zmk_29 : zmkB 29 = true := by decide +kernel
theorem zmk_30 : zmkB 30 = true := by decide +kernel
theorem zmk_31 : zmkB 31 = true := by decide +kernel
theorem zmk_32 : zmkB 32 = true := by decide +kernel
theorem zmk_33 : zmkB 33 = true := by decide +kernel
theorem zmk_34 : zmkB 34 = true := by decide +kernel
theorem zmk_35 : zmkB 35 = true := by decide +kernel
theorem zmk_36 : zmkB 36 = true := by decide +kernel
theorem zmk_37 : zmkB 37 = true := by decide +kernel
theorem zmk_38 : zmkB 38 = true := by decide +kernel
theorem zmk_39 : zmkB 39 = true := by decide +kernel
theorem zmk_40 : zmkB 40 = true := by decide +kernel
theorem zmk_41 : zmkB 41 = true := by decide +kernel
theorem zmk_42 : zmkB 42 = true := by decide +kernel
theorem zmk_43 : zmkB 43 = true := by decide +kernel
theorem zmk_44 : zmkB 44 = true := by decide +kernel
theorem zmk_45 : zmkB 45 = true := by decide +kernel
theorem zmk_46 : zmkB 46 = true := by decide +kernel
theorem zmk_47 : zmkB 47 = true := by decide +kernel
theorem zmk_48 : zmkB 48 = true := by decide +kernel
theorem zmk_49 : zmkB 49 = true := by decide +kernel
theorem zmk_50 : zmkB 50 = true := by decide +kernel
theorem zmk_51 : zmkB 51 = true := by decide +kernel
theorem zmk_52 : zmkB 52 = true := by decide +kernel
theorem zmk_53 : zmkB 53 = true := by decide +kernel
theorem zmk_54 : zmkB 54 = true := by decide +kernel
theorem zmk_55 : zmkB 55 = true := by decide +kernel
theorem zmk_56 : zmkB 56 = true := by decide +kernel
theorem zmk_57 : zmkB 57 = true := by decide +kernel
theorem zmk_58 : zmkB 58 = true := by decide +kernel
theorem zmk_59 : zmkB 59 = true := by decide +kernel
theorem zmk_60 : zmkB 60 = true := by decide +kernel
theorem zmk_61 : zmkB 61 = true := by decide +kernel
theorem zmk_62 : zmkB 62 = true := by decide +kernel
theorem zmk_63 : zmkB 63 = true := by decide +kernel
theorem zmk_64 : zmkB 64 = true := by decide +kernel
theorem zmk_65 : zmkB 65 = true := by decide +kernel
theorem zmk_66 : zmkB 66 = true := by decide +kernel
theorem zmk_67 : zmkB 67 = true := by decide +kernel
theorem zmk_68 : zmkB 68 = true := by decide +kernel
theorem zmk_69 : zmkB 69 = true := by decide +kernel
theorem zmk_70 : zmkB 70 = true := by decide +kernel
theorem zmk_71 : zmkB 71 = true := by decide +kernel
theorem zmk_72 : zmkB 72 = true := by decide +kernel
theorem zmk_73 : zmkB 73 = true := by decide +kernel
theorem zmk_74 : zmkB 74 = true := by decide +kernel
theorem zmk_75 : zmkB 75 = true := by decide +kernel
theorem zmk_76 : zmkB 76 = true := by decide +kernel
theorem zmk_77 : zmkB 77 = true := by decide +kernel
theorem zmk_78 : zmkB 78 = true := by decide +kernel
theorem zmk_79 : zmkB 79 = true := by decide +kernel
theorem zmk_80 : zmkB 80 = true := by decide +kernel
theorem zmk_81 : zmkB 81 = true := by decide +kernel
theorem zmk_82 : zmkB 82 = true := by decide +kernel
theorem zmk_83 : zmkB 83 = true := by decide +kernel
theorem zmk_84 : zmkB 84 = true := by decide +kernel
theorem zmk_85 : zmkB 85 = true := by decide +kernel
theorem zmk_86 : zmkB 86 = true := by decide +kernel
theorem zmk_87 : zmkB 87 = true := by decide +kernel
theorem zmk_88 : zmkB 88 = true := by decide +kernel
theorem zmk_89 : zmkB 89 = true := by decide +kernel
theorem zmk_90 : zmkB 90 = true := by decide +kernel
theorem zmk_91 : zmkB 91 = true := by decide +kernel
theorem zmk_92 : zmkB 92 = true := by decide +kernel
theorem zmk_93 : zmkB 93 = true := by decide +kernel
theorem zmk_94 : zmkB 94 = true := by decide +kernel
theorem zmk_95 : zmkB 95 = true := by decide +kernel
theorem zmk_96 : zmkB 96 = true := by decide +kernel
theorem zmk_97 : zmkB 97 = true := by decide +kernel
theorem zmk_98 : zmkB 98 = true := by decide +kernel
theorem zmk_99 : zmkB 99 = true := by decide +kernel
theorem zmk_100 : zmkB 100 = true := by decide +kernel
theorem zmk_101 : zmkB 101 = true := by decide +kernel
theorem zmk_102 : zmkB 102 = true := by decide +kernel
theorem zmk_103 : zmkB 103 = true := by decide +kernel
theorem zmk_104 : zmkB 104 = true := by decide +kernel
theorem zmk_105 : zmkB 105 = true := by decide +kernel
theorem zmk_106 : zmkB 106 = true := by decide +kernel
theorem zmk_107 : zmkB 107 = true := by decide +kernel
theorem zmk_108 : zmkB 108 = true := by decide +kernel
theorem zmk_109 : zmkB 109 = true := by decide +kernel
theorem zmk_110 : zmkB 110 = true := by decide +kernel
theorem zmk_111 : zmkB 111 = true := by decide +kernel
theorem zmk_112 : zmkB 112 = true := by decide +kernel
theorem zmk_113 : zmkB 113 = true := by decide +kernel
theorem zmk_114 : zmkB 114 = true := by decide +kernel
theorem zmk_115 : zmkB 115 = true := by decide +kernel
theorem zmk_116 : zmkB 116 = true := by decide +kernel
theorem zmk_117 : zmkB 117 = true := by decide +kernel
theorem zmk_118 : zmkB 118 = true := by decide +kernel
theorem zmk_119 : zmkB 119 = true := by decide +kernel
theorem zmk_120 : zmkB 120 = true := by decide +kernel
theorem zmk_121 : zmkB 121 = true := by decide +kernel
theorem zmk_122 : zmkB 122 = true := by decide +kernel
theorem zmk_123 : zmkB 123 = true := by decide +kernel
theorem zmk_124 : zmkB 124 = true := by decide +kernel
theorem zmk_125 : zmkB 125 = true := by decide +kernel
theorem zmk_126 : zmkB 126 = true := by decide +kernel
theorem zmk_127 : zmkB 127 = true := by decide +kernel
theorem zmk_128 : zmkB 128 = true := by decide +kernel
theorem zmk_129 : zmkB 129 = true := by decide +kernel
theorem zmk_130 : zmkB 130 = true := by decide +kernel
theorem zmk_131 : zmkB 131 = true := by decide +kernel
theorem zmk_132 : zmkB 132 = true := by decide +kernel
theorem zmk_133 : zmkB 133 = true := by decide +kernel
theorem zmk_134 : zmkB 134 = true := by decide +kernel
theorem zmk_135 : zmkB 135 = true := by decide +kernel
theorem zmk_136 : zmkB 136 = true := by decide +kernel
theorem zmk_137 : zmkB 137 = true := by decide +kernel
theorem zmk_138 : zmkB 138 = true := by decide +kernel
theorem zmk_139 : zmkB 139 = true := by decide +kernel
theorem zmk_140 : zmkB 140 = true := by decide +kernel
theorem zmk_141 : zmkB 141 = true := by decide +kernel
theorem zmk_142 : zmkB 142 = true := by decide +kernel
theorem zmk_143 : zmkB 143 = true := by decide +kernel
theorem zmk_144 : zmkB 144 = true := by decide +kernel
theorem zmk_145 : zmkB 145 = true := by decide +kernel
theorem zmk_146 : zmkB 146 = true := by decide +kernel
theorem zmk_147 : zmkB 147 = true := by decide +kernel
theorem zmk_148 : zmkB 148 = true := by decide +kernel
theorem zmk_149 : zmkB 149 = true := by decide +kernel
theorem zmk_150 : zmkB 150 = true := by decide +kernel
theorem zmk_151 : zmkB 151 = true := by decide +kernel
theorem zmk_152 : zmkB 152 = true := by decide +kernel
theorem zmk_153 : zmkB 153 = true := by decide +kernel
theorem zmk_154 : zmkB 154 = true := by decide +kernel
theorem zmk_155 : zmkB 155 = true := by decide +kernel
theorem zmk_156 : zmkB 156 = true := by decide +kernel
theorem zmk_157 : zmkB 157 = true := by decide +kernel
theorem zmk_158 : zmkB 158 = true := by decide +kernel
theorem zmk_159 : zmkB 159 = true := by decide +kernel
theorem zmk_160 : zmkB 160 = true := by decide +kernel
theorem zmk_161 : zmkB 161 = true := by decide +kernel
theorem zmk_162 : zmkB 162 = true := by decide +kernel
theorem zmk_163 : zmkB 163 = true := by decide +kernel
theorem zmk_164 : zmkB 164 = true := by decide +kernel
theorem zmk_165 : zmkB 165 = true := by decide +kernel
theorem zmk_166 : zmkB 166 = true := by decide +kernel
theorem zmk_167 : zmkB 167 = true := by decide +kernel
theorem zmk_168 : zmkB 168 = true := by decide +kernel
theorem zmk_169 : zmkB 169 = true := by decide +kernel
theorem zmk_170 : zmkB 170 = true := by decide +kernel
theorem zmk_171 : zmkB 171 = true := by decide +kernel
theorem zmk_172 : zmkB 172 = true := by decide +kernel
theorem zmk_173 : zmkB 173 = true := by decide +kernel
theorem zmk_174 : zmkB 174 = true := by decide +kernel
theorem zmk_175 : zmkB 175 = true := by decide +kernel
theorem zmk_176 : zmkB 176 = true := by decide +kernel
theorem zmk_177 : zmkB 177 = true := by decide +kernel
theorem zmk_178 : zmkB 178 = true := by decide +kernel
theorem zmk_179 : zmkB 179 = true := by decide +kernel
theorem zmk_180 : zmkB 180 = true := by decide +kernel
theorem zmk_181 : zmkB 181 = true := by decide +kernel
theorem zmk_182 : zmkB 182 = true := by decide +kernel
theorem zmk_183 : zmkB 183 = true := by decide +kernel
theorem zmk_184 : zmkB 184 = true := by decide +kernel
theorem zmk_185 : zmkB 185 = true := by decide +kernel
theorem zmk_186 : zmkB 186 = true := by decide +kernel
theorem zmk_187 : zmkB 187 = true := by decide +kernel
theorem zmk_188 : zmkB 188 = true := by decide +kernel
theorem zmk_189 : zmkB 189 = true := by decide +kernel
theorem zmk_190 : zmkB 190 = true := by decide +kernel
theorem zmk_191 : zmkB 191 = true := by decide +kernel
theorem zmk_192 : zmkB 192 = true := by decide +kernel
theorem zmk_193 : zmkB 193 = true := by decide +kernel
theorem zmk_194 : zmkB 194 = true := by decide +kernel
theorem zmk_195 : zmkB 195 = true := by decide +kernel
theorem zmk_196 : zmkB 196 = true := by decide +kernel
theorem zmk_197 : zmkB 197 = true := by decide +kernel
theorem zmk_198 : zmkB 198 = true := by decide +kernel
theorem zmk_199 : zmkB 199 = true := by decide +kernel
theorem zmk_200 : zmkB 200 = true := by decide +kernel
theorem zmk_201 : zmkB 201 = true := by decide +kernel
theorem zmk_202 : zmkB 202 = true := by decide +kernel
theorem zmk_203 : zmkB 203 = true := by decide +kernel
theorem zmk_204 : zmkB 204 = true := by decide +kernel
theorem zmk_205 : zmkB 205 = true := by decide +kernel
theorem zmk_206 : zmkB 206 = true := by decide +kernel
theorem zmk_207 : zmkB 207 = true := by decide +kernel
theorem zmk_208 : zmkB 208 = true := by decide +kernel
theorem zmk_209 : zmkB 209 = true := by decide +kernel
theorem zmk_210 : zmkB 210 = true := by decide +kernel
theorem zmk_211 : zmkB 211 = true := by decide +kernel
theorem zmk_212 : zmkB 212 = true := by decide +kernel
theorem zmk_213 : zmkB 213 = true := by decide +kernel
theorem zmk_214 : zmkB 214 = true := by decide +kernel
theorem zmk_215 : zmkB 215 = true := by decide +kernel
theorem zmk_216 : zmkB 216 = true := by decide +kernel
theorem zmk_217 : zmkB 217 = true := by decide +kernel
theorem zmk_218 : zmkB 218 = true := by decide +kernel
theorem zmk_219 : zmkB 219 = true := by decide +kernel
theorem zmk_220 : zmkB 220 = true := by decide +kernel
theorem zmk_221 : zmkB 221 = true := by decide +kernel
theorem zmk_224 : zmkB 224 = true := by decide +kernel
def zml : List Nat := [0, 1, 2, 3, 4, 5, 6, 7, 8, 9, 10, 11, 12, 13, 14, 15, 16, 17, 18, 19, 20, 21, 22, 23, 24, 25, 26, 27, 28, 29, 30, 31, 32, 33, 34, 35, 36, 37, 38, 39, 40, 41, 42, 43, 44, 45, 46, 47, 48, 49, 50, 51, 52, 53, 54, 55, 56, 57, 58, 59, 60, 61, 62, 63, 64, 65, 66, 67, 68, 69, 70, 71, 72, 73, 74, 75, 76, 77, 78, 79, 80, 81, 82, 83, 84, 85, 86, 87, 88, 89, 90, 91, 92, 93, 94, 95, 96, 97, 98, 99, 100, 101, 102, 103, 104, 105, 106, 107, 108, 109, 110, 111, 112, 113, 114, 115, 116, 117, 118, 119, 120, 121, 122, 123, 124, 125, 126, 127, 128, 129, 130, 131, 132, 133, 134, 135, 136, 137, 138, 139, 140, 141, 142, 143, 144, 145, 146, 147, 148, 149, 150, 151, 152, 153, 154, 155, 156, 157, 158, 159, 160, 161, 162, 163, 164, 165, 166, 167, 168, 169, 170, 171, 172, 173, 174, 175, 176, 177, 178, 179, 180, 181, 182, 183, 184, 185, 186, 187, 188, 189, 190, 191, 192, 193, 194, 195, 196, 197, 198, 199, 200, 201, 202, 203, 204, 205, 206, 207, 208, 209, 210, 211, 212, 213, 214, 215, 216, 217, 218, 219, 220, 221, 224]
set_option maxRecDepth 100000 in
theorem zmk_L : ∀ y ∈ zml, zmkB y = true := List.forall_mem_cons.mpr ⟨zmk_0, List.forall_mem_cons.mpr ⟨zmk_1, List.forall_mem_cons.mpr ⟨zmk_2, List.forall_mem_cons.mpr ⟨zmk_3, List.forall_mem_cons.mpr ⟨zmk_4, List.forall_mem_cons.mpr ⟨zmk_5, List.forall_mem_cons.mpr ⟨zmk_6, List.forall_mem_cons.mpr ⟨zmk_7, List.forall_mem_cons.mpr ⟨zmk_8, List.forall_mem_cons.mpr ⟨zmk_9, List.forall_mem_cons.mpr ⟨zmk_10, List.forall_mem_cons.mpr ⟨zmk_11, List.forall_mem_cons.mpr ⟨zmk_12, List.forall_mem_cons.mpr ⟨zmk_13, List.forall_mem_cons.mpr ⟨zmk_14, List.forall_mem_cons.mpr ⟨zmk_15, List.forall_mem_cons.mpr ⟨zmk_16, List.forall_mem_cons.mpr ⟨zmk_17, List.forall_mem_cons.mpr ⟨zmk_18, List.forall_mem_cons.mpr ⟨zmk_19, List.forall_mem_cons.mpr ⟨zmk_20, List.forall_mem_cons.mpr ⟨zmk_21, List.forall_mem_cons.mpr ⟨zmk_22, List.forall_mem_cons.mpr ⟨zmk_23, List.forall_mem_cons.mpr ⟨zmk_24, List.forall_mem_cons.mpr ⟨zmk_25, List.forall_mem_cons.mpr ⟨zmk_26, List.forall_mem_cons.mpr ⟨zmk_27, List.forall_mem_cons.mpr ⟨zmk_28, List.forall_mem_cons.mpr ⟨zmk_29, List.forall_mem_cons.mpr ⟨zmk_30, List.forall_mem_cons.mpr ⟨zmk_31, List.forall_mem_cons.mpr ⟨zmk_32, List.forall_mem_cons.mpr ⟨zmk_33, List.forall_mem_cons.mpr ⟨zmk_34, List.forall_mem_cons.mpr ⟨zmk_35, List.forall_mem_cons.mpr ⟨zmk_36, List.forall_mem_cons.mpr ⟨zmk_37, List.forall_mem_cons.mpr ⟨zmk_38, List.forall_mem_cons.mpr ⟨zmk_39, List.forall_mem_cons.mpr ⟨zmk_40, List.forall_mem_cons.mpr ⟨zmk_41, List.forall_mem_cons.mpr ⟨zmk_42, List.forall_mem_cons.mpr ⟨zmk_43, List.forall_mem_cons.mpr ⟨zmk_44, List.forall_mem_cons.mpr ⟨zmk_45, List.forall_mem_cons.mpr ⟨zmk_46, List.forall_mem_cons.mpr ⟨zmk_47, List.forall_mem_cons.mpr ⟨zmk_48, List.forall_mem_cons.mpr ⟨zmk_49, List.forall_mem_cons.mpr ⟨zmk_50, List.forall_mem_cons.mpr ⟨zmk_51, List.forall_mem_cons.mpr ⟨zmk_52, List.forall_mem_cons.mpr ⟨zmk_53, List.forall_mem_cons.mpr ⟨zmk_54, List.forall_mem_cons.mpr ⟨zmk_55, List.forall_mem_cons.mpr ⟨zmk_56, List.forall_mem_cons.mpr ⟨zmk_57, List.forall_mem_cons.mpr ⟨zmk_58, List.forall_mem_cons.mpr ⟨zmk_59, List.forall_mem_cons.mpr ⟨zmk_60, List.forall_mem_cons.mpr ⟨zmk_61, List.forall_mem_cons.mpr ⟨zmk_62, List.forall_mem_cons.mpr ⟨zmk_63, List.forall_mem_cons.mpr ⟨zmk_64, List.forall_mem_cons.mpr ⟨zmk_65, List.forall_mem_cons.mpr ⟨zmk_66, List.forall_mem_cons.mpr ⟨zmk_67, List.forall_mem_cons.mpr ⟨zmk_68, List.forall_mem_cons.mpr ⟨zmk_69, List.forall_mem_cons.mpr ⟨zmk_70, List.forall_mem_cons.mpr ⟨zmk_71, List.forall_mem_cons.mpr ⟨zmk_72, List.forall_mem_cons.mpr ⟨zmk_73, List.forall_mem_cons.mpr ⟨zmk_74, List.forall_mem_cons.mpr ⟨zmk_75, List.forall_mem_cons.mpr ⟨zmk_76, List.forall_mem_cons.mpr ⟨zmk_77, List.forall_mem_cons.mpr ⟨zmk_78, List.forall_mem_cons.mpr ⟨zmk_79, List.forall_mem_cons.mpr ⟨zmk_80, List.forall_mem_cons.mpr ⟨zmk_81, List.forall_mem_cons.mpr ⟨zmk_82, List.forall_mem_cons.mpr ⟨zmk_83, List.forall_mem_cons.mpr ⟨zmk_84, List.forall_mem_cons.mpr ⟨zmk_85, List.forall_mem_cons.mpr ⟨zmk_86, List.forall_mem_cons.mpr ⟨zmk_87, List.forall_mem_cons.mpr ⟨zmk_88, List.forall_mem_cons.mpr ⟨zmk_89, List.forall_mem_cons.mpr ⟨zmk_90, List.forall_mem_cons.mpr ⟨zmk_91, List.forall_mem_cons.mpr ⟨zmk_92, List.forall_mem_cons.mpr ⟨zmk_93, List.forall_mem_cons.mpr ⟨zmk_94, List.forall_mem_cons.mpr ⟨zmk_95, List.forall_mem_cons.mpr ⟨zmk_96, List.forall_mem_cons.mpr ⟨zmk_97, List.forall_mem_cons.mpr ⟨zmk_98, List.forall_mem_cons.mpr ⟨zmk_99, List.forall_mem_cons.mpr ⟨zmk_100, List.forall_mem_cons.mpr ⟨zmk_101, List.forall_mem_cons.mpr ⟨zmk_102, List.forall_mem_cons.mpr ⟨zmk_103, List.forall_mem_cons.mpr ⟨zmk_104, List.forall_mem_cons.mpr ⟨zmk_105, List.forall_mem_cons.mpr ⟨zmk_106, List.forall_mem_cons.mpr ⟨zmk_107, List.forall_mem_cons.mpr ⟨zmk_108, List.forall_mem_cons.mpr ⟨zmk_109, List.forall_mem_cons.mpr ⟨zmk_110, List.forall_mem_cons.mpr ⟨zmk_111, List.forall_mem_cons.mpr ⟨zmk_112, List.forall_mem_cons.mpr ⟨zmk_113, List.forall_mem_cons.mpr ⟨zmk_114, List.forall_mem_cons.mpr ⟨zmk_115, List.forall_mem_cons.mpr ⟨zmk_116, List.forall_mem_cons.mpr ⟨zmk_117, List.forall_mem_cons.mpr ⟨zmk_118, List.forall_mem_cons.mpr ⟨zmk_119, List.forall_mem_cons.mpr ⟨zmk_120, List.forall_mem_cons.mpr ⟨zmk_121, List.forall_mem_cons.mpr ⟨zmk_122, List.forall_mem_cons.mpr ⟨zmk_123, List.forall_mem_cons.mpr ⟨zmk_124, List.forall_mem_cons.mpr ⟨zmk_125, List.forall_mem_cons.mpr ⟨zmk_126, List.forall_mem_cons.mpr ⟨zmk_127, List.forall_mem_cons.mpr ⟨zmk_128, List.forall_mem_cons.mpr ⟨zmk_129, List.forall_mem_cons.mpr ⟨zmk_130, List.forall_mem_cons.mpr ⟨zmk_131, List.forall_mem_cons.mpr ⟨zmk_132, List.forall_mem_cons.mpr ⟨zmk_133, List.forall_mem_cons.mpr ⟨zmk_134, List.forall_mem_cons.mpr ⟨zmk_135, List.forall_mem_cons.mpr ⟨zmk_136, List.forall_mem_cons.mpr ⟨zmk_137, List.forall_mem_cons.mpr ⟨zmk_138, List.forall_mem_cons.mpr ⟨zmk_139, List.forall_mem_cons.mpr ⟨zmk_140, List.forall_mem_cons.mpr ⟨zmk_141, List.forall_mem_cons.mpr ⟨zmk_142, List.forall_mem_cons.mpr ⟨zmk_143, List.forall_mem_cons.mpr ⟨zmk_144, List.forall_mem_cons.mpr ⟨zmk_145, List.forall_mem_cons.mpr ⟨zmk_146, List.forall_mem_cons.mpr ⟨zmk_147, List.forall_mem_cons.mpr ⟨zmk_148, List.forall_mem_cons.mpr ⟨zmk_149, List.forall_mem_cons.mpr ⟨zmk_150, List.forall_mem_cons.mpr ⟨zmk_151, List.forall_mem_cons.mpr ⟨zmk_152, List.forall_mem_cons.mpr ⟨zmk_153, List.forall_mem_cons.mpr ⟨zmk_154, List.forall_mem_cons.mpr ⟨zmk_155, List.forall_mem_cons.mpr ⟨zmk_156, List.forall_mem_cons.mpr ⟨zmk_157, List.forall_mem_cons.mpr ⟨zmk_158, List.forall_mem_cons.mpr ⟨zmk_159, List.forall_mem_cons.mpr ⟨zmk_160, List.forall_mem_cons.mpr ⟨zmk_161, List.forall_mem_cons.mpr ⟨zmk_162, List.forall_mem_cons.mpr ⟨zmk_163, List.forall_mem_cons.mpr ⟨zmk_164, List.forall_mem_cons.mpr ⟨zmk_165, List.forall_mem_cons.mpr ⟨zmk_166, List.forall_mem_cons.mpr ⟨zmk_167, List.forall_mem_cons.mpr ⟨zmk_168, List.forall_mem_cons.mpr ⟨zmk_169, List.forall_mem_cons.mpr ⟨zmk_170, List.forall_mem_cons.mpr ⟨zmk_171, List.forall_mem_cons.mpr ⟨zmk_172, List.forall_mem_cons.mpr ⟨zmk_173, List.forall_mem_cons.mpr ⟨zmk_174, List.forall_mem_cons.mpr ⟨zmk_175, List.forall_mem_cons.mpr ⟨zmk_176, List.forall_mem_cons.mpr ⟨zmk_177, List.forall_mem_cons.mpr ⟨zmk_178, List.forall_mem_cons.mpr ⟨zmk_179, List.forall_mem_cons.mpr ⟨zmk_180, List.forall_mem_cons.mpr ⟨zmk_181, List.forall_mem_cons.mpr ⟨zmk_182, List.forall_mem_cons.mpr ⟨zmk_183, List.forall_mem_cons.mpr ⟨zmk_184, List.forall_mem_cons.mpr ⟨zmk_185, List.forall_mem_cons.mpr ⟨zmk_186, List.forall_mem_cons.mpr ⟨zmk_187, List.forall_mem_cons.mpr ⟨zmk_188, List.forall_mem_cons.mpr ⟨zmk_189, List.forall_mem_cons.mpr ⟨zmk_190, List.forall_mem_cons.mpr ⟨zmk_191, List.forall_mem_cons.mpr ⟨zmk_192, List.forall_mem_cons.mpr ⟨zmk_193, List.forall_mem_cons.mpr ⟨zmk_194, List.forall_mem_cons.mpr ⟨zmk_195, List.forall_mem_cons.mpr ⟨zmk_196, List.forall_mem_cons.mpr ⟨zmk_197, List.forall_mem_cons.mpr ⟨zmk_198, List.forall_mem_cons.mpr ⟨zmk_199, List.forall_mem_cons.mpr ⟨zmk_200, List.forall_mem_cons.mpr ⟨zmk_201, List.forall_mem_cons.mpr ⟨zmk_202, List.forall_mem_cons.mpr ⟨zmk_203, List.forall_mem_cons.mpr ⟨zmk_204, List.forall_mem_cons.mpr ⟨zmk_205, List.forall_mem_cons.mpr ⟨zmk_206, List.forall_mem_cons.mpr ⟨zmk_207, List.forall_mem_cons.mpr ⟨zmk_208, List.forall_mem_cons.mpr ⟨zmk_209, List.forall_mem_cons.mpr ⟨zmk_210, List.forall_mem_cons.mpr ⟨zmk_211, List.forall_mem_cons.mpr ⟨zmk_212, List.forall_mem_cons.mpr ⟨zmk_213, List.forall_mem_cons.mpr ⟨zmk_214, List.forall_mem_cons.mpr ⟨zmk_215, List.forall_mem_cons.mpr ⟨zmk_216, List.forall_mem_cons.mpr ⟨zmk_217, List.forall_mem_cons.mpr ⟨zmk_218, List.forall_mem_cons.mpr ⟨zmk_219, List.forall_mem_cons.mpr ⟨zmk_220, List.forall_mem_cons.mpr ⟨zmk_221, List.forall_mem_cons.mpr ⟨zmk_224, fun _ h => absurd h List.not_mem_nil⟩⟩⟩⟩⟩⟩⟩⟩⟩⟩⟩⟩⟩⟩⟩⟩⟩⟩⟩⟩⟩⟩⟩⟩⟩⟩⟩⟩⟩⟩⟩⟩⟩⟩⟩⟩⟩⟩⟩⟩⟩⟩⟩⟩⟩⟩⟩⟩⟩⟩⟩⟩⟩⟩⟩⟩⟩⟩⟩⟩⟩⟩⟩⟩⟩⟩⟩⟩⟩⟩⟩⟩⟩⟩⟩⟩⟩⟩⟩⟩⟩⟩⟩⟩⟩⟩⟩⟩⟩⟩⟩⟩⟩⟩⟩⟩⟩⟩⟩⟩⟩⟩⟩⟩⟩⟩⟩⟩⟩⟩⟩⟩⟩⟩⟩⟩⟩⟩⟩⟩⟩⟩⟩⟩⟩⟩⟩⟩⟩⟩⟩⟩⟩⟩⟩⟩⟩⟩⟩⟩⟩⟩⟩⟩⟩⟩⟩⟩⟩⟩⟩⟩⟩⟩⟩⟩⟩⟩⟩⟩⟩⟩⟩⟩⟩⟩⟩⟩⟩⟩⟩⟩⟩⟩⟩⟩⟩⟩⟩⟩⟩⟩⟩⟩⟩⟩⟩⟩⟩⟩⟩⟩⟩⟩⟩⟩⟩⟩⟩⟩⟩⟩⟩⟩⟩⟩⟩⟩⟩⟩⟩⟩⟩⟩⟩⟩⟩⟩⟩⟩⟩⟩⟩
theorem zml_in : (List.range 222).all (fun y => zml.contains y) = true := by decide +kernel
theorem zmk_in {y : Nat} (h : zmlB y = true) : zmkB y = true := by
  apply zmk_L
  unfold zmlB at h
  rcases Bool.or_eq_true _ _ |>.mp h with g | g
  · rw [Nat.blt_eq] at g
    exact List.contains_iff_mem.mp (List.all_eq_true.mp zml_in y (List.mem_range.mpr g))
  · rw [Nat.eq_of_beq_eq_true g]
    decide +kernel
end
section
/-! rows as a condition are sound -/
theorem zI1_ok {st : List Value} {k : Int32 → List Value → Prop} (h : zI1 st k) : ∃ x st', st = .int x :: st' ∧ k x st' := by
  unfold zI1 at h
  split at h
  · exact ⟨_, _, rfl, h⟩
  · exact h.elim
theorem zI2_ok {st : List Value} {k : Int32 → Int32 → List Value → Prop} (h : zI2 st k) : ∃ z x st', st = .int z :: .int x :: st' ∧ k z x st' := by
  unfold zI2 at h
  split at h
  · exact ⟨_, _, _, rfl, h⟩
  · exact h.elim
theorem zL1_ok {st : List Value} {k : Int64 → List Value → Prop} (h : zL1 st k) : ∃ x st', st = .long x :: st' ∧ k x st' := by
  unfold zL1 at h
  split at h
  · exact ⟨_, _, rfl, h⟩
  · exact h.elim
theorem zL2_ok {st : List Value} {k : Int64 → Int64 → List Value → Prop} (h : zL2 st k) : ∃ z x st', st = .long z :: .long x :: st' ∧ k z x st' := by
  unfold zL2 at h
  split at h
  · exact ⟨_, _, _, rfl, h⟩
  · exact h.elim
theorem zA1_ok {st : List Value} {k : Nat → List Value → Prop} (h : zA1 st k) : ∃ x st', st = .ref x :: st' ∧ k x st' := by
  unfold zA1 at h
  split at h
  · exact ⟨_, _, rfl, h⟩
  · exact h.elim
theorem zIA_ok {st : List Value} {k : Int32 → Nat → List Value → Prop} (h : zIA st k) : ∃ i x st', st = .int i :: .ref x :: st' ∧ k i x st' := by
  unfold zIA at h
  split at h
  · exact ⟨_, _, _, rfl, h⟩
  · exact h.elim
theorem zAA_ok {st : List Value} {k : Nat → Nat → List Value → Prop} (h : zAA st k) : ∃ v x st', st = .ref v :: .ref x :: st' ∧ k v x st' := by
  unfold zAA at h
  split at h
  · exact ⟨_, _, _, rfl, h⟩
  · exact h.elim
theorem zIIA_ok {st : List Value} {k : Int32 → Int32 → Nat → List Value → Prop} (h : zIIA st k) : ∃ v i x st', st = .int v :: .int i :: .ref x :: st' ∧ k v i x st' := by
  unfold zIIA at h
  split at h
  · exact ⟨_, _, _, _, rfl, h⟩
  · exact h.elim
theorem zAIA_ok {st : List Value} {k : Nat → Int32 → Nat → List Value → Prop} (h : zAIA st k) : ∃ v i x st', st = .ref v :: .int i :: .ref x :: st' ∧ k v i x st' := by
  unfold zAIA at h
  split at h
  · exact ⟨_, _, _, _, rfl, h⟩
  · exact h.elim
theorem zcpS_ok {st : List Value} {k : Int32 → Int32 → Nat → Int32 → Nat → List Value → Prop} (h : zcpS st k) : ∃ n dp g sp f st', st = .int n :: .int dp :: .ref g :: .int sp :: .ref f :: st' ∧ k n dp g sp f st' := by
  unfold zcpS at h
  split at h
  · exact ⟨_, _, _, _, _, _, rfl, h⟩
  · exact h.elim
theorem zlI_ok {ls : List Value} {i : Nat} {k : Int32 → Prop} (h : zlI ls i k) : ∃ x, ls[i]? = some (.int x) ∧ k x := by
  unfold zlI at h
  split at h
  · rename_i x hx; exact ⟨x, hx, h⟩
  · exact h.elim
theorem zlL_ok {ls : List Value} {i : Nat} {k : Int64 → Prop} (h : zlL ls i k) : ∃ x, ls[i]? = some (.long x) ∧ k x := by
  unfold zlL at h
  split at h
  · rename_i x hx; exact ⟨x, hx, h⟩
  · exact h.elim
theorem zlA_ok {ls : List Value} {i : Nat} {k : Nat → Prop} (h : zlA ls i k) : ∃ x, ls[i]? = some (.ref x) ∧ k x := by
  unfold zlA at h
  split at h
  · rename_i x hx; exact ⟨x, hx, h⟩
  · exact h.elim
theorem zlS_ok {ls : List Value} {i : Nat} {k : Prop} (h : zlS ls i k) : ∃ x, ls[i]? = some x ∧ k := by
  unfold zlS at h
  split at h
  · rename_i x hx; exact ⟨x, hx, h⟩
  · exact h.elim
theorem zsg_cv {a b : Nat} {P : Int32 → Prop} (h : zsg b (P (nI a)) (P (-(nI a)))) : P (zcv a b) := by
  cases b with
  | zero => exact h
  | succ b => exact h
theorem zsg_clv {a b : Nat} {P : Int64 → Prop} (h : zsg b (P (lN a)) (P (-(lN a)))) : P (zclv a b) := by
  cases b with
  | zero => exact h
  | succ b => exact h
theorem zts_ok {ts : List (Nat × Nat)} {k : Nat → Nat → Prop} (h : zts ts k) : ∃ n al, ts = [(n, al)] ∧ k n al := by
  unfold zts at h
  split at h
  · exact ⟨_, _, rfl, h⟩
  · exact h.elim
theorem zfit_ok {st : List Value} {k : Prop} (h : zfit st k) : zcat st ≤ 8 ∧ k := by
  unfold zfit at h
  split at h
  · rename_i hb; exact ⟨Nat.le_of_ble_eq_true hb, h⟩
  · exact h.elim
theorem zargS_ok {n : Nat} {st : List Value} {k : List Value → List Value → Prop} (h : zargS n st k) : ∃ as st', zpop n [] st = some (as, st') ∧ k as st' := by
  unfold zargS at h
  split at h
  · rename_i hb; exact ⟨_, _, hb, h⟩
  · exact h.elim
theorem zargV_ok {n : Nat} {st : List Value} {k : Nat → List Value → List Value → Prop} (h : zargV n st k) : ∃ o as st', zpop (n + 1) [] st = some (.ref o :: as, st') ∧ k o as st' := by
  unfold zargV at h
  split at h
  · rename_i hb; exact ⟨_, _, _, hb, h⟩
  · exact h.elim
theorem zcall_ok {X d : Nat} {Lf : List Nat} {y' al : Nat} {args : List Value} {mem : zMem} {lk : zLk} {L : List Nat} {C : Option Value → zMem → zLk → List Nat → Prop} (hle : L.length ≤ Lf.length) (h : zcall X d Lf y' al args mem lk L C) :
    ∃ lk' L', L'.length ≤ Lf.length ∧ L.length ≤ L'.length ∧ zOk X (d - 1) y' args mem lk L lk' L' (fun r mem' => C r mem' lk' L') := by
  unfold zcall at h
  cases al with
  | zero => exact ⟨lk, L, hle, Nat.le_refl _, h⟩
  | succ al => exact h
theorem band {a b : Bool} (h : (a && b) = true) : a = true ∧ b = true := by
  rw [Bool.and_eq_true] at h; exact h
theorem zword_in {c : Nat} {w : Cond} (h : zword c w = true) (g : goodWord w = true) : w ∈ zgd := zgd_in (of_decide_eq_true h) g
theorem zlk_in {c t o i u v : Nat} (h : zlk c t o i u v = true) (g : goodWord (zlW t o i u v) = true) : zlW t o i u v ∈ zgd := by
  obtain ⟨p, hp⟩ := zlk_at h
  exact zgd_in hp g
theorem zmkB_ok {y : Nat} (h : zmkB y = true) : zMk y ∧ zmO y = (zmN y).cls ∧ ∃ md al n p1 p2 p3 p4 k o, zmF y = [md, al, n, p1, p2, p3, p4, k, o] ∧ (parseMethodDescriptor (zmN y).desc).map (fun d => d.parameters.length) = some n ∧
    (md = 1 → Cond.static (zmN y) ∈ zgd) ∧ (md = 2 → Cond.instanceMethod (zmN y) ∈ zgd ∧ (zmN y).name = "<init>" ∧ zmR y = none) ∧ (md = 0 → Cond.instanceMethod (zmN y) ∈ zgd ∧ Cond.selects (zmN y).cls (zmN y) (zmN y) ∈ zgd ∧ (vwCl[k]?).map (fun q => q.1) = some (zmN y).cls) := by
  unfold zmkB at h
  split at h
  · rename_i md al n p1 p2 p3 p4 k o hF
    obtain ⟨h1, h⟩ := band h
    obtain ⟨h2, h⟩ := band h
    obtain ⟨h3, h⟩ := band h
    obtain ⟨h4, h⟩ := band h
    obtain ⟨h5, h⟩ := band h
    obtain ⟨h6, h⟩ := band h
    obtain ⟨h7, h⟩ := band h
    obtain ⟨h8, h⟩ := band h
    refine ⟨⟨zword_in h1 rfl, zword_in h2 rfl, ⟨of_decide_eq_true h3, of_decide_eq_true h4⟩, Nat.le_of_ble_eq_true h5, h6⟩, of_decide_eq_true h7, md, al, n, p1, p2, p3, p4, k, o, hF, of_decide_eq_true h8, fun e => ?_, fun e => ?_, fun e => ?_⟩
    · subst e; exact zword_in h rfl
    · subst e
      obtain ⟨g1, h⟩ := band h
      obtain ⟨g2, h⟩ := band h
      obtain ⟨g3, h⟩ := band h
      exact ⟨zword_in g1 rfl, of_decide_eq_true g2, of_decide_eq_true g3⟩
    · subst e
      obtain ⟨g1, h⟩ := band h
      obtain ⟨g2, h⟩ := band h
      exact ⟨zword_in g1 rfl, zword_in g2 rfl, of_decide_eq_true h⟩
  · cases h
theorem zmx : Cond.code Lib.Math.max.name Lib.Math.max.code 2 (some .int) ∈ zgd ∧ Cond.code Lib.Math.min.name Lib.Math.min.code 2 (some .int) ∈ zgd ∧ Cond.static Lib.Math.max.name ∈ zgd ∧ Cond.static Lib.Math.min.name ∈ zgd ∧ Cond.initialized "java/lang/Math" ∈ zgd ∧ zmN 222 = Lib.Math.max.name ∧ zmN 223 = Lib.Math.min.name := by decide +kernel
theorem zoi : Cond.instanceMethod Lib.objectInit ∈ zgd ∧ Cond.code Lib.objectInit ⟨#[0xb1]⟩ 1 none ∈ zgd ∧ Cond.native arraycopyName ∈ zgd ∧ Cond.static arraycopyName ∈ zgd ∧ Cond.initialized "java/lang/System" ∈ zgd ∧ Cond.arrayClass .int ∈ zgd ∧ Cond.arrayClass .boolean ∈ zgd := by decide +kernel
theorem znewW0 : vwCl.all (fun q => zgd.contains (Cond.instantiable q.1 q.2.2) && zgd.contains (Cond.initialized q.1)) = true := by decide +kernel
theorem znewW {a : Nat} {q : vw_C} (h : vwCl[a]? = some q) : Cond.instantiable q.1 q.2.2 ∈ zgd ∧ Cond.initialized q.1 ∈ zgd := by
  obtain ⟨h1, h2⟩ := band (List.all_eq_true.mp znewW0 q (List.mem_of_getElem? h))
  exact ⟨List.contains_iff_mem.mp h1, List.contains_iff_mem.mp h2⟩
theorem zE_max {X d y pc : Nat} {ls st : List Value} {mem : zMem} {lk : zLk} {L : List Nat} {lkf : zLk} {Lf : List Nat} {Q : Option Value → zMem → Prop} {idx : Nat} {x z : Int32} (hd : decode (zmB y) pc = .ok (.invokestatic idx, 3)) (hl : Cond.methodLink (zmO y) idx Lib.Math.max.name ∈ zgd) (hcat : zcat st ≤ 8) (h : zE X d y (pc + 3) ls (.int (if x < z then z else x) :: st) mem lk L lkf Lf Q) : zE X d y pc ls (.int z :: .int x :: st) mem lk L lkf Lf Q := by
  intro p l e R s m args below meth c H locs cells slots A D κ φ Z la hX hC hL hS hXt hV hA i1 i2 h3 h4 h5 K
  have hf := hC.2.2.2.2.2.2.2.2.2.2.2.1
  have hlo := hC.2.2.2.2.2.2.2.2.2.2.2.2
  have hd0 := hC.1
  exact va_mmax hC.2.1 hC.2.2.1 (hC.2.2.2.2.1.trans hL.1.symm) hC.2.2.2.2.2.1 (hC.2.2.2.2.2.2.2.2.1 _ hl) (hC.2.2.2.2.2.2.2.2.1 _ zmx.2.2.1) (hC.2.2.2.2.2.2.2.2.1 _ zmx.2.2.2.2.1) (hC.2.2.2.2.2.2.2.2.1 _ zmx.1) (by omega) (by rw [zcat_tr]; omega) (by omega) (by omega) hd (h p l e R s m args below meth c H locs cells slots A D κ φ Z la hX hC hL hS hXt hV hA i1 (zins_cons trivial (zins_tl (zins_tl i2))) h3 h4 h5 K)
theorem zE_min {X d y pc : Nat} {ls st : List Value} {mem : zMem} {lk : zLk} {L : List Nat} {lkf : zLk} {Lf : List Nat} {Q : Option Value → zMem → Prop} {idx : Nat} {x z : Int32} (hd : decode (zmB y) pc = .ok (.invokestatic idx, 3)) (hl : Cond.methodLink (zmO y) idx Lib.Math.min.name ∈ zgd) (hcat : zcat st ≤ 8) (h : zE X d y (pc + 3) ls (.int (if z < x then z else x) :: st) mem lk L lkf Lf Q) : zE X d y pc ls (.int z :: .int x :: st) mem lk L lkf Lf Q := by
  intro p l e R s m args below meth c H locs cells slots A D κ φ Z la hX hC hL hS hXt hV hA i1 i2 h3 h4 h5 K
  have hf := hC.2.2.2.2.2.2.2.2.2.2.2.1
  have hlo := hC.2.2.2.2.2.2.2.2.2.2.2.2
  have hd0 := hC.1
  exact va_mmin hC.2.1 hC.2.2.1 (hC.2.2.2.2.1.trans hL.1.symm) hC.2.2.2.2.2.1 (hC.2.2.2.2.2.2.2.2.1 _ hl) (hC.2.2.2.2.2.2.2.2.1 _ zmx.2.2.2.1) (hC.2.2.2.2.2.2.2.2.1 _ zmx.2.2.2.2.1) (hC.2.2.2.2.2.2.2.2.1 _ zmx.2.1) (by omega) (by rw [zcat_tr]; omega) (by omega) (by omega) hd (h p l e R s m args below meth c H locs cells slots A D κ φ Z la hX hC hL hS hXt hV hA i1 (zins_cons trivial (zins_tl (zins_tl i2))) h3 h4 h5 K)
theorem zfrom_ok : ∀ (tbl : List zR) (a : Nat), zfrom tbl a <:+ tbl ∧ ∀ r l, zfrom tbl a = r :: l → r.1 = a
  | [], a => ⟨List.suffix_refl _, fun r l h => by cases h⟩
  | r :: t, a => by
    by_cases e : r.1 = a
    · have : zfrom (r :: t) a = r :: t := by
        show (bif Nat.beq r.1 a then r :: t else zfrom t a) = _
        rw [show Nat.beq r.1 a = true by rw [Nat.beq_eq]; exact e]; rfl
      rw [this]
      exact ⟨List.suffix_refl _, fun r' l h => by cases h; exact e⟩
    · have : zfrom (r :: t) a = zfrom t a := by
        show (bif Nat.beq r.1 a then r :: t else zfrom t a) = _
        rw [show Nat.beq r.1 a = false by rw [Bool.eq_false_iff, ne_eq, Nat.beq_eq]; exact e]; rfl
      rw [this]
      obtain ⟨h1, h2⟩ := zfrom_ok t a
      exact ⟨h1.trans (List.suffix_cons _ _), h2⟩
theorem zadj_ok : ∀ (tbl : List zR), zadj tbl = true → ∀ r r' l, (r :: r' :: l) <:+ tbl → r.1 + r.2.2.1 = r'.1
  | [], _, r, r', l, hs => by
    obtain ⟨t, ht⟩ := hs
    cases t <;> cases ht
  | q :: tbl, h, r, r', l, hs => by
    rcases List.suffix_cons_iff.mp hs with e | e
    · cases e
      exact Nat.eq_of_beq_eq_true (band h).1
    · refine zadj_ok tbl ?_ r r' l e
      cases tbl with
      | nil => rfl
      | cons q' tbl => exact (band h).2
section ZS
variable {X d y : Nat} {lkf : zLk} {Lf : List Nat} {Q : Option Value → zMem → Prop}
theorem nI_ne {x : Int32} {w : Nat} (hw : w < 1000000) (h : x.toInt ≠ (w : Int)) : ¬ x = nI w := fun e => h (by rw [e, nI_toInt (by omega)])
theorem nI_is {x : Int32} {w : Nat} (hw : w < 1000000) (h : x.toInt = (w : Int)) : x = nI w := Int32.toInt_inj.mp (by rw [h, nI_toInt (by omega)])
theorem zsw_tab {pc : Nat} {x : Int32} {J : Nat → Prop} {dflt : Nat} : ∀ (offs : List Int) (ts : List (Nat × Nat)) (v : Int), zswB pc v offs ts = true → zsw x J dflt ts → (∀ (k : Nat) (off : Int), offs[k]? = some off → x.toInt = v + (k : Int) → ∃ t : Nat, (pc : Int) + off = (t : Int) ∧ J t) ∧ ((∀ k : Nat, k < offs.length → x.toInt ≠ v + (k : Int)) → J dflt)
  | [], [], v, _, h => ⟨fun k off hk => by (cases k <;> cases hk), fun _ => h⟩
  | [], _ :: _, v, hb, h => by cases hb
  | _ :: _, [], v, hb, h => by cases hb
  | o :: os, (w, t) :: ts, v, hb, h => by
    obtain ⟨hw, hb⟩ := band hb
    obtain ⟨h1, hb⟩ := band hb
    obtain ⟨h2, hb⟩ := band hb
    have hw : w < 1000000 := by rw [← Nat.blt_eq]; exact hw
    have h1 : (w : Int) = v := of_decide_eq_true h1
    have h2 : (pc : Int) + o = (t : Int) := of_decide_eq_true h2
    have ih := fun hne => zsw_tab os ts (v + 1) hb (h.2 hne)
    refine ⟨fun k off hk hx => ?_, fun hn => ?_⟩
    · cases k with
      | zero =>
        cases hk
        exact ⟨t, h2, h.1 (nI_is hw (by rw [hx, h1]; simp))⟩
      | succ k =>
        have hne : ¬ x = nI w := nI_ne hw (by rw [h1]; omega)
        exact (ih hne).1 k off hk (by rw [hx]; omega)
    · have hne : ¬ x = nI w := nI_ne hw (by rw [h1]; have := hn 0 (by simp); simpa using this)
      exact (ih hne).2 (fun k hk => by have := hn (k + 1) (by simpa using hk); omega)
theorem zsw_lk {pc : Nat} {x : Int32} {J : Nat → Prop} {dflt : Nat} {d0 : Int} (hd : (pc : Int) + d0 = (dflt : Int)) : ∀ (ps : List (Int × Int)) (ts : List (Nat × Nat)), zlkB pc ps ts = true → zsw x J dflt ts → ∃ t : Nat, (pc : Int) + Op.lookupswitch.offset ps d0 x.toInt = (t : Int) ∧ J t
  | [], [], _, h => ⟨dflt, hd, h⟩
  | [], _ :: _, hb, h => by cases hb
  | _ :: _, [], hb, h => by cases hb
  | (v, o) :: ps, (w, t) :: ts, hb, h => by
    obtain ⟨hw, hb⟩ := band hb
    obtain ⟨h1, hb⟩ := band hb
    obtain ⟨h2, hb⟩ := band hb
    have hw : w < 1000000 := by rw [← Nat.blt_eq]; exact hw
    have h1 : (w : Int) = v := of_decide_eq_true h1
    have h2 : (pc : Int) + o = (t : Int) := of_decide_eq_true h2
    rw [Op.lookupswitch.offset_cons]
    by_cases e : v = x.toInt
    · rw [if_pos e]
      exact ⟨t, h2, h.1 (nI_is hw (by rw [h1, e]))⟩
    · rw [if_neg e]
      exact zsw_lk hd ps ts hb (h.2 (nI_ne hw (by rw [h1]; exact fun q => e q.symm)))
theorem zE_tsw {pc a : Nat} {ls st : List Value} {mem : zMem} {lk : zLk} {L : List Nat} {x : Int32} {dflt lo hi : Int} {offs : Array Int} {len : Nat} {ts : List (Nat × Nat)} (hdec : decode (zmB y) pc = .ok (.tableswitch dflt lo hi offs, len)) (h1 : (pc : Int) + dflt = (a : Int)) (h2 : hi = lo + (offs.size : Int) - 1) (hb : zswB pc lo offs.toList ts = true)
    (h : zsw x (fun t => zE X d y t ls st mem lk L lkf Lf Q) a ts) : zE X d y pc ls (.int x :: st) mem lk L lkf Lf Q := by
  obtain ⟨g1, g2⟩ := zsw_tab offs.toList ts lo hb h
  by_cases hlo : x.toInt < lo ∨ hi < x.toInt
  · have k1 := g2 (fun k hk => by rw [Array.length_toList] at hk; omega)
    exact zE_step k1 (fun a b => ⟨a, zins_tl b⟩) (fun _ _ _ _ _ _ _ _ _ _ _ _ _ _ _ _ la hC hL K => lv_tableOut hC.2.1 hC.2.2.1 hdec hlo h1 (K la hL))
  · have hk : (x.toInt - lo).toNat < offs.size := by omega
    have ho : offs[(x.toInt - lo).toNat]? = some offs[(x.toInt - lo).toNat] := Array.getElem?_eq_getElem hk
    obtain ⟨t, ht, k1⟩ := g1 (x.toInt - lo).toNat _ (by rw [Array.getElem?_toList]; exact ho) (by omega)
    exact zE_step k1 (fun a b => ⟨a, zins_tl b⟩) (fun _ _ _ _ _ _ _ _ _ _ _ _ _ _ _ _ la hC hL K => lv_tableIn hC.2.1 hC.2.2.1 hdec (by omega) (by omega) ho ht (K la hL))
theorem zE_lsw {pc a : Nat} {ls st : List Value} {mem : zMem} {lk : zLk} {L : List Nat} {x : Int32} {dflt : Int} {ps : Array (Int × Int)} {len : Nat} {ts : List (Nat × Nat)} (hdec : decode (zmB y) pc = .ok (.lookupswitch dflt ps, len)) (h1 : (pc : Int) + dflt = (a : Int)) (hp : (ps.toList.zip (ps.toList.drop 1)).all (fun (a, next) => a.1 < next.1) = true) (hb : zlkB pc ps.toList ts = true)
    (h : zsw x (fun t => zE X d y t ls st mem lk L lkf Lf Q) a ts) : zE X d y pc ls (.int x :: st) mem lk L lkf Lf Q := by
  obtain ⟨t, ht, k1⟩ := zsw_lk h1 ps.toList ts hb h
  exact zE_step k1 (fun a b => ⟨a, zins_tl b⟩) (fun _ _ _ _ _ _ _ _ _ _ _ _ _ _ _ _ la hC hL K => lv_lookup hC.2.1 hC.2.2.1 hdec hp rfl ht (K la hL))
theorem zsw_mono {x : Int32} {J J' : Nat → Prop} {dflt : Nat} (hJ : ∀ t, J t → J' t) : ∀ ts : List (Nat × Nat), zsw x J dflt ts → zsw x J' dflt ts
  | [], h => hJ _ h
  | (v, t) :: ts, h => ⟨fun e => hJ _ (h.1 e), fun e => zsw_mono hJ ts (h.2 e)⟩
theorem zsg_ok {b : Nat} {p n : Prop} (h : zsg b p n) : (b = 0 ∧ p) ∨ (b ≠ 0 ∧ n) := by
  cases b with
  | zero => exact Or.inl ⟨rfl, h⟩
  | succ b => exact Or.inr ⟨by omega, h⟩
theorem zv9 {a : Nat} (h : a < 9) : ∃ q, vwCl[a]? = some q := ⟨vwCl[a], List.getElem?_eq_getElem h⟩
theorem zown_cls {a : Nat} {q : vw_C} (h : vwCl[a]? = some q) (k : Nat) (hk : k < znf a) : (q.2.1 k).1 = zown a := by
  have := zlt9 h
  have key : ∀ a, a < 9 → ∀ k, k < znf a → (match vwCl[a]? with | some q => (q.2.1 k).1 | none => "") = zown a := by decide +kernel
  have h2 := key a this k hk
  rw [h] at h2
  exact h2
theorem zfB_ok {o idx a b c k i md : Nat} {pf : Bool} (h : zfB o idx a b c k i pf md = true) : ∃ q, vwCl[a]? = some q ∧ k < znf a ∧ b = zoff a k ∧ (i = 0 → zisI a k = false) ∧ (i ≠ 0 → zisI a k = true) ∧ Cond.fieldLink (zown o) idx (q.2.1 k).1 (q.2.1 k).2.1 (q.2.1 k).2.2.1 ∈ zgd ∧
    (pf = true → (i = 0 → (q.2.1 k).2.2.2 = true ∧ md = 2 ∧ (q.2.1 k).1 = zown o) ∧ (i ≠ 0 → (q.2.1 k).2.2.2 = false)) := by
  obtain ⟨h0, h⟩ := band h
  obtain ⟨h1, h⟩ := band h
  obtain ⟨h2, h⟩ := band h
  obtain ⟨h3, h⟩ := band h
  obtain ⟨h4, h⟩ := band h
  have h3 := of_decide_eq_true h3
  have h1 : k < znf a := by rw [← Nat.blt_eq]; exact h1
  obtain ⟨q, hq⟩ := zv9 (a := a) (by rw [← Nat.blt_eq]; exact h0)
  have hw : zlW 0 o idx a k = .fieldLink (zown o) idx (q.2.1 k).1 (q.2.1 k).2.1 (q.2.1 k).2.2.1 := by
    show (match vwCl[a]? with
      | some q => Cond.fieldLink (zown o) idx (q.2.1 k).1 (q.2.1 k).2.1 (q.2.1 k).2.2.1
      | none => .returned) = _
    rw [hq]
  have hfin : zfinB a k = (q.2.1 k).2.2.2 := by
    unfold zfinB
    rw [hq]
  refine ⟨q, hq, h1, Nat.eq_of_beq_eq_true h2, fun e => by subst e; exact h3, fun e => ?_, by rw [← hw]; exact zlk_in h4 (by rw [hw]; rfl), fun hp => ?_⟩
  · cases i with
    | zero => exact absurd rfl e
    | succ i => exact h3
  · subst hp
    refine ⟨fun e => ?_, fun e => ?_⟩
    · subst e
      obtain ⟨g1, h⟩ := band h
      obtain ⟨g2, g3⟩ := band h
      refine ⟨by rw [← hfin]; exact g1, Nat.eq_of_beq_eq_true g2, ?_⟩
      rw [Nat.eq_of_beq_eq_true g3]
      exact zown_cls hq k h1
    · cases i with
      | zero => exact absurd rfl e
      | succ i =>
        have h : (!(zfinB a k)) = true := h
        rw [hfin] at h
        simpa using h
theorem zmode {y' n md0 : Nat} {ts : List (Nat × Nat)} {al : Nat} (hts : ts = [(n, al)]) (h : zmdB ts (zmF y') md0 = true) : ∃ al' p1 p2 p3 p4 k o, zmF y' = [md0, al', n, p1, p2, p3, p4, k, o] := by
  subst hts
  generalize zmF y' = F at h
  unfold zmdB at h
  split at h
  · rename_i n1 w1 md w2 n2 p1 p2 p3 p4 k o1 h1
    obtain ⟨g1, g2⟩ := band h
    have e1 := Nat.eq_of_beq_eq_true g1
    have e2 := Nat.eq_of_beq_eq_true g2
    cases h1
    subst e1; subst e2
    exact ⟨_, _, _, _, _, _, _, rfl⟩
  · cases h
theorem zE_le {pc : Nat} {ls st : List Value} {mem : zMem} {lk : zLk} {L : List Nat} (h : L.length ≤ Lf.length → zE X d y pc ls st mem lk L lkf Lf Q) : zE X d y pc ls st mem lk L lkf Lf Q := by
  intro p l e R s m args below meth c H locs cells slots A D κ φ Z la hX hC hL hS hXt hV hA i1 i2 h3 h4 h5 K
  exact h h3 p l e R s m args below meth c H locs cells slots A D κ φ Z la hX hC hL hS hXt hV hA i1 i2 h3 h4 h5 K
set_option maxHeartbeats 4000000 in
theorem zst_E (hck : zchk y = true) {K : zK} (hK : ∀ r nxt ls st mem lk L, (r :: nxt) <:+ zmT y → K (r :: nxt) ls st mem lk L → zE X d y r.1 ls st mem lk L lkf Lf Q) (hK0 : ∀ ls st mem lk L, ¬ K [] ls st mem lk L) {r : zR} {nxt : List zR} (hsuf : (r :: nxt) <:+ zmT y) {ls st : List Value} {mem : zMem} {lk : zLk} {L : List Nat}
    (h : zst X d lkf Lf Q (zmT y) K (fun a ls st mem lk L => zE X d y a ls st mem lk L lkf Lf Q) r nxt ls st mem lk L) : zE X d y r.1 ls st mem lk L lkf Lf Q := by
  obtain ⟨hall, hadj⟩ := band hck
  have hrc := List.all_eq_true.mp hall r (hsuf.subset List.mem_cons_self)
  obtain ⟨pc, ins, len, hh, a, b, c, ts⟩ := r
  obtain ⟨hdec, hx⟩ := band hrc
  have hdec := of_decide_eq_true hdec
  have hN : ∀ {ls st mem lk L}, K nxt ls st mem lk L → zE X d y (pc + len) ls st mem lk L lkf Lf Q := fun {ls st mem lk L} q => by
    cases nxt with
    | nil => exact absurd q (hK0 ls st mem lk L)
    | cons r' l =>
      have e : pc + len = r'.1 := zadj_ok _ hadj _ _ _ hsuf
      rw [e]
      exact hK r' l ls st mem lk L ((List.suffix_cons _ _).trans hsuf) q
  have hJ : ∀ {t ls st mem lk L}, zjmp (zmT y) K (fun a ls st mem lk L => zE X d y a ls st mem lk L lkf Lf Q) pc t ls st mem lk L → zE X d y t ls st mem lk L lkf Lf Q := fun {t ls st mem lk L} q => by
    unfold zjmp at q
    split at q
    · exact q
    · obtain ⟨f1, f2⟩ := zfrom_ok (zmT y) t
      cases hz : zfrom (zmT y) t with
      | nil => rw [hz] at q; exact absurd q (hK0 ls st mem lk L)
      | cons r' l =>
        rw [hz] at q f1
        have e := f2 r' l hz
        rw [← e]
        exact hK r' l ls st mem lk L f1 q
  cases ins with
  | iconst n => 
    obtain ⟨g1, g2⟩ := band hx
    cases Nat.eq_of_beq_eq_true g1
    exact zE_iconst hdec (of_decide_eq_true g2) (hN (zsg_cv (P := fun v => K nxt ls (.int v :: st) mem lk L) h))
  | bipush n => 
    obtain ⟨g1, g2⟩ := band hx
    cases Nat.eq_of_beq_eq_true g1
    exact zE_bipush hdec (of_decide_eq_true g2) (hN (zsg_cv (P := fun v => K nxt ls (.int v :: st) mem lk L) h))
  | sipush n => 
    obtain ⟨g1, g2⟩ := band hx
    cases Nat.eq_of_beq_eq_true g1
    exact zE_sipush hdec (of_decide_eq_true g2) (hN (zsg_cv (P := fun v => K nxt ls (.int v :: st) mem lk L) h))
  | ldc k => 
    obtain ⟨g1, g2⟩ := band hx
    cases Nat.eq_of_beq_eq_true g1
    exact zE_ldc hdec (zlk_in (t := 5) g2 rfl) (hN (zsg_cv (P := fun v => K nxt ls (.int v :: st) mem lk L) h))
  | ldc_w k => 
    obtain ⟨g1, g2⟩ := band hx
    cases Nat.eq_of_beq_eq_true g1
    exact zE_ldcw hdec (zlk_in (t := 5) g2 rfl) (hN (zsg_cv (P := fun v => K nxt ls (.int v :: st) mem lk L) h))
  | ldc2_w k => 
    obtain ⟨g1, g2⟩ := band hx
    cases Nat.eq_of_beq_eq_true g1
    exact zE_ldc2 hdec (zlk_in (t := 6) g2 rfl) (hN (zsg_clv (P := fun v => K nxt ls (.long v :: st) mem lk L) h))
  | lconst k => 
    obtain ⟨g1, g2⟩ := band hx
    cases Nat.eq_of_beq_eq_true g1
    exact zE_lconst hdec (of_decide_eq_true g2) (hN (zsg_clv (P := fun v => K nxt ls (.long v :: st) mem lk L) h))
  | iload_n k => 
    cases Nat.eq_of_beq_eq_true hx
    obtain ⟨x, g1, g2⟩ := zlI_ok h
    exact zE_iload_n hdec g1 (hN g2)
  | iload k => 
    cases Nat.eq_of_beq_eq_true hx
    obtain ⟨x, g1, g2⟩ := zlI_ok h
    exact zE_iload hdec g1 (hN g2)
  | lload_n k => 
    cases Nat.eq_of_beq_eq_true hx
    obtain ⟨x, g1, g2⟩ := zlL_ok h
    exact zE_lload_n hdec g1 (hN g2)
  | lload k => 
    cases Nat.eq_of_beq_eq_true hx
    obtain ⟨x, g1, g2⟩ := zlL_ok h
    exact zE_lload hdec g1 (hN g2)
  | aload_n k => 
    cases Nat.eq_of_beq_eq_true hx
    obtain ⟨x, g1, g2⟩ := zlA_ok h
    exact zE_aload_n hdec g1 (hN g2)
  | aload k => 
    cases Nat.eq_of_beq_eq_true hx
    obtain ⟨x, g1, g2⟩ := zlA_ok h
    exact zE_aload hdec g1 (hN g2)
  | istore_n k => 
    cases Nat.eq_of_beq_eq_true hx
    obtain ⟨x, st', rfl, g1⟩ := zI1_ok h
    obtain ⟨w, g2, g3⟩ := zlS_ok g1
    exact zE_istore_n hdec g2 (hN g3)
  | istore k => 
    cases Nat.eq_of_beq_eq_true hx
    obtain ⟨x, st', rfl, g1⟩ := zI1_ok h
    obtain ⟨w, g2, g3⟩ := zlS_ok g1
    exact zE_istore hdec g2 (hN g3)
  | lstore_n k => 
    cases Nat.eq_of_beq_eq_true hx
    obtain ⟨x, st', rfl, g1⟩ := zL1_ok h
    obtain ⟨w, g2, g3⟩ := zlS_ok g1
    exact zE_lstore_n hdec g2 (hN g3)
  | lstore k => 
    cases Nat.eq_of_beq_eq_true hx
    obtain ⟨x, st', rfl, g1⟩ := zL1_ok h
    obtain ⟨w, g2, g3⟩ := zlS_ok g1
    exact zE_lstore hdec g2 (hN g3)
  | astore_n k => 
    cases Nat.eq_of_beq_eq_true hx
    obtain ⟨x, st', rfl, g1⟩ := zA1_ok h
    obtain ⟨w, g2, g3⟩ := zlS_ok g1
    exact zE_astore_n hdec g2 (hN g3)
  | astore k => 
    cases Nat.eq_of_beq_eq_true hx
    obtain ⟨x, st', rfl, g1⟩ := zA1_ok h
    obtain ⟨w, g2, g3⟩ := zlS_ok g1
    exact zE_astore hdec g2 (hN g3)
  | iinc k n => 
    obtain ⟨g1, g2⟩ := band hx
    cases Nat.eq_of_beq_eq_true g1
    obtain ⟨x, g3, g4⟩ := zlI_ok h
    exact zE_iinc hdec g3 (by rw [of_decide_eq_true g2]) (hN (zsg_cv (P := fun v => K nxt (zs1 ls k (.int (x + v))) st mem lk L) g4))
  | iadd => 
    cases Nat.eq_of_beq_eq_true hx
    obtain ⟨z, x, st', rfl, g1⟩ := zI2_ok h
    exact zE_iadd hdec (hN g1)
  | isub => 
    cases Nat.eq_of_beq_eq_true hx
    obtain ⟨z, x, st', rfl, g1⟩ := zI2_ok h
    exact zE_isub hdec (hN g1)
  | imul => 
    cases Nat.eq_of_beq_eq_true hx
    obtain ⟨z, x, st', rfl, g1⟩ := zI2_ok h
    exact zE_imul hdec (hN g1)
  | iand => 
    cases Nat.eq_of_beq_eq_true hx
    obtain ⟨z, x, st', rfl, g1⟩ := zI2_ok h
    exact zE_iand hdec (hN g1)
  | ior => 
    cases Nat.eq_of_beq_eq_true hx
    obtain ⟨z, x, st', rfl, g1⟩ := zI2_ok h
    exact zE_ior hdec (hN g1)
  | ixor => 
    cases Nat.eq_of_beq_eq_true hx
    obtain ⟨z, x, st', rfl, g1⟩ := zI2_ok h
    exact zE_ixor hdec (hN g1)
  | ishl => 
    cases Nat.eq_of_beq_eq_true hx
    obtain ⟨z, x, st', rfl, g1⟩ := zI2_ok h
    exact zE_ishl hdec (hN g1)
  | ishr => 
    cases Nat.eq_of_beq_eq_true hx
    obtain ⟨z, x, st', rfl, g1⟩ := zI2_ok h
    exact zE_ishr hdec (hN g1)
  | iushr => 
    cases Nat.eq_of_beq_eq_true hx
    obtain ⟨z, x, st', rfl, g1⟩ := zI2_ok h
    exact zE_iushr hdec (hN g1)
  | idiv => 
    cases Nat.eq_of_beq_eq_true hx
    obtain ⟨z, x, st', rfl, g1, g2⟩ := zI2_ok h
    exact zE_idiv hdec g1 (hN g2)
  | irem => 
    cases Nat.eq_of_beq_eq_true hx
    obtain ⟨z, x, st', rfl, g1, g2⟩ := zI2_ok h
    exact zE_irem hdec g1 (hN g2)
  | ladd => 
    cases Nat.eq_of_beq_eq_true hx
    obtain ⟨z, x, st', rfl, g1⟩ := zL2_ok h
    exact zE_ladd hdec (hN g1)
  | lmul => 
    cases Nat.eq_of_beq_eq_true hx
    obtain ⟨z, x, st', rfl, g1⟩ := zL2_ok h
    exact zE_lmul hdec (hN g1)
  | lcmp => 
    cases Nat.eq_of_beq_eq_true hx
    obtain ⟨z, x, st', rfl, g1⟩ := zL2_ok h
    exact zE_lcmp hdec (hN g1)
  | ldiv => 
    cases Nat.eq_of_beq_eq_true hx
    obtain ⟨z, x, st', rfl, g1, g2⟩ := zL2_ok h
    exact zE_ldiv hdec g1 (hN g2)
  | lrem => 
    cases Nat.eq_of_beq_eq_true hx
    obtain ⟨z, x, st', rfl, g1, g2⟩ := zL2_ok h
    exact zE_lrem hdec g1 (hN g2)
  | ineg => 
    cases Nat.eq_of_beq_eq_true hx
    obtain ⟨x, st', rfl, g1⟩ := zI1_ok h
    exact zE_ineg hdec (hN g1)
  | i2l => 
    cases Nat.eq_of_beq_eq_true hx
    obtain ⟨x, st', rfl, g1⟩ := zI1_ok h
    exact zE_i2l hdec (hN g1)
  | l2i => 
    cases Nat.eq_of_beq_eq_true hx
    obtain ⟨x, st', rfl, g1⟩ := zL1_ok h
    exact zE_l2i hdec (hN g1)
  | i2b => 
    cases Nat.eq_of_beq_eq_true hx
    obtain ⟨x, st', rfl, g1⟩ := zI1_ok h
    exact zE_i2b hdec (hN g1)
  | i2s => 
    cases Nat.eq_of_beq_eq_true hx
    obtain ⟨x, st', rfl, g1⟩ := zI1_ok h
    exact zE_i2s hdec (hN g1)
  | dup => 
    cases Nat.eq_of_beq_eq_true hx
    match st, h with
    | .int x :: st', h => exact zE_dupI hdec (hN h)
    | .ref x :: st', h => exact zE_dupR hdec (hN h)
  | dup2 => 
    cases Nat.eq_of_beq_eq_true hx
    obtain ⟨x, o, st', rfl, g1⟩ := zIA_ok h
    exact zE_dup2 hdec (hN g1)
  | ifCond cnd off => 
    obtain ⟨g1, g2⟩ := band hx
    cases Nat.eq_of_beq_eq_true g1
    have ht := of_decide_eq_true g2
    obtain ⟨x, st', rfl, g3⟩ := zI1_ok h
    cases cnd with
    | eq => exact zE_if_eq hdec ht (fun q => hJ (g3.1 q)) (fun q => hN (g3.2 q))
    | ne => exact zE_if_ne hdec ht (fun q => hJ (g3.1 q)) (fun q => hN (g3.2 q))
    | lt => exact zE_if_lt hdec ht (fun q => hJ (g3.1 q)) (fun q => hN (g3.2 q))
    | ge => exact zE_if_ge hdec ht (fun q => hJ (g3.1 q)) (fun q => hN (g3.2 q))
    | gt => exact zE_if_gt hdec ht (fun q => hJ (g3.1 q)) (fun q => hN (g3.2 q))
    | le => exact zE_if_le hdec ht (fun q => hJ (g3.1 q)) (fun q => hN (g3.2 q))
  | if_icmp cnd off => 
    obtain ⟨g1, g2⟩ := band hx
    cases Nat.eq_of_beq_eq_true g1
    have ht := of_decide_eq_true g2
    obtain ⟨z, x, st', rfl, g3⟩ := zI2_ok h
    cases cnd with
    | eq => exact zE_icmp_eq hdec ht (fun q => hJ (g3.1 q)) (fun q => hN (g3.2 q))
    | ne => exact zE_icmp_ne hdec ht (fun q => hJ (g3.1 q)) (fun q => hN (g3.2 q))
    | lt => exact zE_icmp_lt hdec ht (fun q => hJ (g3.1 q)) (fun q => hN (g3.2 q))
    | ge => exact zE_icmp_ge hdec ht (fun q => hJ (g3.1 q)) (fun q => hN (g3.2 q))
    | gt => exact zE_icmp_gt hdec ht (fun q => hJ (g3.1 q)) (fun q => hN (g3.2 q))
    | le => exact zE_icmp_le hdec ht (fun q => hJ (g3.1 q)) (fun q => hN (g3.2 q))
  | goto off => 
    obtain ⟨g1, g2⟩ := band hx
    cases Nat.eq_of_beq_eq_true g1
    exact zE_goto hdec (of_decide_eq_true g2) (hJ h)
  | ifnull off => 
    obtain ⟨g1, g2⟩ := band hx
    cases Nat.eq_of_beq_eq_true g1
    match st, h with
    | .ref x :: st', h => exact zE_ifnull hdec (hN h)
    | .null :: st', h => exact zE_ifnullN hdec (of_decide_eq_true g2) (hJ h)
  | ifnonnull off => 
    obtain ⟨g1, g2⟩ := band hx
    cases Nat.eq_of_beq_eq_true g1
    match st, h with
    | .ref x :: st', h => exact zE_ifnonnull hdec (of_decide_eq_true g2) (hJ h)
    | .null :: st', h => exact zE_ifnonnullN hdec (hN h)
  | tableswitch dflt lo hi offs => 
    obtain ⟨g1, hx⟩ := band hx
    obtain ⟨g2, hx⟩ := band hx
    obtain ⟨g3, g4⟩ := band hx
    obtain ⟨x, st', rfl, g5⟩ := zI1_ok h
    exact zE_tsw hdec (of_decide_eq_true g1) (of_decide_eq_true g2) g4 (zsw_mono (fun t q => hJ q) ts g5)
  | lookupswitch dflt ps => 
    obtain ⟨g1, hx⟩ := band hx
    obtain ⟨g2, g3⟩ := band hx
    obtain ⟨x, st', rfl, g5⟩ := zI1_ok h
    exact zE_lsw hdec (of_decide_eq_true g1) g2 g3 (zsw_mono (fun t q => hJ q) ts g5)
  | getfield k => 
    obtain ⟨g1, g2⟩ := band hx
    cases Nat.eq_of_beq_eq_true g1
    obtain ⟨o, st', rfl, g3⟩ := zA1_ok h
    obtain ⟨sl, i, rfl, g4⟩ := zts_ok g3
    obtain ⟨q, f1, f2, f3, f4, f5, f6, -⟩ := zfB_ok g2
    rcases zsg_ok g4 with ⟨e, a1, t, a2, a3⟩ | ⟨e, a1, a2⟩
    · subst f3
      exact zE_getR hdec a1 f1 f2 (f4 e) f6 a2 (hN a3)
    · subst f3
      exact zE_getI hdec a1 f1 f2 (f5 e) f6 (hN a2)
  | putfield k => 
    obtain ⟨g1, g2⟩ := band hx
    cases Nat.eq_of_beq_eq_true g1
    obtain ⟨sl, i, rfl, g4⟩ := zts_ok h
    obtain ⟨g5, g6⟩ := band g2
    obtain ⟨q, f1, f2, f3, f4, f5, f6, f7⟩ := zfB_ok g6
    rcases zsg_ok g4 with ⟨e, a0⟩ | ⟨e, a0⟩
    · obtain ⟨v, o, st', rfl, a1, a2, a3⟩ := zAA_ok a0
      subst f3
      obtain ⟨b1, b2, b3⟩ := (f7 rfl).1 e
      exact zE_putR hdec a1 f1 f2 (f4 e) f6 b1 (by
        obtain ⟨-, -, md, al2, n2, q1, q2, q3, q4, k2, o2, hF2, -, -, m4, -⟩ := zmkB_ok (zmk_in g5)
        rw [hF2] at b2
        exact (m4 b2).2.1) b3 a2 (hN a3)
    · obtain ⟨v, o, st', rfl, a1, a2⟩ := zIA_ok a0
      subst f3
      exact zE_putI hdec a1 f1 f2 (f5 e) f6 ((f7 rfl).2 e) (hN a2)
  | getstatic k => 
    obtain ⟨g1, g2⟩ := band hx
    cases Nat.eq_of_beq_eq_true g1
    obtain ⟨g3, g4⟩ := band g2
    obtain ⟨q, hq, g5⟩ := List.any_eq_true.mp g3
    have e := Nat.eq_of_beq_eq_true g5
    subst e
    have hf : ∀ q ∈ zst4, zst4.find? (fun q' => Nat.beq q'.1 q.1) = some q := by decide +kernel
    have hw : zlW 8 (zmo y) k q.1 0 = .fieldLink (zmO y) k q.2.1 q.2.2 "[I" := by
      show (match zst4.find? (fun q' => Nat.beq q'.1 q.1) with
        | some q => Cond.fieldLink (zmO y) k q.2.1 q.2.2 "[I"
        | none => .returned) = _
      rw [hf q hq]
    exact zE_gets hdec (C := q.2.1) (n := q.2.2) hq (by rw [← hw]; exact zlk_in g4 (by rw [hw]; rfl)) (hN h)
  | iaload => 
    cases Nat.eq_of_beq_eq_true hx
    obtain ⟨i, o, st', rfl, g1, g2, g3⟩ := zIA_ok h
    exact zE_iald hdec g1 g2 (hN g3)
  | iastore => 
    cases Nat.eq_of_beq_eq_true hx
    obtain ⟨v, i, o, st', rfl, g1, g2, g3⟩ := zIIA_ok h
    exact zE_iast hdec g1 g2 (hN g3)
  | baload => 
    cases Nat.eq_of_beq_eq_true hx
    obtain ⟨i, o, st', rfl, g1, g2, g3⟩ := zIA_ok h
    exact zE_bald hdec g1 g2 (hN g3)
  | bastore => 
    cases Nat.eq_of_beq_eq_true hx
    obtain ⟨v, i, o, st', rfl, g1, g2, g3, g4⟩ := zIIA_ok h
    exact zE_bast hdec g1 g2 g3 (hN g4)
  | aaload => 
    cases Nat.eq_of_beq_eq_true hx
    obtain ⟨i, o, st', rfl, g1, g2, g3, g4⟩ := zIA_ok h
    exact zE_aald hdec g1 g2 (fun q => hN (g3 q)) (fun t q => hN (g4 t q))
  | aastore => 
    cases Nat.eq_of_beq_eq_true hx
    obtain ⟨v, i, o, st', rfl, g1, g2, g3, g4⟩ := zAIA_ok h
    exact zE_aast hdec g1 g2 g3 (hN g4)
  | arraylength => 
    cases Nat.eq_of_beq_eq_true hx
    obtain ⟨o, st', rfl, g1, g2⟩ := zA1_ok h
    exact zE_alen hdec g1 (hN g2)
  | new k => 
    obtain ⟨g1, g2⟩ := band hx
    cases Nat.eq_of_beq_eq_true g1
    obtain ⟨o, a1, a2, a3, a4⟩ := h
    obtain ⟨g3, g4⟩ := band g2
    obtain ⟨q, hq⟩ := zv9 (a := a) (by rw [← Nat.blt_eq]; exact g3)
    have hw : zlW 7 (zmo y) k a 0 = .classLink (zmO y) k q.1 := by
      show (match vwCl[a]? with
        | some q => Cond.classLink (zmO y) k q.1
        | none => .returned) = _
      rw [hq]
    exact zE_new hdec hq (by rw [← hw]; exact zlk_in g4 (by rw [hw]; rfl)) (znewW hq).1 (znewW hq).2 a1 a2 a3 (hN a4)
  | newarray t => 
    cases Nat.eq_of_beq_eq_true hx
    cases t with
    | int =>
      obtain ⟨n, st', rfl, o, a1, a2, a3, a4, a5⟩ := zI1_ok h
      exact zE_newI hdec zoi.2.2.2.2.2.1 a1 a2 a3 a4 (hN a5)
    | boolean =>
      obtain ⟨n, st', rfl, o, a1, a2, a3, a4, a5⟩ := zI1_ok h
      exact zE_newZ hdec zoi.2.2.2.2.2.2 a1 a2 a3 a4 (hN a5)
    | _ => exact h.elim
  | anewarray k => 
    obtain ⟨g1, g2⟩ := band hx
    cases Nat.eq_of_beq_eq_true g1
    obtain ⟨n, st', rfl, o, a1, a2, a3, a4, a5⟩ := zI1_ok h
    exact zE_anew hdec (zlk_in (t := 7) (u := 3) g2 rfl) a1 a2 a3 a4 (hN a5)
  | invokevirtual k => 
    obtain ⟨g1, hx1⟩ := band hx
    obtain ⟨g2, hx2⟩ := band hx1
    obtain ⟨g3, hx3⟩ := band hx2
    obtain ⟨g4, g5⟩ := band hx3
    clear hx hx1 hx2 hx3 hrc
    cases Nat.eq_of_beq_eq_true g1
    cases Nat.eq_of_beq_eq_true g2
    obtain ⟨n, al, e1, h⟩ := zts_ok h
    obtain ⟨o, as, st', h1, h⟩ := zargV_ok h
    obtain ⟨h2, h3, h⟩ := zfit_ok h
    obtain ⟨al', p1, p2, p3, p4, k', o', hF⟩ := zmode e1 g5
    obtain ⟨m1, m2, md, al2, n2, q1, q2, q3, q4, k2, o2, hF2, m3, -, -, m4⟩ := zmkB_ok (zmk_in g3)
    rw [hF] at hF2
    cases hF2
    obtain ⟨m5, m6, m7⟩ := m4 rfl
    rw [hF] at h3
    cases h3
    cases hq : vwCl[kd o]? with
    | none => rw [hq] at m7; cases m7
    | some q =>
      rw [hq] at m7
      refine zE_le (fun hle => ?_)
      obtain ⟨lk', L', l1, l2, hok⟩ := zcall_ok hle h
      exact zE_callV hdec m1 (zlk_in (t := 1) g4 rfl) m5 m6 m3 hq (Option.some.inj m7) h1 h2 l1 l2 hok (fun r mem' hr => hN hr)
  | invokestatic k => 
    obtain ⟨g1, hx0⟩ := band hx
    clear hx hrc
    cases Nat.eq_of_beq_eq_true g1
    match b, hx0, h with
    | 6, hx, h =>
      obtain ⟨g3, g4⟩ := band hx
      cases Nat.eq_of_beq_eq_true g3
      obtain ⟨z, x, st', rfl, h⟩ := zI2_ok h
      obtain ⟨h2, h⟩ := zfit_ok h
      exact zE_max hdec (by rw [← zmx.2.2.2.2.2.1]; exact zlk_in (t := 1) g4 rfl) h2 (hN h)
    | 7, hx, h =>
      obtain ⟨g3, g4⟩ := band hx
      cases Nat.eq_of_beq_eq_true g3
      obtain ⟨z, x, st', rfl, h⟩ := zI2_ok h
      obtain ⟨h2, h⟩ := zfit_ok h
      exact zE_min hdec (by rw [← zmx.2.2.2.2.2.2]; exact zlk_in (t := 1) g4 rfl) h2 (hN h)
    | 5, hx, h =>
      obtain ⟨n, dp, g, sp, f, st', rfl, h⟩ := zcpS_ok h
      obtain ⟨h2, a1, a2, a3, a4, a5, a6, a7, a8⟩ := zfit_ok h
      exact zE_copy hdec (zlk_in (t := 4) hx rfl) zoi.2.2.1 zoi.2.2.2.1 zoi.2.2.2.2.1 h2 a1 a2 a3 a4 a5 a6 a7 (hN a8)
    | 0, hx, h =>
      obtain ⟨g3, hx3⟩ := band hx
      obtain ⟨g4, g5⟩ := band hx3
      obtain ⟨n, al, e1, h⟩ := zts_ok h
      obtain ⟨as, st', h1, h⟩ := zargS_ok h
      obtain ⟨h2, h⟩ := zfit_ok h
      obtain ⟨al', p1, p2, p3, p4, k', o', hF⟩ := zmode e1 g5
      obtain ⟨m1, m2, md, al2, n2, q1, q2, q3, q4, k2, o2, hF2, m3, m4, -, -⟩ := zmkB_ok (zmk_in g3)
      rw [hF] at hF2
      cases hF2
      refine zE_le (fun hle => ?_)
      obtain ⟨lk', L', l1, l2, hok⟩ := zcall_ok hle h
      exact zE_callS hdec m1 (zlk_in (t := 1) g4 rfl) (m4 rfl) m3 h1 h2 l1 l2 hok (fun r mem' hr => hN hr)
  | invokespecial k => 
    obtain ⟨g1, hx0⟩ := band hx
    clear hx hrc
    cases Nat.eq_of_beq_eq_true g1
    match b, hx0, h with
    | 4, hx, h =>
      obtain ⟨o, st', rfl, h⟩ := zA1_ok h
      obtain ⟨h2, h⟩ := zfit_ok h
      exact zE_oinit hdec (zlk_in (t := 3) hx rfl) zoi.1 zoi.2.1 h2 (hN h)
    | 2, hx, h =>
      obtain ⟨g3, hx3⟩ := band hx
      obtain ⟨g4, g5⟩ := band hx3
      obtain ⟨n, al, e1, h⟩ := zts_ok h
      obtain ⟨o, as, st', h1, h⟩ := zargV_ok h
      obtain ⟨h2, h⟩ := zfit_ok h
      obtain ⟨al', p1, p2, p3, p4, k', o', hF⟩ := zmode e1 g5
      obtain ⟨m1, m2, md, al2, n2, q1, q2, q3, q4, k2, o2, hF2, m3, -, m4, -⟩ := zmkB_ok (zmk_in g3)
      rw [hF] at hF2
      cases hF2
      obtain ⟨m5, m6, m7⟩ := m4 rfl
      refine zE_le (fun hle => ?_)
      obtain ⟨lk', L', l1, l2, hok⟩ := zcall_ok hle h
      exact zE_callI hdec m1 (zlk_in (t := 1) g4 rfl) m5 m6 m7 m3 h1 h2 l1 l2 hok (fun r mem' hr => hN hr)
    | 3, hx, h =>
      obtain ⟨g3, hx3⟩ := band hx
      obtain ⟨g4, g5⟩ := band hx3
      obtain ⟨n, al, e1, h⟩ := zts_ok h
      obtain ⟨o, as, st', h1, h⟩ := zargV_ok h
      obtain ⟨h2, h⟩ := zfit_ok h
      obtain ⟨al', p1, p2, p3, p4, k', o', hF⟩ := zmode e1 g5
      obtain ⟨m1, m2, md, al2, n2, q1, q2, q3, q4, k2, o2, hF2, m3, -, m4, -⟩ := zmkB_ok (zmk_in g3)
      rw [hF] at hF2
      cases hF2
      obtain ⟨m5, m6, m7⟩ := m4 rfl
      refine zE_le (fun hle => ?_)
      obtain ⟨lk', L', l1, l2, hok⟩ := zcall_ok hle h
      obtain ⟨pw, hpw⟩ := zlk_at g4
      exact zE_callN hdec m1 (znw_in hpw rfl) m5 m6 m7 m3 h1 h2 l1 l2 hok (fun r mem' hr => hN hr)
  | ireturn => 
    obtain ⟨g1, g2⟩ := band hx
    cases Nat.eq_of_beq_eq_true g1
    match st, h with
    | [.int v], h =>
      cases b with
      | zero => exact zE_ret (r := some (.int v)) rfl ⟨hdec, Or.inl (of_decide_eq_true g2)⟩ h.1 h.2.1 h.2.2
      | succ b => exact zE_ret (r := some (.int v)) rfl ⟨hdec, Or.inr ⟨of_decide_eq_true g2, h.2.2.1⟩⟩ h.1 h.2.1 h.2.2.2
  | lreturn => 
    obtain ⟨g1, g2⟩ := band hx
    cases Nat.eq_of_beq_eq_true g1
    match st, h with
    | [.long v], h => exact zE_ret (r := some (.long v)) rfl ⟨hdec, of_decide_eq_true g2⟩ h.1 h.2.1 h.2.2
  | areturn => 
    obtain ⟨g1, g2⟩ := band hx
    cases Nat.eq_of_beq_eq_true g1
    match st, h with
    | [.ref v], h =>
      refine zE_ret (r := some (.ref v)) rfl ⟨hdec, ?_⟩ h.1 h.2.1 h.2.2
      split at g2
      · exact ⟨_, by assumption⟩
      · cases g2
  | return_ => 
    obtain ⟨g1, g2⟩ := band hx
    cases Nat.eq_of_beq_eq_true g1
    match st, h with
    | [], h => exact zE_ret (r := none) rfl ⟨hdec, of_decide_eq_true g2⟩ h.1 h.2.1 h.2.2
  | _ => exact h.elim
theorem zwp_E (hck : zchk y = true) : ∀ (n : Nat) (r : zR) (nxt : List zR) (ls st : List Value) (mem : zMem) (lk : zLk) (L : List Nat), (r :: nxt) <:+ zmT y → zwp X d y lkf Lf Q (zmT y) n (r :: nxt) ls st mem lk L → zE X d y r.1 ls st mem lk L lkf Lf Q
  | 0, r, nxt, ls, st, mem, lk, L, _, h => h
  | n + 1, r, nxt, ls, st, mem, lk, L, hs, h => by
    have h0 : ∀ ls st mem lk L, ¬ zwp X d y lkf Lf Q (zmT y) n [] ls st mem lk L := fun ls st mem lk L q => by cases n <;> exact q
    unfold zwp at h
    split at h
    · exact zst_E hck (fun r' nxt' ls' st' mem' lk' L' hs' q => zwp_E hck n r' nxt' ls' st' mem' lk' L' hs' q) h0 hs h
    · exact h
/-- from a place on: the first row whatever it is, then up to n rows -/
theorem zgo {tbl : List zR} (n pc : Nat) (hck : zchk y = true) (ht : zmT y = tbl) {r : zR} {nxt : List zR} (hf : zfrom tbl pc = r :: nxt) {ls st : List Value} {mem : zMem} {lk : zLk} {L : List Nat}
    (h : zst X d lkf Lf Q tbl (zwp X d y lkf Lf Q tbl n) (fun a ls st mem lk L => zE X d y a ls st mem lk L lkf Lf Q) r nxt ls st mem lk L) : zE X d y pc ls st mem lk L lkf Lf Q := by
  subst ht
  obtain ⟨f1, f2⟩ := zfrom_ok (zmT y) pc
  rw [hf] at f1
  have h0 : ∀ ls st mem lk L, ¬ zwp X d y lkf Lf Q (zmT y) n [] ls st mem lk L := fun ls st mem lk L q => by cases n <;> exact q
  rw [← f2 r nxt hf]
  exact zst_E hck (fun r' nxt' ls' st' mem' lk' L' hs' q => zwp_E hck n r' nxt' ls' st' mem' lk' L' hs' q) h0 f1 h
end ZS
end
section
theorem zck_0 : zchk 0 = true := by decide +kernel
theorem zck_1 : zchk 1 = true := by decide +kernel
theorem zck_2 : zchk 2 = true := by decide +kernel
theorem zck_3 : zchk 3 = true := by decide +kernel
theorem zck_4 : zchk 4 = true := by decide +kernel
theorem zck_5 : zchk 5 = true := by decide +kernel
theorem zck_6 : zchk 6 = true := by decide +kernel
theorem zck_7 : zchk 7 = true := by decide +kernel
theorem zck_8 : zchk 8 = true := by decide +kernel
theorem zck_9 : zchk 9 = true := by decide +kernel
theorem zck_10 : zchk 10 = true := by decide +kernel
theorem zck_11 : zchk 11 = true := by decide +kernel
theorem zck_12 : zchk 12 = true := by decide +kernel
theorem zck_13 : zchk 13 = true := by decide +kernel
theorem zck_14 : zchk 14 = true := by decide +kernel
theorem zck_15 : zchk 15 = true := by decide +kernel
theorem zck_16 : zchk 16 = true := by decide +kernel
theorem zck_17 : zchk 17 = true := by decide +kernel
theorem zck_18 : zchk 18 = true := by decide +kernel
theorem zck_19 : zchk 19 = true := by decide +kernel
theorem zck_20 : zchk 20 = true := by decide +kernel
theorem zck_21 : zchk 21 = true := by decide +kernel
theorem zck_22 : zchk 22 = true := by decide +kernel
theorem zck_23 : zchk 23 = true := by decide +kernel
theorem zck_24 : zchk 24 = true := by decide +kernel
theorem zck_25 : zchk 25 = true := by decide +kernel
theorem zck_26 : zchk 26 = true := by decide +kernel
theorem zck_27 : zchk 27 = true := by decide +kernel
theorem zck_28 : zchk 28 = true := by decide +kernel
theorem zck_29 : zchk 29 = true := by decide +kernel
theorem zck_30 : zchk 30 = true := by decide +kernel
theorem zck_31 : zchk 31 = true := by decide +kernel
theorem zck_32 : zchk 32 = true := by decide +kernel
theorem zck_33 : zchk 33 = true := by decide +kernel
theorem zck_34 : zchk 34 = true := by decide +kernel
theorem zck_35 : zchk 35 = true := by decide +kernel
theorem zck_36 : zchk 36 = true := by decide +kernel
theorem zck_37 : zchk 37 = true := by decide +kernel
theorem zck_38 : zchk 38 = true := by decide +kernel
theorem zck_39 : zchk 39 = true := by decide +kernel
theorem zck_40 : zchk 40 = true := by decide +kernel
theorem zck_41 : zchk 41 = true := by decide +kernel
theorem zck_42 : zchk 42 = true := by decide +kernel
theorem zck_43 : zchk 43 = true := by decide +kernel
theorem zck_44 : zchk 44 = true := by decide +kernel
theorem zck_45 : zchk 45 = true := by decide +kernel
theorem zck_46 : zchk 46 = true := by decide +kernel
theorem zck_47 : zchk 47 = true := by decide +kernel
theorem zck_48 : zchk 48 = true := by decide +kernel
theorem zck_49 : zchk 49 = true := by decide +kernel
theorem zck_50 : zchk 50 = true := by decide +kernel
theorem zck_51 : zchk 51 = true := by decide +kernel
theorem zck_52 : zchk 52 = true := by decide +kernel
theorem zck_53 : zchk 53 = true := by decide +kernel
theorem zck_54 : zchk 54 = true := by decide +kernel
theorem zck_55 : zchk 55 = true := by decide +kernel
theorem zck_56 : zchk 56 = true := by decide +kernel
theorem zck_57 : zchk 57 = true := by decide +kernel
theorem zck_58 : zchk 58 = true := by decide +kernel
theorem zck_59 : zchk 59 = true := by decide +kernel
theorem zck_60 : zchk 60 = true := by decide +kernel
theorem zck_61 : zchk 61 = true := by decide +kernel
theorem zck_62 : zchk 62 = true := by decide +kernel
theorem zck_63 : zchk 63 = true := by decide +kernel
theorem zck_64 : zchk 64 = true := by decide +kernel
theorem zck_65 : zchk 65 = true := by decide +kernel
theorem zck_66 : zchk 66 = true := by decide +kernel
theorem zck_67 : zchk 67 = true := by decide +kernel
theorem zck_68 : zchk 68 = true := by decide +kernel
theorem zck_69 : zchk 69 = true := by decide +kernel
theorem zck_70 : zchk 70 = true := by decide +kernel
theorem zck_71 : zchk 71 = true := by decide +kernel
theorem zck_72 : zchk 72 = true := by decide +kernel
theorem zck_73 : zchk 73 = true := by decide +kernel
theorem zck_74 : zchk 74 = true := by decide +kernel
theorem zck_75 : zchk 75 = true := by decide +kernel
theorem zck_76 : zchk 76 = true := by decide +kernel
theorem zck_77 : zchk 77 = true := by decide +kernel
theorem zck_78 : zchk 78 = true := by decide +kernel
theorem zck_79 : zchk 79 = true := by decide +kernel
theorem zck_80 : zchk 80 = true := by decide +kernel
theorem zck_81 : zchk 81 = true := by decide +kernel
theorem zck_82 : zchk 82 = true := by decide +kernel
theorem zck_83 : zchk 83 = true := by decide +kernel
theorem zck_84 : zchk 84 = true := by decide +kernel
theorem zck_85 : zchk 85 = true := by decide +kernel
theorem zck_86 : zchk 86 = true := by decide +kernel
theorem zck_87 : zchk 87 = true := by decide +kernel
theorem zck_88 : zchk 88 = true := by decide +kernel
theorem zck_89 : zchk 89 = true := by decide +kernel
theorem zck_90 : zchk 90 = true := by decide +kernel
theorem zck_91 : zchk 91 = true := by decide +kernel
theorem zck_92 : zchk 92 = true := by decide +kernel
theorem zck_93 : zchk 93 = true := by decide +kernel
theorem zck_94 : zchk 94 = true := by decide +kernel
theorem zck_95 : zchk 95 = true := by decide +kernel
theorem zck_96 : zchk 96 = true := by decide +kernel
theorem zck_97 : zchk 97 = true := by decide +kernel
theorem zck_98 : zchk 98 = true := by decide +kernel
theorem zck_99 : zchk 99 = true := by decide +kernel
theorem zck_100 : zchk 100 = true := by decide +kernel
theorem zck_101 : zchk 101 = true := by decide +kernel
theorem zck_102 : zchk 102 = true := by decide +kernel
theorem zck_103 : zchk 103 = true := by decide +kernel
theorem zck_104 : zchk 104 = true := by decide +kernel
theorem zck_105 : zchk 105 = true := by decide +kernel
theorem zck_106 : zchk 106 = true := by decide +kernel
theorem zck_107 : zchk 107 = true := by decide +kernel
theorem zck_108 : zchk 108 = true := by decide +kernel
theorem zck_109 : zchk 109 = true := by decide +kernel
theorem zck_110 : zchk 110 = true := by decide +kernel
theorem zck_111 : zchk 111 = true := by decide +kernel
theorem zck_112 : zchk 112 = true := by decide +kernel
theorem zck_113 : zchk 113 = true := by decide +kernel
theorem zck_114 : zchk 114 = true := by decide +kernel
theorem zck_115 : zchk 115 = true := by decide +kernel
theorem zck_116 : zchk 116 = true := by decide +kernel
theorem zck_117 : zchk 117 = true := by decide +kernel
theorem zck_118 : zchk 118 = true := by decide +kernel
theorem zck_119 : zchk 119 = true := by decide +kernel
theorem zck_120 : zchk 120 = true := by decide +kernel
theorem zck_121 : zchk 121 = true := by decide +kernel
theorem zck_122 : zchk 122 = true := by decide +kernel
theorem zck_123 : zchk 123 = true := by decide +kernel
theorem zck_124 : zchk 124 = true := by decide +kernel
theorem zck_125 : zchk 125 = true := by decide +kernel
theorem zck_126 : zchk 126 = true := by decide +kernel
theorem zck_127 : zchk 127 = true := by decide +kernel
theorem zck_128 : zchk 128 = true := by decide +kernel
theorem zck_129 : zchk 129 = true := by decide +kernel
end
section
theorem zck_130 : zchk 130 = true := by decide +kernel
theorem zck_131 : zchk 131 = true := by decide +kernel
theorem zck_132 : zchk 132 = true := by decide +kernel
theorem zck_133 : zchk 133 = true := by decide +kernel
theorem zck_134 : zchk 134 = true := by decide +kernel
theorem zck_135 : zchk 135 = true := by decide +kernel
theorem zck_136 : zchk 136 = true := by decide +kernel
theorem zck_137 : zchk 137 = true := by decide +kernel
theorem zck_138 : zchk 138 = true := by decide +kernel
theorem zck_139 : zchk 139 = true := by decide +kernel
theorem zck_140 : zchk 140 = true := by decide +kernel
theorem zck_141 : zchk 141 = true := by decide +kernel
theorem zck_142 : zchk 142 = true := by decide +kernel
theorem zck_143 : zchk 143 = true := by decide +kernel
theorem zck_144 : zchk 144 = true := by decide +kernel
theorem zck_145 : zchk 145 = true := by decide +kernel
theorem zck_146 : zchk 146 = true := by decide +kernel
theorem zck_147 : zchk 147 = true := by decide +kernel
theorem zck_148 : zchk 148 = true := by decide +kernel
theorem zck_149 : zchk 149 = true := by decide +kernel
theorem zck_150 : zchk 150 = true := by decide +kernel
theorem zck_151 : zchk 151 = true := by decide +kernel
theorem zck_152 : zchk 152 = true := by decide +kernel
theorem zck_153 : zchk 153 = true := by decide +kernel
theorem zck_154 : zchk 154 = true := by decide +kernel
theorem zck_155 : zchk 155 = true := by decide +kernel
theorem zck_156 : zchk 156 = true := by decide +kernel
theorem zck_157 : zchk 157 = true := by decide +kernel
theorem zck_158 : zchk 158 = true := by decide +kernel
theorem zck_159 : zchk 159 = true := by decide +kernel
theorem zck_160 : zchk 160 = true := by decide +kernel
theorem zck_161 : zchk 161 = true := by decide +kernel
theorem zck_162 : zchk 162 = true := by decide +kernel
theorem zck_163 : zchk 163 = true := by decide +kernel
theorem zck_164 : zchk 164 = true := by decide +kernel
theorem zck_165 : zchk 165 = true := by decide +kernel
theorem zck_166 : zchk 166 = true := by decide +kernel
theorem zck_167 : zchk 167 = true := by decide +kernel
theorem zck_168 : zchk 168 = true := by decide +kernel
theorem zck_169 : zchk 169 = true := by decide +kernel
theorem zck_170 : zchk 170 = true := by decide +kernel
theorem zck_171 : zchk 171 = true := by decide +kernel
theorem zck_172 : zchk 172 = true := by decide +kernel
theorem zck_173 : zchk 173 = true := by decide +kernel
theorem zck_174 : zchk 174 = true := by decide +kernel
theorem zck_175 : zchk 175 = true := by decide +kernel
theorem zck_176 : zchk 176 = true := by decide +kernel
theorem zck_177 : zchk 177 = true := by decide +kernel
theorem zck_178 : zchk 178 = true := by decide +kernel
theorem zck_179 : zchk 179 = true := by decide +kernel
theorem zck_180 : zchk 180 = true := by decide +kernel
theorem zck_181 : zchk 181 = true := by decide +kernel
theorem zck_182 : zchk 182 = true := by decide +kernel
theorem zck_183 : zchk 183 = true := by decide +kernel
theorem zck_184 : zchk 184 = true := by decide +kernel
theorem zck_185 : zchk 185 = true := by decide +kernel
theorem zck_186 : zchk 186 = true := by decide +kernel
theorem zck_187 : zchk 187 = true := by decide +kernel
theorem zck_188 : zchk 188 = true := by decide +kernel
theorem zck_189 : zchk 189 = true := by decide +kernel
theorem zck_190 : zchk 190 = true := by decide +kernel
theorem zck_191 : zchk 191 = true := by decide +kernel
theorem zck_192 : zchk 192 = true := by decide +kernel
theorem zck_193 : zchk 193 = true := by decide +kernel
theorem zck_194 : zchk 194 = true := by decide +kernel
theorem zck_195 : zchk 195 = true := by decide +kernel
theorem zck_196 : zchk 196 = true := by decide +kernel
theorem zck_197 : zchk 197 = true := by decide +kernel
theorem zck_198 : zchk 198 = true := by decide +kernel
theorem zck_199 : zchk 199 = true := by decide +kernel
theorem zck_200 : zchk 200 = true := by decide +kernel
theorem zck_201 : zchk 201 = true := by decide +kernel
theorem zck_202 : zchk 202 = true := by decide +kernel
theorem zck_203 : zchk 203 = true := by decide +kernel
theorem zck_204 : zchk 204 = true := by decide +kernel
theorem zck_205 : zchk 205 = true := by decide +kernel
theorem zck_206 : zchk 206 = true := by decide +kernel
theorem zck_207 : zchk 207 = true := by decide +kernel
theorem zck_208 : zchk 208 = true := by decide +kernel
theorem zck_209 : zchk 209 = true := by decide +kernel
theorem zck_210 : zchk 210 = true := by decide +kernel
theorem zck_211 : zchk 211 = true := by decide +kernel
theorem zck_212 : zchk 212 = true := by decide +kernel
theorem zck_213 : zchk 213 = true := by decide +kernel
theorem zck_214 : zchk 214 = true := by decide +kernel
theorem zck_215 : zchk 215 = true := by decide +kernel
theorem zck_216 : zchk 216 = true := by decide +kernel
theorem zck_217 : zchk 217 = true := by decide +kernel
theorem zck_218 : zchk 218 = true := by decide +kernel
theorem zck_219 : zchk 219 = true := by decide +kernel
theorem zck_220 : zchk 220 = true := by decide +kernel
theorem zck_221 : zchk 221 = true := by decide +kernel
theorem zck_222 : zchk 222 = true := by decide +kernel
theorem zck_223 : zchk 223 = true := by decide +kernel
theorem zck_224 : zchk 224 = true := by decide +kernel
end
section
/-! entering a method; numbers; houses -/
theorem zOk_go {X d y : Nat} {as : List Value} {mem : zMem} {lk : zLk} {L : List Nat} {lkf : zLk} {Lf : List Nat} {Q : Option Value → zMem → Prop} {tbl : List zR} (n : Nat) (hm : zmlB y = true) (hck : zchk y = true) (ht : zmT y = tbl) (hd : 0 < d) (hlen : L.length ≤ Lf.length) (hsz : (zargs as).length ≤ zmL y) {r : zR} {nxt : List zR} (hf : zfrom tbl 0 = r :: nxt)
    (h : zst X d lkf Lf Q tbl (zwp X d y lkf Lf Q tbl n) (fun a ls st mem lk L => zE X d y a ls st mem lk L lkf Lf Q) r nxt (zpad (zmL y) (zargs as)) [] mem lk L) : zOk X d y as mem lk L lkf Lf Q :=
  zOk_of (zmkB_ok (zmk_in hm)).1 (zmkB_ok (zmk_in hm)).2.1 hd hlen hsz (zgo n 0 hck ht hf h)
/-- the same for a method that makes nothing -/
theorem zOk_do {X d y : Nat} {as : List Value} {mem : zMem} {lk : zLk} {L : List Nat} {Q : Option Value → zMem → Prop} {tbl : List zR} (n : Nat) (hck : zchk y = true) (ht : zmT y = tbl) (hd : 0 < d) (hm : zmlB y = true := by rfl) (hsz : (zargs as).length ≤ zmL y := by exact Nat.le_of_ble_eq_true rfl) {r : zR} {nxt : List zR} (hf : zfrom tbl 0 = r :: nxt := by rfl)
    (h : zst X d lk L Q tbl (zwp X d y lk L Q tbl n) (fun a ls st mem' lk' L' => zE X d y a ls st mem' lk' L' lk L Q) r nxt (zpad (zmL y) (zargs as)) [] mem lk L) : zOk X d y as mem lk L lk L Q :=
  zOk_go n hm hck ht hd (Nat.le_refl _) hsz hf h
/-- a loop's head -/
theorem zE_do {X d y : Nat} {ls : List Value} {mem : zMem} {lk : zLk} {L : List Nat} {lkf : zLk} {Lf : List Nat} {Q : Option Value → zMem → Prop} {tbl : List zR} (n pc : Nat) (hck : zchk y = true) (ht : zmT y = tbl) {r : zR} {nxt : List zR} (hf : zfrom tbl pc = r :: nxt := by rfl)
    (h : zst X d lkf Lf Q tbl (zwp X d y lkf Lf Q tbl n) (fun a ls st mem lk L => zE X d y a ls st mem lk L lkf Lf Q) r nxt ls [] mem lk L) : zE X d y pc ls [] mem lk L lkf Lf Q := zgo n pc hck ht hf h
/-! answers true and false -/
theorem zT_eq {A B : Prop} (h : B) : (nI 1 = 0 → A) ∧ (¬ nI 1 = 0 → B) := ⟨fun q => absurd q (by decide), fun _ => h⟩
theorem zF_eq {A B : Prop} (h : A) : (nI 0 = 0 → A) ∧ (¬ nI 0 = 0 → B) := ⟨fun _ => h, fun q => absurd (show nI 0 = 0 from rfl) q⟩
theorem zT_ne {A B : Prop} (h : A) : (¬ nI 1 = 0 → A) ∧ (nI 1 = 0 → B) := ⟨fun _ => h, fun q => absurd q (by decide)⟩
theorem zF_ne {A B : Prop} (h : B) : (¬ nI 0 = 0 → A) ∧ (nI 0 = 0 → B) := ⟨fun q => absurd (show nI 0 = 0 from rfl) q, fun _ => h⟩
/-! numbers -/
theorem i_lt {x y : Int32} : x < y ↔ x.toInt < y.toInt := Int32.lt_iff_toInt_lt
theorem i_le {x y : Int32} : x ≤ y ↔ x.toInt ≤ y.toInt := Int32.le_iff_toInt_le
theorem i_eq {x y : Int32} : x = y ↔ x.toInt = y.toInt := Int32.toInt_inj.symm
theorem i_0 : (0 : Int32).toInt = 0 := by decide
theorem nT {n : Nat} (h : n < 2147483648) : (nI n).toInt = (n : Int) := nI_toInt h
theorem nEq {a b : Nat} (ha : a < 2147483648) (hb : b < 2147483648) : nI a = nI b ↔ a = b := nI_eq ha hb
theorem nLe {a b : Nat} (ha : a < 2147483648) (hb : b < 2147483648) : nI a ≤ nI b ↔ a ≤ b := nI_leI ha hb
theorem nLt {a b : Nat} (ha : a < 2147483648) (hb : b < 2147483648) : nI a < nI b ↔ a < b := nI_ltI ha hb
theorem nC {n : Nat} (h : n < 2147483648) : (nI n).toNatClampNeg = n := nI_clamp h
theorem n0 {n : Nat} (h : n < 2147483648) : nI n = 0 ↔ n = 0 := by
  rw [show (0 : Int32) = nI 0 from rfl]; exact nEq h (by omega)
theorem nge0 {n : Nat} (h : n < 2147483648) : ¬ nI n < 0 := nI_pos h
theorem zor_t : ∀ k, k < 9 → ∀ a, a < 512 → nI a ||| (nI 1 <<< (nI k &&& 31)) = nI (a ||| 2 ^ k) := by decide +kernel
theorem zor0 (a : Int32) : a ||| nI 0 = a := by
  rw [show nI 0 = 0 from rfl]; simp
/-- a place of an index -/
theorem zix (x : Int32) {n : Nat} (hn : n < 2147483648) : (∃ j, j < n ∧ x = nI j) ∨ (x.toInt < 0 ∨ (n : Int) ≤ x.toInt) := by
  by_cases h : 0 ≤ x.toInt ∧ x.toInt < n
  · left
    refine ⟨x.toInt.toNat, by omega, ?_⟩
    rw [i_eq, nT (by omega)]; omega
  · right; omega
/-! houses: 43 numbers; N 0, FLOORS 1, ROOM 2, ROPE 3, CAR 4, WAY 5, MINUTE 6, KIND 7, AT 13, TO 19, WEIGHT 25, HEAT 31, RANK 37 -/
abbrev zH : Type := Nat → Nat
/-- the numbers of a house stand from b on -/
def zHB (mem : zMem) (b : Nat) (g : zH) : Prop := (∀ k, k < 7 → mem (b + k) = nI (g k)) ∧ ∀ f e, f < 5 → e < g 0 → mem (b + (7 + 6 * f + e)) = nI (g (7 + 6 * f + e))
/-- a house as it can be -/
def zWF (g : zH) : Prop := g 0 ≤ 6 ∧ 2 ≤ g 1 ∧ g 1 ≤ 9 ∧ (1 ≤ g 2 ∧ g 2 ≤ 4) ∧ (1 ≤ g 3 ∧ g 3 ≤ 40) ∧ g 4 < g 1 ∧ g 5 ≤ 1 ∧ g 6 ≤ 2000000 ∧
  ∀ e, e < g 0 → (1 ≤ g (7 + e) ∧ g (7 + e) ≤ 5) ∧ (g (13 + e) < g 1 ∨ g (13 + e) = 10 ∨ g (13 + e) = 11) ∧ g (19 + e) < g 1 ∧ (1 ≤ g (25 + e) ∧ g (25 + e) ≤ 9) ∧ g (31 + e) ≤ 60
theorem zHB.k {mem : zMem} {b : Nat} {g : zH} (h : zHB mem b g) (k : Nat) (hk : k < 7) : mem (b + k) = nI (g k) := h.1 k hk
theorem zHB.kind {mem : zMem} {b e : Nat} {g : zH} (h : zHB mem b g) (he : e < g 0) : mem (b + 7 + e) = nI (g (7 + e)) := by
  have := h.2 0 e (by omega) he
  rw [show b + 7 + e = b + (7 + 6 * 0 + e) by omega, this]
theorem zHB.at {mem : zMem} {b e : Nat} {g : zH} (h : zHB mem b g) (he : e < g 0) : mem (b + 13 + e) = nI (g (13 + e)) := by
  have := h.2 1 e (by omega) he
  rw [show b + 13 + e = b + (7 + 6 * 1 + e) by omega, this]
theorem zHB.to {mem : zMem} {b e : Nat} {g : zH} (h : zHB mem b g) (he : e < g 0) : mem (b + 19 + e) = nI (g (19 + e)) := by
  have := h.2 2 e (by omega) he
  rw [show b + 19 + e = b + (7 + 6 * 2 + e) by omega, this]
theorem zHB.wt {mem : zMem} {b e : Nat} {g : zH} (h : zHB mem b g) (he : e < g 0) : mem (b + 25 + e) = nI (g (25 + e)) := by
  have := h.2 3 e (by omega) he
  rw [show b + 25 + e = b + (7 + 6 * 3 + e) by omega, this]
theorem zHB.ht {mem : zMem} {b e : Nat} {g : zH} (h : zHB mem b g) (he : e < g 0) : mem (b + 31 + e) = nI (g (31 + e)) := by
  have := h.2 4 e (by omega) he
  rw [show b + 31 + e = b + (7 + 6 * 4 + e) by omega, this]
theorem zup_eq {α : Type} {f : Nat → α} {k : Nat} {v : α} : va_up f k v k = v := if_pos rfl
theorem zup_ne {α : Type} {f : Nat → α} {k j : Nat} {v : α} (h : j ≠ k) : va_up f k v j = f j := if_neg h
theorem zHB.set {mem : zMem} {b : Nat} {g : zH} (h : zHB mem b g) (k v : Nat) (hk : 1 ≤ k) {x : Nat} (hx : x = b + k) : zHB (upd mem x (nI v)) b (va_up g k v) := by
  subst hx
  refine ⟨fun j hj => ?_, fun f e hf he => ?_⟩
  · by_cases e1 : j = k
    · subst e1; rw [upd_eq, zup_eq]
    · rw [upd_ne (by omega), zup_ne e1]; exact h.1 j hj
  · rw [zup_ne (by omega)] at he
    by_cases e1 : 7 + 6 * f + e = k
    · rw [e1, upd_eq, zup_eq]
    · rw [upd_ne (by omega), zup_ne e1]; exact h.2 f e hf he
/-- the words of a house depend on its block alone -/
theorem zHB.same {mem mem' : zMem} {b : Nat} {g : zH} (h : zHB mem b g) (hn : g 0 ≤ 6) (hs : ∀ k, k < 37 → mem' (b + k) = mem (b + k)) : zHB mem' b g :=
  ⟨fun k hk => by rw [hs k (by omega)]; exact h.1 k hk, fun f e hf he => by rw [hs _ (by omega)]; exact h.2 f e hf he⟩
/-- an object of a house -/
def zHo (lk : zLk) (h : Nat) : Prop := (∃ i, h = 10000 + 64 * i) ∧ ∀ j, j < 5 → lk (h + (40 + j)) = some (h + (7 + 6 * j))
theorem zHo.k3 {lk : zLk} {h : Nat} (hh : zHo lk h) : kd h = 3 := by
  obtain ⟨i, rfl⟩ := hh.1
  exact kd_house i
theorem zHo.ge {lk : zLk} {h : Nat} (hh : zHo lk h) : 10000 ≤ h := by
  obtain ⟨i, rfl⟩ := hh.1
  omega
theorem zHo.lk {lk : zLk} {h : Nat} (hh : zHo lk h) (j : Nat) (hj : j < 5) : lk (h + (40 + j)) = some (h + (7 + 6 * j)) := hh.2 j hj
theorem zHo.ka {lk : zLk} {h : Nat} (hh : zHo lk h) (j : Nat) (hj : j < 5) : kd (h + (7 + 6 * j)) = 9 := by
  obtain ⟨i, rfl⟩ := hh.1
  exact kd_harr i j hj
theorem zHo.inn {lk : zLk} {h : Nat} (hh : zHo lk h) {X f i : Nat} (hi : i < 6) : vp_in (nI i) (ln X (h + f)) := by
  rw [ln_house X (h + f) (by have := hh.ge; omega)]
  exact vp_in_nI hi (by decide)
end
section
/-! DishLift$House: methods that read -/
section HS
variable {X d : Nat} {mem : zMem} {lk : zLk} {L : List Nat} {Q : Option Value → zMem → Prop} {h : Nat} {g : zH}
theorem ok_stands (hd : 0 < d) (hh : zHo lk h) (hb : zHB mem h g) (hn : g 0 ≤ 6) (q1 : 0 < g 0 → Q (some (.int (nI 1))) mem) (q0 : g 0 = 0 → Q (some (.int (nI 0))) mem) : zOk X d 44 [.ref h] mem lk L lk L Q := by
  refine zOk_do 20 (tbl := tX3_stands) zck_44 rfl hd (h := ?_)
  refine ⟨hh.k3, ⟨fun c => ?_, fun c => ?_⟩⟩
  · have c : mem (h + 0) ≤ 0 := c
    rw [hb.k 0 (by omega), show (0 : Int32) = nI 0 from rfl, nLe (by omega) (by omega)] at c
    exact ⟨rfl, rfl, rfl, q0 (by omega)⟩
  · have c : ¬ mem (h + 0) ≤ 0 := c
    rw [hb.k 0 (by omega), show (0 : Int32) = nI 0 from rfl, nLe (by omega) (by omega)] at c
    exact ⟨rfl, rfl, rfl, q1 (by omega)⟩
theorem ok_isDish {x : Int32} (hd : 0 < d) (hh : zHo lk h) (hb : zHB mem h g) (hn : g 0 ≤ 6) (q1 : ∀ e, e < g 0 → x = nI e → Q (some (.int (nI 1))) mem) (q0 : (x.toInt < 0 ∨ (g 0 : Int) ≤ x.toInt) → Q (some (.int (nI 0))) mem) : zOk X d 45 [.ref h, .int x] mem lk L lk L Q := by
  refine zOk_do 20 (tbl := tX3_isDish) zck_45 rfl hd (h := ?_)
  refine ⟨fun c => ⟨rfl, rfl, rfl, ?_⟩, fun c => ⟨hh.k3, fun c2 => ⟨rfl, rfl, rfl, ?_⟩, fun c2 => ⟨rfl, rfl, rfl, ?_⟩⟩⟩
  · rw [i_lt, i_0] at c; exact q0 (Or.inl c)
  · have c2 : mem (h + 0) ≤ x := c2
    rw [hb.k 0 (by omega), i_le, nT (by omega)] at c2
    exact q0 (Or.inr c2)
  · have c2 : ¬ mem (h + 0) ≤ x := c2
    rw [hb.k 0 (by omega), i_le, nT (by omega)] at c2
    rw [i_lt, i_0] at c
    rcases zix x (n := g 0) (by omega) with ⟨j, hj, e⟩ | q
    · exact q1 j hj e
    · omega
theorem ok_isFloor {x : Int32} (hd : 0 < d) (hh : zHo lk h) (hb : zHB mem h g) (hn : g 1 ≤ 9) (q1 : ∀ e, e < g 1 → x = nI e → Q (some (.int (nI 1))) mem) (q0 : (x.toInt < 0 ∨ (g 1 : Int) ≤ x.toInt) → Q (some (.int (nI 0))) mem) : zOk X d 46 [.ref h, .int x] mem lk L lk L Q := by
  refine zOk_do 20 (tbl := tX3_isFloor) zck_46 rfl hd (h := ?_)
  refine ⟨fun c => ⟨rfl, rfl, rfl, ?_⟩, fun c => ⟨hh.k3, fun c2 => ⟨rfl, rfl, rfl, ?_⟩, fun c2 => ⟨rfl, rfl, rfl, ?_⟩⟩⟩
  · rw [i_lt, i_0] at c; exact q0 (Or.inl c)
  · have c2 : mem (h + 1) ≤ x := c2
    rw [hb.k 1 (by omega), i_le, nT (by omega)] at c2
    exact q0 (Or.inr c2)
  · have c2 : ¬ mem (h + 1) ≤ x := c2
    rw [hb.k 1 (by omega), i_le, nT (by omega)] at c2
    rw [i_lt, i_0] at c
    rcases zix x (n := g 1) (by omega) with ⟨j, hj, e⟩ | q
    · exact q1 j hj e
    · omega
theorem zall_t : ∀ n, n ≤ 6 → nI 1 <<< (nI n &&& 31) - nI 1 = nI (2 ^ n - 1) := by decide +kernel
theorem ok_all (hd : 0 < d) (hh : zHo lk h) (hb : zHB mem h g) (hn : g 0 ≤ 6) (q : Q (some (.int (nI (2 ^ g 0 - 1)))) mem) : zOk X d 47 [.ref h] mem lk L lk L Q := by
  refine zOk_do 20 (tbl := tX3_all) zck_47 rfl hd (h := ?_)
  refine ⟨hh.k3, rfl, rfl, ?_⟩
  show Q (some (.int (nI 1 <<< (mem (h + 0) &&& 31) - nI 1))) mem
  rw [hb.k 0 (by omega), zall_t _ hn]
  exact q
/-- which dishes, of the first i, are at a place -/
def zbits (g : zH) (p : Nat) : Nat → Nat
  | 0 => 0
  | i + 1 => if g (13 + i) = p then zbits g p i ||| 2 ^ i else zbits g p i
theorem zbits_lt (g : zH) (p : Nat) : ∀ i, i ≤ 9 → zbits g p i < 2 ^ i
  | 0, _ => Nat.zero_lt_one
  | i + 1, h => by
    have ih := zbits_lt g p i (by omega)
    unfold zbits
    split
    · exact Nat.or_lt_two_pow (Nat.lt_of_lt_of_le ih (Nat.pow_le_pow_right (by omega) (by omega))) (Nat.pow_lt_pow_right (by omega) (by omega))
    · exact Nat.lt_of_lt_of_le ih (Nat.pow_le_pow_right (by omega) (by omega))
theorem zbits_512 (g : zH) (p i : Nat) (h : i ≤ 9) : zbits g p i < 512 := Nat.lt_of_lt_of_le (zbits_lt g p i h) (show 2 ^ i ≤ 2 ^ 9 from Nat.pow_le_pow_right (by omega) h)
theorem those_loop {p : Nat} (hh : zHo lk h) (hb : zHB mem h g) (hn : g 0 ≤ 6) (hg : ∀ e, e < g 0 → g (13 + e) ≤ 11) (hp : p ≤ 11) (q : Q (some (.int (nI (zbits g p (g 0))))) mem) : ∀ n i, i + n = g 0 → zE X d 48 4 [.ref h, .int (nI p), .int (nI (zbits g p i)), .int (nI i)] [] mem lk L lk L Q := by
  intro n
  induction n with
  | zero =>
    intro i hi
    refine zE_do 30 4 (tbl := tX3_those) zck_48 rfl (h := ?_)
    refine ⟨hh.k3, fun c => ⟨rfl, rfl, ?_⟩, fun c => ?_⟩
    · rw [show i = g 0 by omega]; exact q
    · exfalso
      have c : ¬ mem (h + 0) ≤ nI i := c
      rw [hb.k 0 (by omega), nLe (by omega) (by omega)] at c
      omega
  | succ n ih =>
    intro i hi
    refine zE_do 30 4 (tbl := tX3_those) zck_48 rfl (h := ?_)
    refine ⟨hh.k3, fun c => ?_, fun c => ⟨hh.k3, _, hh.lk 1 (by omega), Or.inl (hh.ka 1 (by omega)), hh.inn (by omega), fun c2 => ?_, fun c2 => ?_⟩⟩
    · exfalso
      have c : mem (h + 0) ≤ nI i := c
      rw [hb.k 0 (by omega), nLe (by omega) (by omega)] at c
      omega
    · have c2 : ¬ mem (h + 13 + (nI i).toNatClampNeg) = nI p := c2
      rw [nC (by omega), hb.at (by omega), nEq (by have := hg i (by omega); omega) (by omega)] at c2
      have k := ih (i + 1) (by omega)
      rw [← nI_1, show zbits g p (i + 1) = zbits g p i from if_neg c2] at k
      exact k
    · have c2 : mem (h + 13 + (nI i).toNatClampNeg) = nI p := c2
      rw [nC (by omega), hb.at (by omega), nEq (by have := hg i (by omega); omega) (by omega)] at c2
      have k := ih (i + 1) (by omega)
      rw [← nI_1, show zbits g p (i + 1) = zbits g p i ||| 2 ^ i from if_pos c2, ← zor_t i (by omega) _ (zbits_512 g p i (by omega))] at k
      exact k
theorem ok_those {p : Nat} (hd : 0 < d) (hh : zHo lk h) (hb : zHB mem h g) (hn : g 0 ≤ 6) (hg : ∀ e, e < g 0 → g (13 + e) ≤ 11) (hp : p ≤ 11) (q : Q (some (.int (nI (zbits g p (g 0))))) mem) : zOk X d 48 [.ref h, .int (nI p)] mem lk L lk L Q := by
  refine zOk_do 20 (tbl := tX3_those) zck_48 rfl hd (h := ?_)
  exact those_loop hh hb hn hg hp q (g 0) 0 (by omega)
theorem ok_served (hd : 1 < d) (hh : zHo lk h) (hb : zHB mem h g) (hn : g 0 ≤ 6) (hg : ∀ e, e < g 0 → g (13 + e) ≤ 11) (q : Q (some (.int (nI (zbits g 11 (g 0))))) mem) : zOk X d 49 [.ref h] mem lk L lk L Q := by
  refine zOk_do 20 (tbl := tX3_served) zck_49 rfl (by omega) (h := ?_)
  exact ⟨by rw [hh.k3]; rfl, ok_those (by omega) hh hb hn hg (by omega) ⟨rfl, rfl, q⟩⟩
end HS
end
section
/-! DishLift$House: more -/
/-- what the statics hold -/
def zNK : List Nat := [0, 0, 1, 1, 0, 4]
def zSB : List Nat := [10, 11, 12, 11, 13, 14]
def zMBo : List Nat := [20, 21, 24, 22, 23, 23]
def zSt (mem : zMem) : Prop := (∀ i, i < 6 → mem (4000 + i) = nI i) ∧ (∀ i, i < 6 → mem (4010 + i) = nI (zNK.getD i 0)) ∧ (∀ i, i < 6 → mem (4020 + i) = nI (zSB.getD i 0)) ∧ ∀ i, i < 6 → mem (4030 + i) = nI (zMBo.getD i 0)
/-- nothing but a house's block has changed -/
def zfr (mem mem' : zMem) (b : Nat) : Prop := ∀ x, ¬ (b ≤ x ∧ x < b + 37) → mem' x = mem x
theorem zfr.rf {mem : zMem} {b : Nat} : zfr mem mem b := fun _ _ => rfl
theorem zfr.tr {m1 m2 m3 : zMem} {b : Nat} (h : zfr m1 m2 b) (h' : zfr m2 m3 b) : zfr m1 m3 b := fun x hx => (h' x hx).trans (h x hx)
theorem zfr.up {mem : zMem} {b x : Nat} {v : Int32} (h : b ≤ x) (h2 : x < b + 37) : zfr mem (upd mem x v) b := fun z hz => upd_ne (by omega)
theorem zSt.fr {mem mem' : zMem} {b : Nat} (h : zSt mem) (hf : zfr mem mem' b) (hb : 10000 ≤ b ∨ b + 37 ≤ 4000) : zSt mem' :=
  ⟨fun i hi => by rw [hf _ (by omega)]; exact h.1 i hi, fun i hi => by rw [hf _ (by omega)]; exact h.2.1 i hi, fun i hi => by rw [hf _ (by omega)]; exact h.2.2.1 i hi, fun i hi => by rw [hf _ (by omega)]; exact h.2.2.2 i hi⟩
theorem zup_self {g : zH} {k v : Nat} (h : g k = v) : va_up g k v = g := by
  funext j
  by_cases e : j = k
  · subst e; rw [zup_eq]; exact h.symm
  · rw [zup_ne e]
section HS
variable {X d : Nat} {mem : zMem} {lk : zLk} {L : List Nat} {Q : Option Value → zMem → Prop} {h : Nat} {g : zH}
theorem ok_isKind {k : Nat} (hd : 0 < d) (hk : k < 6) (q : Q (some (.int (nI 1))) mem) : zOk X d 6 [.int (nI k)] mem lk L lk L Q := by
  refine zOk_do 20 (tbl := tX1_isKind) zck_6 rfl hd (h := ?_)
  refine ⟨fun c => absurd c (nge0 (by omega)), fun c => ⟨⟨Nat.le_of_ble_eq_true rfl, Nat.le_of_ble_eq_true rfl⟩, fun c2 => ?_, fun c2 => ⟨rfl, rfl, rfl, q⟩⟩⟩
  exfalso
  have c2 : nI 6 ≤ nI k := c2
  rw [nLe (by omega) (by omega)] at c2
  omega
theorem ok_isOne {k o : Nat} (hd : 1 < d) (hs : zSt mem) (hk : k < 6) (ho : o < 6) (q1 : (o = 0 ∨ k = o ∨ zNK.getD k 0 = o) → Q (some (.int (nI 1))) mem) (q0 : ¬ (o = 0 ∨ k = o ∨ zNK.getD k 0 = o) → Q (some (.int (nI 0))) mem) : zOk X d 7 [.int (nI k), .int (nI o)] mem lk L lk L Q := by
  have hb : zNK.getD k 0 < 6 := by
    rcases (show k = 0 ∨ k = 1 ∨ k = 2 ∨ k = 3 ∨ k = 4 ∨ k = 5 by omega) with rfl | rfl | rfl | rfl | rfl | rfl <;> decide
  refine zOk_do 20 (tbl := tX1_isOne) zck_7 rfl (by omega) (h := ?_)
  refine ⟨fun c => ⟨rfl, rfl, rfl, ?_⟩, fun c => ⟨fun c2 => ⟨rfl, rfl, rfl, ?_⟩, fun c2 => ok_isKind (by omega) hk (zT_eq ⟨Or.inr rfl, vp_in_nI hk (by show 6 < 2 ^ 31; decide), fun c3 => ⟨rfl, rfl, rfl, ?_⟩, fun c3 => ⟨rfl, rfl, rfl, ?_⟩⟩)⟩⟩
  · rw [n0 (by omega)] at c; exact q1 (Or.inl c)
  · rw [nEq (by omega) (by omega)] at c2; exact q1 (Or.inr (Or.inl c2))
  · have c3 : ¬ mem (4010 + (nI k).toNatClampNeg) = nI o := c3
    rw [nC (by omega), hs.2.1 k hk, nEq (by omega) (by omega)] at c3
    rw [n0 (by omega)] at c
    rw [nEq (by omega) (by omega)] at c2
    exact q0 (by omega)
  · have c3 : mem (4010 + (nI k).toNatClampNeg) = nI o := c3
    rw [nC (by omega), hs.2.1 k hk, nEq (by omega) (by omega)] at c3
    exact q1 (Or.inr (Or.inr c3))
/-- good, if served -/
abbrev zgood (k t : Nat) : Prop := if k < 4 then 20 ≤ t else t ≤ 10
theorem zhot {k : Nat} (h1 : 1 ≤ k) (h : k < 6) : ((1 : Nat) = 0 ∨ k = 1 ∨ zNK.getD k 0 = 1) ↔ k < 4 := by
  rcases (show k = 1 ∨ k = 2 ∨ k = 3 ∨ k = 4 ∨ k = 5 by omega) with rfl | rfl | rfl | rfl | rfl <;> decide
theorem ok_isGood {e : Nat} (hd : 2 < d) (hs : zSt mem) (hh : zHo lk h) (hb : zHB mem h g) (wf : zWF g) (he : e < g 0) (q1 : zgood (g (7 + e)) (g (31 + e)) → Q (some (.int (nI 1))) mem) (q0 : ¬ zgood (g (7 + e)) (g (31 + e)) → Q (some (.int (nI 0))) mem) : zOk X d 51 [.ref h, .int (nI e)] mem lk L lk L Q := by
  obtain ⟨w1, -, -, -, w5⟩ := wf.2.2.2.2.2.2.2.2 e he
  have w0 := wf.1
  refine zOk_do 30 (tbl := tX3_isGood) zck_51 rfl (by omega) (h := ?_)
  refine ⟨hh.k3, _, hh.lk 0 (by omega), Or.inl (hh.ka 0 (by omega)), hh.inn (by omega), ?_⟩
  have e1 : mem (h + (7 + 6 * 0) + (nI e).toNatClampNeg) = nI (g (7 + e)) := by rw [nC (by omega)]; exact hb.kind he
  have e2 : mem (h + (7 + 6 * 4) + (nI e).toNatClampNeg) = nI (g (31 + e)) := by rw [nC (by omega)]; exact hb.ht he
  show zOk X (d - 1) 7 [.int (mem (h + (7 + 6 * 0) + (nI e).toNatClampNeg)), .int (nI 1)] mem lk L lk L _
  rw [e1]
  refine ok_isOne (by omega) hs (by omega) (by omega) (fun c => ?_) (fun c => ?_)
  · rw [zhot w1.1 (by omega)] at c
    refine zT_eq ⟨hh.k3, _, hh.lk 4 (by omega), Or.inl (hh.ka 4 (by omega)), hh.inn (by omega), fun c2 => ⟨rfl, rfl, rfl, q0 ?_⟩, fun c2 => ⟨rfl, rfl, rfl, q1 ?_⟩⟩
    · have c2 : mem (h + (7 + 6 * 4) + (nI e).toNatClampNeg) < nI 20 := c2
      rw [e2, nLt (by omega) (by omega)] at c2
      unfold zgood; rw [if_pos c]; omega
    · have c2 : ¬ mem (h + (7 + 6 * 4) + (nI e).toNatClampNeg) < nI 20 := c2
      rw [e2, nLt (by omega) (by omega)] at c2
      unfold zgood; rw [if_pos c]; omega
  · rw [zhot w1.1 (by omega)] at c
    refine zF_eq ⟨hh.k3, _, hh.lk 4 (by omega), Or.inl (hh.ka 4 (by omega)), hh.inn (by omega), fun c2 => ⟨rfl, rfl, rfl, q0 ?_⟩, fun c2 => ⟨rfl, rfl, rfl, q1 ?_⟩⟩
    · have c2 : nI 10 < mem (h + (7 + 6 * 4) + (nI e).toNatClampNeg) := c2
      rw [e2, nLt (by omega) (by omega)] at c2
      unfold zgood; rw [if_neg c]; omega
    · have c2 : ¬ nI 10 < mem (h + (7 + 6 * 4) + (nI e).toNatClampNeg) := c2
      rw [e2, nLt (by omega) (by omega)] at c2
      unfold zgood; rw [if_neg c]; omega
/-- the dishes that are served and good, of the first i -/
def zfine (g : zH) : Nat → Nat
  | 0 => 0
  | i + 1 => if g (13 + i) = 11 ∧ zgood (g (7 + i)) (g (31 + i)) then zfine g i ||| 2 ^ i else zfine g i
theorem zset_lt {c : Prop} [Decidable c] {a i : Nat} (h : a < 2 ^ i) : (if c then a ||| 2 ^ i else a) < 2 ^ (i + 1) := by
  have h1 : 2 ^ i ≤ 2 ^ (i + 1) := Nat.pow_le_pow_right (by omega) (by omega)
  by_cases hc : c
  · rw [if_pos hc]
    exact Nat.or_lt_two_pow (Nat.lt_of_lt_of_le h h1) (Nat.pow_lt_pow_right (by omega) (by omega))
  · rw [if_neg hc]
    exact Nat.lt_of_lt_of_le h h1
theorem zfine_lt (g : zH) : ∀ i, i ≤ 9 → zfine g i < 2 ^ i
  | 0, _ => Nat.zero_lt_one
  | i + 1, h => zset_lt (zfine_lt g i (by omega))
theorem zfine_512 (g : zH) (i : Nat) (h : i ≤ 9) : zfine g i < 512 := Nat.lt_of_lt_of_le (zfine_lt g i h) (show 2 ^ i ≤ 2 ^ 9 from Nat.pow_le_pow_right (by omega) h)
theorem zWF.at11 {g : zH} (w : zWF g) : ∀ e, e < g 0 → g (13 + e) ≤ 11 := fun e he => by
  have := (w.2.2.2.2.2.2.2.2 e he).2.1
  have := w.2.2.1
  omega
theorem servedGood_loop (hd : 3 < d) (hs : zSt mem) (hh : zHo lk h) (hb : zHB mem h g) (wf : zWF g) (q : Q (some (.int (nI (zfine g (g 0))))) mem) : ∀ n i, i + n = g 0 → zE X d 50 4 [.ref h, .int (nI (zfine g i)), .int (nI i)] [] mem lk L lk L Q := by
  have w0 := wf.1
  intro n
  induction n with
  | zero =>
    intro i hi
    refine zE_do 30 4 (tbl := tX3_servedGood) zck_50 rfl (h := ?_)
    refine ⟨hh.k3, fun c => ⟨rfl, rfl, ?_⟩, fun c => ?_⟩
    · rw [show i = g 0 by omega]; exact q
    · exfalso
      have c : ¬ mem (h + 0) ≤ nI i := c
      rw [hb.k 0 (by omega), nLe (by omega) (by omega)] at c
      omega
  | succ n ih =>
    intro i hi
    have w11 := wf.at11 i (by omega)
    have k := ih (i + 1) (by omega)
    rw [← nI_1] at k
    have e1 : mem (h + 13 + (nI i).toNatClampNeg) = nI (g (13 + i)) := by rw [nC (by omega)]; exact hb.at (by omega)
    refine zE_do 30 4 (tbl := tX3_servedGood) zck_50 rfl (h := ?_)
    refine ⟨hh.k3, fun c => ?_, fun c => ⟨hh.k3, _, hh.lk 1 (by omega), Or.inl (hh.ka 1 (by omega)), hh.inn (by omega), fun c2 => ?_, fun c2 => ⟨by rw [hh.k3]; rfl, ok_isGood (by omega) hs hh hb wf (by omega) (fun c3 => zT_eq ?_) (fun c3 => zF_eq ?_)⟩⟩⟩
    · exfalso
      have c : mem (h + 0) ≤ nI i := c
      rw [hb.k 0 (by omega), nLe (by omega) (by omega)] at c
      omega
    · have c2 : ¬ mem (h + 13 + (nI i).toNatClampNeg) = nI 11 := c2
      rw [e1, nEq (by omega) (by omega)] at c2
      rw [show zfine g (i + 1) = zfine g i from if_neg (fun q => c2 q.1)] at k
      exact k
    · have c2 : mem (h + 13 + (nI i).toNatClampNeg) = nI 11 := c2
      rw [e1, nEq (by omega) (by omega)] at c2
      rw [show zfine g (i + 1) = zfine g i ||| 2 ^ i from if_pos ⟨c2, c3⟩, ← zor_t i (by omega) _ (zfine_512 g i (by omega))] at k
      exact k
    · rw [show zfine g (i + 1) = zfine g i from if_neg (fun q => c3 q.2)] at k
      exact k
theorem ok_servedGood (hd : 3 < d) (hs : zSt mem) (hh : zHo lk h) (hb : zHB mem h g) (wf : zWF g) (q : Q (some (.int (nI (zfine g (g 0))))) mem) : zOk X d 50 [.ref h] mem lk L lk L Q := by
  refine zOk_do 20 (tbl := tX3_servedGood) zck_50 rfl (by omega) (h := ?_)
  exact servedGood_loop hd hs hh hb wf q (g 0) 0 (by omega)
/-- the sum of a field over a set, of the first i -/
def zsum (g : zH) (f b : Nat) : Nat → Nat
  | 0 => 0
  | i + 1 => zsum g f b i + b / 2 ^ i % 2 * g (f + i)
theorem zsh_t : ∀ i, i < 6 → ∀ b, b < 64 → (nI b >>> (nI i &&& 31)) &&& nI 1 = nI (b / 2 ^ i % 2) := by decide +kernel
theorem zsum_le (g : zH) (f b : Nat) (M : Nat) : ∀ i, (∀ e, e < i → g (f + e) ≤ M) → zsum g f b i ≤ i * M
  | 0, _ => by simp [zsum]
  | i + 1, h => by
    have ih := zsum_le g f b M i (fun e he => h e (by omega))
    have h1 := h i (by omega)
    have h2 : b / 2 ^ i % 2 * g (f + i) ≤ 1 * M := Nat.mul_le_mul (by omega) h1
    unfold zsum
    rw [Nat.succ_mul]
    omega
theorem weightOf_loop {b : Nat} (hh : zHo lk h) (hb : zHB mem h g) (wf : zWF g) (hbb : b < 64) (q : Q (some (.int (nI (zsum g 25 b (g 0))))) mem) : ∀ n i, i + n = g 0 → zE X d 52 4 [.ref h, .int (nI b), .int (nI (zsum g 25 b i)), .int (nI i)] [] mem lk L lk L Q := by
  have w0 := wf.1
  intro n
  induction n with
  | zero =>
    intro i hi
    refine zE_do 30 4 (tbl := tX3_weightOf) zck_52 rfl (h := ?_)
    refine ⟨hh.k3, fun c => ⟨rfl, rfl, ?_⟩, fun c => ?_⟩
    · rw [show i = g 0 by omega]; exact q
    · exfalso
      have c : ¬ mem (h + 0) ≤ nI i := c
      rw [hb.k 0 (by omega), nLe (by omega) (by omega)] at c
      omega
  | succ n ih =>
    intro i hi
    have k := ih (i + 1) (by omega)
    have e1 : mem (h + (7 + 6 * 3) + (nI i).toNatClampNeg) = nI (g (25 + i)) := by rw [nC (by omega)]; exact hb.wt (by omega)
    rw [← nI_1, show zsum g 25 b (i + 1) = zsum g 25 b i + b / 2 ^ i % 2 * g (25 + i) from rfl, ← nI_add, ← pk_mul, ← zsh_t i (by omega) b hbb, ← e1] at k
    refine zE_do 30 4 (tbl := tX3_weightOf) zck_52 rfl (h := ?_)
    refine ⟨hh.k3, fun c => ?_, fun c => ⟨hh.k3, _, hh.lk 3 (by omega), Or.inl (hh.ka 3 (by omega)), hh.inn (by omega), k⟩⟩
    exfalso
    have c : mem (h + 0) ≤ nI i := c
    rw [hb.k 0 (by omega), nLe (by omega) (by omega)] at c
    omega
theorem ok_weightOf {b : Nat} (hd : 0 < d) (hh : zHo lk h) (hb : zHB mem h g) (wf : zWF g) (hbb : b < 64) (q : Q (some (.int (nI (zsum g 25 b (g 0))))) mem) : zOk X d 52 [.ref h, .int (nI b)] mem lk L lk L Q := by
  refine zOk_do 20 (tbl := tX3_weightOf) zck_52 rfl (by omega) (h := ?_)
  exact weightOf_loop hh hb wf hbb q (g 0) 0 (by omega)
theorem heatOf_loop {b : Nat} (hh : zHo lk h) (hb : zHB mem h g) (wf : zWF g) (hbb : b < 64) (q : Q (some (.int (nI (zsum g 31 b (g 0))))) mem) : ∀ n i, i + n = g 0 → zE X d 53 4 [.ref h, .int (nI b), .int (nI (zsum g 31 b i)), .int (nI i)] [] mem lk L lk L Q := by
  have w0 := wf.1
  intro n
  induction n with
  | zero =>
    intro i hi
    refine zE_do 30 4 (tbl := tX3_heatOf) zck_53 rfl (h := ?_)
    refine ⟨hh.k3, fun c => ⟨rfl, rfl, ?_⟩, fun c => ?_⟩
    · rw [show i = g 0 by omega]; exact q
    · exfalso
      have c : ¬ mem (h + 0) ≤ nI i := c
      rw [hb.k 0 (by omega), nLe (by omega) (by omega)] at c
      omega
  | succ n ih =>
    intro i hi
    have k := ih (i + 1) (by omega)
    have e1 : mem (h + (7 + 6 * 4) + (nI i).toNatClampNeg) = nI (g (31 + i)) := by rw [nC (by omega)]; exact hb.ht (by omega)
    rw [← nI_1, show zsum g 31 b (i + 1) = zsum g 31 b i + b / 2 ^ i % 2 * g (31 + i) from rfl, ← nI_add, ← pk_mul, ← zsh_t i (by omega) b hbb, ← e1] at k
    refine zE_do 30 4 (tbl := tX3_heatOf) zck_53 rfl (h := ?_)
    refine ⟨hh.k3, fun c => ?_, fun c => ⟨hh.k3, _, hh.lk 4 (by omega), Or.inl (hh.ka 4 (by omega)), hh.inn (by omega), k⟩⟩
    exfalso
    have c : mem (h + 0) ≤ nI i := c
    rw [hb.k 0 (by omega), nLe (by omega) (by omega)] at c
    omega
theorem ok_heatOf {b : Nat} (hd : 0 < d) (hh : zHo lk h) (hb : zHB mem h g) (wf : zWF g) (hbb : b < 64) (q : Q (some (.int (nI (zsum g 31 b (g 0))))) mem) : zOk X d 53 [.ref h, .int (nI b)] mem lk L lk L Q := by
  refine zOk_do 20 (tbl := tX3_heatOf) zck_53 rfl (by omega) (h := ?_)
  exact heatOf_loop hh hb wf hbb q (g 0) 0 (by omega)
/-- a dish is sent back -/
def zsend (g : zH) (e t ht : Nat) : zH := va_up (va_up (va_up g (13 + e) (g (19 + e))) (19 + e) t) (31 + e) ht
theorem ok_sendBack {e t ht : Nat} (hd : 0 < d) (hh : zHo lk h) (hb : zHB mem h g) (wf : zWF g) (he : e < g 0) (q : ∀ mem', zHB mem' h (zsend g e t ht) → zfr mem mem' h → Q none mem') : zOk X d 54 [.ref h, .int (nI e), .int (nI t), .int (nI ht)] mem lk L lk L Q := by
  have w0 := wf.1
  refine zOk_do 30 (tbl := tX3_sendBack) zck_54 rfl (by omega) (h := ?_)
  refine ⟨hh.k3, _, hh.lk 1 (by omega), hh.k3, _, hh.lk 2 (by omega), Or.inl (hh.ka 2 (by omega)), hh.inn (by omega), hh.ka 1 (by omega), hh.inn (by omega), hh.k3, _, hh.lk 2 (by omega), hh.ka 2 (by omega), hh.inn (by omega), hh.k3, _, hh.lk 4 (by omega), hh.ka 4 (by omega), hh.inn (by omega), rfl, rfl, ?_⟩
  have e1 : mem (h + (7 + 6 * 2) + (nI e).toNatClampNeg) = nI (g (19 + e)) := by rw [nC (by omega)]; exact hb.to he
  show Q none (upd (upd (upd mem (h + (7 + 6 * 1) + (nI e).toNatClampNeg) (mem (h + (7 + 6 * 2) + (nI e).toNatClampNeg))) (h + (7 + 6 * 2) + (nI e).toNatClampNeg) (nI t)) (h + (7 + 6 * 4) + (nI e).toNatClampNeg) (nI ht))
  rw [e1, nC (by omega)]
  refine q _ (((hb.set (13 + e) (g (19 + e)) (by omega) (by omega)).set (19 + e) t (by omega) (by omega)).set (31 + e) ht (by omega) (by omega)) ?_
  exact ((zfr.up (by omega) (by omega)).tr (zfr.up (by omega) (by omega))).tr (zfr.up (by omega) (by omega))
end HS
end
section
/-! a minute of a house, in numbers -/
theorem zWF.kept {g g' : zH} (w : zWF g) (h0 : g' 0 = g 0) (h1 : g' 1 = g 1) (h2 : g' 2 = g 2) (h3 : g' 3 = g 3) (h4 : g' 4 < g 1) (h5 : g' 5 ≤ 1) (h6 : g' 6 ≤ 2000000)
    (h : ∀ e, e < g 0 → (g' (7 + e) = g (7 + e)) ∧ (g' (13 + e) < g 1 ∨ g' (13 + e) = 10 ∨ g' (13 + e) = 11) ∧ g' (19 + e) < g 1 ∧ (1 ≤ g' (25 + e) ∧ g' (25 + e) ≤ 9) ∧ g' (31 + e) ≤ 60) : zWF g' := by
  obtain ⟨a0, a1, a2, a3, a4, a5, a6, a7, a8⟩ := w
  refine ⟨by omega, by omega, by omega, by omega, by omega, by omega, h5, h6, fun e he => ?_⟩
  rw [h0] at he
  obtain ⟨b1, b2, b3, b4, b5⟩ := h e he
  obtain ⟨c1, -⟩ := a8 e he
  rw [h1, b1]
  exact ⟨c1, b2, b3, b4, b5⟩
theorem zWF.sAt {g : zH} (w : zWF g) {e v : Nat} (he : e < 6) (hv : v < g 1 ∨ v = 10 ∨ v = 11) : zWF (va_up g (13 + e) v) := by
  have n : ∀ j, j ≠ 13 + e → va_up g (13 + e) v j = g j := fun j hj => zup_ne hj
  have w0 := w.1
  refine w.kept (n 0 (by omega)) (n 1 (by omega)) (n 2 (by omega)) (n 3 (by omega)) (by rw [n 4 (by omega)]; exact w.2.2.2.2.2.1) (by rw [n 5 (by omega)]; exact w.2.2.2.2.2.2.1) (by rw [n 6 (by omega)]; exact w.2.2.2.2.2.2.2.1) (fun e' he' => ?_)
  obtain ⟨c1, c2, c3, c4, c5⟩ := w.2.2.2.2.2.2.2.2 e' he'
  refine ⟨n _ (by omega), ?_, by rw [n _ (by omega)]; exact c3, by rw [n _ (by omega)]; exact c4, by rw [n _ (by omega)]; exact c5⟩
  by_cases q : e' = e
  · subst q; rw [zup_eq]; exact hv
  · rw [n _ (by omega)]; exact c2
theorem zWF.sTo {g : zH} (w : zWF g) {e v : Nat} (he : e < 6) (hv : v < g 1) : zWF (va_up g (19 + e) v) := by
  have n : ∀ j, j ≠ 19 + e → va_up g (19 + e) v j = g j := fun j hj => zup_ne hj
  have w0 := w.1
  refine w.kept (n 0 (by omega)) (n 1 (by omega)) (n 2 (by omega)) (n 3 (by omega)) (by rw [n 4 (by omega)]; exact w.2.2.2.2.2.1) (by rw [n 5 (by omega)]; exact w.2.2.2.2.2.2.1) (by rw [n 6 (by omega)]; exact w.2.2.2.2.2.2.2.1) (fun e' he' => ?_)
  obtain ⟨c1, c2, c3, c4, c5⟩ := w.2.2.2.2.2.2.2.2 e' he'
  refine ⟨n _ (by omega), by rw [n _ (by omega)]; exact c2, ?_, by rw [n _ (by omega)]; exact c4, by rw [n _ (by omega)]; exact c5⟩
  by_cases q : e' = e
  · subst q; rw [zup_eq]; exact hv
  · rw [n _ (by omega)]; exact c3
theorem zWF.sWt {g : zH} (w : zWF g) {e v : Nat} (he : e < 6) (hv : 1 ≤ v ∧ v ≤ 9) : zWF (va_up g (25 + e) v) := by
  have n : ∀ j, j ≠ 25 + e → va_up g (25 + e) v j = g j := fun j hj => zup_ne hj
  have w0 := w.1
  refine w.kept (n 0 (by omega)) (n 1 (by omega)) (n 2 (by omega)) (n 3 (by omega)) (by rw [n 4 (by omega)]; exact w.2.2.2.2.2.1) (by rw [n 5 (by omega)]; exact w.2.2.2.2.2.2.1) (by rw [n 6 (by omega)]; exact w.2.2.2.2.2.2.2.1) (fun e' he' => ?_)
  obtain ⟨c1, c2, c3, c4, c5⟩ := w.2.2.2.2.2.2.2.2 e' he'
  refine ⟨n _ (by omega), by rw [n _ (by omega)]; exact c2, by rw [n _ (by omega)]; exact c3, ?_, by rw [n _ (by omega)]; exact c5⟩
  by_cases q : e' = e
  · subst q; rw [zup_eq]; exact hv
  · rw [n _ (by omega)]; exact c4
theorem zWF.sHt {g : zH} (w : zWF g) {e v : Nat} (he : e < 6) (hv : v ≤ 60) : zWF (va_up g (31 + e) v) := by
  have n : ∀ j, j ≠ 31 + e → va_up g (31 + e) v j = g j := fun j hj => zup_ne hj
  have w0 := w.1
  refine w.kept (n 0 (by omega)) (n 1 (by omega)) (n 2 (by omega)) (n 3 (by omega)) (by rw [n 4 (by omega)]; exact w.2.2.2.2.2.1) (by rw [n 5 (by omega)]; exact w.2.2.2.2.2.2.1) (by rw [n 6 (by omega)]; exact w.2.2.2.2.2.2.2.1) (fun e' he' => ?_)
  obtain ⟨c1, c2, c3, c4, c5⟩ := w.2.2.2.2.2.2.2.2 e' he'
  refine ⟨n _ (by omega), by rw [n _ (by omega)]; exact c2, by rw [n _ (by omega)]; exact c3, by rw [n _ (by omega)]; exact c4, ?_⟩
  by_cases q : e' = e
  · subst q; rw [zup_eq]; exact hv
  · rw [n _ (by omega)]; exact c5
theorem zWF.s4 {g : zH} (w : zWF g) {v : Nat} (hv : v < g 1) : zWF (va_up g 4 v) := by
  have n : ∀ j, j ≠ 4 → va_up g 4 v j = g j := fun j hj => zup_ne hj
  refine w.kept (n 0 (by omega)) (n 1 (by omega)) (n 2 (by omega)) (n 3 (by omega)) (by rw [zup_eq]; exact hv) (by rw [n 5 (by omega)]; exact w.2.2.2.2.2.2.1) (by rw [n 6 (by omega)]; exact w.2.2.2.2.2.2.2.1) (fun e' he' => ?_)
  obtain ⟨c1, c2, c3, c4, c5⟩ := w.2.2.2.2.2.2.2.2 e' he'
  exact ⟨n _ (by omega), by rw [n _ (by omega)]; exact c2, by rw [n _ (by omega)]; exact c3, by rw [n _ (by omega)]; exact c4, by rw [n _ (by omega)]; exact c5⟩
theorem zWF.s5 {g : zH} (w : zWF g) {v : Nat} (hv : v ≤ 1) : zWF (va_up g 5 v) := by
  have n : ∀ j, j ≠ 5 → va_up g 5 v j = g j := fun j hj => zup_ne hj
  refine w.kept (n 0 (by omega)) (n 1 (by omega)) (n 2 (by omega)) (n 3 (by omega)) (by rw [n 4 (by omega)]; exact w.2.2.2.2.2.1) (by rw [zup_eq]; exact hv) (by rw [n 6 (by omega)]; exact w.2.2.2.2.2.2.2.1) (fun e' he' => ?_)
  obtain ⟨c1, c2, c3, c4, c5⟩ := w.2.2.2.2.2.2.2.2 e' he'
  exact ⟨n _ (by omega), by rw [n _ (by omega)]; exact c2, by rw [n _ (by omega)]; exact c3, by rw [n _ (by omega)]; exact c4, by rw [n _ (by omega)]; exact c5⟩
theorem zWF.s6 {g : zH} (w : zWF g) {v : Nat} (hv : v ≤ 2000000) : zWF (va_up g 6 v) := by
  have n : ∀ j, j ≠ 6 → va_up g 6 v j = g j := fun j hj => zup_ne hj
  refine w.kept (n 0 (by omega)) (n 1 (by omega)) (n 2 (by omega)) (n 3 (by omega)) (by rw [n 4 (by omega)]; exact w.2.2.2.2.2.1) (by rw [n 5 (by omega)]; exact w.2.2.2.2.2.2.1) (by rw [zup_eq]; exact hv) (fun e' he' => ?_)
  obtain ⟨c1, c2, c3, c4, c5⟩ := w.2.2.2.2.2.2.2.2 e' he'
  exact ⟨n _ (by omega), by rw [n _ (by omega)]; exact c2, by rw [n _ (by omega)]; exact c3, by rw [n _ (by omega)]; exact c4, by rw [n _ (by omega)]; exact c5⟩
/-- what goes on but the numbers that a minute changes -/
def zcool (g : zH) (e : Nat) : zH := va_up g (31 + e) (g (31 + e) - 1)
def zwarm (g : zH) (e : Nat) : zH := va_up g (31 + e) (if g (31 + e) < 60 then g (31 + e) + 1 else g (31 + e))
def zlose (g : zH) (e : Nat) : zH := va_up g (25 + e) (if 1 < g (25 + e) then g (25 + e) - 1 else g (25 + e))
def zage (g : zH) (e : Nat) (sh : Prop) [Decidable sh] : zH :=
  if g (7 + e) = 2 then (if sh then zlose (zcool g e) e else zcool g e)
  else if g (7 + e) = 3 then (if g 6 % 2 = 0 then g else zcool g e)
  else if g (7 + e) = 4 then zwarm g e
  else if g (7 + e) = 5 then (if zwarm g e (31 + e) < 10 then zwarm g e else zlose (zwarm g e) e)
  else zcool g e
theorem zcool_wf {g : zH} (w : zWF g) {e : Nat} (he : e < g 0) : zWF (zcool g e) := w.sHt (by have := w.1; omega) (by have := (w.2.2.2.2.2.2.2.2 e he).2.2.2.2; omega)
theorem zwarm_wf {g : zH} (w : zWF g) {e : Nat} (he : e < g 0) : zWF (zwarm g e) := w.sHt (by have := w.1; omega) (by have := (w.2.2.2.2.2.2.2.2 e he).2.2.2.2; split <;> omega)
theorem zlose_wf {g : zH} (w : zWF g) {e : Nat} (he : e < g 0) : zWF (zlose g e) := w.sWt (by have := w.1; omega) (by have := (w.2.2.2.2.2.2.2.2 e he).2.2.2.1; split <;> omega)
theorem zcool_ne {g : zH} {e j : Nat} (h : j ≠ 31 + e) : zcool g e j = g j := zup_ne h
theorem zwarm_ne {g : zH} {e j : Nat} (h : j ≠ 31 + e) : zwarm g e j = g j := zup_ne h
theorem zlose_ne {g : zH} {e j : Nat} (h : j ≠ 25 + e) : zlose g e j = g j := zup_ne h
theorem zage_ne {g : zH} {e j : Nat} {sh : Prop} [Decidable sh] (h : j ≠ 25 + e) (h2 : j ≠ 31 + e) : zage g e sh j = g j := by
  unfold zage
  repeat' split
  all_goals first | rfl | rw [zcool_ne h2] | rw [zwarm_ne h2] | rw [zlose_ne h, zcool_ne h2] | rw [zlose_ne h, zwarm_ne h2]
theorem zage_wf {g : zH} (w : zWF g) {e : Nat} {sh : Prop} [Decidable sh] (he : e < g 0) : zWF (zage g e sh) := by
  have c1 := zcool_wf w he
  have c2 := zwarm_wf w he
  have c3 : zWF (zlose (zcool g e) e) := zlose_wf c1 (by rw [zcool_ne (by omega)]; exact he)
  have c4 : zWF (zlose (zwarm g e) e) := zlose_wf c2 (by rw [zwarm_ne (by omega)]; exact he)
  unfold zage
  repeat' split
  all_goals assumption
/-- all that are not served grow older; went: the car went -/
def zages (went : Prop) [Decidable went] (g : zH) : Nat → zH
  | 0 => g
  | i + 1 => if zages went g i (13 + i) = 11 then zages went g i else zage (zages went g i) i (went ∧ zages went g i (13 + i) = 10)
theorem zages_0 {went : Prop} [Decidable went] {g : zH} {j : Nat} (hj : j < 25) : ∀ i, zages went g i j = g j
  | 0 => rfl
  | i + 1 => by
    unfold zages
    split
    · exact zages_0 hj i
    · rw [zage_ne (by omega) (by omega)]; exact zages_0 hj i
theorem zages_wf {went : Prop} [Decidable went] {g : zH} (w : zWF g) : ∀ i, i ≤ g 0 → zWF (zages went g i)
  | 0, _ => w
  | i + 1, h => by
    have ih := zages_wf (went := went) w i (by omega)
    unfold zages
    split
    · exact ih
    · exact zage_wf ih (by rw [zages_0 (by omega)]; omega)
/-- let out -/
def zlet1 (g : zH) (e : Nat) : zH := if g (19 + e) = g 4 ∧ (g (13 + e) = 10 ∨ g (13 + e) = g 4) then va_up g (13 + e) 11 else g
def zlets (g : zH) : Nat → zH
  | 0 => g
  | i + 1 => zlet1 (zlets g i) i
theorem zlet1_ne {g : zH} {e j : Nat} (h : j ≠ 13 + e) : zlet1 g e j = g j := by
  unfold zlet1
  split
  · exact zup_ne h
  · rfl
theorem zlets_ne {g : zH} {j : Nat} (hj : j < 13 ∨ 19 ≤ j) : ∀ i, i ≤ 6 → zlets g i j = g j
  | 0, _ => rfl
  | i + 1, h => by
    show zlet1 (zlets g i) i j = g j
    rw [zlet1_ne (by omega)]; exact zlets_ne hj i (by omega)
theorem zlet1_wf {g : zH} (w : zWF g) {e : Nat} (he : e < 6) : zWF (zlet1 g e) := by
  unfold zlet1
  split
  · exact w.sAt he (Or.inr (Or.inr rfl))
  · exact w
theorem zlets_wf {g : zH} (w : zWF g) : ∀ i, i ≤ 6 → zWF (zlets g i)
  | 0, _ => w
  | i + 1, h => zlet1_wf (zlets_wf w i (by omega)) (by omega)
/-- how many are at a place, and the sum of a field of them -/
def zcnt (g : zH) (p : Nat) : Nat → Nat
  | 0 => 0
  | i + 1 => zcnt g p i + (if g (13 + i) = p then 1 else 0)
def zwts (g : zH) (p f : Nat) : Nat → Nat
  | 0 => 0
  | i + 1 => zwts g p f i + (if g (13 + i) = p then g (f + i) else 0)
theorem zcnt_le (g : zH) (p : Nat) : ∀ i, zcnt g p i ≤ i
  | 0 => Nat.le_refl _
  | i + 1 => by
    have := zcnt_le g p i
    unfold zcnt
    split <;> omega
/-- take in -/
def ztake1 (g : zH) (k : Nat) : zH := if k < g 0 ∧ g (13 + k) = g 4 ∧ zcnt g 10 (g 0) < g 2 ∧ zwts g 10 25 (g 0) + g (25 + k) ≤ g 3 then va_up g (13 + k) 10 else g
def ztakes (ord : Nat → Nat) (g : zH) : Nat → zH
  | 0 => g
  | i + 1 => ztake1 (ztakes ord g i) (ord i)
theorem ztake1_ne {g : zH} {k j : Nat} (h : j ≠ 13 + k) : ztake1 g k j = g j := by
  unfold ztake1
  split
  · exact zup_ne h
  · rfl
theorem ztake1_out {g : zH} {k j : Nat} (hn : g 0 ≤ 6) (hj : j < 13 ∨ 19 ≤ j) : ztake1 g k j = g j := by
  unfold ztake1
  split
  · rename_i c; exact zup_ne (by omega)
  · rfl
theorem ztakes_ne {ord : Nat → Nat} {g : zH} {j : Nat} (hn : g 0 ≤ 6) (hj : j < 13 ∨ 19 ≤ j) : ∀ i, ztakes ord g i j = g j
  | 0 => rfl
  | i + 1 => by
    show ztake1 (ztakes ord g i) (ord i) j = g j
    rw [ztake1_out (by rw [ztakes_ne hn (by omega) i]; exact hn) hj]; exact ztakes_ne hn hj i
theorem ztake1_wf {g : zH} (w : zWF g) (k : Nat) : zWF (ztake1 g k) := by
  unfold ztake1
  split
  · rename_i c; exact w.sAt (by have := w.1; omega) (Or.inr (Or.inl rfl))
  · exact w
theorem ztakes_wf {ord : Nat → Nat} {g : zH} (w : zWF g) : ∀ i, zWF (ztakes ord g i)
  | 0 => w
  | i + 1 => ztake1_wf (ztakes_wf w i) (ord i)
theorem zcnt_up {g : zH} {k p v : Nat} (hp : g (13 + k) ≠ p) : ∀ i, zcnt (va_up g (13 + k) v) p i = zcnt g p i + (if k < i ∧ v = p then 1 else 0)
  | 0 => by simp [zcnt]
  | i + 1 => by
    have ih := zcnt_up (v := v) hp i
    show zcnt (va_up g (13 + k) v) p i + (if va_up g (13 + k) v (13 + i) = p then 1 else 0) = zcnt g p i + (if g (13 + i) = p then 1 else 0) + _
    rw [ih]
    by_cases e : i = k
    · subst e
      rw [zup_eq, if_neg hp, if_neg (show ¬ (i < i ∧ v = p) by omega)]
      by_cases hv : v = p
      · rw [if_pos hv, if_pos (show i < i + 1 ∧ v = p from ⟨by omega, hv⟩)]
      · rw [if_neg hv, if_neg (show ¬ (i < i + 1 ∧ v = p) from fun q => hv q.2)]
    · rw [zup_ne (by omega), Nat.add_right_comm]
      by_cases hv : k < i ∧ v = p
      · rw [if_pos hv, if_pos (show k < i + 1 ∧ v = p from ⟨by omega, hv.2⟩)]
      · rw [if_neg hv, if_neg (show ¬ (k < i + 1 ∧ v = p) from fun q => hv ⟨by omega, q.2⟩)]
theorem zwts_up {g : zH} {k p v f : Nat} (hp : g (13 + k) ≠ p) (hf : 19 ≤ f) (hk : k < 6) : ∀ i, zwts (va_up g (13 + k) v) p f i = zwts g p f i + (if k < i ∧ v = p then g (f + k) else 0)
  | 0 => by simp [zwts]
  | i + 1 => by
    have ih := zwts_up (v := v) hp hf hk i
    show zwts (va_up g (13 + k) v) p f i + (if va_up g (13 + k) v (13 + i) = p then va_up g (13 + k) v (f + i) else 0) = zwts g p f i + (if g (13 + i) = p then g (f + i) else 0) + _
    rw [ih, show va_up g (13 + k) v (f + i) = g (f + i) from zup_ne (by omega)]
    by_cases e : i = k
    · subst e
      rw [zup_eq, if_neg hp, if_neg (show ¬ (i < i ∧ v = p) by omega)]
      by_cases hv : v = p
      · rw [if_pos hv, if_pos (show i < i + 1 ∧ v = p from ⟨by omega, hv⟩)]
      · rw [if_neg hv, if_neg (show ¬ (i < i + 1 ∧ v = p) from fun q => hv q.2)]
    · rw [zup_ne (by omega), Nat.add_right_comm]
      by_cases hv : k < i ∧ v = p
      · rw [if_pos hv, if_pos (show k < i + 1 ∧ v = p from ⟨by omega, hv.2⟩)]
      · rw [if_neg hv, if_neg (show ¬ (k < i + 1 ∧ v = p) from fun q => hv ⟨by omega, q.2⟩)]
/-- full: nothing more gets in -/
theorem ztakes_full {ord : Nat → Nat} {g : zH} (hn : g 0 ≤ 6) {i : Nat} (h : ¬ zcnt (ztakes ord g i) 10 (g 0) < g 2) : ∀ j, ztakes ord g (i + j) = ztakes ord g i
  | 0 => rfl
  | j + 1 => by
    have ih := ztakes_full hn h j
    show ztake1 (ztakes ord g (i + j)) (ord (i + j)) = _
    rw [ih]
    unfold ztake1
    rw [if_neg]
    intro q
    have q3 := q.2.2.1
    rw [ztakes_ne (j := 0) hn (by omega), ztakes_ne (j := 2) hn (by omega)] at q3
    exact h q3
/-! bits -/
def zpc (b : Nat) : Nat := b % 2 + b / 2 % 2 + b / 4 % 2 + b / 8 % 2 + b / 16 % 2 + b / 32 % 2
theorem zpc_t : ∀ i, i < 6 → ∀ a, a < 2 ^ i → zpc (a ||| 2 ^ i) = zpc a + 1 := by decide +kernel
theorem zpc_bits (g : zH) (p : Nat) : ∀ i, i ≤ 6 → zpc (zbits g p i) = zcnt g p i
  | 0, _ => by show zpc 0 = 0; decide
  | i + 1, h => by
    have ih := zpc_bits g p i (by omega)
    unfold zbits zcnt
    split
    · rw [zpc_t i (by omega) _ (zbits_lt g p i (by omega)), ih]
    · rw [ih]; rfl
theorem zbit_or {a i e : Nat} (h : a < 2 ^ i) : (a ||| 2 ^ i) / 2 ^ e % 2 = if e = i then 1 else a / 2 ^ e % 2 := by
  rw [← Nat.toNat_testBit, ← Nat.toNat_testBit, Nat.testBit_or, Nat.testBit_two_pow]
  by_cases q : e = i
  · subst q; rw [if_pos rfl]; simp
  · rw [if_neg q]
    have : decide (i = e) = false := by simpa using fun z => q z.symm
    rw [this, Bool.or_false]
theorem zbits_bit (g : zH) (p : Nat) {e : Nat} : ∀ i, i ≤ 9 → e < i → zbits g p i / 2 ^ e % 2 = if g (13 + e) = p then 1 else 0
  | 0, _, h => by omega
  | i + 1, hi, h => by
    have hlt := zbits_lt g p i (by omega)
    by_cases q : e = i
    · subst q
      unfold zbits
      split
      · rw [zbit_or hlt, if_pos rfl]
      · rw [Nat.div_eq_of_lt hlt]
    · have ih := zbits_bit g p i (by omega) (show e < i by omega)
      unfold zbits
      split
      · rw [zbit_or hlt, if_neg q]; exact ih
      · exact ih
theorem zsum_bits (g : zH) (p f m : Nat) (hm : m ≤ 9) : ∀ i, i ≤ m → zsum g f (zbits g p m) i = zwts g p f i
  | 0, _ => rfl
  | i + 1, h => by
    have ih := zsum_bits g p f m hm i (by omega)
    unfold zsum zwts
    rw [ih, zbits_bit g p m hm (by omega)]
    split <;> simp
theorem zwts_le (g : zH) (p f M : Nat) : ∀ i, (∀ e, e < i → g (f + e) ≤ M) → zwts g p f i ≤ i * M
  | 0, _ => by simp [zwts]
  | i + 1, h => by
    have ih := zwts_le g p f M i (fun e he => h e (by omega))
    have h1 := h i (by omega)
    unfold zwts
    rw [Nat.succ_mul]
    split <;> omega
/-- the floors that call -/
def zcal (g : zH) : Nat → Nat
  | 0 => 0
  | i + 1 => if g (13 + i) = 10 then zcal g i ||| 2 ^ g (19 + i) else if g (13 + i) ≠ 11 ∧ g (25 + i) ≤ g 3 then zcal g i ||| 2 ^ g (13 + i) else zcal g i
theorem zcal_lt {g : zH} (w : zWF g) : ∀ i, i ≤ g 0 → zcal g i < 512
  | 0, _ => by show 0 < 512; decide
  | i + 1, h => by
    have ih := zcal_lt w i (by omega)
    obtain ⟨c1, c2, c3, c4, c5⟩ := w.2.2.2.2.2.2.2.2 i (by omega)
    have w1 := w.2.2.1
    have p9 : ∀ k, k < 9 → 2 ^ k < 2 ^ 9 := fun k hk => Nat.pow_lt_pow_right (by omega) hk
    have ih' : zcal g i < 2 ^ 9 := ih
    show _ < 2 ^ 9
    unfold zcal
    split
    · exact Nat.or_lt_two_pow ih' (p9 _ (by omega))
    · split
      · exact Nat.or_lt_two_pow ih' (p9 _ (by omega))
      · exact ih'
def zdel (a f : Nat) : Nat := if a / 2 ^ f % 2 = 1 then a - 2 ^ f else a
def zcalled (g : zH) : Nat := zdel (zcal g (g 0)) (g 4)
theorem zdel_t : ∀ f, f < 9 → ∀ a, a < 512 → nI a &&& (nI 1 <<< (nI f &&& 31) ^^^ -(nI 1)) = nI (zdel a f) := by decide +kernel
/-- the car goes -/
def zway (g : zH) : Nat := if g 5 = 1 then (if zcalled g / 2 ^ g 4 = 0 then 0 else 1) else (if zcalled g % 2 ^ g 4 = 0 then 1 else 0)
def zmove (g : zH) : zH := if zcalled g = 0 then g else va_up (va_up g 5 (zway g)) 4 (if zway g = 1 then g 4 + 1 else g 4 - 1)
theorem zdel_lt {a f : Nat} (h : a < 512) : zdel a f < 512 := by
  unfold zdel
  generalize 2 ^ f = z
  split <;> omega
theorem zcalled_lt {g : zH} (w : zWF g) : zcalled g < 512 := zdel_lt (zcal_lt w _ (Nat.le_refl _))
/-- a minute -/
def zpass (ord : Nat → Nat) (g : zH) : zH :=
  let g1 := zlets g (g 0)
  let g2 := ztakes ord g1 (g 0)
  let g3 := zmove g2
  let g4 := zages (zcalled g2 ≠ 0) g3 (g 0)
  va_up g4 6 (g4 6 + 1)
/-- a minute in which the rope sticks -/
def zstuck (g : zH) : zH := va_up (zages False g (g 0)) 6 (g 6 + 1)
end
section
/-! DishLift$House: a minute -/
section HP
variable {X d : Nat} {mem : zMem} {lk : zLk} {L : List Nat} {Q : Option Value → zMem → Prop} {h : Nat} {g : zH}
theorem ok_cool {e : Nat} (hd : 0 < d) (hh : zHo lk h) (hb : zHB mem h g) (wf : zWF g) (he : e < g 0) (q : ∀ mem', zHB mem' h (zcool g e) → zfr mem mem' h → Q none mem') : zOk X d 61 [.ref h, .int (nI e)] mem lk L lk L Q := by
  have w0 := wf.1
  have w5 := (wf.2.2.2.2.2.2.2.2 e he).2.2.2.2
  have e1 : mem (h + (7 + 6 * 4) + (nI e).toNatClampNeg) = nI (g (31 + e)) := by rw [nC (by omega)]; exact hb.ht he
  refine zOk_do 30 (tbl := tX3_cool) zck_61 rfl (by omega) (h := ?_)
  refine ⟨hh.k3, _, hh.lk 4 (by omega), Or.inl (hh.ka 4 (by omega)), hh.inn (by omega), fun c => ⟨rfl, rfl, ?_⟩, fun c => ⟨hh.k3, _, hh.lk 4 (by omega), Or.inl (hh.ka 4 (by omega)), hh.inn (by omega), hh.ka 4 (by omega), hh.inn (by omega), rfl, rfl, ?_⟩⟩
  · have c : mem (h + (7 + 6 * 4) + (nI e).toNatClampNeg) ≤ 0 := c
    rw [e1, show (0 : Int32) = nI 0 from rfl, nLe (by omega) (by omega)] at c
    refine q mem ?_ zfr.rf
    have : zcool g e = g := zup_self (by omega)
    rw [this]; exact hb
  · have c : ¬ mem (h + (7 + 6 * 4) + (nI e).toNatClampNeg) ≤ 0 := c
    rw [e1, show (0 : Int32) = nI 0 from rfl, nLe (by omega) (by omega)] at c
    show Q none (upd mem (h + (7 + 6 * 4) + (nI e).toNatClampNeg) (mem (h + (7 + 6 * 4) + (nI e).toNatClampNeg) - nI 1))
    rw [e1, nC (by omega), pk_sub (by omega)]
    exact q _ (hb.set (31 + e) _ (by omega) (by omega)) (zfr.up (by omega) (by omega))
theorem ok_warm {e : Nat} (hd : 0 < d) (hh : zHo lk h) (hb : zHB mem h g) (wf : zWF g) (he : e < g 0) (q : ∀ mem', zHB mem' h (zwarm g e) → zfr mem mem' h → Q none mem') : zOk X d 62 [.ref h, .int (nI e)] mem lk L lk L Q := by
  have w0 := wf.1
  have w5 := (wf.2.2.2.2.2.2.2.2 e he).2.2.2.2
  have e1 : mem (h + (7 + 6 * 4) + (nI e).toNatClampNeg) = nI (g (31 + e)) := by rw [nC (by omega)]; exact hb.ht he
  refine zOk_do 30 (tbl := tX3_warm) zck_62 rfl (by omega) (h := ?_)
  refine ⟨hh.k3, _, hh.lk 4 (by omega), Or.inl (hh.ka 4 (by omega)), hh.inn (by omega), fun c => ⟨rfl, rfl, ?_⟩, fun c => ⟨hh.k3, _, hh.lk 4 (by omega), Or.inl (hh.ka 4 (by omega)), hh.inn (by omega), hh.ka 4 (by omega), hh.inn (by omega), rfl, rfl, ?_⟩⟩
  · have c : nI 60 ≤ mem (h + (7 + 6 * 4) + (nI e).toNatClampNeg) := c
    rw [e1, nLe (by omega) (by omega)] at c
    refine q mem ?_ zfr.rf
    have : zwarm g e = g := zup_self (by rw [if_neg (by omega)])
    rw [this]; exact hb
  · have c : ¬ nI 60 ≤ mem (h + (7 + 6 * 4) + (nI e).toNatClampNeg) := c
    rw [e1, nLe (by omega) (by omega)] at c
    show Q none (upd mem (h + (7 + 6 * 4) + (nI e).toNatClampNeg) (mem (h + (7 + 6 * 4) + (nI e).toNatClampNeg) + nI 1))
    rw [e1, nC (by omega), nI_add]
    have : zwarm g e = va_up g (31 + e) (g (31 + e) + 1) := by unfold zwarm; rw [if_pos (by omega)]
    refine q _ ?_ (zfr.up (by omega) (by omega))
    rw [this]
    exact hb.set (31 + e) _ (by omega) (by omega)
theorem ok_lose {e : Nat} (hd : 0 < d) (hh : zHo lk h) (hb : zHB mem h g) (wf : zWF g) (he : e < g 0) (q : ∀ mem', zHB mem' h (zlose g e) → zfr mem mem' h → Q none mem') : zOk X d 63 [.ref h, .int (nI e)] mem lk L lk L Q := by
  have w0 := wf.1
  have w5 := (wf.2.2.2.2.2.2.2.2 e he).2.2.2.1
  have e1 : mem (h + (7 + 6 * 3) + (nI e).toNatClampNeg) = nI (g (25 + e)) := by rw [nC (by omega)]; exact hb.wt he
  refine zOk_do 30 (tbl := tX3_lose) zck_63 rfl (by omega) (h := ?_)
  refine ⟨hh.k3, _, hh.lk 3 (by omega), Or.inl (hh.ka 3 (by omega)), hh.inn (by omega), fun c => ⟨rfl, rfl, ?_⟩, fun c => ⟨hh.k3, _, hh.lk 3 (by omega), Or.inl (hh.ka 3 (by omega)), hh.inn (by omega), hh.ka 3 (by omega), hh.inn (by omega), rfl, rfl, ?_⟩⟩
  · have c : mem (h + (7 + 6 * 3) + (nI e).toNatClampNeg) ≤ nI 1 := c
    rw [e1, nLe (by omega) (by omega)] at c
    refine q mem ?_ zfr.rf
    have : zlose g e = g := zup_self (by rw [if_neg (by omega)])
    rw [this]; exact hb
  · have c : ¬ mem (h + (7 + 6 * 3) + (nI e).toNatClampNeg) ≤ nI 1 := c
    rw [e1, nLe (by omega) (by omega)] at c
    show Q none (upd mem (h + (7 + 6 * 3) + (nI e).toNatClampNeg) (mem (h + (7 + 6 * 3) + (nI e).toNatClampNeg) - nI 1))
    rw [e1, nC (by omega), pk_sub (by omega)]
    have : zlose g e = va_up g (25 + e) (g (25 + e) - 1) := by unfold zlose; rw [if_pos (by omega)]
    refine q _ ?_ (zfr.up (by omega) (by omega))
    rw [this]
    exact hb.set (25 + e) _ (by omega) (by omega)
theorem zodd {n : Nat} (h : n < 2147483648) : nI n - nI n / nI 2 * nI 2 = nI (n % 2) := pk_rem h (by omega) (by omega)
theorem ok_age {e : Nat} {sh : Prop} [Decidable sh] {v : Nat} (hv : v = if sh then 1 else 0) (hd : 1 < d) (hh : zHo lk h) (hb : zHB mem h g) (wf : zWF g) (he : e < g 0) (q : ∀ mem', zHB mem' h (zage g e sh) → zfr mem mem' h → Q none mem') : zOk X d 60 [.ref h, .int (nI e), .int (nI v)] mem lk L lk L Q := by
  have w0 := wf.1
  obtain ⟨w1, -, -, w4, w5⟩ := wf.2.2.2.2.2.2.2.2 e he
  have w6 := wf.2.2.2.2.2.2.2.1
  have e1 : mem (h + (7 + 6 * 0) + (nI e).toNatClampNeg) = nI (g (7 + e)) := by rw [nC (by omega)]; exact hb.kind he
  have hcl := zcool_wf wf he
  have hwm := zwarm_wf wf he
  have hk3 : (zmF 61)[7]? = some (kd h) := by rw [hh.k3]; rfl
  refine zOk_do 40 (tbl := tX3_age) zck_60 rfl (by omega) (h := ?_)
  refine ⟨hh.k3, _, hh.lk 0 (by omega), Or.inl (hh.ka 0 (by omega)), hh.inn (by omega), ?_⟩
  refine ⟨fun c => ?_, fun c => ⟨fun c2 => ?_, fun c2 => ⟨fun c3 => ?_, fun c3 => ⟨fun c4 => ?_, fun c4 => ?_⟩⟩⟩⟩
  · have c : mem (h + (7 + 6 * 0) + (nI e).toNatClampNeg) = nI 2 := c
    rw [e1, nEq (by omega) (by omega)] at c
    refine ⟨by rw [hh.k3]; rfl, ok_cool (by omega) hh hb wf he (fun m1 hb1 hf1 => ⟨fun c5 => ⟨rfl, rfl, ?_⟩, fun c5 => ⟨by rw [hh.k3]; rfl, ok_lose (by omega) hh hb1 hcl (by rw [zcool_ne (by omega)]; exact he) (fun m2 hb2 hf2 => ⟨rfl, rfl, ?_⟩)⟩⟩)⟩
    · have c5 : nI v = 0 := c5
      rw [n0 (by rw [hv]; split <;> omega), hv] at c5
      have hs : ¬ sh := fun z => by rw [if_pos z] at c5; omega
      have hz : zage g e sh = zcool g e := by unfold zage; rw [if_pos c, if_neg hs]
      exact q m1 (by rw [hz]; exact hb1) hf1
    · have c5 : ¬ nI v = 0 := c5
      rw [n0 (by rw [hv]; split <;> omega), hv] at c5
      have hs : sh := Decidable.byContradiction fun z => by rw [if_neg z] at c5; omega
      have hz : zage g e sh = zlose (zcool g e) e := by unfold zage; rw [if_pos c, if_pos hs]
      exact q m2 (by rw [hz]; exact hb2) (hf1.tr hf2)
  · have c : ¬ mem (h + (7 + 6 * 0) + (nI e).toNatClampNeg) = nI 2 := c
    have c2 : mem (h + (7 + 6 * 0) + (nI e).toNatClampNeg) = nI 3 := c2
    rw [e1, nEq (by omega) (by omega)] at c c2
    have e6 : mem (h + 6) = nI (g 6) := hb.k 6 (by omega)
    refine ⟨hh.k3, by decide, fun c5 => ⟨rfl, rfl, ?_⟩, fun c5 => ⟨by rw [hh.k3]; rfl, ok_cool (by omega) hh hb wf he (fun m1 hb1 hf1 => ⟨rfl, rfl, ?_⟩)⟩⟩
    · have c5 : mem (h + 6) - mem (h + 6) / nI 2 * nI 2 = 0 := c5
      rw [e6, zodd (by omega), n0 (by omega)] at c5
      have hz : zage g e sh = g := by unfold zage; rw [if_neg c, if_pos c2, if_pos c5]
      exact q mem (by rw [hz]; exact hb) zfr.rf
    · have c5 : ¬ mem (h + 6) - mem (h + 6) / nI 2 * nI 2 = 0 := c5
      rw [e6, zodd (by omega), n0 (by omega)] at c5
      have hz : zage g e sh = zcool g e := by unfold zage; rw [if_neg c, if_pos c2, if_neg c5]
      exact q m1 (by rw [hz]; exact hb1) hf1
  · have c : ¬ mem (h + (7 + 6 * 0) + (nI e).toNatClampNeg) = nI 2 := c
    have c2 : ¬ mem (h + (7 + 6 * 0) + (nI e).toNatClampNeg) = nI 3 := c2
    have c3 : mem (h + (7 + 6 * 0) + (nI e).toNatClampNeg) = nI 4 := c3
    rw [e1, nEq (by omega) (by omega)] at c c2 c3
    refine ⟨by rw [hh.k3]; rfl, ok_warm (by omega) hh hb wf he (fun m1 hb1 hf1 => ⟨rfl, rfl, ?_⟩)⟩
    have hz : zage g e sh = zwarm g e := by unfold zage; rw [if_neg c, if_neg c2, if_pos c3]
    exact q m1 (by rw [hz]; exact hb1) hf1
  · have c : ¬ mem (h + (7 + 6 * 0) + (nI e).toNatClampNeg) = nI 2 := c
    have c2 : ¬ mem (h + (7 + 6 * 0) + (nI e).toNatClampNeg) = nI 3 := c2
    have c3 : ¬ mem (h + (7 + 6 * 0) + (nI e).toNatClampNeg) = nI 4 := c3
    have c4 : mem (h + (7 + 6 * 0) + (nI e).toNatClampNeg) = nI 5 := c4
    rw [e1, nEq (by omega) (by omega)] at c c2 c3 c4
    have he2 : e < zwarm g e 0 := by rw [zwarm_ne (by omega)]; exact he
    have w52 := (hwm.2.2.2.2.2.2.2.2 e he2).2.2.2.2
    refine ⟨by rw [hh.k3]; rfl, ok_warm (by omega) hh hb wf he (fun m1 hb1 hf1 => ⟨hh.k3, _, hh.lk 4 (by omega), Or.inl (hh.ka 4 (by omega)), hh.inn (by omega), fun c5 => ⟨rfl, rfl, ?_⟩, fun c5 => ⟨by rw [hh.k3]; rfl, ok_lose (by omega) hh hb1 hwm he2 (fun m2 hb2 hf2 => ⟨rfl, rfl, ?_⟩)⟩⟩)⟩
    · have e4 : m1 (h + (7 + 6 * 4) + (nI e).toNatClampNeg) = nI (zwarm g e (31 + e)) := by rw [nC (by omega)]; exact hb1.ht he2
      have c5 : m1 (h + (7 + 6 * 4) + (nI e).toNatClampNeg) < nI 10 := c5
      rw [e4, nLt (by omega) (by omega)] at c5
      have hz : zage g e sh = zwarm g e := by unfold zage; rw [if_neg c, if_neg c2, if_neg c3, if_pos c4, if_pos c5]
      exact q m1 (by rw [hz]; exact hb1) hf1
    · have e4 : m1 (h + (7 + 6 * 4) + (nI e).toNatClampNeg) = nI (zwarm g e (31 + e)) := by rw [nC (by omega)]; exact hb1.ht he2
      have c5 : ¬ m1 (h + (7 + 6 * 4) + (nI e).toNatClampNeg) < nI 10 := c5
      rw [e4, nLt (by omega) (by omega)] at c5
      have hz : zage g e sh = zlose (zwarm g e) e := by unfold zage; rw [if_neg c, if_neg c2, if_neg c3, if_pos c4, if_neg c5]
      exact q m2 (by rw [hz]; exact hb2) (hf1.tr hf2)
  · have c : ¬ mem (h + (7 + 6 * 0) + (nI e).toNatClampNeg) = nI 2 := c
    have c2 : ¬ mem (h + (7 + 6 * 0) + (nI e).toNatClampNeg) = nI 3 := c2
    have c3 : ¬ mem (h + (7 + 6 * 0) + (nI e).toNatClampNeg) = nI 4 := c3
    have c4 : ¬ mem (h + (7 + 6 * 0) + (nI e).toNatClampNeg) = nI 5 := c4
    rw [e1, nEq (by omega) (by omega)] at c c2 c3 c4
    refine ⟨by rw [hh.k3]; rfl, ok_cool (by omega) hh hb wf he (fun m1 hb1 hf1 => ⟨rfl, rfl, ?_⟩)⟩
    have hz : zage g e sh = zcool g e := by unfold zage; rw [if_neg c, if_neg c2, if_neg c3, if_neg c4]
    exact q m1 (by rw [hz]; exact hb1) hf1
theorem letOut_loop (hh : zHo lk h) {g0 : zH} (wf : zWF g0) (q : ∀ mem', zHB mem' h (zlets g0 (g0 0)) → zfr mem mem' h → Q none mem') : ∀ n i m1, i + n = g0 0 → zHB m1 h (zlets g0 i) → zfr mem m1 h → zE X d 56 2 [.ref h, .int (nI i)] [] m1 lk L lk L Q := by
  have w0 := wf.1
  intro n
  induction n with
  | zero =>
    intro i m1 hi hb hf
    have n0 : zlets g0 i 0 = g0 0 := zlets_ne (by omega) i (by omega)
    refine zE_do 40 2 (tbl := tX3_letOut) zck_56 rfl (h := ?_)
    refine ⟨hh.k3, fun c => ⟨rfl, rfl, ?_⟩, fun c => ?_⟩
    · rw [show i = g0 0 by omega] at hb; exact q m1 hb hf
    · exfalso
      have c : ¬ m1 (h + 0) ≤ nI i := c
      rw [hb.k 0 (by omega), n0, nLe (by omega) (by omega)] at c
      omega
  | succ n ih =>
    intro i m1 hi hb hf
    have n0 : zlets g0 i 0 = g0 0 := zlets_ne (by omega) i (by omega)
    have wi := zlets_wf wf i (by omega)
    generalize hgi : zlets g0 i = gi at hb n0 wi
    have hnext : zlets g0 (i + 1) = zlet1 gi i := by rw [← hgi]; rfl
    have k := ih (i + 1)
    rw [hnext, ← nI_1] at k
    have hie : i < gi 0 := by omega
    obtain ⟨-, w2, w3, -, -⟩ := wi.2.2.2.2.2.2.2.2 i hie
    have w1 := wi.2.2.1
    have w4 := wi.2.2.2.2.2.1
    have e4 : m1 (h + 4) = nI (gi 4) := hb.k 4 (by omega)
    have e1 : m1 (h + (7 + 6 * 1) + (nI i).toNatClampNeg) = nI (gi (13 + i)) := by rw [nC (by omega)]; exact hb.at hie
    have e2 : m1 (h + (7 + 6 * 2) + (nI i).toNatClampNeg) = nI (gi (19 + i)) := by rw [nC (by omega)]; exact hb.to hie
    refine zE_do 40 2 (tbl := tX3_letOut) zck_56 rfl (h := ?_)
    refine ⟨hh.k3, fun c => ?_, fun c => ⟨hh.k3, _, hh.lk 2 (by omega), Or.inl (hh.ka 2 (by omega)), hh.inn (by omega), hh.k3, fun c2 => ?_, fun c2 => ⟨hh.k3, _, hh.lk 1 (by omega), Or.inl (hh.ka 1 (by omega)), hh.inn (by omega), fun c3 => ⟨hh.k3, _, hh.lk 1 (by omega), hh.ka 1 (by omega), hh.inn (by omega), ?_⟩, fun c3 => ⟨hh.k3, _, hh.lk 1 (by omega), Or.inl (hh.ka 1 (by omega)), hh.inn (by omega), hh.k3, fun c4 => ?_, fun c4 => ⟨hh.k3, _, hh.lk 1 (by omega), hh.ka 1 (by omega), hh.inn (by omega), ?_⟩⟩⟩⟩⟩
    · exfalso
      have c : m1 (h + 0) ≤ nI i := c
      rw [hb.k 0 (by omega), n0, nLe (by omega) (by omega)] at c
      omega
    · have c2 : ¬ m1 (h + (7 + 6 * 2) + (nI i).toNatClampNeg) = m1 (h + 4) := c2
      rw [e2, e4, nEq (by omega) (by omega)] at c2
      refine k m1 (by omega) ?_ hf
      unfold zlet1; rw [if_neg (fun z => c2 z.1)]; exact hb
    · have c2 : m1 (h + (7 + 6 * 2) + (nI i).toNatClampNeg) = m1 (h + 4) := c2
      rw [e2, e4, nEq (by omega) (by omega)] at c2
      have c3 : m1 (h + (7 + 6 * 1) + (nI i).toNatClampNeg) = nI 10 := c3
      rw [e1, nEq (by omega) (by omega)] at c3
      refine k _ (by omega) ?_ (hf.tr (zfr.up (x := h + (7 + 6 * 1) + (nI i).toNatClampNeg) (v := nI 11) (by omega) (by rw [nC (by omega)]; omega)))
      unfold zlet1; rw [if_pos ⟨c2, Or.inl c3⟩]
      exact hb.set (13 + i) 11 (by omega) (by rw [nC (by omega)]; omega)
    · have c3 : ¬ m1 (h + (7 + 6 * 1) + (nI i).toNatClampNeg) = nI 10 := c3
      rw [e1, nEq (by omega) (by omega)] at c3
      have c4 : ¬ m1 (h + (7 + 6 * 1) + (nI i).toNatClampNeg) = m1 (h + 4) := c4
      rw [e1, e4, nEq (by omega) (by omega)] at c4
      refine k m1 (by omega) ?_ hf
      unfold zlet1; rw [if_neg (fun z => z.2.elim c3 c4)]; exact hb
    · have c2 : m1 (h + (7 + 6 * 2) + (nI i).toNatClampNeg) = m1 (h + 4) := c2
      rw [e2, e4, nEq (by omega) (by omega)] at c2
      have c4 : m1 (h + (7 + 6 * 1) + (nI i).toNatClampNeg) = m1 (h + 4) := c4
      rw [e1, e4, nEq (by omega) (by omega)] at c4
      refine k _ (by omega) ?_ (hf.tr (zfr.up (x := h + (7 + 6 * 1) + (nI i).toNatClampNeg) (v := nI 11) (by omega) (by rw [nC (by omega)]; omega)))
      unfold zlet1; rw [if_pos ⟨c2, Or.inr c4⟩]
      exact hb.set (13 + i) 11 (by omega) (by rw [nC (by omega)]; omega)
theorem ok_letOut (hd : 0 < d) (hh : zHo lk h) (hb : zHB mem h g) (wf : zWF g) (q : ∀ mem', zHB mem' h (zlets g (g 0)) → zfr mem mem' h → Q none mem') : zOk X d 56 [.ref h] mem lk L lk L Q := by
  refine zOk_do 20 (tbl := tX3_letOut) zck_56 rfl (by omega) (h := ?_)
  exact letOut_loop hh wf q (g 0) 0 mem (by omega) hb zfr.rf
end HP
end
section
/-! DishLift$House: takeIn, called, goOn, pass -/
def zbc1 (x : Int32) : Int32 := x - ((x.toUInt32 >>> ((nI 1).toUInt32 &&& Int32.toUInt32 31)).toInt32 &&& nI 1431655765)
def zbc2 (x : Int32) : Int32 := (x &&& nI 858993459) + ((x.toUInt32 >>> ((nI 2).toUInt32 &&& Int32.toUInt32 31)).toInt32 &&& nI 858993459)
def zbc3 (x : Int32) : Int32 := (x + (x.toUInt32 >>> ((nI 4).toUInt32 &&& Int32.toUInt32 31)).toInt32) &&& nI 252645135
def zbc4 (x : Int32) : Int32 := x + (x.toUInt32 >>> ((nI 8).toUInt32 &&& Int32.toUInt32 31)).toInt32
def zbc5 (x : Int32) : Int32 := (x + (x.toUInt32 >>> ((nI 16).toUInt32 &&& Int32.toUInt32 31)).toInt32) &&& nI 63
theorem zbc_t : ∀ b, b < 64 → zbc5 (zbc4 (zbc3 (zbc2 (zbc1 (nI b))))) = nI (zpc b) := by decide +kernel
theorem zsub1 (a b : Nat) : nI a - nI b + -(nI 1) = nI a - nI (b + 1) := by
  rw [show nI (b + 1) = nI b + nI 1 from (nI_add b 1).symm]
  generalize nI a = x
  generalize nI b = z
  generalize nI 1 = w
  simp only [Int32.sub_eq_add_neg, Int32.neg_add, Int32.add_assoc]
section HP
variable {X d : Nat} {mem : zMem} {lk : zLk} {L : List Nat} {Q : Option Value → zMem → Prop} {h : Nat} {g : zH}
theorem ok_bitCount {b : Nat} (hd : 0 < d) (hb : b < 64) (q : Q (some (.int (nI (zpc b)))) mem) : zOk X d 221 [.int (nI b)] mem lk L lk L Q := by
  refine zOk_do 60 (tbl := tJ6_bitCount_0f7a4) zck_221 rfl (by omega) (h := ?_)
  refine ⟨rfl, rfl, ?_⟩
  show Q (some (.int (zbc5 (zbc4 (zbc3 (zbc2 (zbc1 (nI b)))))))) mem
  rw [zbc_t b hb]; exact q
/-- an order of rank: six numbers of an array -/
def zOrd (X : Nat) (mem : zMem) (o : Nat) (ord : Nat → Nat) (h : Nat) : Prop := (kd o = 9 ∨ kd o = 13) ∧ ln X o = 6 ∧ (∀ k, k < 6 → mem (o + k) = nI (ord k) ∧ ord k < 6) ∧ (o + 6 ≤ h ∨ h + 37 ≤ o)
theorem zOrd.fr {mem mem' : zMem} {o : Nat} {ord : Nat → Nat} (hz : zOrd X mem o ord h) (hf : zfr mem mem' h) : zOrd X mem' o ord h :=
  ⟨hz.1, hz.2.1, fun k hk => by rw [hf _ (by have := hz.2.2.2; omega)]; exact hz.2.2.1 k hk, hz.2.2.2⟩
theorem zfree_le {a b : Nat} (ha : a < 1000) (hb : b < 1000) : nI a - nI b ≤ 0 ↔ a ≤ b := by
  rw [i_le, i_0, pk_sub_toInt (by omega) (by omega)]; omega
theorem takeIn_loop {o : Nat} {ord : Nat → Nat} (hd : 1 < d) (hh : zHo lk h) {g0 : zH} (wf : zWF g0) (q : ∀ mem', zHB mem' h (ztakes ord g0 (g0 0)) → zfr mem mem' h → Q none mem') : ∀ n i m1 v2 v6, i + n = g0 0 → zHB m1 h (ztakes ord g0 i) → zOrd X m1 o ord h → zfr mem m1 h →
    zE X d 57 27 [.ref h, .ref o, .int v2, .int (nI (zwts (ztakes ord g0 i) 10 25 (g0 0))), .int (nI (g0 2) - nI (zcnt (ztakes ord g0 i) 10 (g0 0))), .int (nI i), v6] [] m1 lk L lk L Q := by
  have w0 := wf.1
  intro n
  induction n with
  | zero =>
    intro i m1 v2 v6 hi hb ho hf
    have n0 : ztakes ord g0 i 0 = g0 0 := ztakes_ne (by omega) (by omega) i
    refine zE_do 40 27 (tbl := tX3_takeIn) zck_57 rfl (h := ?_)
    refine ⟨hh.k3, fun c => ⟨rfl, rfl, ?_⟩, fun c => ?_⟩
    · rw [show i = g0 0 by omega] at hb; exact q m1 hb hf
    · exfalso
      have c : ¬ m1 (h + 0) ≤ nI i := c
      rw [hb.k 0 (by omega), n0, nLe (by omega) (by omega)] at c
      omega
  | succ n ih =>
    intro i m1 v2 v6 hi hb ho hf
    have n0 : ztakes ord g0 i 0 = g0 0 := ztakes_ne (by omega) (by omega) i
    have n2 : ztakes ord g0 i 2 = g0 2 := ztakes_ne (by omega) (by omega) i
    have wi := ztakes_wf (ord := ord) wf i
    have hfull := fun hx => ztakes_full (ord := ord) (g := g0) (i := i) w0 hx (n + 1)
    have hcl := zcnt_le (ztakes ord g0 i) 10 (g0 0)
    have hwl : zwts (ztakes ord g0 i) 10 25 (g0 0) ≤ g0 0 * 9 := zwts_le _ _ _ 9 _ (fun e he => (wi.2.2.2.2.2.2.2.2 e (by omega)).2.2.2.1.2)
    have hnext : ztakes ord g0 (i + 1) = ztake1 (ztakes ord g0 i) (ord i) := rfl
    have k := ih (i + 1)
    rw [hnext, ← nI_1] at k
    obtain ⟨o1, o2⟩ := ho.2.2.1 i (by omega)
    generalize ztakes ord g0 i = gi at hb n0 n2 wi hfull hcl hwl k
    have w2 := wf.2.2.2.1
    have hkc : (kd o = 9 ∨ kd o = 13) := ho.1
    have hin : vp_in (nI i) (ln X o) := by rw [ho.2.1]; exact vp_in_nI (by omega) (by decide)
    have eo : m1 (o + (nI i).toNatClampNeg) = nI (ord i) := by rw [nC (by omega)]; exact o1
    have w1 := wi.2.2.1
    have w4 := wi.2.2.2.2.2.1
    have e4 : m1 (h + 4) = nI (gi 4) := hb.k 4 (by omega)
    have e3 : m1 (h + 3) = nI (gi 3) := hb.k 3 (by omega)
    have w3 := wi.2.2.2.2.1
    refine zE_do 60 27 (tbl := tX3_takeIn) zck_57 rfl (h := ?_)
    refine ⟨hh.k3, fun c => ?_, fun c => ⟨by rcases hkc with z | z <;> rw [z] <;> omega, fun c2 => ?_, fun c2 => ⟨fun c3 => ⟨rfl, rfl, ?_⟩, fun c3 => ⟨hkc, hin, by rw [hh.k3]; rfl, ?_⟩⟩⟩⟩
    · exfalso
      have c : m1 (h + 0) ≤ nI i := c
      rw [hb.k 0 (by omega), n0, nLe (by omega) (by omega)] at c
      omega
    · exfalso
      have c2 : nI (ln X o) ≤ nI i := c2
      rw [ho.2.1, nLe (by omega) (by omega)] at c2
      omega
    · have c3 : nI (g0 2) - nI (zcnt gi 10 (g0 0)) ≤ 0 := c3
      rw [zfree_le (by omega) (by omega)] at c3
      refine q m1 ?_ hf
      have := hfull (by omega)
      rw [show i + (n + 1) = g0 0 by omega] at this
      rw [this]; exact hb
    · have c3 : ¬ nI (g0 2) - nI (zcnt gi 10 (g0 0)) ≤ 0 := c3
      rw [zfree_le (by omega) (by omega)] at c3
      show zOk X (d - 1) 45 [.ref h, .int (m1 (o + (nI i).toNatClampNeg))] m1 lk L lk L _
      rw [eo]
      refine ok_isDish (by omega) hh hb (by omega) (fun e he hx => zT_eq ?_) (fun hx => zF_eq ?_)
      · have hee : e = ord i := by rw [nEq (by omega) (by omega)] at hx; omega
        subst hee
        obtain ⟨-, b2, b3, b4, -⟩ := wi.2.2.2.2.2.2.2.2 (ord i) he
        have e1 : m1 (h + (7 + 6 * 1) + (nI (ord i)).toNatClampNeg) = nI (gi (13 + ord i)) := by rw [nC (by omega)]; exact hb.at he
        have e5 : m1 (h + (7 + 6 * 3) + (nI (ord i)).toNatClampNeg) = nI (gi (25 + ord i)) := by rw [nC (by omega)]; exact hb.wt he
        refine ⟨hh.k3, _, hh.lk 1 (by omega), Or.inl (hh.ka 1 (by omega)), hh.inn (by omega), hh.k3, fun c5 => ?_, fun c5 => ⟨hh.k3, _, hh.lk 3 (by omega), Or.inl (hh.ka 3 (by omega)), hh.inn (by omega), hh.k3, fun c6 => ?_, fun c6 => ⟨hh.k3, _, hh.lk 1 (by omega), hh.ka 1 (by omega), hh.inn (by omega), hh.k3, _, hh.lk 3 (by omega), Or.inl (hh.ka 3 (by omega)), hh.inn (by omega), ?_⟩⟩⟩
        · have c5 : ¬ m1 (h + (7 + 6 * 1) + (nI (ord i)).toNatClampNeg) = m1 (h + 4) := c5
          rw [e1, e4, nEq (by omega) (by omega)] at c5
          have hz : ztake1 gi (ord i) = gi := by unfold ztake1; rw [if_neg (fun z => c5 z.2.1)]
          rw [hz] at k
          exact k m1 v2 _ (by omega) hb ho hf
        · have c6 : m1 (h + 3) < nI (zwts gi 10 25 (g0 0)) + m1 (h + (7 + 6 * 3) + (nI (ord i)).toNatClampNeg) := c6
          rw [e3, e5, nI_add, nLt (by omega) (by omega)] at c6
          have hz : ztake1 gi (ord i) = gi := by unfold ztake1; rw [n0, if_neg (fun z => by have := z.2.2.2; omega)]
          rw [hz] at k
          exact k m1 v2 _ (by omega) hb ho hf
        · have c5 : m1 (h + (7 + 6 * 1) + (nI (ord i)).toNatClampNeg) = m1 (h + 4) := c5
          rw [e1, e4, nEq (by omega) (by omega)] at c5
          have c6 : ¬ m1 (h + 3) < nI (zwts gi 10 25 (g0 0)) + m1 (h + (7 + 6 * 3) + (nI (ord i)).toNatClampNeg) := c6
          rw [e3, e5, nI_add, nLt (by omega) (by omega)] at c6
          have hz : ztake1 gi (ord i) = va_up gi (13 + ord i) 10 := by unfold ztake1; rw [n0, n2, if_pos ⟨by omega, c5, by omega, by omega⟩]
          have h10 : gi (13 + ord i) ≠ 10 := by omega
          rw [hz, zcnt_up h10, zwts_up h10 (by omega) (by omega), if_pos ⟨by omega, rfl⟩, if_pos ⟨by omega, rfl⟩, ← zsub1, ← nI_add] at k
          have hfu := zfr.up (mem := m1) (b := h) (x := h + (7 + 6 * 1) + (nI (ord i)).toNatClampNeg) (v := nI 10) (by omega) (by rw [nC (by omega)]; omega)
          have hb2 := hb.set (13 + ord i) 10 (by omega) (x := h + (7 + 6 * 1) + (nI (ord i)).toNatClampNeg) (by rw [nC (by omega)]; omega)
          have e6 : upd m1 (h + (7 + 6 * 1) + (nI (ord i)).toNatClampNeg) (nI 10) (h + (7 + 6 * 3) + (nI (ord i)).toNatClampNeg) = nI (gi (25 + ord i)) := by rw [upd_ne (by omega)]; exact e5
          rw [← e6] at k
          exact k _ v2 _ (by omega) hb2 (ho.fr hfu) (hf.tr hfu)
      · have hz : ztake1 gi (ord i) = gi := by
          unfold ztake1
          rw [if_neg (fun z => by have := z.1; rw [nT (by omega)] at hx; omega)]
        rw [hz] at k
        exact k m1 v2 _ (by omega) hb ho hf
theorem ok_takeIn {o : Nat} {ord : Nat → Nat} (hd : 1 < d) (hh : zHo lk h) (hb : zHB mem h g) (wf : zWF g) (ho : zOrd X mem o ord h) (q : ∀ mem', zHB mem' h (ztakes ord g (g 0)) → zfr mem mem' h → Q none mem') : zOk X d 57 [.ref h, .ref o] mem lk L lk L Q := by
  have w0 := wf.1
  have hlt : zbits g 10 (g 0) < 64 := Nat.lt_of_lt_of_le (zbits_lt g 10 (g 0) (by omega)) (show 2 ^ g 0 ≤ 2 ^ 6 from Nat.pow_le_pow_right (by omega) w0)
  refine zOk_do 40 (tbl := tX3_takeIn) zck_57 rfl (by omega) (h := ?_)
  refine ⟨by rw [hh.k3]; rfl, ok_those (by omega) hh hb w0 wf.at11 (by omega) ⟨by rw [hh.k3]; rfl, ok_weightOf (by omega) hh hb wf hlt ⟨hh.k3, ok_bitCount (by omega) hlt ?_⟩⟩⟩
  have k := takeIn_loop (L := L) (o := o) (ord := ord) hd hh wf q (g 0) 0 mem (nI (zbits g 10 (g 0))) zU (by omega) hb ho zfr.rf
  rw [show ztakes ord g 0 = g from rfl, ← zpc_bits g 10 (g 0) w0, ← zsum_bits g 10 25 (g 0) (by omega) (g 0) (Nat.le_refl _), ← hb.k 2 (by omega)] at k
  exact k
theorem called_loop (hh : zHo lk h) (hb : zHB mem h g) (wf : zWF g) (q : Q (some (.int (nI (zcalled g)))) mem) : ∀ n i, i + n = g 0 → zE X d 58 4 [.ref h, .int (nI (zcal g i)), .int (nI i)] [] mem lk L lk L Q := by
  have w0 := wf.1
  have w1 := wf.2.2.1
  have w4 := wf.2.2.2.2.2.1
  have w3 := wf.2.2.2.2.1
  intro n
  induction n with
  | zero =>
    intro i hi
    refine zE_do 60 4 (tbl := tX3_called) zck_58 rfl (h := ?_)
    refine ⟨hh.k3, fun c => ⟨hh.k3, rfl, rfl, ?_⟩, fun c => ?_⟩
    · rw [show i = g 0 by omega]
      show Q (some (.int (nI (zcal g (g 0)) &&& (nI 1 <<< (mem (h + 4) &&& 31) ^^^ -(nI 1))))) mem
      rw [hb.k 4 (by omega), zdel_t _ (by omega) _ (zcal_lt wf _ (Nat.le_refl _))]
      exact q
    · exfalso
      have c : ¬ mem (h + 0) ≤ nI i := c
      rw [hb.k 0 (by omega), nLe (by omega) (by omega)] at c
      omega
  | succ n ih =>
    intro i hi
    have hie : i < g 0 := by omega
    obtain ⟨-, b2, b3, b4, -⟩ := wf.2.2.2.2.2.2.2.2 i hie
    have k := ih (i + 1) (by omega)
    rw [← nI_1] at k
    have e3 : mem (h + 3) = nI (g 3) := hb.k 3 (by omega)
    have e1 : mem (h + (7 + 6 * 1) + (nI i).toNatClampNeg) = nI (g (13 + i)) := by rw [nC (by omega)]; exact hb.at hie
    have e2 : mem (h + (7 + 6 * 2) + (nI i).toNatClampNeg) = nI (g (19 + i)) := by rw [nC (by omega)]; exact hb.to hie
    have e5 : mem (h + (7 + 6 * 3) + (nI i).toNatClampNeg) = nI (g (25 + i)) := by rw [nC (by omega)]; exact hb.wt hie
    have hlt := zcal_lt wf i (by omega)
    refine zE_do 60 4 (tbl := tX3_called) zck_58 rfl (h := ?_)
    refine ⟨hh.k3, fun c => ?_, fun c => ⟨hh.k3, _, hh.lk 1 (by omega), Or.inl (hh.ka 1 (by omega)), hh.inn (by omega), fun c2 => ⟨hh.k3, _, hh.lk 1 (by omega), Or.inl (hh.ka 1 (by omega)), hh.inn (by omega), fun c3 => ?_, fun c3 => ⟨hh.k3, _, hh.lk 3 (by omega), Or.inl (hh.ka 3 (by omega)), hh.inn (by omega), hh.k3, fun c4 => ?_, fun c4 => ⟨hh.k3, _, hh.lk 1 (by omega), Or.inl (hh.ka 1 (by omega)), hh.inn (by omega), ?_⟩⟩⟩, fun c2 => ⟨hh.k3, _, hh.lk 2 (by omega), Or.inl (hh.ka 2 (by omega)), hh.inn (by omega), ?_⟩⟩⟩
    · exfalso
      have c : mem (h + 0) ≤ nI i := c
      rw [hb.k 0 (by omega), nLe (by omega) (by omega)] at c
      omega
    · have c2 : ¬ mem (h + (7 + 6 * 1) + (nI i).toNatClampNeg) = nI 10 := c2
      have c3 : mem (h + (7 + 6 * 1) + (nI i).toNatClampNeg) = nI 11 := c3
      rw [e1, nEq (by omega) (by omega)] at c2 c3
      rw [show zcal g (i + 1) = zcal g i by rw [zcal, if_neg c2, if_neg (fun z => z.1 c3)]] at k
      exact k
    · have c2 : ¬ mem (h + (7 + 6 * 1) + (nI i).toNatClampNeg) = nI 10 := c2
      rw [e1, nEq (by omega) (by omega)] at c2
      have c4 : mem (h + 3) < mem (h + (7 + 6 * 3) + (nI i).toNatClampNeg) := c4
      rw [e3, e5, nLt (by omega) (by omega)] at c4
      rw [show zcal g (i + 1) = zcal g i by rw [zcal, if_neg c2, if_neg (fun z => by have := z.2; omega)]] at k
      exact k
    · have c2 : ¬ mem (h + (7 + 6 * 1) + (nI i).toNatClampNeg) = nI 10 := c2
      have c3 : ¬ mem (h + (7 + 6 * 1) + (nI i).toNatClampNeg) = nI 11 := c3
      rw [e1, nEq (by omega) (by omega)] at c2 c3
      have c4 : ¬ mem (h + 3) < mem (h + (7 + 6 * 3) + (nI i).toNatClampNeg) := c4
      rw [e3, e5, nLt (by omega) (by omega)] at c4
      rw [show zcal g (i + 1) = zcal g i ||| 2 ^ g (13 + i) by rw [zcal, if_neg c2, if_pos ⟨c3, by omega⟩], ← zor_t (g (13 + i)) (by omega) _ hlt, ← e1] at k
      exact k
    · have c2 : mem (h + (7 + 6 * 1) + (nI i).toNatClampNeg) = nI 10 := c2
      rw [e1, nEq (by omega) (by omega)] at c2
      rw [show zcal g (i + 1) = zcal g i ||| 2 ^ g (19 + i) by rw [zcal, if_pos c2], ← zor_t (g (19 + i)) (by omega) _ hlt, ← e2] at k
      exact k
theorem ok_called (hd : 0 < d) (hh : zHo lk h) (hb : zHB mem h g) (wf : zWF g) (q : Q (some (.int (nI (zcalled g)))) mem) : zOk X d 58 [.ref h] mem lk L lk L Q := by
  refine zOk_do 20 (tbl := tX3_called) zck_58 rfl (by omega) (h := ?_)
  exact called_loop hh hb wf q (g 0) 0 (by omega)
end HP
end
section
/-! rows up to the next head of a loop or the next of some places -/
def zwpc (X d y : Nat) (lkf : zLk) (Lf : List Nat) (Q : Option Value → zMem → Prop) (tbl : List zR) (cs : List Nat) : Nat → zK
  | 0, [], _, _, _, _, _ => False
  | 0, r :: _, ls, st, mem, lk, L => zE X d y r.1 ls st mem lk L lkf Lf Q
  | _ + 1, [], _, _, _, _, _ => False
  | n + 1, r :: nxt, ls, st, mem, lk, L => match r.2.2.2.1, cs.any (fun c => Nat.beq c r.1) with
    | 0, false => zst X d lkf Lf Q tbl (zwpc X d y lkf Lf Q tbl cs n) (fun a ls st mem lk L => zE X d y a ls st mem lk L lkf Lf Q) r nxt ls st mem lk L
    | _, _ => zE X d y r.1 ls st mem lk L lkf Lf Q
section ZSC
variable {X d y : Nat} {lkf : zLk} {Lf : List Nat} {Q : Option Value → zMem → Prop}
theorem zwpc_0 {tbl : List zR} {cs : List Nat} (n : Nat) : ∀ ls st mem lk L, ¬ zwpc X d y lkf Lf Q tbl cs n [] ls st mem lk L := fun ls st mem lk L q => by cases n <;> exact q
theorem zwpc_E (hck : zchk y = true) {cs : List Nat} : ∀ (n : Nat) (r : zR) (nxt : List zR) (ls st : List Value) (mem : zMem) (lk : zLk) (L : List Nat), (r :: nxt) <:+ zmT y → zwpc X d y lkf Lf Q (zmT y) cs n (r :: nxt) ls st mem lk L → zE X d y r.1 ls st mem lk L lkf Lf Q
  | 0, r, nxt, ls, st, mem, lk, L, _, h => h
  | n + 1, r, nxt, ls, st, mem, lk, L, hs, h => by
    unfold zwpc at h
    split at h
    · exact zst_E hck (fun r' nxt' ls' st' mem' lk' L' hs' q => zwpc_E hck n r' nxt' ls' st' mem' lk' L' hs' q) (zwpc_0 n) hs h
    · exact h
theorem zgoc {tbl : List zR} (cs : List Nat) (n pc : Nat) (hck : zchk y = true) (ht : zmT y = tbl) {r : zR} {nxt : List zR} {ls st : List Value} {mem : zMem} {lk : zLk} {L : List Nat} (hf : zfrom tbl pc = r :: nxt := by rfl)
    (h : zst X d lkf Lf Q tbl (zwpc X d y lkf Lf Q tbl cs n) (fun a ls st mem lk L => zE X d y a ls st mem lk L lkf Lf Q) r nxt ls st mem lk L) : zE X d y pc ls st mem lk L lkf Lf Q := by
  subst ht
  obtain ⟨f1, f2⟩ := zfrom_ok (zmT y) pc
  rw [hf] at f1
  rw [← f2 r nxt hf]
  exact zst_E hck (fun r' nxt' ls' st' mem' lk' L' hs' q => zwpc_E hck n r' nxt' ls' st' mem' lk' L' hs' q) (zwpc_0 n) f1 h
theorem zOk_doc {as : List Value} {mem : zMem} {lk : zLk} {L : List Nat} {tbl : List zR} (cs : List Nat) (n : Nat) (hck : zchk y = true) (ht : zmT y = tbl) (hd : 0 < d) (hm : zmlB y = true := by rfl) (hsz : (zargs as).length ≤ zmL y := by exact Nat.le_of_ble_eq_true rfl) {r : zR} {nxt : List zR} (hf : zfrom tbl 0 = r :: nxt := by rfl)
    (h : zst X d lk L Q tbl (zwpc X d y lk L Q tbl cs n) (fun a ls st mem' lk' L' => zE X d y a ls st mem' lk' L' lk L Q) r nxt (zpad (zmL y) (zargs as)) [] mem lk L) : zOk X d y as mem lk L lk L Q :=
  zOk_of (zmkB_ok (zmk_in hm)).1 (zmkB_ok (zmk_in hm)).2.1 hd (Nat.le_refl _) hsz (zgoc cs n 0 hck ht (h := h) (hf := hf))
end ZSC
/-! DishLift$House: goOn, pass -/
theorem zabv_t : ∀ f, f < 9 → ∀ c, c < 512 → nI c >>> (nI f &&& 31) = nI (c / 2 ^ f) := by decide +kernel
theorem zblw_t : ∀ f, f < 9 → ∀ c, c < 512 → nI c &&& (nI 1 <<< (nI f &&& 31) - nI 1) = nI (c % 2 ^ f) := by decide +kernel
theorem zdel_t2 : ∀ f, f < 9 → ∀ a, a < 512 → zdel a f / 2 ^ f ≠ 0 → 2 ^ (f + 1) ≤ zdel a f := by decide +kernel
theorem zdel_le (a f : Nat) : zdel a f ≤ a := by
  unfold zdel
  split
  · exact Nat.sub_le _ _
  · exact Nat.le_refl _
theorem zcal_lt2 {g : zH} (w : zWF g) : ∀ i, i ≤ g 0 → zcal g i < 2 ^ g 1
  | 0, _ => Nat.pow_pos (by omega)
  | i + 1, h => by
    have ih := zcal_lt2 w i (by omega)
    obtain ⟨c1, c2, c3, c4, c5⟩ := w.2.2.2.2.2.2.2.2 i (by omega)
    have p9 : ∀ k, k < g 1 → 2 ^ k < 2 ^ g 1 := fun k hk => Nat.pow_lt_pow_right (by omega) hk
    unfold zcal
    split
    · exact Nat.or_lt_two_pow ih (p9 _ (by omega))
    · split
      · exact Nat.or_lt_two_pow ih (p9 _ (by omega))
      · exact ih
theorem zcalled_up {g : zH} (w : zWF g) (h : zcalled g / 2 ^ g 4 ≠ 0) : g 4 + 1 < g 1 := by
  have w1 := w.2.2.1
  have w4 := w.2.2.2.2.2.1
  have h1 := zdel_t2 (g 4) (by omega) _ (zcal_lt w _ (Nat.le_refl _)) h
  have h2 : zcalled g < 2 ^ g 1 := Nat.lt_of_le_of_lt (zdel_le _ _) (zcal_lt2 w _ (Nat.le_refl _))
  exact (Nat.pow_lt_pow_iff_right (a := 2) (by omega)).mp (Nat.lt_of_le_of_lt h1 h2)
theorem zdm {c z : Nat} (h : c ≠ 0) (h1 : c / z = 0) (h2 : c % z = 0) : False := by
  have := Nat.div_add_mod c z
  rw [h1, h2] at this
  omega
theorem zway_ok {g : zH} (w : zWF g) (h : zcalled g ≠ 0) : zway g ≤ 1 ∧ (zway g = 1 → g 4 + 1 < g 1) ∧ (zway g = 0 → 1 ≤ g 4) := by
  have hb : zcalled g % 2 ^ g 4 ≠ 0 → 1 ≤ g 4 := fun q => by
    rcases Nat.eq_zero_or_pos (g 4) with e | e
    · rw [e] at q; simp at q; omega
    · exact e
  unfold zway
  split
  · split
    · rename_i c; exact ⟨by omega, fun q => by omega, fun _ => hb (fun q => zdm h c q)⟩
    · rename_i c; exact ⟨by omega, fun _ => zcalled_up w c, fun q => by omega⟩
  · split
    · rename_i c; exact ⟨by omega, fun _ => zcalled_up w (fun q => zdm h q c), fun q => by omega⟩
    · rename_i c; exact ⟨by omega, fun q => by omega, fun _ => hb c⟩
theorem zmove_wf {g : zH} (w : zWF g) : zWF (zmove g) := by
  unfold zmove
  split
  · exact w
  · rename_i c
    obtain ⟨h1, h2, h3⟩ := zway_ok w c
    have w4 := w.2.2.2.2.2.1
    refine (w.s5 h1).s4 ?_
    rw [zup_ne (by omega)]
    split
    · exact h2 (by assumption)
    · omega
theorem zmove_ne {g : zH} {j : Nat} (h4 : j ≠ 4) (h5 : j ≠ 5) : zmove g j = g j := by
  unfold zmove
  split
  · rfl
  · rw [zup_ne h4, zup_ne h5]
section HP
variable {X d : Nat} {mem : zMem} {lk : zLk} {L : List Nat} {Q : Option Value → zMem → Prop} {h : Nat} {g : zH}
theorem nm1 {n : Nat} (h : 1 ≤ n) : nI n + -(nI 1) = nI (n - 1) := by
  have := pk_m1 (n - 1)
  rw [show n - 1 + 1 = n by omega] at this
  exact this
/-- the end of goOn: the way is known, the car goes -/
theorem goOn_end {v1 v2 v3 : Value} (hh : zHo lk h) (hb : zHB mem h g) (w5 : g 5 ≤ 1) (h0 : g 5 = 0 → 1 ≤ g 4) (h4 : g 4 < 1000) (q : ∀ mem', zHB mem' h (va_up g 4 (if g 5 = 1 then g 4 + 1 else g 4 - 1)) → zfr mem mem' h → Q (some (.int (nI 1))) mem') : zE X d 59 62 [.ref h, v1, v2, v3] [] mem lk L lk L Q := by
  have e4 : mem (h + 4) = nI (g 4) := hb.k 4 (by omega)
  have e5 : mem (h + 5) = nI (g 5) := hb.k 5 (by omega)
  refine zE_do 40 62 (tbl := tX3_goOn) zck_59 rfl (h := ?_)
  refine ⟨hh.k3, hh.k3, fun c => ⟨hh.k3, rfl, rfl, rfl, ?_⟩, fun c => ⟨hh.k3, rfl, rfl, rfl, ?_⟩⟩
  · have c : ¬ mem (h + 5) = nI 1 := c
    rw [e5, nEq (by omega) (by omega)] at c
    show Q (some (.int (nI 1))) (upd mem (h + 4) (mem (h + 4) + -(nI 1)))
    refine q _ ?_ (zfr.up (by omega) (by omega))
    rw [e4, if_neg c, nm1 (h0 (by omega))]
    exact hb.set 4 _ (by omega) rfl
  · have c : mem (h + 5) = nI 1 := c
    rw [e5, nEq (by omega) (by omega)] at c
    show Q (some (.int (nI 1))) (upd mem (h + 4) (mem (h + 4) + nI 1))
    refine q _ ?_ (zfr.up (by omega) (by omega))
    rw [e4, if_pos c, nI_add]
    exact hb.set 4 _ (by omega) rfl
theorem ok_goOn (hd : 1 < d) (hh : zHo lk h) (hb : zHB mem h g) (wf : zWF g) (q1 : zcalled g ≠ 0 → ∀ mem', zHB mem' h (zmove g) → zfr mem mem' h → Q (some (.int (nI 1))) mem') (q0 : zcalled g = 0 → Q (some (.int (nI 0))) mem) : zOk X d 59 [.ref h] mem lk L lk L Q := by
  have w0 := wf.1
  have w1 := wf.2.2.1
  have w4 := wf.2.2.2.2.2.1
  have w5 := wf.2.2.2.2.2.2.1
  have hlt := zcalled_lt wf
  have e4 : mem (h + 4) = nI (g 4) := hb.k 4 (by omega)
  have e5 : mem (h + 5) = nI (g 5) := hb.k 5 (by omega)
  refine zOk_doc [62] 40 (tbl := tX3_goOn) zck_59 rfl (by omega) (h := ?_)
  refine ⟨by rw [hh.k3]; rfl, ok_called (by omega) hh hb wf ⟨fun c => ?_, fun c => ⟨rfl, rfl, rfl, ?_⟩⟩⟩
  · rw [n0 (by omega)] at c
    obtain ⟨k1, k2, k3⟩ := zway_ok wf c
    have hmv : zmove g = va_up (va_up g 5 (zway g)) 4 (if zway g = 1 then g 4 + 1 else g 4 - 1) := by unfold zmove; rw [if_neg c]
    have q1 := q1 c
    rw [hmv] at q1
    have key : ∀ m1, zHB m1 h (va_up g 5 (zway g)) → zfr mem m1 h → ∀ v1 v2 v3, zE X d 59 62 [.ref h, v1, v2, v3] [] m1 lk L lk L Q := fun m1 hb1 hf1 v1 v2 v3 =>
      goOn_end (g := va_up g 5 (zway g)) hh hb1 (by rw [zup_eq]; exact k1) (fun z => by rw [zup_eq] at z; rw [zup_ne (by omega)]; exact k3 z) (by rw [zup_ne (by omega)]; omega) (fun m2 hb2 hf2 => q1 m2 (by rw [zup_eq, zup_ne (by omega)] at hb2; exact hb2) (hf1.tr hf2))
    refine ⟨hh.k3, hh.k3, hh.k3, fun c2 => ⟨fun c3 => ?_, fun c3 => ⟨hh.k3, fun c4 => ⟨hh.k3, ?_⟩, fun c4 => ?_⟩⟩, fun c2 => ⟨fun c3 => ?_, fun c3 => ⟨hh.k3, fun c4 => ?_, fun c4 => ⟨hh.k3, ?_⟩⟩⟩⟩
    · have c2 : ¬ mem (h + 5) = nI 1 := c2
      rw [e5, nEq (by omega) (by omega)] at c2
      have c3 : ¬ nI (zcalled g) &&& (nI 1 <<< (mem (h + 4) &&& 31) - nI 1) = 0 := c3
      have hm := Nat.mod_le (zcalled g) (2 ^ g 4)
      rw [e4, zblw_t _ (by omega) _ hlt, n0 (by omega)] at c3
      refine key mem ?_ zfr.rf _ _ _
      rw [zup_self (show g 5 = zway g by unfold zway; rw [if_neg c2, if_neg c3]; omega)]
      exact hb
    · have c2 : ¬ mem (h + 5) = nI 1 := c2
      rw [e5, nEq (by omega) (by omega)] at c2
      have c3 : nI (zcalled g) &&& (nI 1 <<< (mem (h + 4) &&& 31) - nI 1) = 0 := c3
      have hm := Nat.mod_le (zcalled g) (2 ^ g 4)
      rw [e4, zblw_t _ (by omega) _ hlt, n0 (by omega)] at c3
      refine key _ ?_ (zfr.up (x := h + 5) (v := nI 1) (by omega) (by omega)) _ _ _
      rw [show zway g = 1 by unfold zway; rw [if_neg c2, if_pos c3]]
      exact hb.set 5 1 (by omega) rfl
    · exact absurd c4 c2
    · have c2 : mem (h + 5) = nI 1 := c2
      rw [e5, nEq (by omega) (by omega)] at c2
      have c3 : ¬ nI (zcalled g) >>> (mem (h + 4) &&& 31) = 0 := c3
      have hm := Nat.div_le_self (zcalled g) (2 ^ g 4)
      rw [e4, zabv_t _ (by omega) _ hlt, n0 (by omega)] at c3
      refine key mem ?_ zfr.rf _ _ _
      rw [zup_self (show g 5 = zway g by unfold zway; rw [if_pos c2, if_neg c3]; omega)]
      exact hb
    · exact absurd c2 c4
    · have c2 : mem (h + 5) = nI 1 := c2
      rw [e5, nEq (by omega) (by omega)] at c2
      have c3 : nI (zcalled g) >>> (mem (h + 4) &&& 31) = 0 := c3
      have hm := Nat.div_le_self (zcalled g) (2 ^ g 4)
      rw [e4, zabv_t _ (by omega) _ hlt, n0 (by omega)] at c3
      refine key _ ?_ (zfr.up (x := h + 5) (v := nI 0) (by omega) (by omega)) _ _ _
      rw [show zway g = 0 by unfold zway; rw [if_pos c2, if_pos c3]]
      exact hb.set 5 0 (by omega) rfl
  · rw [n0 (by omega)] at c
    exact q0 c
theorem pass_loop {went : Prop} [Decidable went] {v : Nat} {o : Nat} {v2 : Value} (hv : v = if went then 1 else 0) (hd : 2 < d) (hh : zHo lk h) {g0 : zH} (wf : zWF g0) (h6 : g0 6 ≤ 1000000) (q : ∀ mem', zHB mem' h (va_up (zages went g0 (g0 0)) 6 (g0 6 + 1)) → zfr mem mem' h → Q none mem') : ∀ n i m1, i + n = g0 0 → zHB m1 h (zages went g0 i) → zfr mem m1 h → zE X d 55 23 [.ref h, .ref o, v2, .int (nI v), .int (nI i)] [] m1 lk L lk L Q := by
  have w0 := wf.1
  intro n
  induction n with
  | zero =>
    intro i m1 hi hb hf
    have n00 : zages went g0 i 0 = g0 0 := zages_0 (by omega) i
    have n6 : zages went g0 i 6 = g0 6 := zages_0 (by omega) i
    refine zE_do 40 23 (tbl := tX3_pass) zck_55 rfl (h := ?_)
    refine ⟨hh.k3, fun c => ⟨hh.k3, hh.k3, rfl, rfl, ?_⟩, fun c => ?_⟩
    · show Q none (upd m1 (h + 6) (m1 (h + 6) + nI 1))
      rw [hb.k 6 (by omega), n6, nI_add]
      refine q _ ?_ (hf.tr (zfr.up (by omega) (by omega)))
      rw [show i = g0 0 by omega] at hb
      exact hb.set 6 _ (by omega) rfl
    · exfalso
      have c : ¬ m1 (h + 0) ≤ nI i := c
      rw [hb.k 0 (by omega), n00, nLe (by omega) (by omega)] at c
      omega
  | succ n ih =>
    intro i m1 hi hb hf
    have n00 : zages went g0 i 0 = g0 0 := zages_0 (by omega) i
    have wi := zages_wf (went := went) wf i (by omega)
    have k := ih (i + 1)
    have hnext : zages went g0 (i + 1) = if zages went g0 i (13 + i) = 11 then zages went g0 i else zage (zages went g0 i) i (went ∧ zages went g0 i (13 + i) = 10) := rfl
    rw [hnext, ← nI_1] at k
    generalize zages went g0 i = gi at hb n00 wi k
    have hie : i < gi 0 := by omega
    have w11 := wi.at11 i hie
    have e1 : m1 (h + (7 + 6 * 1) + (nI i).toNatClampNeg) = nI (gi (13 + i)) := by rw [nC (by omega)]; exact hb.at hie
    have hvv : v ≤ 1 := by rw [hv]; split <;> omega
    refine zE_do 40 23 (tbl := tX3_pass) zck_55 rfl (h := ?_)
    refine ⟨hh.k3, fun c => ?_, fun c => ⟨hh.k3, _, hh.lk 1 (by omega), Or.inl (hh.ka 1 (by omega)), hh.inn (by omega), fun c2 => ?_, fun c2 => ⟨fun c3 => ⟨by rw [hh.k3]; rfl, ?_⟩, fun c3 => ⟨hh.k3, _, hh.lk 1 (by omega), Or.inl (hh.ka 1 (by omega)), hh.inn (by omega), fun c4 => ⟨by rw [hh.k3]; rfl, ?_⟩, fun c4 => ⟨by rw [hh.k3]; rfl, ?_⟩⟩⟩⟩⟩
    · exfalso
      have c : m1 (h + 0) ≤ nI i := c
      rw [hb.k 0 (by omega), n00, nLe (by omega) (by omega)] at c
      omega
    · have c2 : m1 (h + (7 + 6 * 1) + (nI i).toNatClampNeg) = nI 11 := c2
      rw [e1, nEq (by omega) (by omega)] at c2
      exact k m1 (by omega) (by rw [if_pos c2]; exact hb) hf
    · have c2 : ¬ m1 (h + (7 + 6 * 1) + (nI i).toNatClampNeg) = nI 11 := c2
      rw [e1, nEq (by omega) (by omega)] at c2
      have c3 : nI v = 0 := c3
      rw [n0 (by omega), hv] at c3
      have hw : ¬ went := fun z => by rw [if_pos z] at c3; omega
      exact ok_age (sh := went ∧ gi (13 + i) = 10) (v := 0) (by rw [if_neg (fun z => hw z.1)]) (by omega) hh hb wi hie (fun m2 hb2 hf2 => k m2 (by omega) (by rw [if_neg c2]; exact hb2) (hf.tr hf2))
    · have c2 : ¬ m1 (h + (7 + 6 * 1) + (nI i).toNatClampNeg) = nI 11 := c2
      have c4 : ¬ m1 (h + (7 + 6 * 1) + (nI i).toNatClampNeg) = nI 10 := c4
      rw [e1, nEq (by omega) (by omega)] at c2 c4
      exact ok_age (sh := went ∧ gi (13 + i) = 10) (v := 0) (by rw [if_neg (fun z => c4 z.2)]) (by omega) hh hb wi hie (fun m2 hb2 hf2 => k m2 (by omega) (by rw [if_neg c2]; exact hb2) (hf.tr hf2))
    · have c2 : ¬ m1 (h + (7 + 6 * 1) + (nI i).toNatClampNeg) = nI 11 := c2
      have c4 : m1 (h + (7 + 6 * 1) + (nI i).toNatClampNeg) = nI 10 := c4
      rw [e1, nEq (by omega) (by omega)] at c2 c4
      have c3 : ¬ nI v = 0 := c3
      rw [n0 (by omega), hv] at c3
      have hw : went := Decidable.byContradiction fun z => by rw [if_neg z] at c3; omega
      exact ok_age (sh := went ∧ gi (13 + i) = 10) (v := 1) (by rw [if_pos ⟨hw, c4⟩]) (by omega) hh hb wi hie (fun m2 hb2 hf2 => k m2 (by omega) (by rw [if_neg c2]; exact hb2) (hf.tr hf2))
/-- a minute -/
theorem ok_pass {o : Nat} {ord : Nat → Nat} (hd : 2 < d) (hh : zHo lk h) (hb : zHB mem h g) (wf : zWF g) (h6 : g 6 ≤ 1000000) (ho : zOrd X mem o ord h) (q : ∀ mem', zHB mem' h (zpass ord g) → zfr mem mem' h → Q none mem') : zOk X d 55 [.ref h, .ref o, .int (nI 0)] mem lk L lk L Q := by
  have w0 := wf.1
  have wl := zlets_wf wf (g 0) w0
  have l0 : zlets g (g 0) 0 = g 0 := zlets_ne (by omega) _ w0
  have l6 : zlets g (g 0) 6 = g 6 := zlets_ne (by omega) _ w0
  have wt := ztakes_wf (ord := ord) wl (g 0)
  have t0 : ztakes ord (zlets g (g 0)) (g 0) 0 = g 0 := by rw [ztakes_ne (by omega) (by omega)]; exact l0
  have t6 : ztakes ord (zlets g (g 0)) (g 0) 6 = g 6 := by rw [ztakes_ne (by omega) (by omega)]; exact l6
  unfold zpass at q
  dsimp only at q
  have wm := zmove_wf wt
  have m0 : zmove (ztakes ord (zlets g (g 0)) (g 0)) 0 = g 0 := by rw [zmove_ne (by omega) (by omega)]; exact t0
  have m6 : zmove (ztakes ord (zlets g (g 0)) (g 0)) 6 = g 6 := by rw [zmove_ne (by omega) (by omega)]; exact t6
  rw [zages_0 (by omega), m6] at q
  refine zOk_do 40 (tbl := tX3_pass) zck_55 rfl (by omega) (h := ?_)
  refine ⟨fun c => absurd rfl c, fun _ => ⟨by rw [hh.k3]; rfl, ok_letOut (by omega) hh hb wf (fun m1 hb1 hf1 => ⟨by rw [hh.k3]; rfl, ok_takeIn (by omega) hh hb1 wl (ho.fr hf1) (fun m2 hb2 hf2 => ⟨by rw [hh.k3]; rfl, ?_⟩)⟩)⟩⟩
  rw [l0] at hb2
  refine ok_goOn (by omega) hh hb2 wt (fun hz m3 hb3 hf3 => ?_) (fun hz => ?_)
  · have k := pass_loop (X := X) (d := d) (mem := mem) (lk := lk) (L := L) (Q := Q) (h := h) (went := zcalled (ztakes ord (zlets g (g 0)) (g 0)) ≠ 0) (v := 1) (o := o) (v2 := .int (nI 0)) (by rw [if_pos hz]) hd hh wm (by omega) (by rw [m0, m6]; exact q) (g 0) 0 m3 (by omega) hb3 ((hf1.tr hf2).tr hf3)
    exact k
  · have hmv : zmove (ztakes ord (zlets g (g 0)) (g 0)) = ztakes ord (zlets g (g 0)) (g 0) := by unfold zmove; rw [if_pos hz]
    have k := pass_loop (X := X) (d := d) (mem := mem) (lk := lk) (L := L) (Q := Q) (h := h) (went := zcalled (ztakes ord (zlets g (g 0)) (g 0)) ≠ 0) (v := 0) (o := o) (v2 := .int (nI 0)) (by rw [if_neg (fun z => z hz)]) hd hh wm (by omega) (by rw [m0, m6]; exact q) (g 0) 0 m2 (by omega) (by rw [hmv]; exact hb2) (hf1.tr hf2)
    exact k
/-- a minute in which the rope sticks -/
theorem ok_passStuck {o : Nat} (hd : 2 < d) (hh : zHo lk h) (hb : zHB mem h g) (wf : zWF g) (h6 : g 6 ≤ 1000000) (q : ∀ mem', zHB mem' h (zstuck g) → zfr mem mem' h → Q none mem') : zOk X d 55 [.ref h, .ref o, .int (nI 1)] mem lk L lk L Q := by
  refine zOk_do 40 (tbl := tX3_pass) zck_55 rfl (by omega) (h := ?_)
  refine ⟨fun _ => ?_, fun c => absurd c (by decide)⟩
  exact pass_loop (went := False) (v := 0) (by rw [if_neg (fun z => z)]) hd hh wf h6 q (g 0) 0 mem (by omega) hb zfr.rf
end HP
end
section
/-! the reference: small methods, and reading a row of w -/
theorem cmp_lt (x z : Int64) : lg_cmp x z < 0 ↔ x.toInt < z.toInt := by
  unfold lg_cmp
  by_cases h : x > z
  · rw [if_pos h]
    rw [gt_iff_lt, Int64.lt_iff_toInt_lt] at h
    constructor
    · intro q; exact absurd q (by decide)
    · intro q; omega
  · rw [if_neg h]
    by_cases h2 : x = z
    · subst h2
      rw [if_pos rfl]
      constructor
      · intro q; exact absurd q (by decide)
      · intro q; omega
    · rw [if_neg h2]
      rw [gt_iff_lt, Int64.lt_iff_toInt_lt] at h
      rw [← Int64.toInt_inj] at h2
      constructor
      · intro _; omega
      · intro _; decide
theorem cmp_gt (x z : Int64) : 0 < lg_cmp x z ↔ z.toInt < x.toInt := by
  unfold lg_cmp
  by_cases h : x > z
  · rw [if_pos h]
    rw [gt_iff_lt, Int64.lt_iff_toInt_lt] at h
    constructor
    · intro _; exact h
    · intro _; decide
  · rw [if_neg h]
    rw [gt_iff_lt, Int64.lt_iff_toInt_lt] at h
    by_cases h2 : x = z
    · subst h2
      rw [if_pos rfl]
      constructor
      · intro q; exact absurd q (by decide)
      · intro q; omega
    · rw [if_neg h2]
      constructor
      · intro q; exact absurd q (by decide)
      · intro q; omega
theorem l_T {n : Nat} (h : n < 2147483648) : (lN n).toInt = (n : Int) := lN_toInt h
theorem il_T (x : Int32) : x.toInt64.toInt = x.toInt := by simp
/-- the reference's objects -/
def zML (lk : zLk) : Prop := lk 1000 = some 2000 ∧ lk 1002 = some 3300 ∧ lk 1006 = some 3420 ∧ lk 1007 = some 3430 ∧ lk 1008 = some 3440 ∧ lk 1009 = some 3760 ∧ lk 1013 = some 3800 ∧ lk 1014 = some 3810 ∧ lk 1015 = some 3820 ∧ lk 1016 = some 3870 ∧ lk 1017 = some 3880
theorem zw1 {r k : Nat} (h : r + k < 1247) : (nI r + nI k).toNatClampNeg = r + k := by rw [nI_add]; exact nC (by omega)
theorem zw2 {r f e : Nat} (h : r + f + e < 1247) : (nI r + nI f + nI e).toNatClampNeg = r + f + e := by rw [nI_add, nI_add]; exact nC (by omega)
theorem zwi1 {X r k : Nat} (h : r + k < 1247) : vp_in (nI r + nI k) (ln X 2000) := by rw [nI_add]; exact vp_in_nI h (by show 1247 < 2 ^ 31; decide)
theorem zwi2 {X r f e : Nat} (h : r + f + e < 1247) : vp_in (nI r + nI f + nI e) (ln X 2000) := by rw [nI_add, nI_add]; exact vp_in_nI h (by show 1247 < 2 ^ 31; decide)
theorem zwi0 {X k : Nat} (h : k < 1247) : vp_in (nI k) (ln X 2000) := vp_in_nI h (by show 1247 < 2 ^ 31; decide)
section MD
variable {X d : Nat} {mem : zMem} {lk : zLk} {L : List Nat} {Q : Option Value → zMem → Prop} {r : Nat} {g : zH}
theorem ok_in {v lo hi : Int64} (hd : 0 < d) (q1 : lo.toInt ≤ v.toInt → v.toInt ≤ hi.toInt → Q (some (.int (nI 1))) mem) (q0 : v.toInt < lo.toInt ∨ hi.toInt < v.toInt → Q (some (.int (nI 0))) mem) : zOk X d 132 [.long v, .long lo, .long hi] mem lk L lk L Q := by
  refine zOk_do 20 (tbl := tX8_in) zck_132 rfl hd (h := ?_)
  refine ⟨fun c => ⟨rfl, rfl, rfl, q0 (Or.inl ((cmp_lt _ _).mp c))⟩, fun c => ⟨fun c2 => ⟨rfl, rfl, rfl, q0 (Or.inr ((cmp_gt _ _).mp c2))⟩, fun c2 => ⟨rfl, rfl, rfl, q1 ?_ ?_⟩⟩⟩
  · exact Int.not_lt.mp (fun z => c ((cmp_lt _ _).mpr z))
  · exact Int.not_lt.mp (fun z => c2 ((cmp_gt _ _).mpr z))
theorem ok_has {b i : Nat} (hd : 0 < d) (hb : b < 64) (hi : i < 6) (q1 : b / 2 ^ i % 2 = 1 → Q (some (.int (nI 1))) mem) (q0 : b / 2 ^ i % 2 = 0 → Q (some (.int (nI 0))) mem) : zOk X d 133 [.int (nI b), .int (nI i)] mem lk L lk L Q := by
  refine zOk_do 20 (tbl := tX8_has) zck_133 rfl hd (h := ?_)
  refine ⟨fun c => ⟨rfl, rfl, rfl, ?_⟩, fun c => ⟨rfl, rfl, rfl, ?_⟩⟩
  · have c : ¬ (nI b >>> (nI i &&& 31)) &&& nI 1 = nI 1 := c
    rw [zsh_t i hi b hb, nEq (by omega) (by omega)] at c
    exact q0 (by omega)
  · have c : (nI b >>> (nI i &&& 31)) &&& nI 1 = nI 1 := c
    rw [zsh_t i hi b hb, nEq (by omega) (by omega)] at c
    exact q1 c
def zon (b : Nat) : Nat → Nat
  | 0 => 0
  | i + 1 => zon b i + b / 2 ^ i % 2
theorem zon_pc : ∀ b, b < 64 → zon b 6 = zpc b := by decide +kernel
theorem ones_loop {b : Nat} (hb : b < 64) (q : Q (some (.int (nI (zon b 6)))) mem) : ∀ n i, i + n = 6 → zE X d 134 4 [.int (nI b), .int (nI (zon b i)), .int (nI i)] [] mem lk L lk L Q := by
  intro n
  induction n with
  | zero =>
    intro i hi
    refine zE_do 30 4 (tbl := tX8_ones) zck_134 rfl (h := ?_)
    refine ⟨fun c => ⟨rfl, rfl, ?_⟩, fun c => ?_⟩
    · rw [show i = 6 by omega]; exact q
    · exfalso
      rw [nLe (by omega) (by omega)] at c
      omega
  | succ n ih =>
    intro i hi
    have k := ih (i + 1) (by omega)
    rw [← nI_1, show zon b (i + 1) = zon b i + b / 2 ^ i % 2 from rfl, ← nI_add, ← zsh_t i (by omega) b hb] at k
    refine zE_do 30 4 (tbl := tX8_ones) zck_134 rfl (h := ?_)
    refine ⟨fun c => ?_, fun c => k⟩
    exfalso
    rw [nLe (by omega) (by omega)] at c
    omega
theorem ok_ones {b : Nat} (hd : 0 < d) (hb : b < 64) (q : Q (some (.int (nI (zpc b)))) mem) : zOk X d 134 [.int (nI b)] mem lk L lk L Q := by
  refine zOk_do 20 (tbl := tX8_ones) zck_134 rfl hd (h := ?_)
  rw [← zon_pc b hb] at q
  exact ones_loop hb q 6 0 (by omega)
theorem ok_misHouse (hd : 0 < d) (hw : lk 1000 = some 2000) (hb : zHB mem 2000 g) (hn : g 0 ≤ 6) (q1 : 0 < g 0 → Q (some (.int (nI 1))) mem) (q0 : g 0 = 0 → Q (some (.int (nI 0))) mem) : zOk X d 138 [.ref 1000] mem lk L lk L Q := by
  refine zOk_do 20 (tbl := tX8_isHouse) zck_138 rfl hd (h := ?_)
  have e0 : mem (2000 + (nI 0).toNatClampNeg) = nI (g 0) := hb.k 0 (by omega)
  refine ⟨rfl, _, hw, Or.inl rfl, zwi0 (by omega), fun c => ⟨rfl, rfl, rfl, ?_⟩, fun c => ⟨rfl, rfl, rfl, ?_⟩⟩
  · have c : mem (2000 + (nI 0).toNatClampNeg) ≤ 0 := c
    rw [e0, show (0 : Int32) = nI 0 from rfl, nLe (by omega) (by omega)] at c
    exact q0 (by omega)
  · have c : ¬ mem (2000 + (nI 0).toNatClampNeg) ≤ 0 := c
    rw [e0, show (0 : Int32) = nI 0 from rfl, nLe (by omega) (by omega)] at c
    exact q1 (by omega)
theorem ok_misDish {x : Int32} (hd : 1 < d) (hw : lk 1000 = some 2000) (hb : zHB mem 2000 g) (hn : g 0 ≤ 6) (q1 : ∀ e, e < g 0 → x = nI e → Q (some (.int (nI 1))) mem) (q0 : (x.toInt < 0 ∨ (g 0 : Int) ≤ x.toInt) → Q (some (.int (nI 0))) mem) : zOk X d 136 [.ref 1000, .int x] mem lk L lk L Q := by
  refine zOk_do 20 (tbl := tX8_isDish) zck_136 rfl (by omega) (h := ?_)
  have e0 : mem (2000 + (nI 0).toNatClampNeg) = nI (g 0) := hb.k 0 (by omega)
  refine ⟨rfl, _, hw, Or.inl rfl, zwi0 (by omega), ?_⟩
  show zOk X (d - 1) 132 [.long x.toInt64, .long (lN 0), .long (mem (2000 + (nI 0).toNatClampNeg) - nI 1).toInt64] mem lk L lk L _
  rw [e0]
  refine ok_in (by omega) (fun c1 c2 => ?_) (fun c => ?_)
  · rw [il_T, l_T (by omega)] at c1
    rw [il_T, il_T, pk_sub_toInt (by omega) (by omega)] at c2
    refine ⟨rfl, rfl, rfl, ?_⟩
    rcases zix x (n := g 0) (by omega) with ⟨j, hj, e⟩ | q
    · exact q1 j hj e
    · omega
  · rw [il_T, l_T (by omega), il_T, pk_sub_toInt (by omega) (by omega)] at c
    exact ⟨rfl, rfl, rfl, q0 (by omega)⟩
theorem ok_misFloor {x : Int32} (hd : 1 < d) (hw : lk 1000 = some 2000) (hb : zHB mem 2000 g) (hn : g 1 ≤ 9) (q1 : ∀ e, e < g 1 → x = nI e → Q (some (.int (nI 1))) mem) (q0 : (x.toInt < 0 ∨ (g 1 : Int) ≤ x.toInt) → Q (some (.int (nI 0))) mem) : zOk X d 137 [.ref 1000, .int x] mem lk L lk L Q := by
  refine zOk_do 20 (tbl := tX8_isFloor) zck_137 rfl (by omega) (h := ?_)
  have e0 : mem (2000 + (nI 1).toNatClampNeg) = nI (g 1) := hb.k 1 (by omega)
  refine ⟨rfl, _, hw, Or.inl rfl, zwi0 (by omega), ?_⟩
  show zOk X (d - 1) 132 [.long x.toInt64, .long (lN 0), .long (mem (2000 + (nI 1).toNatClampNeg) - nI 1).toInt64] mem lk L lk L _
  rw [e0]
  refine ok_in (by omega) (fun c1 c2 => ?_) (fun c => ?_)
  · rw [il_T, l_T (by omega)] at c1
    rw [il_T, il_T, pk_sub_toInt (by omega) (by omega)] at c2
    refine ⟨rfl, rfl, rfl, ?_⟩
    rcases zix x (n := g 1) (by omega) with ⟨j, hj, e⟩ | q
    · exact q1 j hj e
    · omega
  · rw [il_T, l_T (by omega), il_T, pk_sub_toInt (by omega) (by omega)] at c
    exact ⟨rfl, rfl, rfl, q0 (by omega)⟩
theorem ok_misRow {x : Int32} (hd : 1 < d) (q1 : ∀ e, e < 8 → x = nI e → Q (some (.int (nI 1))) mem) (q0 : (x.toInt < 0 ∨ 8 ≤ x.toInt) → Q (some (.int (nI 0))) mem) : zOk X d 139 [.int x] mem lk L lk L Q := by
  refine zOk_do 20 (tbl := tX8_isRow) zck_139 rfl (by omega) (h := ?_)
  refine ok_in (by omega) (fun c1 c2 => ?_) (fun c => ?_)
  · rw [il_T, l_T (by omega)] at c1
    rw [il_T, l_T (by omega)] at c2
    refine ⟨rfl, rfl, rfl, ?_⟩
    rcases zix x (n := 8) (by omega) with ⟨j, hj, e⟩ | q
    · exact q1 j hj e
    · omega
  · rw [il_T, l_T (by omega), l_T (by omega)] at c
    exact ⟨rfl, rfl, rfl, q0 (by omega)⟩
theorem ok_mfinds {n : Nat} (hd : 0 < d) (q : Q (some (.int (-(nI 1000010) - nI n))) (upd mem 1005 (nI n))) : zOk X d 140 [.ref 1000, .int (nI n)] mem lk L lk L Q := by
  refine zOk_do 20 (tbl := tX8_finds) zck_140 rfl hd (h := ?_)
  exact ⟨rfl, rfl, rfl, q⟩
/-- a row is copied -/
theorem copyOf_loop {a b : Nat} (ha : a + 43 ≤ 1247) (hb : b + 43 ≤ 1247) (hab : a + 43 ≤ b ∨ b + 43 ≤ a) (hw : lk 1000 = some 2000) (q : ∀ mem', (∀ k, k < 43 → mem' (2000 + b + k) = mem (2000 + a + k)) → (∀ x, ¬ (2000 + b ≤ x ∧ x < 2000 + b + 43) → mem' x = mem x) → Q none mem') : ∀ n i m1, i + n = 43 → (∀ k, k < i → m1 (2000 + b + k) = mem (2000 + a + k)) → (∀ x, ¬ (2000 + b ≤ x ∧ x < 2000 + b + 43) → m1 x = mem x) → zE X d 135 2 [.ref 1000, .int (nI a), .int (nI b), .int (nI i)] [] m1 lk L lk L Q := by
  intro n
  induction n with
  | zero =>
    intro i m1 hi h1 h2
    refine zE_do 30 2 (tbl := tX8_copyOf) zck_135 rfl (h := ?_)
    refine ⟨fun c => ⟨rfl, rfl, ?_⟩, fun c => ?_⟩
    · rw [show i = 43 by omega] at h1; exact q m1 h1 h2
    · exfalso
      rw [nLe (by omega) (by omega)] at c
      omega
  | succ n ih =>
    intro i m1 hi h1 h2
    refine zE_do 30 2 (tbl := tX8_copyOf) zck_135 rfl (h := ?_)
    refine ⟨fun c => ?_, fun c => ⟨rfl, _, hw, rfl, _, hw, Or.inl rfl, zwi1 (by omega), rfl, zwi1 (by omega), ?_⟩⟩
    · exfalso
      rw [nLe (by omega) (by omega)] at c
      omega
    · have k := ih (i + 1) (upd m1 (2000 + (nI b + nI i).toNatClampNeg) (m1 (2000 + (nI a + nI i).toNatClampNeg))) (by omega) (fun k hk => ?_) (fun x hx => ?_)
      · rw [← nI_1] at k; exact k
      · rw [zw1 (by omega), zw1 (by omega)]
        by_cases e : k = i
        · subst e
          rw [show 2000 + (b + k) = 2000 + b + k by omega, upd_eq, h2 _ (by omega), show 2000 + (a + k) = 2000 + a + k by omega]
        · rw [upd_ne (by omega)]; exact h1 k (by omega)
      · rw [zw1 (by omega), upd_ne (by omega)]; exact h2 x hx
theorem ok_copyOf {a b : Nat} (hd : 0 < d) (ha : a + 43 ≤ 1247) (hb : b + 43 ≤ 1247) (hab : a + 43 ≤ b ∨ b + 43 ≤ a) (hw : lk 1000 = some 2000) (q : ∀ mem', (∀ k, k < 43 → mem' (2000 + b + k) = mem (2000 + a + k)) → (∀ x, ¬ (2000 + b ≤ x ∧ x < 2000 + b + 43) → mem' x = mem x) → Q none mem') : zOk X d 135 [.ref 1000, .int (nI a), .int (nI b)] mem lk L lk L Q := by
  refine zOk_do 20 (tbl := tX8_copyOf) zck_135 rfl hd (h := ?_)
  exact copyOf_loop ha hb hab hw q 43 0 mem (by omega) (fun k hk => by omega) (fun _ _ => rfl)
end MD
end
section
/-! the reference: reading a row of w -/
section MR
variable {X d : Nat} {mem : zMem} {lk : zLk} {L : List Nat} {Q : Option Value → zMem → Prop} {r : Nat} {g : zH}
theorem minsideOf_loop (hw : lk 1000 = some 2000) (hr : r + 43 ≤ 1247) (hb : zHB mem (2000 + r) g) (hn : g 0 ≤ 6) (hg : ∀ e, e < g 0 → g (13 + e) ≤ 11) (q : Q (some (.int (nI (zbits g 10 (g 0))))) mem) : ∀ n i, i + n = g 0 → zE X d 157 4 [.ref 1000, .int (nI r), .int (nI (zbits g 10 i)), .int (nI i)] [] mem lk L lk L Q := by
  have e0 : mem (2000 + (nI r + nI 0).toNatClampNeg) = nI (g 0) := by rw [zw1 (by omega)]; exact hb.k 0 (by omega)
  intro n
  induction n with
  | zero =>
    intro i hi
    refine zE_do 40 4 (tbl := tX8_insideOf) zck_157 rfl (h := ?_)
    refine ⟨rfl, _, hw, Or.inl rfl, zwi1 (by omega), fun c => ⟨rfl, rfl, ?_⟩, fun c => ?_⟩
    · rw [show i = g 0 by omega]; exact q
    · exfalso
      have c : ¬ mem (2000 + (nI r + nI 0).toNatClampNeg) ≤ nI i := c
      rw [e0, nLe (by omega) (by omega)] at c
      omega
  | succ n ih =>
    intro i hi
    have k := ih (i + 1) (by omega)
    rw [← nI_1] at k
    have g11 := hg i (by omega)
    have e1 : mem (2000 + (nI r + nI 13 + nI i).toNatClampNeg) = nI (g (13 + i)) := by rw [zw2 (by omega), show 2000 + (r + 13 + i) = 2000 + r + 13 + i by omega]; exact hb.at (by omega)
    refine zE_do 40 4 (tbl := tX8_insideOf) zck_157 rfl (h := ?_)
    refine ⟨rfl, _, hw, Or.inl rfl, zwi1 (by omega), fun c => ?_, fun c => ⟨rfl, _, hw, Or.inl rfl, zwi2 (by omega), fun c2 => ?_, fun c2 => ?_⟩⟩
    · exfalso
      have c : mem (2000 + (nI r + nI 0).toNatClampNeg) ≤ nI i := c
      rw [e0, nLe (by omega) (by omega)] at c
      omega
    · have c2 : ¬ mem (2000 + (nI r + nI 13 + nI i).toNatClampNeg) = nI 10 := c2
      rw [e1, nEq (by omega) (by omega)] at c2
      rw [show zbits g 10 (i + 1) = zbits g 10 i from if_neg c2, ← zor0 (nI (zbits g 10 i))] at k
      exact k
    · have c2 : mem (2000 + (nI r + nI 13 + nI i).toNatClampNeg) = nI 10 := c2
      rw [e1, nEq (by omega) (by omega)] at c2
      rw [show zbits g 10 (i + 1) = zbits g 10 i ||| 2 ^ i from if_pos c2, ← zor_t i (by omega) _ (zbits_512 g 10 i (by omega))] at k
      exact k
theorem ok_minsideOf (hd : 0 < d) (hw : lk 1000 = some 2000) (hr : r + 43 ≤ 1247) (hb : zHB mem (2000 + r) g) (hn : g 0 ≤ 6) (hg : ∀ e, e < g 0 → g (13 + e) ≤ 11) (q : Q (some (.int (nI (zbits g 10 (g 0))))) mem) : zOk X d 157 [.ref 1000, .int (nI r)] mem lk L lk L Q := by
  refine zOk_do 20 (tbl := tX8_insideOf) zck_157 rfl hd (h := ?_)
  exact minsideOf_loop hw hr hb hn hg q (g 0) 0 (by omega)
theorem mservedOf_loop (hw : lk 1000 = some 2000) (hr : r + 43 ≤ 1247) (hb : zHB mem (2000 + r) g) (hn : g 0 ≤ 6) (hg : ∀ e, e < g 0 → g (13 + e) ≤ 11) (q : Q (some (.int (nI (zbits g 11 (g 0))))) mem) : ∀ n i, i + n = g 0 → zE X d 158 4 [.ref 1000, .int (nI r), .int (nI (zbits g 11 i)), .int (nI i)] [] mem lk L lk L Q := by
  have e0 : mem (2000 + (nI r + nI 0).toNatClampNeg) = nI (g 0) := by rw [zw1 (by omega)]; exact hb.k 0 (by omega)
  intro n
  induction n with
  | zero =>
    intro i hi
    refine zE_do 40 4 (tbl := tX8_servedOf) zck_158 rfl (h := ?_)
    refine ⟨rfl, _, hw, Or.inl rfl, zwi1 (by omega), fun c => ⟨rfl, rfl, ?_⟩, fun c => ?_⟩
    · rw [show i = g 0 by omega]; exact q
    · exfalso
      have c : ¬ mem (2000 + (nI r + nI 0).toNatClampNeg) ≤ nI i := c
      rw [e0, nLe (by omega) (by omega)] at c
      omega
  | succ n ih =>
    intro i hi
    have k := ih (i + 1) (by omega)
    rw [← nI_1] at k
    have g11 := hg i (by omega)
    have e1 : mem (2000 + (nI r + nI 13 + nI i).toNatClampNeg) = nI (g (13 + i)) := by rw [zw2 (by omega), show 2000 + (r + 13 + i) = 2000 + r + 13 + i by omega]; exact hb.at (by omega)
    refine zE_do 40 4 (tbl := tX8_servedOf) zck_158 rfl (h := ?_)
    refine ⟨rfl, _, hw, Or.inl rfl, zwi1 (by omega), fun c => ?_, fun c => ⟨rfl, _, hw, Or.inl rfl, zwi2 (by omega), fun c2 => ?_, fun c2 => ?_⟩⟩
    · exfalso
      have c : mem (2000 + (nI r + nI 0).toNatClampNeg) ≤ nI i := c
      rw [e0, nLe (by omega) (by omega)] at c
      omega
    · have c2 : ¬ mem (2000 + (nI r + nI 13 + nI i).toNatClampNeg) = nI 11 := c2
      rw [e1, nEq (by omega) (by omega)] at c2
      rw [show zbits g 11 (i + 1) = zbits g 11 i from if_neg c2, ← zor0 (nI (zbits g 11 i))] at k
      exact k
    · have c2 : mem (2000 + (nI r + nI 13 + nI i).toNatClampNeg) = nI 11 := c2
      rw [e1, nEq (by omega) (by omega)] at c2
      rw [show zbits g 11 (i + 1) = zbits g 11 i ||| 2 ^ i from if_pos c2, ← zor_t i (by omega) _ (zbits_512 g 11 i (by omega))] at k
      exact k
theorem ok_mservedOf (hd : 0 < d) (hw : lk 1000 = some 2000) (hr : r + 43 ≤ 1247) (hb : zHB mem (2000 + r) g) (hn : g 0 ≤ 6) (hg : ∀ e, e < g 0 → g (13 + e) ≤ 11) (q : Q (some (.int (nI (zbits g 11 (g 0))))) mem) : zOk X d 158 [.ref 1000, .int (nI r)] mem lk L lk L Q := by
  refine zOk_do 20 (tbl := tX8_servedOf) zck_158 rfl hd (h := ?_)
  exact mservedOf_loop hw hr hb hn hg q (g 0) 0 (by omega)
theorem zadd0 (a : Int32) : a + nI 0 = a := by
  rw [show nI 0 = 0 from rfl]; simp
theorem mweightOf_loop {b : Nat} (hd : 1 < d) (hw : lk 1000 = some 2000) (hr : r + 43 ≤ 1247) (hb : zHB mem (2000 + r) g) (hn : g 0 ≤ 6) (hbb : b < 64) (q : Q (some (.int (nI (zsum g 25 b (g 0))))) mem) : ∀ n i, i + n = g 0 → zE X d 159 5 [.ref 1000, .int (nI r), .int (nI b), .int (nI (zsum g 25 b i)), .int (nI i)] [] mem lk L lk L Q := by
  have e0 : mem (2000 + (nI r + nI 0).toNatClampNeg) = nI (g 0) := by rw [zw1 (by omega)]; exact hb.k 0 (by omega)
  intro n
  induction n with
  | zero =>
    intro i hi
    refine zE_do 40 5 (tbl := tX8_weightOf) zck_159 rfl (h := ?_)
    refine ⟨rfl, _, hw, Or.inl rfl, zwi1 (by omega), fun c => ⟨rfl, rfl, ?_⟩, fun c => ?_⟩
    · rw [show i = g 0 by omega]; exact q
    · exfalso
      have c : ¬ mem (2000 + (nI r + nI 0).toNatClampNeg) ≤ nI i := c
      rw [e0, nLe (by omega) (by omega)] at c
      omega
  | succ n ih =>
    intro i hi
    have k := ih (i + 1) (by omega)
    rw [← nI_1, show zsum g 25 b (i + 1) = zsum g 25 b i + b / 2 ^ i % 2 * g (25 + i) from rfl] at k
    have e1 : mem (2000 + (nI r + nI 25 + nI i).toNatClampNeg) = nI (g (25 + i)) := by rw [zw2 (by omega), show 2000 + (r + 25 + i) = 2000 + r + 25 + i by omega]; exact hb.wt (by omega)
    refine zE_do 40 5 (tbl := tX8_weightOf) zck_159 rfl (h := ?_)
    refine ⟨rfl, _, hw, Or.inl rfl, zwi1 (by omega), fun c => ?_, fun c => ok_has (by omega) hbb (by omega) (fun c2 => zT_eq ⟨rfl, _, hw, Or.inl rfl, zwi2 (by omega), ?_⟩) (fun c2 => zF_eq ?_)⟩
    · exfalso
      have c : mem (2000 + (nI r + nI 0).toNatClampNeg) ≤ nI i := c
      rw [e0, nLe (by omega) (by omega)] at c
      omega
    · rw [c2, Nat.one_mul, ← nI_add, ← e1] at k
      exact k
    · rw [c2, Nat.zero_mul, Nat.add_zero, ← zadd0 (nI (zsum g 25 b i))] at k
      exact k
theorem ok_mweightOf {b : Nat} (hd : 1 < d) (hw : lk 1000 = some 2000) (hr : r + 43 ≤ 1247) (hb : zHB mem (2000 + r) g) (hn : g 0 ≤ 6) (hbb : b < 64) (q : Q (some (.int (nI (zsum g 25 b (g 0))))) mem) : zOk X d 159 [.ref 1000, .int (nI r), .int (nI b)] mem lk L lk L Q := by
  refine zOk_do 20 (tbl := tX8_weightOf) zck_159 rfl (by omega) (h := ?_)
  exact mweightOf_loop hd hw hr hb hn hbb q (g 0) 0 (by omega)
theorem ok_misGood {k t : Nat} (hd : 0 < d) (hk : k < 1000) (ht : t < 1000) (q1 : zgood k t → Q (some (.int (nI 1))) mem) (q0 : ¬ zgood k t → Q (some (.int (nI 0))) mem) : zOk X d 166 [.int (nI k), .int (nI t)] mem lk L lk L Q := by
  refine zOk_do 20 (tbl := tX8_isGood) zck_166 rfl hd (h := ?_)
  refine ⟨fun c => ⟨fun c2 => ⟨rfl, rfl, rfl, q0 ?_⟩, fun c2 => ⟨rfl, rfl, rfl, q1 ?_⟩⟩, fun c => ⟨fun c2 => ⟨rfl, rfl, rfl, q0 ?_⟩, fun c2 => ⟨rfl, rfl, rfl, q1 ?_⟩⟩⟩
  all_goals
    rw [nLt (by omega) (by omega)] at c c2
    unfold zgood
    first | rw [if_pos c] | rw [if_neg c]
    omega
theorem mfineOf_loop (hd : 1 < d) (hw : lk 1000 = some 2000) (hr : r + 43 ≤ 1247) (hb : zHB mem (2000 + r) g) (wf : zWF g) (q : Q (some (.int (nI (zfine g (g 0))))) mem) : ∀ n i, i + n = g 0 → zE X d 167 4 [.ref 1000, .int (nI r), .int (nI (zfine g i)), .int (nI i)] [] mem lk L lk L Q := by
  have hn := wf.1
  have e0 : mem (2000 + (nI r + nI 0).toNatClampNeg) = nI (g 0) := by rw [zw1 (by omega)]; exact hb.k 0 (by omega)
  intro n
  induction n with
  | zero =>
    intro i hi
    refine zE_do 60 4 (tbl := tX8_fineOf) zck_167 rfl (h := ?_)
    refine ⟨rfl, _, hw, Or.inl rfl, zwi1 (by omega), fun c => ⟨rfl, rfl, ?_⟩, fun c => ?_⟩
    · rw [show i = g 0 by omega]; exact q
    · exfalso
      have c : ¬ mem (2000 + (nI r + nI 0).toNatClampNeg) ≤ nI i := c
      rw [e0, nLe (by omega) (by omega)] at c
      omega
  | succ n ih =>
    intro i hi
    have k := ih (i + 1) (by omega)
    rw [← nI_1] at k
    have g11 := wf.at11 i (by omega)
    obtain ⟨w1, -, -, -, w5⟩ := wf.2.2.2.2.2.2.2.2 i (by omega)
    have e1 : mem (2000 + (nI r + nI 13 + nI i).toNatClampNeg) = nI (g (13 + i)) := by rw [zw2 (by omega), show 2000 + (r + 13 + i) = 2000 + r + 13 + i by omega]; exact hb.at (by omega)
    have e2 : mem (2000 + (nI r + nI 7 + nI i).toNatClampNeg) = nI (g (7 + i)) := by rw [zw2 (by omega), show 2000 + (r + 7 + i) = 2000 + r + 7 + i by omega]; exact hb.kind (by omega)
    have e3 : mem (2000 + (nI r + nI 31 + nI i).toNatClampNeg) = nI (g (31 + i)) := by rw [zw2 (by omega), show 2000 + (r + 31 + i) = 2000 + r + 31 + i by omega]; exact hb.ht (by omega)
    refine zE_do 60 4 (tbl := tX8_fineOf) zck_167 rfl (h := ?_)
    refine ⟨rfl, _, hw, Or.inl rfl, zwi1 (by omega), fun c => ?_, fun c => ⟨rfl, _, hw, Or.inl rfl, zwi2 (by omega), fun c2 => ?_, fun c2 => ⟨rfl, _, hw, Or.inl rfl, zwi2 (by omega), rfl, _, hw, Or.inl rfl, zwi2 (by omega), ?_⟩⟩⟩
    · exfalso
      have c : mem (2000 + (nI r + nI 0).toNatClampNeg) ≤ nI i := c
      rw [e0, nLe (by omega) (by omega)] at c
      omega
    · have c2 : ¬ mem (2000 + (nI r + nI 13 + nI i).toNatClampNeg) = nI 11 := c2
      rw [e1, nEq (by omega) (by omega)] at c2
      rw [show zfine g (i + 1) = zfine g i from if_neg (fun z => c2 z.1), ← zor0 (nI (zfine g i))] at k
      exact k
    · have c2 : mem (2000 + (nI r + nI 13 + nI i).toNatClampNeg) = nI 11 := c2
      rw [e1, nEq (by omega) (by omega)] at c2
      show zOk X (d - 1) 166 [.int (mem (2000 + (nI r + nI 7 + nI i).toNatClampNeg)), .int (mem (2000 + (nI r + nI 31 + nI i).toNatClampNeg))] mem lk L lk L _
      rw [e2, e3]
      refine ok_misGood (by omega) (by omega) (by omega) (fun c3 => zT_eq ?_) (fun c3 => zF_eq ?_)
      · rw [show zfine g (i + 1) = zfine g i ||| 2 ^ i from if_pos ⟨c2, c3⟩, ← zor_t i (by omega) _ (zfine_512 g i (by omega))] at k
        exact k
      · rw [show zfine g (i + 1) = zfine g i from if_neg (fun z => c3 z.2), ← zor0 (nI (zfine g i))] at k
        exact k
theorem ok_mfineOf (hd : 1 < d) (hw : lk 1000 = some 2000) (hr : r + 43 ≤ 1247) (hb : zHB mem (2000 + r) g) (wf : zWF g) (q : Q (some (.int (nI (zfine g (g 0))))) mem) : zOk X d 167 [.ref 1000, .int (nI r)] mem lk L lk L Q := by
  refine zOk_do 20 (tbl := tX8_fineOf) zck_167 rfl (by omega) (h := ?_)
  exact mfineOf_loop hd hw hr hb wf q (g 0) 0 (by omega)
theorem mheatServed_loop (hw : lk 1000 = some 2000) (hr : r + 43 ≤ 1247) (hb : zHB mem (2000 + r) g) (wf : zWF g) (q : Q (some (.int (nI (zwts g 11 31 (g 0))))) mem) : ∀ n i, i + n = g 0 → zE X d 168 4 [.ref 1000, .int (nI r), .int (nI (zwts g 11 31 i)), .int (nI i)] [] mem lk L lk L Q := by
  have hn := wf.1
  have e0 : mem (2000 + (nI r + nI 0).toNatClampNeg) = nI (g 0) := by rw [zw1 (by omega)]; exact hb.k 0 (by omega)
  intro n
  induction n with
  | zero =>
    intro i hi
    refine zE_do 60 4 (tbl := tX8_heatServed) zck_168 rfl (h := ?_)
    refine ⟨rfl, _, hw, Or.inl rfl, zwi1 (by omega), fun c => ⟨rfl, rfl, ?_⟩, fun c => ?_⟩
    · rw [show i = g 0 by omega]; exact q
    · exfalso
      have c : ¬ mem (2000 + (nI r + nI 0).toNatClampNeg) ≤ nI i := c
      rw [e0, nLe (by omega) (by omega)] at c
      omega
  | succ n ih =>
    intro i hi
    have k := ih (i + 1) (by omega)
    rw [← nI_1, show zwts g 11 31 (i + 1) = zwts g 11 31 i + (if g (13 + i) = 11 then g (31 + i) else 0) from rfl] at k
    have g11 := wf.at11 i (by omega)
    have e1 : mem (2000 + (nI r + nI 13 + nI i).toNatClampNeg) = nI (g (13 + i)) := by rw [zw2 (by omega), show 2000 + (r + 13 + i) = 2000 + r + 13 + i by omega]; exact hb.at (by omega)
    have e3 : mem (2000 + (nI r + nI 31 + nI i).toNatClampNeg) = nI (g (31 + i)) := by rw [zw2 (by omega), show 2000 + (r + 31 + i) = 2000 + r + 31 + i by omega]; exact hb.ht (by omega)
    refine zE_do 60 4 (tbl := tX8_heatServed) zck_168 rfl (h := ?_)
    refine ⟨rfl, _, hw, Or.inl rfl, zwi1 (by omega), fun c => ?_, fun c => ⟨rfl, _, hw, Or.inl rfl, zwi2 (by omega), fun c2 => ?_, fun c2 => ⟨rfl, _, hw, Or.inl rfl, zwi2 (by omega), ?_⟩⟩⟩
    · exfalso
      have c : mem (2000 + (nI r + nI 0).toNatClampNeg) ≤ nI i := c
      rw [e0, nLe (by omega) (by omega)] at c
      omega
    · have c2 : ¬ mem (2000 + (nI r + nI 13 + nI i).toNatClampNeg) = nI 11 := c2
      rw [e1, nEq (by omega) (by omega)] at c2
      rw [if_neg c2, Nat.add_zero, ← zadd0 (nI (zwts g 11 31 i))] at k
      exact k
    · have c2 : mem (2000 + (nI r + nI 13 + nI i).toNatClampNeg) = nI 11 := c2
      rw [e1, nEq (by omega) (by omega)] at c2
      rw [if_pos c2, ← nI_add, ← e3] at k
      exact k
theorem ok_mheatServed (hd : 0 < d) (hw : lk 1000 = some 2000) (hr : r + 43 ≤ 1247) (hb : zHB mem (2000 + r) g) (wf : zWF g) (q : Q (some (.int (nI (zwts g 11 31 (g 0))))) mem) : zOk X d 168 [.ref 1000, .int (nI r)] mem lk L lk L Q := by
  refine zOk_do 20 (tbl := tX8_heatServed) zck_168 rfl (by omega) (h := ?_)
  exact mheatServed_loop hw hr hb wf q (g 0) 0 (by omega)
/-- the sum of a field of all -/
def ztot (g : zH) (f : Nat) : Nat → Nat
  | 0 => 0
  | i + 1 => ztot g f i + g (f + i)
theorem mheatOf_loop (hw : lk 1000 = some 2000) (hr : r + 43 ≤ 1247) (hb : zHB mem (2000 + r) g) (hn : g 0 ≤ 6) (q : Q (some (.int (nI (ztot g 31 (g 0))))) mem) : ∀ n i, i + n = g 0 → zE X d 169 4 [.ref 1000, .int (nI r), .int (nI (ztot g 31 i)), .int (nI i)] [] mem lk L lk L Q := by
  have e0 : mem (2000 + (nI r + nI 0).toNatClampNeg) = nI (g 0) := by rw [zw1 (by omega)]; exact hb.k 0 (by omega)
  intro n
  induction n with
  | zero =>
    intro i hi
    refine zE_do 60 4 (tbl := tX8_heatOf) zck_169 rfl (h := ?_)
    refine ⟨rfl, _, hw, Or.inl rfl, zwi1 (by omega), fun c => ⟨rfl, rfl, ?_⟩, fun c => ?_⟩
    · rw [show i = g 0 by omega]; exact q
    · exfalso
      have c : ¬ mem (2000 + (nI r + nI 0).toNatClampNeg) ≤ nI i := c
      rw [e0, nLe (by omega) (by omega)] at c
      omega
  | succ n ih =>
    intro i hi
    have k := ih (i + 1) (by omega)
    have e3 : mem (2000 + (nI r + nI 31 + nI i).toNatClampNeg) = nI (g (31 + i)) := by rw [zw2 (by omega), show 2000 + (r + 31 + i) = 2000 + r + 31 + i by omega]; exact hb.ht (by omega)
    rw [← nI_1, show ztot g 31 (i + 1) = ztot g 31 i + g (31 + i) from rfl, ← nI_add, ← e3] at k
    refine zE_do 60 4 (tbl := tX8_heatOf) zck_169 rfl (h := ?_)
    refine ⟨rfl, _, hw, Or.inl rfl, zwi1 (by omega), fun c => ?_, fun c => ⟨rfl, _, hw, Or.inl rfl, zwi2 (by omega), k⟩⟩
    exfalso
    have c : mem (2000 + (nI r + nI 0).toNatClampNeg) ≤ nI i := c
    rw [e0, nLe (by omega) (by omega)] at c
    omega
theorem ok_mheatOf (hd : 0 < d) (hw : lk 1000 = some 2000) (hr : r + 43 ≤ 1247) (hb : zHB mem (2000 + r) g) (hn : g 0 ≤ 6) (q : Q (some (.int (nI (ztot g 31 (g 0))))) mem) : zOk X d 169 [.ref 1000, .int (nI r)] mem lk L lk L Q := by
  refine zOk_do 20 (tbl := tX8_heatOf) zck_169 rfl (by omega) (h := ?_)
  exact mheatOf_loop hw hr hb hn q (g 0) 0 (by omega)
end MR
end
section
/-! the reference: a minute of a row of w -/
theorem upd_self {m : zMem} {x : Nat} {v : Int32} (h : m x = v) : upd m x v = m := by
  funext j
  by_cases e : j = x
  · subst e; rw [upd_eq]; exact h.symm
  · rw [upd_ne e]
/-- the order of rank of a row -/
def zRk (mem : zMem) (b : Nat) (ord : Nat → Nat) (n : Nat) : Prop := ∀ e, e < n → mem (b + 37 + e) = nI (ord e) ∧ ord e < n
theorem zRk.fr {mem mem' : zMem} {b n : Nat} {ord : Nat → Nat} (h : zRk mem b ord n) (hf : zfr mem mem' b) : zRk mem' b ord n := fun e he => by
  rw [hf _ (by omega)]; exact h e he
section MP
variable {X d : Nat} {mem : zMem} {lk : zLk} {L : List Nat} {Q : Option Value → zMem → Prop} {r : Nat} {g : zH}
theorem serves_mid {i k f : Nat} {v4 : Int32} {fits : Prop} [Decidable fits] (hf : f = if fits then 1 else 0) (hw : lk 1000 = some 2000) (hr : r + 43 ≤ 1247) {m1 : zMem} {gi : zH} (hb : zHB m1 (2000 + r) gi) (wi : zWF gi) (hk : k < gi 0)
    (q : ∀ m2, zHB m2 (2000 + r) (if gi (13 + k) = gi 4 ∧ fits then va_up gi (13 + k) 10 else gi) → zfr m1 m2 (2000 + r) → zE X d 160 119 [.ref 1000, .int (nI r), .int (nI i + nI 1), .int (nI k), .int v4, .int (nI f)] [] m2 lk L lk L Q) : zE X d 160 203 [.ref 1000, .int (nI r), .int (nI i), .int (nI k), .int v4, .int (nI f)] [] m1 lk L lk L Q := by
  have w0 := wi.1
  have w1 := wi.2.2.1
  have w4 := wi.2.2.2.2.2.1
  have w11 := wi.at11 k hk
  have e1 : m1 (2000 + (nI r + nI 13 + nI k).toNatClampNeg) = nI (gi (13 + k)) := by rw [zw2 (by omega), show 2000 + (r + 13 + k) = 2000 + r + 13 + k by omega]; exact hb.at hk
  have e4 : m1 (2000 + (nI r + nI 4).toNatClampNeg) = nI (gi 4) := by rw [zw1 (by omega), show 2000 + (r + 4) = 2000 + r + 4 by omega]; exact hb.k 4 (by omega)
  have hf1 : f ≤ 1 := by rw [hf]; split <;> omega
  refine zE_do 60 203 (tbl := tX8_serves) zck_160 rfl (h := ?_)
  refine ⟨rfl, _, hw, rfl, _, hw, Or.inl rfl, zwi2 (by omega), rfl, _, hw, Or.inl rfl, zwi1 (by omega), fun c => ⟨rfl, _, hw, Or.inl rfl, zwi2 (by omega), rfl, zwi2 (by omega), ?_⟩, fun c => ⟨fun c2 => ⟨rfl, _, hw, Or.inl rfl, zwi2 (by omega), rfl, zwi2 (by omega), ?_⟩, fun c2 => ⟨rfl, zwi2 (by omega), ?_⟩⟩⟩
  · have c : ¬ m1 (2000 + (nI r + nI 13 + nI k).toNatClampNeg) = m1 (2000 + (nI r + nI 4).toNatClampNeg) := c
    rw [e1, e4, nEq (by omega) (by omega)] at c
    rw [if_neg (fun z => c z.1)] at q
    have := q m1 hb zfr.rf
    rw [← upd_self (m := m1) (x := 2000 + (nI r + nI 13 + nI k).toNatClampNeg) rfl] at this
    exact this
  · have c2 : nI f = 0 := c2
    rw [n0 (by omega), hf] at c2
    have hz : ¬ fits := fun z => by rw [if_pos z] at c2; omega
    rw [if_neg (fun z => hz z.2)] at q
    have := q m1 hb zfr.rf
    rw [← upd_self (m := m1) (x := 2000 + (nI r + nI 13 + nI k).toNatClampNeg) rfl] at this
    exact this
  · have c : m1 (2000 + (nI r + nI 13 + nI k).toNatClampNeg) = m1 (2000 + (nI r + nI 4).toNatClampNeg) := c
    rw [e1, e4, nEq (by omega) (by omega)] at c
    have c2 : ¬ nI f = 0 := c2
    rw [n0 (by omega), hf] at c2
    have hz : fits := Decidable.byContradiction fun z => by rw [if_neg z] at c2; omega
    rw [if_pos ⟨c, hz⟩] at q
    refine q _ (hb.set (13 + k) 10 (by omega) (by rw [zw2 (by omega)]; omega)) (zfr.up (by rw [zw2 (by omega)]; omega) (by rw [zw2 (by omega)]; omega))
theorem serves2_loop {ord : Nat → Nat} (hd : 2 < d) (hw : lk 1000 = some 2000) (hr : r + 43 ≤ 1247) {g0 : zH} (wf : zWF g0) (q : ∀ mem', zHB mem' (2000 + r) (ztakes ord g0 (g0 0)) → zfr mem mem' (2000 + r) → Q none mem') : ∀ n i m1 v3 v4 v5, i + n = g0 0 → zHB m1 (2000 + r) (ztakes ord g0 i) → zRk m1 (2000 + r) ord (g0 0) → zfr mem m1 (2000 + r) →
    zE X d 160 119 [.ref 1000, .int (nI r), .int (nI i), v3, v4, v5] [] m1 lk L lk L Q := by
  have w0 := wf.1
  intro n
  induction n with
  | zero =>
    intro i m1 v3 v4 v5 hi hb ho hf
    have n00 : ztakes ord g0 i 0 = g0 0 := ztakes_ne (by omega) (by omega) i
    have e0 : m1 (2000 + (nI r + nI 0).toNatClampNeg) = nI (g0 0) := by rw [zw1 (by omega), ← n00]; exact hb.k 0 (by omega)
    refine zE_do 40 119 (tbl := tX8_serves) zck_160 rfl (h := ?_)
    refine ⟨rfl, _, hw, Or.inl rfl, zwi1 (by omega), fun c => ⟨rfl, rfl, ?_⟩, fun c => ?_⟩
    · rw [show i = g0 0 by omega] at hb; exact q m1 hb hf
    · exfalso
      have c : ¬ m1 (2000 + (nI r + nI 0).toNatClampNeg) ≤ nI i := c
      rw [e0, nLe (by omega) (by omega)] at c
      omega
  | succ n ih =>
    intro i m1 v3 v4 v5 hi hb ho hf
    have n00 : ztakes ord g0 i 0 = g0 0 := ztakes_ne (by omega) (by omega) i
    have wi := ztakes_wf (ord := ord) wf i
    have hnext : ztakes ord g0 (i + 1) = ztake1 (ztakes ord g0 i) (ord i) := rfl
    have k := ih (i + 1)
    rw [hnext, ← nI_1] at k
    obtain ⟨o1, o2⟩ := ho i (by omega)
    generalize ztakes ord g0 i = gi at hb n00 wi k
    have e0 : m1 (2000 + (nI r + nI 0).toNatClampNeg) = nI (g0 0) := by rw [zw1 (by omega), ← n00]; exact hb.k 0 (by omega)
    have eo : m1 (2000 + (nI r + nI 37 + nI i).toNatClampNeg) = nI (ord i) := by rw [zw2 (by omega), show 2000 + (r + 37 + i) = 2000 + r + 37 + i by omega]; exact o1
    have e2 : m1 (2000 + (nI r + nI 2).toNatClampNeg) = nI (gi 2) := by rw [zw1 (by omega), show 2000 + (r + 2) = 2000 + r + 2 by omega]; exact hb.k 2 (by omega)
    have e3 : m1 (2000 + (nI r + nI 3).toNatClampNeg) = nI (gi 3) := by rw [zw1 (by omega), show 2000 + (r + 3) = 2000 + r + 3 by omega]; exact hb.k 3 (by omega)
    have e5 : m1 (2000 + (nI r + nI 25 + nI (ord i)).toNatClampNeg) = nI (gi (25 + ord i)) := by rw [zw2 (by omega), show 2000 + (r + 25 + ord i) = 2000 + r + 25 + ord i by omega]; exact hb.wt (by omega)
    have hlt : zbits gi 10 (gi 0) < 64 := Nat.lt_of_lt_of_le (zbits_lt gi 10 (gi 0) (by omega)) (show 2 ^ gi 0 ≤ 2 ^ 6 from Nat.pow_le_pow_right (by omega) (by omega))
    have hcl := zcnt_le gi 10 (gi 0)
    have hwl : zwts gi 10 25 (gi 0) ≤ gi 0 * 9 := zwts_le _ _ _ 9 _ (fun e he => (wi.2.2.2.2.2.2.2.2 e (by omega)).2.2.2.1.2)
    have hpc := zpc_bits gi 10 (gi 0) (by omega)
    have hsb := zsum_bits gi 10 25 (gi 0) (by omega) (gi 0) (Nat.le_refl _)
    obtain ⟨-, -, -, b4, -⟩ := wi.2.2.2.2.2.2.2.2 (ord i) (by omega)
    have w2 := wi.2.2.2.1
    have w3 := wi.2.2.2.2.1
    have key : ∀ (f : Nat) (v : Int32), (f = if (zcnt gi 10 (gi 0) < gi 2 ∧ zwts gi 10 25 (gi 0) + gi (25 + ord i) ≤ gi 3) then 1 else 0) → zE X d 160 203 [.ref 1000, .int (nI r), .int (nI i), .int (nI (ord i)), .int v, .int (nI f)] [] m1 lk L lk L Q := fun f v hfv => by
      refine serves_mid hfv hw hr hb wi (by omega) (fun m2 hb2 hf2 => ?_)
      have hz : (if gi (13 + ord i) = gi 4 ∧ (zcnt gi 10 (gi 0) < gi 2 ∧ zwts gi 10 25 (gi 0) + gi (25 + ord i) ≤ gi 3) then va_up gi (13 + ord i) 10 else gi) = ztake1 gi (ord i) := by
        unfold ztake1
        by_cases hc : gi (13 + ord i) = gi 4 ∧ (zcnt gi 10 (gi 0) < gi 2 ∧ zwts gi 10 25 (gi 0) + gi (25 + ord i) ≤ gi 3)
        · rw [if_pos hc, if_pos ⟨by omega, hc⟩]
        · rw [if_neg hc, if_neg (fun z => hc z.2)]
      rw [hz] at hb2
      exact k m2 _ _ _ (by omega) hb2 (ho.fr hf2) (hf.tr hf2)
    refine zgoc [203] 60 119 (tbl := tX8_serves) zck_160 rfl (h := ?_)
    refine ⟨rfl, _, hw, Or.inl rfl, zwi1 (by omega), fun c => ?_, fun c => ⟨rfl, _, hw, Or.inl rfl, zwi2 (by omega), ?_⟩⟩
    · exfalso
      have c : m1 (2000 + (nI r + nI 0).toNatClampNeg) ≤ nI i := c
      rw [e0, nLe (by omega) (by omega)] at c
      omega
    · rw [eo]
      refine ⟨rfl, ok_minsideOf (by omega) hw hr hb (by omega) wi.at11 (ok_ones (by omega) hlt ⟨rfl, _, hw, Or.inl rfl, zwi1 (by omega), fun c2 => ?_, fun c2 => ⟨rfl, ok_mweightOf (by omega) hw hr hb (by omega) hlt ⟨rfl, _, hw, Or.inl rfl, zwi2 (by omega), rfl, _, hw, Or.inl rfl, zwi1 (by omega), fun c3 => ?_, fun c3 => ?_⟩⟩⟩)⟩
      · have c2 : m1 (2000 + (nI r + nI 2).toNatClampNeg) ≤ nI (zpc (zbits gi 10 (gi 0))) := c2
        rw [e2, hpc, nLe (by omega) (by omega)] at c2
        exact key 0 _ (by rw [if_neg (by omega)])
      · have c3 : m1 (2000 + (nI r + nI 3).toNatClampNeg) < nI (zsum gi 25 (zbits gi 10 (gi 0)) (gi 0)) + m1 (2000 + (nI r + nI 25 + nI (ord i)).toNatClampNeg) := c3
        rw [e3, e5, hsb, nI_add, nLt (by omega) (by omega)] at c3
        exact key 0 _ (by rw [if_neg (by omega)])
      · have c2 : ¬ m1 (2000 + (nI r + nI 2).toNatClampNeg) ≤ nI (zpc (zbits gi 10 (gi 0))) := c2
        rw [e2, hpc, nLe (by omega) (by omega)] at c2
        have c3 : ¬ m1 (2000 + (nI r + nI 3).toNatClampNeg) < nI (zsum gi 25 (zbits gi 10 (gi 0)) (gi 0)) + m1 (2000 + (nI r + nI 25 + nI (ord i)).toNatClampNeg) := c3
        rw [e3, e5, hsb, nI_add, nLt (by omega) (by omega)] at c3
        exact key 1 _ (by rw [if_pos (by omega)])
theorem serves1_mid {i t : Nat} {v4 v5 : Value} {there : Prop} [Decidable there] (ht : t = if there then 1 else 0) (hw : lk 1000 = some 2000) (hr : r + 43 ≤ 1247) {m1 : zMem} {gi : zH} (hb : zHB m1 (2000 + r) gi) (wi : zWF gi) (hk : i < gi 0)
    (q : ∀ m2, zHB m2 (2000 + r) (if gi (19 + i) = gi 4 ∧ there then va_up gi (13 + i) 11 else gi) → zfr m1 m2 (2000 + r) → zE X d 160 2 [.ref 1000, .int (nI r), .int (nI i + nI 1), .int (nI t), v4, v5] [] m2 lk L lk L Q) : zE X d 160 58 [.ref 1000, .int (nI r), .int (nI i), .int (nI t), v4, v5] [] m1 lk L lk L Q := by
  have w0 := wi.1
  have w1 := wi.2.2.1
  have w4 := wi.2.2.2.2.2.1
  obtain ⟨-, -, b3, -, -⟩ := wi.2.2.2.2.2.2.2.2 i hk
  have e1 : m1 (2000 + (nI r + nI 19 + nI i).toNatClampNeg) = nI (gi (19 + i)) := by rw [zw2 (by omega), show 2000 + (r + 19 + i) = 2000 + r + 19 + i by omega]; exact hb.to hk
  have e4 : m1 (2000 + (nI r + nI 4).toNatClampNeg) = nI (gi 4) := by rw [zw1 (by omega), show 2000 + (r + 4) = 2000 + r + 4 by omega]; exact hb.k 4 (by omega)
  have hf1 : t ≤ 1 := by rw [ht]; split <;> omega
  refine zE_do 60 58 (tbl := tX8_serves) zck_160 rfl (h := ?_)
  refine ⟨rfl, _, hw, fun c => ⟨rfl, _, hw, Or.inl rfl, zwi2 (by omega), rfl, zwi2 (by omega), ?_⟩, fun c => ⟨rfl, _, hw, Or.inl rfl, zwi2 (by omega), rfl, _, hw, Or.inl rfl, zwi1 (by omega), fun c2 => ⟨rfl, _, hw, Or.inl rfl, zwi2 (by omega), rfl, zwi2 (by omega), ?_⟩, fun c2 => ⟨rfl, zwi2 (by omega), ?_⟩⟩⟩
  · have c : nI t = 0 := c
    rw [n0 (by omega), ht] at c
    have hz : ¬ there := fun z => by rw [if_pos z] at c; omega
    rw [if_neg (fun z => hz z.2)] at q
    have := q m1 hb zfr.rf
    rw [← upd_self (m := m1) (x := 2000 + (nI r + nI 13 + nI i).toNatClampNeg) rfl] at this
    exact this
  · have c2 : ¬ m1 (2000 + (nI r + nI 19 + nI i).toNatClampNeg) = m1 (2000 + (nI r + nI 4).toNatClampNeg) := c2
    rw [e1, e4, nEq (by omega) (by omega)] at c2
    rw [if_neg (fun z => c2 z.1)] at q
    have := q m1 hb zfr.rf
    rw [← upd_self (m := m1) (x := 2000 + (nI r + nI 13 + nI i).toNatClampNeg) rfl] at this
    exact this
  · have c : ¬ nI t = 0 := c
    rw [n0 (by omega), ht] at c
    have hz : there := Decidable.byContradiction fun z => by rw [if_neg z] at c; omega
    have c2 : m1 (2000 + (nI r + nI 19 + nI i).toNatClampNeg) = m1 (2000 + (nI r + nI 4).toNatClampNeg) := c2
    rw [e1, e4, nEq (by omega) (by omega)] at c2
    rw [if_pos ⟨c2, hz⟩] at q
    refine q _ (hb.set (13 + i) 11 (by omega) (by rw [zw2 (by omega)]; omega)) (zfr.up (by rw [zw2 (by omega)]; omega) (by rw [zw2 (by omega)]; omega))
theorem serves1_loop {ord : Nat → Nat} (hd : 2 < d) (hw : lk 1000 = some 2000) (hr : r + 43 ≤ 1247) {g0 : zH} (wf : zWF g0) (q : ∀ mem', zHB mem' (2000 + r) (ztakes ord (zlets g0 (g0 0)) (g0 0)) → zfr mem mem' (2000 + r) → Q none mem') : ∀ n i m1 v3 v4 v5, i + n = g0 0 → zHB m1 (2000 + r) (zlets g0 i) → zRk m1 (2000 + r) ord (g0 0) → zfr mem m1 (2000 + r) →
    zE X d 160 2 [.ref 1000, .int (nI r), .int (nI i), v3, v4, v5] [] m1 lk L lk L Q := by
  have w0 := wf.1
  intro n
  induction n with
  | zero =>
    intro i m1 v3 v4 v5 hi hb ho hf
    have n00 : zlets g0 i 0 = g0 0 := zlets_ne (by omega) i (by omega)
    have e0 : m1 (2000 + (nI r + nI 0).toNatClampNeg) = nI (g0 0) := by rw [zw1 (by omega), ← n00]; exact hb.k 0 (by omega)
    refine zE_do 40 2 (tbl := tX8_serves) zck_160 rfl (h := ?_)
    refine ⟨rfl, _, hw, Or.inl rfl, zwi1 (by omega), fun c => ?_, fun c => ?_⟩
    · rw [show i = g0 0 by omega] at hb n00
      have k := serves2_loop (X := X) (d := d) (mem := mem) (lk := lk) (L := L) (Q := Q) (r := r) (ord := ord) hd hw hr (zlets_wf wf (g0 0) w0) (by rw [n00]; exact q) (g0 0) 0 m1 v3 v4 v5 (by omega) hb (by rw [n00]; exact ho) hf
      exact k
    · exfalso
      have c : ¬ m1 (2000 + (nI r + nI 0).toNatClampNeg) ≤ nI i := c
      rw [e0, nLe (by omega) (by omega)] at c
      omega
  | succ n ih =>
    intro i m1 v3 v4 v5 hi hb ho hf
    have n00 : zlets g0 i 0 = g0 0 := zlets_ne (by omega) i (by omega)
    have wi := zlets_wf wf i (by omega)
    have hnext : zlets g0 (i + 1) = zlet1 (zlets g0 i) i := rfl
    have k := ih (i + 1)
    rw [hnext, ← nI_1] at k
    generalize zlets g0 i = gi at hb n00 wi k
    have w1 := wi.2.2.1
    have w4 := wi.2.2.2.2.2.1
    have w11 := wi.at11 i (by omega)
    have e0 : m1 (2000 + (nI r + nI 0).toNatClampNeg) = nI (g0 0) := by rw [zw1 (by omega), ← n00]; exact hb.k 0 (by omega)
    have e1 : m1 (2000 + (nI r + nI 13 + nI i).toNatClampNeg) = nI (gi (13 + i)) := by rw [zw2 (by omega), show 2000 + (r + 13 + i) = 2000 + r + 13 + i by omega]; exact hb.at (by omega)
    have e4 : m1 (2000 + (nI r + nI 4).toNatClampNeg) = nI (gi 4) := by rw [zw1 (by omega), show 2000 + (r + 4) = 2000 + r + 4 by omega]; exact hb.k 4 (by omega)
    have key : ∀ t : Nat, (t = if (gi (13 + i) = 10 ∨ gi (13 + i) = gi 4) then 1 else 0) → zE X d 160 58 [.ref 1000, .int (nI r), .int (nI i), .int (nI t), v4, v5] [] m1 lk L lk L Q := fun t ht =>
      serves1_mid ht hw hr hb wi (by omega) (fun m2 hb2 hf2 => k m2 _ _ _ (by omega) hb2 (ho.fr hf2) (hf.tr hf2))
    refine zgoc [58] 60 2 (tbl := tX8_serves) zck_160 rfl (h := ?_)
    refine ⟨rfl, _, hw, Or.inl rfl, zwi1 (by omega), fun c => ?_, fun c => ⟨rfl, _, hw, Or.inl rfl, zwi2 (by omega), fun c2 => ?_, fun c2 => ⟨rfl, _, hw, Or.inl rfl, zwi2 (by omega), rfl, _, hw, Or.inl rfl, zwi1 (by omega), fun c3 => ?_, fun c3 => ?_⟩⟩⟩
    · exfalso
      have c : m1 (2000 + (nI r + nI 0).toNatClampNeg) ≤ nI i := c
      rw [e0, nLe (by omega) (by omega)] at c
      omega
    · have c2 : m1 (2000 + (nI r + nI 13 + nI i).toNatClampNeg) = nI 10 := c2
      rw [e1, nEq (by omega) (by omega)] at c2
      exact key 1 (by rw [if_pos (Or.inl c2)])
    · have c2 : ¬ m1 (2000 + (nI r + nI 13 + nI i).toNatClampNeg) = nI 10 := c2
      have c3 : ¬ m1 (2000 + (nI r + nI 13 + nI i).toNatClampNeg) = m1 (2000 + (nI r + nI 4).toNatClampNeg) := c3
      rw [e1, nEq (by omega) (by omega)] at c2
      rw [e1, e4, nEq (by omega) (by omega)] at c3
      exact key 0 (by rw [if_neg (fun z => z.elim c2 c3)])
    · have c3 : m1 (2000 + (nI r + nI 13 + nI i).toNatClampNeg) = m1 (2000 + (nI r + nI 4).toNatClampNeg) := c3
      rw [e1, e4, nEq (by omega) (by omega)] at c3
      exact key 1 (by rw [if_pos (Or.inr c3)])
theorem ok_mserves {ord : Nat → Nat} (hd : 2 < d) (hw : lk 1000 = some 2000) (hr : r + 43 ≤ 1247) (hb : zHB mem (2000 + r) g) (wf : zWF g) (ho : zRk mem (2000 + r) ord (g 0)) (q : ∀ mem', zHB mem' (2000 + r) (ztakes ord (zlets g (g 0)) (g 0)) → zfr mem mem' (2000 + r) → Q none mem') : zOk X d 160 [.ref 1000, .int (nI r)] mem lk L lk L Q := by
  refine zOk_do 20 (tbl := tX8_serves) zck_160 rfl (by omega) (h := ?_)
  exact serves1_loop hd hw hr wf q (g 0) 0 mem _ _ _ (by omega) hb ho zfr.rf
end MP
end
section
/-! the reference: calledOf, goes, coolsOne, cools, passes -/
theorem zHB.r1 {mem : zMem} {r : Nat} {g : zH} (hb : zHB mem (2000 + r) g) (hr : r + 43 ≤ 1247) {k : Nat} (hk : k < 7) : mem (2000 + (nI r + nI k).toNatClampNeg) = nI (g k) := by
  rw [zw1 (by omega), show 2000 + (r + k) = 2000 + r + k by omega]; exact hb.k k hk
theorem zHB.rk {mem : zMem} {r : Nat} {g : zH} (hb : zHB mem (2000 + r) g) (hr : r + 43 ≤ 1247) (h6 : g 0 ≤ 6) {e : Nat} (he : e < g 0) : mem (2000 + (nI r + nI 7 + nI e).toNatClampNeg) = nI (g (7 + e)) := by
  rw [zw2 (by omega), show 2000 + (r + 7 + e) = 2000 + r + 7 + e by omega]; exact hb.kind he
theorem zHB.ra {mem : zMem} {r : Nat} {g : zH} (hb : zHB mem (2000 + r) g) (hr : r + 43 ≤ 1247) (h6 : g 0 ≤ 6) {e : Nat} (he : e < g 0) : mem (2000 + (nI r + nI 13 + nI e).toNatClampNeg) = nI (g (13 + e)) := by
  rw [zw2 (by omega), show 2000 + (r + 13 + e) = 2000 + r + 13 + e by omega]; exact hb.at he
theorem zHB.rt {mem : zMem} {r : Nat} {g : zH} (hb : zHB mem (2000 + r) g) (hr : r + 43 ≤ 1247) (h6 : g 0 ≤ 6) {e : Nat} (he : e < g 0) : mem (2000 + (nI r + nI 19 + nI e).toNatClampNeg) = nI (g (19 + e)) := by
  rw [zw2 (by omega), show 2000 + (r + 19 + e) = 2000 + r + 19 + e by omega]; exact hb.to he
theorem zHB.rw {mem : zMem} {r : Nat} {g : zH} (hb : zHB mem (2000 + r) g) (hr : r + 43 ≤ 1247) (h6 : g 0 ≤ 6) {e : Nat} (he : e < g 0) : mem (2000 + (nI r + nI 25 + nI e).toNatClampNeg) = nI (g (25 + e)) := by
  rw [zw2 (by omega), show 2000 + (r + 25 + e) = 2000 + r + 25 + e by omega]; exact hb.wt he
theorem zHB.rh {mem : zMem} {r : Nat} {g : zH} (hb : zHB mem (2000 + r) g) (hr : r + 43 ≤ 1247) (h6 : g 0 ≤ 6) {e : Nat} (he : e < g 0) : mem (2000 + (nI r + nI 31 + nI e).toNatClampNeg) = nI (g (31 + e)) := by
  rw [zw2 (by omega), show 2000 + (r + 31 + e) = 2000 + r + 31 + e by omega]; exact hb.ht he
section MP
variable {X d : Nat} {mem : zMem} {lk : zLk} {L : List Nat} {Q : Option Value → zMem → Prop} {r : Nat} {g : zH}
theorem mcalled_loop (hw : lk 1000 = some 2000) (hr : r + 43 ≤ 1247) (hb : zHB mem (2000 + r) g) (wf : zWF g) (q : Q (some (.int (nI (zcalled g)))) mem) : ∀ n i v4, i + n = g 0 → zE X d 161 4 [.ref 1000, .int (nI r), .int (nI (zcal g i)), .int (nI i), v4] [] mem lk L lk L Q := by
  have w0 := wf.1
  have w1 := wf.2.2.1
  have w4 := wf.2.2.2.2.2.1
  have w3 := wf.2.2.2.2.1
  have e0 := hb.r1 hr (k := 0) (by omega)
  have e4 := hb.r1 hr (k := 4) (by omega)
  have e3 := hb.r1 hr (k := 3) (by omega)
  intro n
  induction n with
  | zero =>
    intro i v4 hi
    refine zE_do 60 4 (tbl := tX8_calledOf) zck_161 rfl (h := ?_)
    refine ⟨rfl, _, hw, Or.inl rfl, zwi1 (by omega), fun c => ⟨rfl, _, hw, Or.inl rfl, zwi1 (by omega), rfl, rfl, ?_⟩, fun c => ?_⟩
    · rw [show i = g 0 by omega]
      show Q (some (.int (nI (zcal g (g 0)) &&& (nI 1 <<< (mem (2000 + (nI r + nI 4).toNatClampNeg) &&& 31) ^^^ -(nI 1))))) mem
      rw [e4, zdel_t _ (by omega) _ (zcal_lt wf _ (Nat.le_refl _))]
      exact q
    · exfalso
      have c : ¬ mem (2000 + (nI r + nI 0).toNatClampNeg) ≤ nI i := c
      rw [e0, nLe (by omega) (by omega)] at c
      omega
  | succ n ih =>
    intro i v4 hi
    have hie : i < g 0 := by omega
    obtain ⟨-, b2, b3, b4, -⟩ := wf.2.2.2.2.2.2.2.2 i hie
    have k := fun v => ih (i + 1) v (by omega)
    rw [← nI_1] at k
    have e1 := hb.ra hr w0 hie
    have e2 := hb.rt hr w0 hie
    have e5 := hb.rw hr w0 hie
    have hlt := zcal_lt wf i (by omega)
    refine zE_do 60 4 (tbl := tX8_calledOf) zck_161 rfl (h := ?_)
    refine ⟨rfl, _, hw, Or.inl rfl, zwi1 (by omega), fun c => ?_, fun c => ⟨rfl, _, hw, Or.inl rfl, zwi2 (by omega), fun c2 => ⟨fun c3 => ?_, fun c3 => ⟨rfl, _, hw, Or.inl rfl, zwi2 (by omega), rfl, _, hw, Or.inl rfl, zwi1 (by omega), fun c4 => ?_, fun c4 => ?_⟩⟩, fun c2 => ⟨rfl, _, hw, Or.inl rfl, zwi2 (by omega), ?_⟩⟩⟩
    · exfalso
      have c : mem (2000 + (nI r + nI 0).toNatClampNeg) ≤ nI i := c
      rw [e0, nLe (by omega) (by omega)] at c
      omega
    · have c2 : ¬ mem (2000 + (nI r + nI 13 + nI i).toNatClampNeg) = nI 10 := c2
      have c3 : nI 10 ≤ mem (2000 + (nI r + nI 13 + nI i).toNatClampNeg) := c3
      rw [e1, nEq (by omega) (by omega)] at c2
      rw [e1, nLe (by omega) (by omega)] at c3
      rw [show zcal g (i + 1) = zcal g i by rw [zcal, if_neg c2, if_neg (fun z => by have := z.1; omega)], ← zor0 (nI (zcal g i))] at k
      exact k _
    · have c2 : ¬ mem (2000 + (nI r + nI 13 + nI i).toNatClampNeg) = nI 10 := c2
      rw [e1, nEq (by omega) (by omega)] at c2
      have c4 : mem (2000 + (nI r + nI 3).toNatClampNeg) < mem (2000 + (nI r + nI 25 + nI i).toNatClampNeg) := c4
      rw [e3, e5, nLt (by omega) (by omega)] at c4
      rw [show zcal g (i + 1) = zcal g i by rw [zcal, if_neg c2, if_neg (fun z => by have := z.2; omega)], ← zor0 (nI (zcal g i))] at k
      exact k _
    · have c2 : ¬ mem (2000 + (nI r + nI 13 + nI i).toNatClampNeg) = nI 10 := c2
      have c3 : ¬ nI 10 ≤ mem (2000 + (nI r + nI 13 + nI i).toNatClampNeg) := c3
      rw [e1, nEq (by omega) (by omega)] at c2
      rw [e1, nLe (by omega) (by omega)] at c3
      have c4 : ¬ mem (2000 + (nI r + nI 3).toNatClampNeg) < mem (2000 + (nI r + nI 25 + nI i).toNatClampNeg) := c4
      rw [e3, e5, nLt (by omega) (by omega)] at c4
      rw [show zcal g (i + 1) = zcal g i ||| 2 ^ g (13 + i) by rw [zcal, if_neg c2, if_pos ⟨by omega, by omega⟩], ← zor_t (g (13 + i)) (by omega) _ hlt, ← e1] at k
      exact k _
    · have c2 : mem (2000 + (nI r + nI 13 + nI i).toNatClampNeg) = nI 10 := c2
      rw [e1, nEq (by omega) (by omega)] at c2
      rw [show zcal g (i + 1) = zcal g i ||| 2 ^ g (19 + i) by rw [zcal, if_pos c2], ← zor_t (g (19 + i)) (by omega) _ hlt, ← e2] at k
      exact k _
theorem ok_mcalledOf (hd : 0 < d) (hw : lk 1000 = some 2000) (hr : r + 43 ≤ 1247) (hb : zHB mem (2000 + r) g) (wf : zWF g) (q : Q (some (.int (nI (zcalled g)))) mem) : zOk X d 161 [.ref 1000, .int (nI r)] mem lk L lk L Q := by
  refine zOk_do 20 (tbl := tX8_calledOf) zck_161 rfl (by omega) (h := ?_)
  exact mcalled_loop hw hr hb wf q (g 0) 0 _ (by omega)
theorem mgoes_end {v2 v3 v4 : Value} (hw : lk 1000 = some 2000) (hr : r + 43 ≤ 1247) (hb : zHB mem (2000 + r) g) (w5 : g 5 ≤ 1) (h0 : g 5 = 0 → 1 ≤ g 4) (h4 : g 4 < 1000) (q : ∀ mem', zHB mem' (2000 + r) (va_up g 4 (if g 5 = 1 then g 4 + 1 else g 4 - 1)) → zfr mem mem' (2000 + r) → Q (some (.int (nI 1))) mem') : zE X d 162 97 [.ref 1000, .int (nI r), v2, v3, v4] [] mem lk L lk L Q := by
  have e4 := hb.r1 hr (k := 4) (by omega)
  have e5 := hb.r1 hr (k := 5) (by omega)
  have ea : 2000 + (nI r + nI 4).toNatClampNeg = 2000 + r + 4 := by rw [zw1 (by omega)]; omega
  refine zE_do 60 97 (tbl := tX8_goes) zck_162 rfl (h := ?_)
  refine ⟨rfl, _, hw, Or.inl rfl, zwi1 (by omega), rfl, _, hw, Or.inl rfl, zwi1 (by omega), fun c => ⟨rfl, zwi1 (by omega), rfl, rfl, rfl, ?_⟩, fun c => ⟨rfl, zwi1 (by omega), rfl, rfl, rfl, ?_⟩⟩
  · have c : ¬ mem (2000 + (nI r + nI 5).toNatClampNeg) = nI 1 := c
    rw [e5, nEq (by omega) (by omega)] at c
    show Q (some (.int (nI 1))) (upd mem (2000 + (nI r + nI 4).toNatClampNeg) (mem (2000 + (nI r + nI 4).toNatClampNeg) + -(nI 1)))
    refine q _ ?_ (zfr.up (by omega) (by omega))
    rw [e4, if_neg c, nm1 (h0 (by omega))]
    exact hb.set 4 _ (by omega) ea
  · have c : mem (2000 + (nI r + nI 5).toNatClampNeg) = nI 1 := c
    rw [e5, nEq (by omega) (by omega)] at c
    show Q (some (.int (nI 1))) (upd mem (2000 + (nI r + nI 4).toNatClampNeg) (mem (2000 + (nI r + nI 4).toNatClampNeg) + nI 1))
    refine q _ ?_ (zfr.up (by omega) (by omega))
    rw [e4, if_pos c, nI_add (g 4) 1]
    exact hb.set 4 _ (by omega) ea
theorem mgoes_mid {v2 : Value} {a b : Nat} (hw : lk 1000 = some 2000) (hr : r + 43 ≤ 1247) (hb : zHB mem (2000 + r) g) (wf : zWF g) (hz : zcalled g ≠ 0) (ha : a = if zcalled g / 2 ^ g 4 = 0 then 0 else 1) (hb' : b = if zcalled g % 2 ^ g 4 = 0 then 0 else 1) (q : ∀ mem', zHB mem' (2000 + r) (zmove g) → zfr mem mem' (2000 + r) → Q (some (.int (nI 1))) mem') : zE X d 162 55 [.ref 1000, .int (nI r), v2, .int (nI a), .int (nI b)] [] mem lk L lk L Q := by
  have w1 := wf.2.2.1
  have w4 := wf.2.2.2.2.2.1
  have w5 := wf.2.2.2.2.2.2.1
  obtain ⟨k1, k2, k3⟩ := zway_ok wf hz
  have hmv : zmove g = va_up (va_up g 5 (zway g)) 4 (if zway g = 1 then g 4 + 1 else g 4 - 1) := by unfold zmove; rw [if_neg hz]
  rw [hmv] at q
  have e5 := hb.r1 hr (k := 5) (by omega)
  have ea : 2000 + (nI r + nI 5).toNatClampNeg = 2000 + r + 5 := by rw [zw1 (by omega)]; omega
  have key : ∀ w, w = zway g → zE X d 162 97 [.ref 1000, .int (nI r), v2, .int (nI a), .int (nI b)] [] (upd mem (2000 + (nI r + nI 5).toNatClampNeg) (nI w)) lk L lk L Q := fun w hwz => by
    subst hwz
    exact mgoes_end (g := va_up g 5 (zway g)) hw hr (hb.set 5 _ (by omega) ea) (by rw [zup_eq]; exact k1) (fun z => by rw [zup_eq] at z; rw [zup_ne (by omega)]; exact k3 z) (by rw [zup_ne (by omega)]; omega) (fun m2 hb2 hf2 => q m2 (by rw [zup_eq, zup_ne (by omega)] at hb2; exact hb2) ((zfr.up (by omega) (by omega)).tr hf2))
  have la : a ≤ 1 := by rw [ha]; split <;> omega
  have lb : b ≤ 1 := by rw [hb']; split <;> omega
  refine zgoc [97] 60 55 (tbl := tX8_goes) zck_162 rfl (h := ?_)
  refine ⟨rfl, _, hw, rfl, _, hw, Or.inl rfl, zwi1 (by omega), fun c => ⟨fun c2 => ⟨rfl, zwi1 (by omega), key 1 ?_⟩, fun c2 => ⟨rfl, zwi1 (by omega), key 0 ?_⟩⟩, fun c => ⟨fun c2 => ⟨rfl, zwi1 (by omega), key 0 ?_⟩, fun c2 => ⟨rfl, zwi1 (by omega), key 1 ?_⟩⟩⟩
  · have c : ¬ mem (2000 + (nI r + nI 5).toNatClampNeg) = nI 1 := c
    rw [e5, nEq (by omega) (by omega)] at c
    have c2 : nI b = 0 := c2
    rw [n0 (by omega), hb'] at c2
    unfold zway; rw [if_neg c]; split at c2 <;> first | omega | (rw [if_pos (by assumption)])
  · have c : ¬ mem (2000 + (nI r + nI 5).toNatClampNeg) = nI 1 := c
    rw [e5, nEq (by omega) (by omega)] at c
    have c2 : ¬ nI b = 0 := c2
    rw [n0 (by omega), hb'] at c2
    unfold zway; rw [if_neg c]; split at c2 <;> first | omega | (rw [if_neg (by assumption)])
  · have c : mem (2000 + (nI r + nI 5).toNatClampNeg) = nI 1 := c
    rw [e5, nEq (by omega) (by omega)] at c
    have c2 : nI a = 0 := c2
    rw [n0 (by omega), ha] at c2
    unfold zway; rw [if_pos c]; split at c2 <;> first | omega | (rw [if_pos (by assumption)])
  · have c : mem (2000 + (nI r + nI 5).toNatClampNeg) = nI 1 := c
    rw [e5, nEq (by omega) (by omega)] at c
    have c2 : ¬ nI a = 0 := c2
    rw [n0 (by omega), ha] at c2
    unfold zway; rw [if_pos c]; split at c2 <;> first | omega | (rw [if_neg (by assumption)])
theorem ok_mgoes (hd : 1 < d) (hw : lk 1000 = some 2000) (hr : r + 43 ≤ 1247) (hb : zHB mem (2000 + r) g) (wf : zWF g) (q1 : zcalled g ≠ 0 → ∀ mem', zHB mem' (2000 + r) (zmove g) → zfr mem mem' (2000 + r) → Q (some (.int (nI 1))) mem') (q0 : zcalled g = 0 → Q (some (.int (nI 0))) mem) : zOk X d 162 [.ref 1000, .int (nI r)] mem lk L lk L Q := by
  have w1 := wf.2.2.1
  have w4 := wf.2.2.2.2.2.1
  have hlt := zcalled_lt wf
  have e4 := hb.r1 hr (k := 4) (by omega)
  have hm := Nat.mod_le (zcalled g) (2 ^ g 4)
  have hv := Nat.div_le_self (zcalled g) (2 ^ g 4)
  refine zOk_doc [31] 40 (tbl := tX8_goes) zck_162 rfl (by omega) (h := ?_)
  refine ⟨rfl, ok_mcalledOf (by omega) hw hr hb wf ⟨fun c => ?_, fun c => ⟨rfl, rfl, rfl, ?_⟩⟩⟩
  · have c : ¬ nI (zcalled g) = 0 := c
    rw [n0 (by omega)] at c
    have key : ∀ a, (a = if zcalled g / 2 ^ g 4 = 0 then 0 else 1) → ∀ v4, zE X d 162 31 [.ref 1000, .int (nI r), .int (nI (zcalled g)), .int (nI a), v4] [] mem lk L lk L Q := fun a ha v4 => by
      refine zgoc [55] 60 31 (tbl := tX8_goes) zck_162 rfl (h := ?_)
      refine ⟨rfl, _, hw, Or.inl rfl, zwi1 (by omega), fun c2 => mgoes_mid (b := 0) hw hr hb wf c ha ?_ (q1 c), fun c2 => mgoes_mid (b := 1) hw hr hb wf c ha ?_ (q1 c)⟩
      · have c2 : nI (zcalled g) &&& (nI 1 <<< (mem (2000 + (nI r + nI 4).toNatClampNeg) &&& 31) - nI 1) ≤ 0 := c2
        rw [e4, zblw_t _ (by omega) _ hlt, show (0 : Int32) = nI 0 from rfl, nLe (by omega) (by omega)] at c2
        rw [if_pos (by omega)]
      · have c2 : ¬ nI (zcalled g) &&& (nI 1 <<< (mem (2000 + (nI r + nI 4).toNatClampNeg) &&& 31) - nI 1) ≤ 0 := c2
        rw [e4, zblw_t _ (by omega) _ hlt, show (0 : Int32) = nI 0 from rfl, nLe (by omega) (by omega)] at c2
        rw [if_neg (by omega)]
    refine ⟨rfl, _, hw, Or.inl rfl, zwi1 (by omega), fun c2 => key 0 ?_ _, fun c2 => key 1 ?_ _⟩
    · have c2 : nI (zcalled g) >>> (mem (2000 + (nI r + nI 4).toNatClampNeg) &&& 31) ≤ 0 := c2
      rw [e4, zabv_t _ (by omega) _ hlt, show (0 : Int32) = nI 0 from rfl, nLe (by omega) (by omega)] at c2
      rw [if_pos (Nat.le_zero.mp c2)]
    · have c2 : ¬ nI (zcalled g) >>> (mem (2000 + (nI r + nI 4).toNatClampNeg) &&& 31) ≤ 0 := c2
      rw [e4, zabv_t _ (by omega) _ hlt, show (0 : Int32) = nI 0 from rfl, nLe (by omega) (by omega)] at c2
      rw [if_neg (by omega)]
  · have c : nI (zcalled g) = 0 := c
    rw [n0 (by omega)] at c
    exact q0 c
end MP
end
section
/-! the reference: coolsOne, cools, passes -/
def zhN (g : zH) (e : Nat) : Nat := if 4 ≤ g (7 + e) then (if g (31 + e) < 60 then g (31 + e) + 1 else g (31 + e)) else if g (7 + e) = 3 ∧ g 6 % 2 = 0 then g (31 + e) else g (31 + e) - 1
def zwN (g : zH) (e : Nat) (sh : Prop) [Decidable sh] : Nat := if ((g (7 + e) = 2 ∧ sh) ∨ (g (7 + e) = 5 ∧ 10 ≤ zhN g e)) ∧ 1 < g (25 + e) then g (25 + e) - 1 else g (25 + e)
theorem zup2_ext {g f : zH} {e H W : Nat} (h1 : f (31 + e) = H) (h2 : f (25 + e) = W) (h3 : ∀ j, j ≠ 25 + e → j ≠ 31 + e → f j = g j) : f = va_up (va_up g (31 + e) H) (25 + e) W := by
  funext j
  by_cases a : j = 25 + e
  · subst a; rw [zup_eq]; exact h2
  · rw [zup_ne a]
    by_cases b : j = 31 + e
    · subst b; rw [zup_eq]; exact h1
    · rw [zup_ne b]; exact h3 j a b
theorem zage_form {g : zH} {e : Nat} {sh : Prop} [Decidable sh] (hk : 1 ≤ g (7 + e) ∧ g (7 + e) ≤ 5) : zage g e sh = va_up (va_up g (31 + e) (zhN g e)) (25 + e) (zwN g e sh) := by
  have n1 : 25 + e ≠ 31 + e := by omega
  have n2 : 31 + e ≠ 25 + e := by omega
  have hc : zcool g e (31 + e) = g (31 + e) - 1 := zup_eq
  have hc2 : zcool g e (25 + e) = g (25 + e) := zup_ne n1
  have hw : zwarm g e (31 + e) = if g (31 + e) < 60 then g (31 + e) + 1 else g (31 + e) := zup_eq
  have hw2 : zwarm g e (25 + e) = g (25 + e) := zup_ne n1
  have hl : ∀ g' : zH, zlose g' e (31 + e) = g' (31 + e) := fun g' => zup_ne n2
  have hl2 : ∀ g' : zH, zlose g' e (25 + e) = if 1 < g' (25 + e) then g' (25 + e) - 1 else g' (25 + e) := fun g' => zup_eq
  have fin : ∀ f : zH, zage g e sh = f → f (31 + e) = zhN g e → f (25 + e) = zwN g e sh → zage g e sh = va_up (va_up g (31 + e) (zhN g e)) (25 + e) (zwN g e sh) := fun f hz h1 h2 =>
    zup2_ext (by rw [hz]; exact h1) (by rw [hz]; exact h2) (fun j a b => zage_ne a b)
  rcases (by omega : g (7 + e) = 1 ∨ g (7 + e) = 2 ∨ g (7 + e) = 3 ∨ g (7 + e) = 4 ∨ g (7 + e) = 5) with k | k | k | k | k
  · have k2 : ¬ g (7 + e) = 2 := by omega
    have k3 : ¬ g (7 + e) = 3 := by omega
    have k4 : ¬ g (7 + e) = 4 := by omega
    have k5 : ¬ g (7 + e) = 5 := by omega
    refine fin (zcool g e) (by unfold zage; rw [if_neg k2, if_neg k3, if_neg k4, if_neg k5]) ?_ ?_
    · unfold zhN; rw [if_neg (show ¬ 4 ≤ g (7 + e) by omega), if_neg (fun z => k3 z.1), hc]
    · unfold zwN; rw [if_neg (fun z => z.1.elim (fun y => k2 y.1) (fun y => k5 y.1)), hc2]
  · have k3 : ¬ g (7 + e) = 3 := by omega
    have k5 : ¬ g (7 + e) = 5 := by omega
    by_cases hs : sh
    · refine fin (zlose (zcool g e) e) (by unfold zage; rw [if_pos k, if_pos hs]) ?_ ?_
      · unfold zhN; rw [if_neg (show ¬ 4 ≤ g (7 + e) by omega), if_neg (fun z => k3 z.1), hl, hc]
      · rw [hl2, hc2]; unfold zwN
        by_cases z : 1 < g (25 + e)
        · rw [if_pos z, if_pos ⟨Or.inl ⟨k, hs⟩, z⟩]
        · rw [if_neg z, if_neg (fun q => z q.2)]
    · refine fin (zcool g e) (by unfold zage; rw [if_pos k, if_neg hs]) ?_ ?_
      · unfold zhN; rw [if_neg (show ¬ 4 ≤ g (7 + e) by omega), if_neg (fun z => k3 z.1), hc]
      · unfold zwN; rw [if_neg (fun z => z.1.elim (fun y => hs y.2) (fun y => k5 y.1)), hc2]
  · have k2 : ¬ g (7 + e) = 2 := by omega
    have k5 : ¬ g (7 + e) = 5 := by omega
    by_cases hs : g 6 % 2 = 0
    · refine fin g (by unfold zage; rw [if_neg k2, if_pos k, if_pos hs]) ?_ ?_
      · unfold zhN; rw [if_neg (show ¬ 4 ≤ g (7 + e) by omega), if_pos ⟨k, hs⟩]
      · unfold zwN; rw [if_neg (fun z => z.1.elim (fun y => k2 y.1) (fun y => k5 y.1))]
    · refine fin (zcool g e) (by unfold zage; rw [if_neg k2, if_pos k, if_neg hs]) ?_ ?_
      · unfold zhN; rw [if_neg (show ¬ 4 ≤ g (7 + e) by omega), if_neg (fun z => hs z.2), hc]
      · unfold zwN; rw [if_neg (fun z => z.1.elim (fun y => k2 y.1) (fun y => k5 y.1)), hc2]
  · have k2 : ¬ g (7 + e) = 2 := by omega
    have k3 : ¬ g (7 + e) = 3 := by omega
    have k5 : ¬ g (7 + e) = 5 := by omega
    refine fin (zwarm g e) (by unfold zage; rw [if_neg k2, if_neg k3, if_pos k]) ?_ ?_
    · rw [hw]; unfold zhN; rw [if_pos (show 4 ≤ g (7 + e) by omega)]
    · unfold zwN; rw [if_neg (fun z => z.1.elim (fun y => k2 y.1) (fun y => k5 y.1)), hw2]
  · have k2 : ¬ g (7 + e) = 2 := by omega
    have k3 : ¬ g (7 + e) = 3 := by omega
    have k4 : ¬ g (7 + e) = 4 := by omega
    have hN : zwarm g e (31 + e) = zhN g e := by rw [hw]; unfold zhN; rw [if_pos (show 4 ≤ g (7 + e) by omega)]
    by_cases y : zwarm g e (31 + e) < 10
    · refine fin (zwarm g e) (by unfold zage; rw [if_neg k2, if_neg k3, if_neg k4, if_pos k, if_pos y]) hN ?_
      rw [hN] at y
      unfold zwN; rw [if_neg (fun z => z.1.elim (fun x => k2 x.1) (fun x => by have := x.2; omega)), hw2]
    · refine fin (zlose (zwarm g e) e) (by unfold zage; rw [if_neg k2, if_neg k3, if_neg k4, if_pos k, if_neg y]) (by rw [hl]; exact hN) ?_
      rw [hN] at y
      rw [hl2, hw2]; unfold zwN
      by_cases z : 1 < g (25 + e)
      · rw [if_pos z, if_pos ⟨Or.inr ⟨k, by omega⟩, z⟩]
      · rw [if_neg z, if_neg (fun q => z q.2)]
theorem nsub {a b : Nat} (h : b ≤ a) (ha : a < 1000) : nI a - nI b = nI (a - b) := by
  have := pk_sub_toInt (a := a) (b := b) (by omega) (by omega)
  rw [i_eq, this, nT (by omega)]; omega
section MP
variable {X d : Nat} {mem : zMem} {lk : zLk} {L : List Nat} {Q : Option Value → zMem → Prop} {r : Nat} {g : zH}
theorem mcool187 {e t : Nat} {v3 v4 v5 v6 v7 : Value} {lo : Prop} [Decidable lo] (hw : lk 1000 = some 2000) (hr : r + 43 ≤ 1247) (hb : zHB mem (2000 + r) g) (h6 : g 0 ≤ 6) (he : e < g 0) (hwt : g (25 + e) < 1000) (ht : t = if lo then 1 else 0)
    (q : ∀ mem', zHB mem' (2000 + r) (va_up g (25 + e) (if lo ∧ 1 < g (25 + e) then g (25 + e) - 1 else g (25 + e))) → zfr mem mem' (2000 + r) → Q none mem') : zE X d 164 187 [.ref 1000, .int (nI r), .int (nI e), v3, v4, v5, v6, v7, .int (nI t)] [] mem lk L lk L Q := by
  have e1 := hb.rw hr h6 he
  have ea : 2000 + (nI r + nI 25 + nI e).toNatClampNeg = 2000 + r + (25 + e) := by rw [zw2 (by omega)]; omega
  have lt : t ≤ 1 := by rw [ht]; split <;> omega
  refine zE_do 60 187 (tbl := tX8_coolsOne) zck_164 rfl (h := ?_)
  refine ⟨rfl, _, hw, Or.inl rfl, zwi2 (by omega), fun c => ⟨rfl, zwi2 (by omega), rfl, rfl, ?_⟩, fun c => ⟨rfl, _, hw, Or.inl rfl, zwi2 (by omega), fun c2 => ⟨rfl, zwi2 (by omega), rfl, rfl, ?_⟩, fun c2 => ⟨rfl, zwi2 (by omega), rfl, rfl, ?_⟩⟩⟩
  · have c : nI t = 0 := c
    rw [n0 (by omega), ht] at c
    have hz : ¬ lo := fun z => by rw [if_pos z] at c; omega
    show Q none (upd mem (2000 + (nI r + nI 25 + nI e).toNatClampNeg) (mem (2000 + (nI r + nI 25 + nI e).toNatClampNeg) - nI 0))
    refine q _ ?_ (zfr.up (by omega) (by omega))
    rw [if_neg (fun z => hz z.1), e1, nsub (by omega) hwt]
    exact hb.set (25 + e) _ (by omega) ea
  · have c2 : mem (2000 + (nI r + nI 25 + nI e).toNatClampNeg) ≤ nI 1 := c2
    rw [e1, nLe (by omega) (by omega)] at c2
    show Q none (upd mem (2000 + (nI r + nI 25 + nI e).toNatClampNeg) (mem (2000 + (nI r + nI 25 + nI e).toNatClampNeg) - nI 0))
    refine q _ ?_ (zfr.up (by omega) (by omega))
    rw [if_neg (fun z => by have := z.2; omega), e1, nsub (by omega) hwt]
    exact hb.set (25 + e) _ (by omega) ea
  · have c : ¬ nI t = 0 := c
    rw [n0 (by omega), ht] at c
    have hz : lo := Decidable.byContradiction fun z => by rw [if_neg z] at c; omega
    have c2 : ¬ mem (2000 + (nI r + nI 25 + nI e).toNatClampNeg) ≤ nI 1 := c2
    rw [e1, nLe (by omega) (by omega)] at c2
    show Q none (upd mem (2000 + (nI r + nI 25 + nI e).toNatClampNeg) (mem (2000 + (nI r + nI 25 + nI e).toNatClampNeg) - nI 1))
    refine q _ ?_ (zfr.up (by omega) (by omega))
    rw [if_pos ⟨hz, by omega⟩, e1, nsub (by omega) hwt]
    exact hb.set (25 + e) _ (by omega) ea
theorem mcool120 {e v : Nat} {v5 v6 v8 : Value} {went : Prop} [Decidable went] (hv : v = if went then 1 else 0) (hw : lk 1000 = some 2000) (hr : r + 43 ≤ 1247) (hb : zHB mem (2000 + r) g) (wf : zWF g) (he : e < g 0) 
    (q : ∀ mem', zHB mem' (2000 + r) (zage g e (went ∧ g (13 + e) = 10)) → zfr mem mem' (2000 + r) → Q none mem') : zE X d 164 120 [.ref 1000, .int (nI r), .int (nI e), .int (nI v), .int (nI (g (7 + e))), v5, v6, .int (nI (zhN g e)), v8] [] mem lk L lk L Q := by
  have h6 := wf.1
  obtain ⟨w1, -, -, w4, w5⟩ := wf.2.2.2.2.2.2.2.2 e he
  have w11 := wf.at11 e he
  have ea : 2000 + (nI r + nI 31 + nI e).toNatClampNeg = 2000 + r + (31 + e) := by rw [zw2 (by omega)]; omega
  rw [zage_form w1] at q
  have hb1 := hb.set (31 + e) (zhN g e) (by omega) ea
  have hf1 : zfr mem (upd mem (2000 + (nI r + nI 31 + nI e).toNatClampNeg) (nI (zhN g e))) (2000 + r) := zfr.up (by omega) (by omega)
  have hN : zhN g e ≤ 60 := by unfold zhN; repeat' split
                               all_goals omega
  have g0 : va_up g (31 + e) (zhN g e) 0 = g 0 := zup_ne (by omega)
  have g25 : va_up g (31 + e) (zhN g e) (25 + e) = g (25 + e) := zup_ne (by omega)
  have g13 : va_up g (31 + e) (zhN g e) (13 + e) = g (13 + e) := zup_ne (by omega)
  have e13 := hb1.ra hr (by rw [g0]; exact h6) (e := e) (by rw [g0]; exact he)
  rw [g13] at e13
  have lv : v ≤ 1 := by rw [hv]; split <;> omega
  unfold zwN at q
  have key : ∀ t, (t = if ((g (7 + e) = 2 ∧ (went ∧ g (13 + e) = 10)) ∨ (g (7 + e) = 5 ∧ 10 ≤ zhN g e)) then 1 else 0) → zE X d 164 187 [.ref 1000, .int (nI r), .int (nI e), .int (nI v), .int (nI (g (7 + e))), v5, v6, .int (nI (zhN g e)), .int (nI t)] [] (upd mem (2000 + (nI r + nI 31 + nI e).toNatClampNeg) (nI (zhN g e))) lk L lk L Q := fun t ht =>
    mcool187 hw hr hb1 (by rw [g0]; exact h6) (by rw [g0]; exact he) (by rw [g25]; omega) ht (fun m2 hb2 hf2 => q m2 (by rw [g25] at hb2; exact hb2) (hf1.tr hf2))
  refine zgoc [187] 60 120 (tbl := tX8_coolsOne) zck_164 rfl (h := ?_)
  refine ⟨rfl, _, hw, rfl, zwi2 (by omega), fun c => ⟨fun c2 => key 0 ?_, fun c2 => ⟨fun c3 => key 0 ?_, fun c3 => key 1 ?_⟩⟩, fun c => ⟨rfl, _, hw, Or.inl rfl, zwi2 (by omega), fun c2 => key 0 ?_, fun c2 => ⟨fun c3 => key 0 ?_, fun c3 => key 1 ?_⟩⟩⟩
  · have c : ¬ nI (g (7 + e)) = nI 2 := c
    have c2 : ¬ nI (g (7 + e)) = nI 5 := c2
    rw [nEq (by omega) (by omega)] at c c2
    rw [if_neg (fun z => z.elim (fun y => c y.1) (fun y => c2 y.1))]
  · have c : ¬ nI (g (7 + e)) = nI 2 := c
    have c3 : nI (zhN g e) < nI 10 := c3
    rw [nEq (by omega) (by omega)] at c
    rw [nLt (by omega) (by omega)] at c3
    rw [if_neg (fun z => z.elim (fun y => c y.1) (fun y => by have := y.2; omega))]
  · have c2 : nI (g (7 + e)) = nI 5 := c2
    have c3 : ¬ nI (zhN g e) < nI 10 := c3
    rw [nEq (by omega) (by omega)] at c2
    rw [nLt (by omega) (by omega)] at c3
    rw [if_pos (Or.inr ⟨c2, by omega⟩)]
  · have c : nI (g (7 + e)) = nI 2 := c
    rw [nEq (by omega) (by omega)] at c
    have c2 : ¬ upd mem (2000 + (nI r + nI 31 + nI e).toNatClampNeg) (nI (zhN g e)) (2000 + (nI r + nI 13 + nI e).toNatClampNeg) = nI 10 := c2
    rw [e13, nEq (by omega) (by omega)] at c2
    rw [if_neg (fun z => z.elim (fun y => c2 y.2.2) (fun y => by have := y.1; omega))]
  · have c : nI (g (7 + e)) = nI 2 := c
    rw [nEq (by omega) (by omega)] at c
    have c3 : nI v = 0 := c3
    rw [n0 (by omega), hv] at c3
    rw [if_neg (fun z => z.elim (fun y => by rw [if_pos y.2.1] at c3; omega) (fun y => by have := y.1; omega))]
  · have c : nI (g (7 + e)) = nI 2 := c
    rw [nEq (by omega) (by omega)] at c
    have c2 : upd mem (2000 + (nI r + nI 31 + nI e).toNatClampNeg) (nI (zhN g e)) (2000 + (nI r + nI 13 + nI e).toNatClampNeg) = nI 10 := c2
    rw [e13, nEq (by omega) (by omega)] at c2
    have c3 : ¬ nI v = 0 := c3
    rw [n0 (by omega), hv] at c3
    have hz : went := Decidable.byContradiction fun z => by rw [if_neg z] at c3; omega
    rw [if_pos (Or.inl ⟨c, hz, c2⟩)]
theorem mcool95 {e v : Nat} {x y6 : Int32} {v5 v8 : Value} {went : Prop} [Decidable went] (hv : v = if went then 1 else 0) (hw : lk 1000 = some 2000) (hr : r + 43 ≤ 1247) (hb : zHB mem (2000 + r) g) (wf : zWF g) (he : e < g 0)
    (hx : (x.toInt < 0 ∧ zhN g e = 0) ∨ (60 < x.toInt ∧ zhN g e = 60) ∨ (0 ≤ x.toInt ∧ x.toInt ≤ 60 ∧ x = nI (zhN g e)))
    (q : ∀ mem', zHB mem' (2000 + r) (zage g e (went ∧ g (13 + e) = 10)) → zfr mem mem' (2000 + r) → Q none mem') : zE X d 164 95 [.ref 1000, .int (nI r), .int (nI e), .int (nI v), .int (nI (g (7 + e))), v5, .int y6, .int x, v8] [] mem lk L lk L Q := by
  have key : ∀ H, H = nI (zhN g e) → zE X d 164 120 [.ref 1000, .int (nI r), .int (nI e), .int (nI v), .int (nI (g (7 + e))), v5, .int y6, .int H, v8] [] mem lk L lk L Q := fun H hH => by
    subst hH; exact mcool120 hv hw hr hb wf he q
  have n60 : (nI 60).toInt = 60 := nT (by omega)
  refine zgoc [120] 60 95 (tbl := tX8_coolsOne) zck_164 rfl (h := ?_)
  refine ⟨fun c => ⟨fun c2 => key _ ?_, fun c2 => key (nI 60) ?_⟩, fun c => key (nI 0) ?_⟩
  · have c : 0 ≤ x := c
    have c2 : x ≤ nI 60 := c2
    rw [i_le, i_0] at c
    rw [i_le, n60] at c2
    rcases hx with ⟨h1, h2⟩ | ⟨h1, h2⟩ | ⟨h1, h2, h3⟩
    · omega
    · omega
    · exact h3
  · have c : 0 ≤ x := c
    have c2 : ¬ x ≤ nI 60 := c2
    rw [i_le, i_0] at c
    rw [i_le, n60] at c2
    rcases hx with ⟨h1, h2⟩ | ⟨h1, h2⟩ | ⟨h1, h2, h3⟩
    · omega
    · rw [h2]
    · omega
  · have c : ¬ 0 ≤ x := c
    rw [i_le, i_0] at c
    rcases hx with ⟨h1, h2⟩ | ⟨h1, h2⟩ | ⟨h1, h2, h3⟩
    · rw [h2]
    · omega
    · omega
theorem mcool66 {e v t : Nat} {v7 v8 : Value} {went : Prop} [Decidable went] (hv : v = if went then 1 else 0) (hw : lk 1000 = some 2000) (hr : r + 43 ≤ 1247) (hb : zHB mem (2000 + r) g) (wf : zWF g) (he : e < g 0)
    (ht : g (7 + e) < 4 → t = if g (7 + e) = 3 ∧ g 6 % 2 = 0 then 0 else 1) (lt : t ≤ 1)
    (q : ∀ mem', zHB mem' (2000 + r) (zage g e (went ∧ g (13 + e) = 10)) → zfr mem mem' (2000 + r) → Q none mem') : zE X d 164 66 [.ref 1000, .int (nI r), .int (nI e), .int (nI v), .int (nI (g (7 + e))), .int (nI (g (31 + e))), .int (nI t), v7, v8] [] mem lk L lk L Q := by
  obtain ⟨w1, -, -, w4, w5⟩ := wf.2.2.2.2.2.2.2.2 e he
  refine zgoc [95] 60 66 (tbl := tX8_coolsOne) zck_164 rfl (h := ?_)
  refine ⟨fun c => ⟨fun c2 => mcool95 hv hw hr hb wf he (x := nI (g (31 + e))) ?_ q, fun c2 => mcool95 hv hw hr hb wf he (x := nI (g (31 + e)) - nI 1) ?_ q⟩, fun c => mcool95 hv hw hr hb wf he (x := nI (g (31 + e)) + nI 1) ?_ q⟩
  · have c : nI (g (7 + e)) < nI 4 := c
    rw [nLt (by omega) (by omega)] at c
    have c2 : nI t = 0 := c2
    rw [n0 (by omega), ht c] at c2
    have hz : g (7 + e) = 3 ∧ g 6 % 2 = 0 := Decidable.byContradiction fun z => by rw [if_neg z] at c2; omega
    have hN : zhN g e = g (31 + e) := by unfold zhN; rw [if_neg (by omega), if_pos hz]
    rw [hN, nT (by omega)]
    exact Or.inr (Or.inr ⟨by omega, by omega, rfl⟩)
  · have c : nI (g (7 + e)) < nI 4 := c
    rw [nLt (by omega) (by omega)] at c
    have c2 : ¬ nI t = 0 := c2
    rw [n0 (by omega), ht c] at c2
    have hz : ¬ (g (7 + e) = 3 ∧ g 6 % 2 = 0) := fun z => by rw [if_pos z] at c2; omega
    have hN : zhN g e = g (31 + e) - 1 := by unfold zhN; rw [if_neg (by omega), if_neg hz]
    rw [hN, pk_sub_toInt (by omega) (by omega)]
    rcases Nat.eq_zero_or_pos (g (31 + e)) with z | z
    · exact Or.inl ⟨by omega, by omega⟩
    · exact Or.inr (Or.inr ⟨by omega, by omega, nsub z (by omega)⟩)
  · have c : ¬ nI (g (7 + e)) < nI 4 := c
    rw [nLt (by omega) (by omega)] at c
    have hN : zhN g e = if g (31 + e) < 60 then g (31 + e) + 1 else g (31 + e) := by unfold zhN; rw [if_pos (show 4 ≤ g (7 + e) by omega)]
    rw [hN, nI_add, nT (by omega)]
    by_cases z : g (31 + e) < 60
    · rw [if_pos z]; exact Or.inr (Or.inr ⟨by omega, by omega, rfl⟩)
    · rw [if_neg z]; exact Or.inr (Or.inl ⟨by omega, by omega⟩)
theorem ok_mcoolsOne {e v : Nat} {went : Prop} [Decidable went] (hd : 0 < d) (hv : v = if went then 1 else 0) (hw : lk 1000 = some 2000) (hr : r + 43 ≤ 1247) (hb : zHB mem (2000 + r) g) (wf : zWF g) (he : e < g 0)
    (q : ∀ mem', zHB mem' (2000 + r) (zage g e (went ∧ g (13 + e) = 10)) → zfr mem mem' (2000 + r) → Q none mem') : zOk X d 164 [.ref 1000, .int (nI r), .int (nI e), .int (nI v)] mem lk L lk L Q := by
  have h6 := wf.1
  obtain ⟨w1, -, -, w4, w5⟩ := wf.2.2.2.2.2.2.2.2 e he
  have w6 := wf.2.2.2.2.2.2.2.1
  have e1 := hb.rk hr h6 he
  have e2 := hb.rh hr h6 he
  have e6 := hb.r1 hr (k := 6) (by omega)
  refine zOk_doc [66] 60 (tbl := tX8_coolsOne) zck_164 rfl (by omega) (h := ?_)
  refine ⟨rfl, _, hw, Or.inl rfl, zwi2 (by omega), rfl, _, hw, Or.inl rfl, zwi2 (by omega), ?_⟩
  rw [e1, e2]
  have key : ∀ t v7 v8, t ≤ 1 → (g (7 + e) < 4 → t = if g (7 + e) = 3 ∧ g 6 % 2 = 0 then 0 else 1) → zE X d 164 66 [.ref 1000, .int (nI r), .int (nI e), .int (nI v), .int (nI (g (7 + e))), .int (nI (g (31 + e))), .int (nI t), v7, v8] [] mem lk L lk L Q := fun t v7 v8 lt ht => mcool66 hv hw hr hb wf he ht lt q
  refine ⟨fun c => key 1 _ _ (by omega) (fun _ => ?_), fun c => ⟨fun c2 => key 1 _ _ (by omega) (fun _ => ?_), fun c2 => ⟨fun c3 => key 0 _ _ (by omega) (fun h4 => ?_), fun c3 => ⟨rfl, _, hw, Or.inl rfl, zwi1 (by omega), by decide, fun c4 => key 0 _ _ (by omega) (fun _ => ?_), fun c4 => key 1 _ _ (by omega) (fun _ => ?_)⟩⟩⟩⟩
  · have c : nI (g (7 + e)) = nI 1 := c
    rw [nEq (by omega) (by omega)] at c
    rw [if_neg (by omega)]
  · have c2 : nI (g (7 + e)) = nI 2 := c2
    rw [nEq (by omega) (by omega)] at c2
    rw [if_neg (by omega)]
  · have c : ¬ nI (g (7 + e)) = nI 1 := c
    have c2 : ¬ nI (g (7 + e)) = nI 2 := c2
    have c3 : ¬ nI (g (7 + e)) = nI 3 := c3
    rw [nEq (by omega) (by omega)] at c c2 c3
    omega
  · have c3 : nI (g (7 + e)) = nI 3 := c3
    rw [nEq (by omega) (by omega)] at c3
    have c4 : ¬ mem (2000 + (nI r + nI 6).toNatClampNeg) - mem (2000 + (nI r + nI 6).toNatClampNeg) / nI 2 * nI 2 = nI 1 := c4
    rw [e6, zodd (by omega), nEq (by omega) (by omega)] at c4
    rw [if_pos ⟨c3, by omega⟩]
  · have c4 : mem (2000 + (nI r + nI 6).toNatClampNeg) - mem (2000 + (nI r + nI 6).toNatClampNeg) / nI 2 * nI 2 = nI 1 := c4
    rw [e6, zodd (by omega), nEq (by omega) (by omega)] at c4
    rw [if_neg (by omega)]
theorem mcools_loop {went : Prop} [Decidable went] {v : Nat} (hv : v = if went then 1 else 0) (hd : 1 < d) (hw : lk 1000 = some 2000) (hr : r + 43 ≤ 1247) {g0 : zH} (wf : zWF g0) (h6 : g0 6 ≤ 1000000) (q : ∀ mem', zHB mem' (2000 + r) (va_up (zages went g0 (g0 0)) 6 (g0 6 + 1)) → zfr mem mem' (2000 + r) → Q none mem') : ∀ n i m1, i + n = g0 0 → zHB m1 (2000 + r) (zages went g0 i) → zfr mem m1 (2000 + r) → zE X d 163 2 [.ref 1000, .int (nI r), .int (nI v), .int (nI i)] [] m1 lk L lk L Q := by
  have w0 := wf.1
  intro n
  induction n with
  | zero =>
    intro i m1 hi hb hf
    have n00 : zages went g0 i 0 = g0 0 := zages_0 (by omega) i
    have n6 : zages went g0 i 6 = g0 6 := zages_0 (by omega) i
    have e0 := hb.r1 hr (k := 0) (by omega)
    have e6 := hb.r1 hr (k := 6) (by omega)
    have ea : 2000 + (nI r + nI 6).toNatClampNeg = 2000 + r + 6 := by rw [zw1 (by omega)]; omega
    refine zE_do 40 2 (tbl := tX8_cools) zck_163 rfl (h := ?_)
    refine ⟨rfl, _, hw, Or.inl rfl, zwi1 (by omega), fun c => ⟨rfl, _, hw, Or.inl rfl, zwi1 (by omega), rfl, zwi1 (by omega), rfl, rfl, ?_⟩, fun c => ?_⟩
    · show Q none (upd m1 (2000 + (nI r + nI 6).toNatClampNeg) (m1 (2000 + (nI r + nI 6).toNatClampNeg) + nI 1))
      refine q _ ?_ (hf.tr (zfr.up (by omega) (by omega)))
      rw [e6, n6, nI_add (g0 6) 1]
      rw [show i = g0 0 by omega] at hb
      exact hb.set 6 _ (by omega) ea
    · exfalso
      have c : ¬ m1 (2000 + (nI r + nI 0).toNatClampNeg) ≤ nI i := c
      rw [e0, n00, nLe (by omega) (by omega)] at c
      omega
  | succ n ih =>
    intro i m1 hi hb hf
    have n00 : zages went g0 i 0 = g0 0 := zages_0 (by omega) i
    have wi := zages_wf (went := went) wf i (by omega)
    have k := ih (i + 1)
    have hnext : zages went g0 (i + 1) = if zages went g0 i (13 + i) = 11 then zages went g0 i else zage (zages went g0 i) i (went ∧ zages went g0 i (13 + i) = 10) := rfl
    rw [hnext, ← nI_1] at k
    generalize zages went g0 i = gi at hb n00 wi k
    have hie : i < gi 0 := by omega
    have w11 := wi.at11 i hie
    have e0 := hb.r1 hr (k := 0) (by omega)
    have e1 := hb.ra hr wi.1 hie
    refine zE_do 40 2 (tbl := tX8_cools) zck_163 rfl (h := ?_)
    refine ⟨rfl, _, hw, Or.inl rfl, zwi1 (by omega), fun c => ?_, fun c => ⟨rfl, _, hw, Or.inl rfl, zwi2 (by omega), fun c2 => ?_, fun c2 => ⟨rfl, ?_⟩⟩⟩
    · exfalso
      have c : m1 (2000 + (nI r + nI 0).toNatClampNeg) ≤ nI i := c
      rw [e0, n00, nLe (by omega) (by omega)] at c
      omega
    · have c2 : m1 (2000 + (nI r + nI 13 + nI i).toNatClampNeg) = nI 11 := c2
      rw [e1, nEq (by omega) (by omega)] at c2
      exact k m1 (by omega) (by rw [if_pos c2]; exact hb) hf
    · have c2 : ¬ m1 (2000 + (nI r + nI 13 + nI i).toNatClampNeg) = nI 11 := c2
      rw [e1, nEq (by omega) (by omega)] at c2
      exact ok_mcoolsOne (went := went) (by omega) hv hw hr hb wi hie (fun m2 hb2 hf2 => k m2 (by omega) (by rw [if_neg c2]; exact hb2) (hf.tr hf2))
theorem ok_mcools {went : Prop} [Decidable went] {v : Nat} (hv : v = if went then 1 else 0) (hd : 1 < d) (hw : lk 1000 = some 2000) (hr : r + 43 ≤ 1247) (hb : zHB mem (2000 + r) g) (wf : zWF g) (h6 : g 6 ≤ 1000000) (q : ∀ mem', zHB mem' (2000 + r) (va_up (zages went g (g 0)) 6 (g 6 + 1)) → zfr mem mem' (2000 + r) → Q none mem') : zOk X d 163 [.ref 1000, .int (nI r), .int (nI v)] mem lk L lk L Q := by
  refine zOk_do 20 (tbl := tX8_cools) zck_163 rfl (by omega) (h := ?_)
  exact mcools_loop hv hd hw hr wf h6 q (g 0) 0 mem (by omega) hb zfr.rf
/-- a minute of a row -/
theorem ok_mpasses {ord : Nat → Nat} (hd : 3 < d) (hw : lk 1000 = some 2000) (hr : r + 43 ≤ 1247) (hb : zHB mem (2000 + r) g) (wf : zWF g) (h6 : g 6 ≤ 1000000) (ho : zRk mem (2000 + r) ord (g 0)) (q : ∀ mem', zHB mem' (2000 + r) (zpass ord g) → zfr mem mem' (2000 + r) → Q none mem') : zOk X d 165 [.ref 1000, .int (nI r)] mem lk L lk L Q := by
  have w0 := wf.1
  have wl := zlets_wf wf (g 0) w0
  have l0 : zlets g (g 0) 0 = g 0 := zlets_ne (by omega) _ w0
  have l6 : zlets g (g 0) 6 = g 6 := zlets_ne (by omega) _ w0
  have wt := ztakes_wf (ord := ord) wl (g 0)
  have t0 : ztakes ord (zlets g (g 0)) (g 0) 0 = g 0 := by rw [ztakes_ne (by omega) (by omega)]; exact l0
  have t6 : ztakes ord (zlets g (g 0)) (g 0) 6 = g 6 := by rw [ztakes_ne (by omega) (by omega)]; exact l6
  unfold zpass at q
  dsimp only at q
  have wm := zmove_wf wt
  have m0 : zmove (ztakes ord (zlets g (g 0)) (g 0)) 0 = g 0 := by rw [zmove_ne (by omega) (by omega)]; exact t0
  have m6 : zmove (ztakes ord (zlets g (g 0)) (g 0)) 6 = g 6 := by rw [zmove_ne (by omega) (by omega)]; exact t6
  rw [zages_0 (by omega), m6] at q
  refine zOk_do 40 (tbl := tX8_passes) zck_165 rfl (by omega) (h := ?_)
  refine ⟨rfl, ok_mserves (by omega) hw hr hb wf ho (fun m1 hb1 hf1 => ⟨rfl, ?_⟩)⟩
  refine ok_mgoes (by omega) hw hr hb1 wt (fun hz m3 hb3 hf3 => ⟨rfl, ?_⟩) (fun hz => ⟨rfl, ?_⟩)
  · exact ok_mcools (went := zcalled (ztakes ord (zlets g (g 0)) (g 0)) ≠ 0) (v := 1) (by rw [if_pos hz]) (by omega) hw hr hb3 wm (by omega) (by rw [m0, m6]; exact fun m4 hb4 hf4 => ⟨rfl, rfl, q m4 hb4 ((hf1.tr hf3).tr hf4)⟩)
  · have hmv : zmove (ztakes ord (zlets g (g 0)) (g 0)) = ztakes ord (zlets g (g 0)) (g 0) := by unfold zmove; rw [if_pos hz]
    exact ok_mcools (went := zcalled (ztakes ord (zlets g (g 0)) (g 0)) ≠ 0) (v := 0) (by rw [if_neg (fun z => z hz)]) (by omega) hw hr (by rw [← hmv] at hb1; exact hb1) wm (by omega) (by rw [m0, m6]; exact fun m4 hb4 hf4 => ⟨rfl, rfl, q m4 hb4 (hf1.tr hf4)⟩)
end MP
end
section
/-! DishLift$House: become, isAs, build -/
def zcp (h o : Nat) : List Nat → zMem → zMem
  | [], m => m
  | k :: ks, m => zcp h o ks (upd m (h + k) (m (o + k)))
theorem zcp_out {h o : Nat} : ∀ (ks : List Nat) (m : zMem) (x : Nat), (∀ k, k ∈ ks → x ≠ h + k) → zcp h o ks m x = m x
  | [], m, x, _ => rfl
  | k :: ks, m, x, hx => by
    show zcp h o ks (upd m (h + k) (m (o + k))) x = m x
    rw [zcp_out ks _ x (fun j hj => hx j (List.mem_cons_of_mem _ hj)), upd_ne (hx k List.mem_cons_self)]
theorem zcp_in {h o : Nat} (ho : h + 37 ≤ o ∨ o + 37 ≤ h) : ∀ (ks : List Nat) (m : zMem), (∀ k, k ∈ ks → k < 37) → ∀ k, k ∈ ks → zcp h o ks m (h + k) = m (o + k)
  | [], m, _, k, hk => absurd hk List.not_mem_nil
  | a :: ks, m, hl, k, hk => by
    show zcp h o ks (upd m (h + a) (m (o + a))) (h + k) = m (o + k)
    have ha := hl a List.mem_cons_self
    have hk37 := hl k hk
    by_cases c : k ∈ ks
    · rw [zcp_in ho ks _ (fun j hj => hl j (List.mem_cons_of_mem _ hj)) k c, upd_ne (by omega)]
    · have e : k = a := (List.mem_cons.mp hk).elim id (fun q => absurd q c)
      subst e
      have hout : ∀ j, j ∈ ks → h + k ≠ h + j := fun j hj q => c ((show j = k by omega) ▸ hj)
      rw [zcp_out ks _ _ hout, upd_eq]
/-- the first dishes are copied, and of the next the first fields -/
def zcpP (mem m : zMem) (h o i j : Nat) : Prop := (∀ k, k < 7 → m (h + k) = mem (o + k)) ∧ (∀ f e, f < 5 → (e < i ∨ (e = i ∧ f < j)) → m (h + (7 + 6 * f + e)) = mem (o + (7 + 6 * f + e))) ∧ zfr mem m h
theorem zcpP.go {mem m : zMem} {h o i j : Nat} (p : zcpP mem m h o i j) (hj : j < 5) (hi : i < 6) (ho : h + 37 ≤ o ∨ o + 37 ≤ h) : zcpP mem (upd m (h + (7 + 6 * j) + (nI i).toNatClampNeg) (m (o + (7 + 6 * j) + (nI i).toNatClampNeg))) h o i (j + 1) := by
  rw [nC (by omega)]
  refine ⟨fun k hk => ?_, fun f e hf he => ?_, p.2.2.tr (zfr.up (by omega) (by omega))⟩
  · rw [upd_ne (by omega)]; exact p.1 k hk
  · by_cases c : h + (7 + 6 * f + e) = h + (7 + 6 * j) + i
    · rw [c, upd_eq, p.2.2 _ (by omega), show o + (7 + 6 * f + e) = o + (7 + 6 * j) + i by omega]
    · rw [upd_ne c]; exact p.2.1 f e hf (by omega)
theorem zcpP.nx {mem m : zMem} {h o i : Nat} (p : zcpP mem m h o i 5) : zcpP mem m h o (i + 1) 0 := ⟨p.1, fun f e hf he => p.2.1 f e hf (by omega), p.2.2⟩
theorem zcpP.fin {mem m : zMem} {h o i : Nat} {g : zH} (p : zcpP mem m h o i 0) (hb : zHB mem o g) (hi : i = g 0) : zHB m h g := by
  subst hi
  exact ⟨fun k hk => by rw [p.1 k hk]; exact hb.1 k hk, fun f e hf he => by rw [p.2.1 f e hf (Or.inl he)]; exact hb.2 f e hf he⟩
section HB
variable {X d : Nat} {mem : zMem} {lk : zLk} {L : List Nat} {Q : Option Value → zMem → Prop} {h o : Nat} {g : zH}
theorem become_loop (hh : zHo lk h) (ho : zHo lk o) (hd : h + 37 ≤ o ∨ o + 37 ≤ h) (hb : zHB mem o g) (wf : g 0 ≤ 6) (q : ∀ mem', zHB mem' h g → zfr mem mem' h → Q none mem') : ∀ n i m1, i + n = g 0 → zcpP mem m1 h o i 0 → zE X d 42 58 [.ref h, .ref o, .int (nI i)] [] m1 lk L lk L Q := by
  intro n
  induction n with
  | zero =>
    intro i m1 hi p
    have e0 : m1 (h + 0) = nI (g 0) := by rw [p.1 0 (by omega)]; exact hb.1 0 (by omega)
    refine zE_do 40 58 (tbl := tX3_become) zck_42 rfl (h := ?_)
    refine ⟨hh.k3, fun c => ⟨rfl, rfl, q m1 (p.fin hb (by omega)) p.2.2⟩, fun c => ?_⟩
    exfalso
    have c : ¬ m1 (h + 0) ≤ nI i := c
    rw [e0, nLe (by omega) (by omega)] at c
    omega
  | succ n ih =>
    intro i m1 hi p
    have e0 : m1 (h + 0) = nI (g 0) := by rw [p.1 0 (by omega)]; exact hb.1 0 (by omega)
    have k := fun m2 => ih (i + 1) m2 (by omega)
    rw [← nI_1] at k
    refine zE_do 80 58 (tbl := tX3_become) zck_42 rfl (h := ?_)
    refine ⟨hh.k3, fun c => ?_, fun c => ?_⟩
    · exfalso
      have c : m1 (h + 0) ≤ nI i := c
      rw [e0, nLe (by omega) (by omega)] at c
      omega
    · refine ⟨hh.k3, _, hh.lk 0 (by omega), ho.k3, _, ho.lk 0 (by omega), Or.inl (ho.ka 0 (by omega)), ho.inn (by omega), hh.ka 0 (by omega), hh.inn (by omega), ?_⟩
      refine ⟨hh.k3, _, hh.lk 1 (by omega), ho.k3, _, ho.lk 1 (by omega), Or.inl (ho.ka 1 (by omega)), ho.inn (by omega), hh.ka 1 (by omega), hh.inn (by omega), ?_⟩
      refine ⟨hh.k3, _, hh.lk 2 (by omega), ho.k3, _, ho.lk 2 (by omega), Or.inl (ho.ka 2 (by omega)), ho.inn (by omega), hh.ka 2 (by omega), hh.inn (by omega), ?_⟩
      refine ⟨hh.k3, _, hh.lk 3 (by omega), ho.k3, _, ho.lk 3 (by omega), Or.inl (ho.ka 3 (by omega)), ho.inn (by omega), hh.ka 3 (by omega), hh.inn (by omega), ?_⟩
      refine ⟨hh.k3, _, hh.lk 4 (by omega), ho.k3, _, ho.lk 4 (by omega), Or.inl (ho.ka 4 (by omega)), ho.inn (by omega), hh.ka 4 (by omega), hh.inn (by omega), ?_⟩
      exact k _ (((((p.go (j := 0) (by omega) (by omega) hd).go (j := 1) (by omega) (by omega) hd).go (j := 2) (by omega) (by omega) hd).go (j := 3) (by omega) (by omega) hd).go (j := 4) (by omega) (by omega) hd).nx
theorem ok_become (hdd : 0 < d) (hh : zHo lk h) (ho : zHo lk o) (hd : h + 37 ≤ o ∨ o + 37 ≤ h) (hb : zHB mem o g) (wf : g 0 ≤ 6) (q : ∀ mem', zHB mem' h g → zfr mem mem' h → Q none mem') : zOk X d 42 [.ref h, .ref o] mem lk L lk L Q := by
  refine zOk_do 60 (tbl := tX3_become) zck_42 rfl hdd (h := ?_)
  refine ⟨ho.k3, hh.k3, ho.k3, hh.k3, ho.k3, hh.k3, ho.k3, hh.k3, ho.k3, hh.k3, ho.k3, hh.k3, ho.k3, hh.k3, ?_⟩
  have hm : ∀ k, k < 7 → k ∈ [1, 2, 3, 6, 4, 5, 0] := fun k hk => by
    rcases (by omega : k = 0 ∨ k = 1 ∨ k = 2 ∨ k = 3 ∨ k = 4 ∨ k = 5 ∨ k = 6) with z | z | z | z | z | z | z <;> subst z <;> decide
  have hl : ∀ k, k ∈ [1, 2, 3, 6, 4, 5, 0] → k < 37 := by decide
  exact become_loop hh ho hd hb wf q (g 0) 0 (zcp h o [1, 2, 3, 6, 4, 5, 0] mem) (by omega) ⟨fun k hk => zcp_in hd _ _ hl k (hm k hk), fun f e hf he => by omega, fun x hx => zcp_out _ _ _ (fun k hk => by have := hl k hk; omega)⟩
/-- two houses are as one -/
def zsame (g g' : zH) : Prop := (∀ k, k < 7 → g k = g' k) ∧ ∀ f e, f < 5 → e < g 0 → g (7 + 6 * f + e) = g' (7 + 6 * f + e)
theorem isAs_loop {g' : zH} (hh : zHo lk h) (ho : zHo lk o) (hb : zHB mem h g) (hb' : zHB mem o g') (wf : g 0 ≤ 6) (h0 : g 0 = g' 0) (hl : ∀ f e, f < 5 → e < g 0 → g (7 + 6 * f + e) < 1000) (hl' : ∀ f e, f < 5 → e < g' 0 → g' (7 + 6 * f + e) < 1000) (q1 : (∀ f e, f < 5 → e < g 0 → g (7 + 6 * f + e) = g' (7 + 6 * f + e)) → Q (some (.int (nI 1))) mem) (q0 : ¬ (∀ f e, f < 5 → e < g 0 → g (7 + 6 * f + e) = g' (7 + 6 * f + e)) → Q (some (.int (nI 0))) mem) : ∀ n i, i + n = g 0 → (∀ f e, f < 5 → e < i → g (7 + 6 * f + e) = g' (7 + 6 * f + e)) → zE X d 43 81 [.ref h, .ref o, .int (nI i)] [] mem lk L lk L Q := by
  have e0 : mem (h + 0) = nI (g 0) := hb.1 0 (by omega)
  intro n
  induction n with
  | zero =>
    intro i hi p
    refine zE_do 40 81 (tbl := tX3_isAs) zck_43 rfl (h := ?_)
    refine ⟨hh.k3, fun c => ⟨rfl, rfl, rfl, q1 (fun f e hf he => p f e hf (by omega))⟩, fun c => ?_⟩
    exfalso
    have c : ¬ mem (h + 0) ≤ nI i := c
    rw [e0, nLe (by omega) (by omega)] at c
    omega
  | succ n ih =>
    intro i hi p
    have k := ih (i + 1) (by omega)
    rw [← nI_1] at k
    have ea : ∀ j, j < 5 → mem (h + (7 + 6 * j) + (nI i).toNatClampNeg) = nI (g (7 + 6 * j + i)) := fun j hj => by
      rw [nC (by omega), Nat.add_assoc]; exact hb.2 j i hj (by omega)
    have eb : ∀ j, j < 5 → mem (o + (7 + 6 * j) + (nI i).toNatClampNeg) = nI (g' (7 + 6 * j + i)) := fun j hj => by
      rw [nC (by omega), Nat.add_assoc]; exact hb'.2 j i hj (by omega)
    have ec : ∀ j, j < 5 → (mem (h + (7 + 6 * j) + (nI i).toNatClampNeg) = mem (o + (7 + 6 * j) + (nI i).toNatClampNeg) ↔ g (7 + 6 * j + i) = g' (7 + 6 * j + i)) := fun j hj => by
      have := hl j i hj (by omega)
      have := hl' j i hj (by omega)
      rw [ea j hj, eb j hj, nEq (by omega) (by omega)]
    have no : ∀ j, j < 5 → ¬ g (7 + 6 * j + i) = g' (7 + 6 * j + i) → Q (some (.int (nI 0))) mem := fun j hj hz => q0 (fun z => hz (z j i hj (by omega)))
    refine zE_do 90 81 (tbl := tX3_isAs) zck_43 rfl (h := ?_)
    refine ⟨hh.k3, fun c => ?_, fun c => ?_⟩
    · exfalso
      have c : mem (h + 0) ≤ nI i := c
      rw [e0, nLe (by omega) (by omega)] at c
      omega
    · refine ⟨hh.k3, _, hh.lk 0 (by omega), Or.inl (hh.ka 0 (by omega)), hh.inn (by omega), ho.k3, _, ho.lk 0 (by omega), Or.inl (ho.ka 0 (by omega)), ho.inn (by omega), fun c0 => ⟨rfl, rfl, rfl, no 0 (by omega) ?_⟩, fun c0 => ?_⟩
      · exact fun z => c0 ((ec 0 (by omega)).mpr z)
      refine ⟨hh.k3, _, hh.lk 1 (by omega), Or.inl (hh.ka 1 (by omega)), hh.inn (by omega), ho.k3, _, ho.lk 1 (by omega), Or.inl (ho.ka 1 (by omega)), ho.inn (by omega), fun c1 => ⟨rfl, rfl, rfl, no 1 (by omega) ?_⟩, fun c1 => ?_⟩
      · exact fun z => c1 ((ec 1 (by omega)).mpr z)
      refine ⟨hh.k3, _, hh.lk 2 (by omega), Or.inl (hh.ka 2 (by omega)), hh.inn (by omega), ho.k3, _, ho.lk 2 (by omega), Or.inl (ho.ka 2 (by omega)), ho.inn (by omega), fun c2 => ⟨rfl, rfl, rfl, no 2 (by omega) ?_⟩, fun c2 => ?_⟩
      · exact fun z => c2 ((ec 2 (by omega)).mpr z)
      refine ⟨hh.k3, _, hh.lk 3 (by omega), Or.inl (hh.ka 3 (by omega)), hh.inn (by omega), ho.k3, _, ho.lk 3 (by omega), Or.inl (ho.ka 3 (by omega)), ho.inn (by omega), fun c3 => ⟨rfl, rfl, rfl, no 3 (by omega) ?_⟩, fun c3 => ?_⟩
      · exact fun z => c3 ((ec 3 (by omega)).mpr z)
      refine ⟨hh.k3, _, hh.lk 4 (by omega), Or.inl (hh.ka 4 (by omega)), hh.inn (by omega), ho.k3, _, ho.lk 4 (by omega), Or.inl (ho.ka 4 (by omega)), ho.inn (by omega), fun c4 => k (fun f e hf he => ?_), fun c4 => ⟨rfl, rfl, rfl, no 4 (by omega) ?_⟩⟩
      · by_cases z : e < i
        · exact p f e hf z
        · have : e = i := by omega
          subst this
          rcases (by omega : f = 0 ∨ f = 1 ∨ f = 2 ∨ f = 3 ∨ f = 4) with y | y | y | y | y <;> subst y
          · exact (ec 0 (by omega)).mp c0
          · exact (ec 1 (by omega)).mp c1
          · exact (ec 2 (by omega)).mp c2
          · exact (ec 3 (by omega)).mp c3
          · exact (ec 4 (by omega)).mp c4
      · exact fun z => c4 ((ec 4 (by omega)).mpr z)
theorem zWF.lt {g : zH} (w : zWF g) : ∀ f e, f < 5 → e < g 0 → g (7 + 6 * f + e) < 1000 := fun f e hf he => by
  obtain ⟨c1, c2, c3, c4, c5⟩ := w.2.2.2.2.2.2.2.2 e he
  have w1 := w.2.2.1
  rcases (by omega : f = 0 ∨ f = 1 ∨ f = 2 ∨ f = 3 ∨ f = 4) with y | y | y | y | y <;> subst y
  · show g (7 + e) < 1000; omega
  · show g (13 + e) < 1000; omega
  · show g (19 + e) < 1000; omega
  · show g (25 + e) < 1000; omega
  · show g (31 + e) < 1000; omega
theorem zWF.lt7 {g : zH} (w : zWF g) : ∀ k, k < 7 → g k < 2147483648 := fun k hk => by
  obtain ⟨c0, c1, c2, c3, c4, c5, c6, c7, -⟩ := w
  rcases (by omega : k = 0 ∨ k = 1 ∨ k = 2 ∨ k = 3 ∨ k = 4 ∨ k = 5 ∨ k = 6) with z | z | z | z | z | z | z <;> subst z <;> omega
theorem ok_isAs {g' : zH} (hdd : 0 < d) (hh : zHo lk h) (ho : zHo lk o) (hb : zHB mem h g) (hb' : zHB mem o g') (wf : zWF g) (wf' : zWF g') (q1 : zsame g g' → Q (some (.int (nI 1))) mem) (q0 : ¬ zsame g g' → Q (some (.int (nI 0))) mem) : zOk X d 43 [.ref h, .ref o] mem lk L lk L Q := by
  have ec : ∀ k, k < 7 → (mem (h + k) = mem (o + k) ↔ g k = g' k) := fun k hk => by
    rw [hb.k k hk, hb'.k k hk, nEq (wf.lt7 k hk) (wf'.lt7 k hk)]
  have no : ∀ k, k < 7 → ¬ mem (h + k) = mem (o + k) → Q (some (.int (nI 0))) mem := fun k hk hz => q0 (fun z => hz ((ec k hk).mpr (z.1 k hk)))
  refine zOk_do 60 (tbl := tX3_isAs) zck_43 rfl hdd (h := ?_)
  refine ⟨hh.k3, ho.k3, fun c => ⟨rfl, rfl, rfl, no 1 (by omega) c⟩, fun c1 => ⟨hh.k3, ho.k3, fun c => ⟨rfl, rfl, rfl, no 2 (by omega) c⟩, fun c2 => ⟨hh.k3, ho.k3, fun c => ⟨rfl, rfl, rfl, no 3 (by omega) c⟩, fun c3 => ⟨hh.k3, ho.k3, fun c => ⟨rfl, rfl, rfl, no 6 (by omega) c⟩, fun c6 => ⟨hh.k3, ho.k3, fun c => ⟨rfl, rfl, rfl, no 4 (by omega) c⟩, fun c4 => ⟨hh.k3, ho.k3, fun c => ⟨rfl, rfl, rfl, no 5 (by omega) c⟩, fun c5 => ⟨hh.k3, ho.k3, fun c0 => ?_, fun c => ⟨rfl, rfl, rfl, no 0 (by omega) c⟩⟩⟩⟩⟩⟩⟩⟩
  have a0 : g 0 = g' 0 := (ec 0 (by omega)).mp c0
  have a1 : g 1 = g' 1 := (ec 1 (by omega)).mp c1
  have a2 : g 2 = g' 2 := (ec 2 (by omega)).mp c2
  have a3 : g 3 = g' 3 := (ec 3 (by omega)).mp c3
  have a4 : g 4 = g' 4 := (ec 4 (by omega)).mp c4
  have a5 : g 5 = g' 5 := (ec 5 (by omega)).mp c5
  have a6 : g 6 = g' 6 := (ec 6 (by omega)).mp c6
  exact isAs_loop hh ho hb hb' wf.1 a0 wf.lt wf'.lt (fun z => q1 ⟨fun k hk => by rcases (by omega : k = 0 ∨ k = 1 ∨ k = 2 ∨ k = 3 ∨ k = 4 ∨ k = 5 ∨ k = 6) with y | y | y | y | y | y | y <;> subst y <;> assumption, z⟩) (fun z => q0 (fun y => z y.2)) (g 0) 0 (by omega) (fun f e hf he => by omega)
/-- a house that is begun -/
def zbare (f r w : Nat) : zH := fun k => if k = 1 then f else if k = 2 then r else if k = 3 then w else if k = 5 then 1 else 0
theorem ok_build {a b c : Nat} (hdd : 0 < d) (hh : zHo lk h) (q : ∀ mem', zHB mem' h (zbare a b c) → zfr mem mem' h → Q none mem') : zOk X d 41 [.ref h, .int (nI a), .int (nI b), .int (nI c)] mem lk L lk L Q := by
  refine zOk_do 60 (tbl := tX3_build) zck_41 rfl hdd (h := ?_)
  refine ⟨hh.k3, hh.k3, hh.k3, hh.k3, hh.k3, hh.k3, hh.k3, rfl, rfl, q _ ⟨fun k hk => ?_, fun f e hf he => absurd he (Nat.not_lt_zero e)⟩ ?_⟩
  · show upd (upd (upd (upd (upd (upd (upd mem (h + 1) (nI a)) (h + 2) (nI b)) (h + 3) (nI c)) (h + 6) (nI 0)) (h + 4) (nI 0)) (h + 5) (nI 1)) (h + 0) (nI 0) (h + k) = nI (zbare a b c k)
    rcases (by omega : k = 0 ∨ k = 1 ∨ k = 2 ∨ k = 3 ∨ k = 4 ∨ k = 5 ∨ k = 6) with z | z | z | z | z | z | z <;> subst z
    · rw [upd_eq]; rfl
    · rw [upd_ne (by omega), upd_ne (by omega), upd_ne (by omega), upd_ne (by omega), upd_ne (by omega), upd_ne (by omega), upd_eq]; rfl
    · rw [upd_ne (by omega), upd_ne (by omega), upd_ne (by omega), upd_ne (by omega), upd_ne (by omega), upd_eq]; rfl
    · rw [upd_ne (by omega), upd_ne (by omega), upd_ne (by omega), upd_ne (by omega), upd_eq]; rfl
    · rw [upd_ne (by omega), upd_ne (by omega), upd_eq]; rfl
    · rw [upd_ne (by omega), upd_eq]; rfl
    · rw [upd_ne (by omega), upd_ne (by omega), upd_ne (by omega), upd_eq]; rfl
  · exact ((((((zfr.up (by omega) (by omega)).tr (zfr.up (by omega) (by omega))).tr (zfr.up (by omega) (by omega))).tr (zfr.up (by omega) (by omega))).tr (zfr.up (by omega) (by omega))).tr (zfr.up (by omega) (by omega))).tr (zfr.up (by omega) (by omega))
end HB
end
section
/-! a new house -/
theorem zmoS_le : ∀ (l : List (Nat × Nat × Nat)) (x : Nat), zmoS l x ≤ x
  | [], x => Nat.zero_le _
  | (i, k, n) :: l, x => by
    unfold zmoS
    cases h : (Nat.ble i x && Nat.blt x (i + n)) with
    | false => exact zmoS_le l x
    | true =>
      rw [Bool.and_eq_true] at h
      exact Nat.le_of_ble_eq_true h.1
theorem mo_lo {x : Nat} (h : x < 10000) : mo x < 10000 := by
  unfold mo
  have h1 : Nat.blt x 10000 = true := by rw [Nat.blt_eq]; exact h
  rw [h1, cond_true]
  exact Nat.lt_of_le_of_lt (zmoS_le _ _) h
theorem mo_hi {x : Nat} (h : 10000 ≤ x) : x - (x - 10000) % 64 ≤ mo x ∧ mo x < x - (x - 10000) % 64 + 64 := by
  unfold mo
  have h1 : Nat.blt x 10000 = false := by rw [Bool.eq_false_iff, ne_eq, Nat.blt_eq]; omega
  rw [h1, cond_false]
  cases hc : (Nat.blt ((x - 10000) % 64) 7 || Nat.ble 37 ((x - 10000) % 64)) with
  | true => rw [cond_true]; omega
  | false =>
    rw [Bool.or_eq_false_iff] at hc
    have c2 : ¬ 37 ≤ (x - 10000) % 64 := fun q => by rw [Nat.ble_eq_true_of_le q] at hc; exact absurd hc.2 (by decide)
    rw [cond_false]
    omega
theorem mo_blk {x o i : Nat} (h : mo x = o) (h1 : 10000 + 64 * i ≤ o) (h2 : o < 10000 + 64 * i + 64) : 10000 + 64 * i ≤ x ∧ x < 10000 + 64 * i + 64 := by
  rcases Nat.lt_or_ge x 10000 with c | c
  · have := mo_lo c; omega
  · have := mo_hi c; omega
/-- nothing outside the place of a house has changed -/
def zfb (mem mem' : zMem) (b : Nat) : Prop := ∀ x, ¬ (b ≤ x ∧ x < b + 64) → mem' x = mem x
def zlb (lk lk' : zLk) (b : Nat) : Prop := ∀ x, ¬ (b ≤ x ∧ x < b + 64) → lk' x = lk x
theorem zfb.rf {mem : zMem} {b : Nat} : zfb mem mem b := fun _ _ => rfl
theorem zlb.rf {lk : zLk} {b : Nat} : zlb lk lk b := fun _ _ => rfl
theorem zfb.tr {m1 m2 m3 : zMem} {b : Nat} (h : zfb m1 m2 b) (h' : zfb m2 m3 b) : zfb m1 m3 b := fun x hx => (h' x hx).trans (h x hx)
theorem zlb.tr {m1 m2 m3 : zLk} {b : Nat} (h : zlb m1 m2 b) (h' : zlb m2 m3 b) : zlb m1 m3 b := fun x hx => (h' x hx).trans (h x hx)
theorem zfb.clr {mem : zMem} {i o : Nat} (h1 : 10000 + 64 * i ≤ o) (h2 : o < 10000 + 64 * i + 64) : zfb mem (zclr o mem) (10000 + 64 * i) := fun x hx => if_neg fun q => hx (mo_blk q h1 h2)
theorem zlb.clr {lk : zLk} {i o : Nat} (h1 : 10000 + 64 * i ≤ o) (h2 : o < 10000 + 64 * i + 64) : zlb lk (zclk o lk) (10000 + 64 * i) := fun x hx => if_neg fun q => hx (mo_blk q h1 h2)
theorem zlb.up {lk : zLk} {b x : Nat} {v : Option Nat} (h1 : b ≤ x) (h2 : x < b + 64) : zlb lk (va_up lk x v) b := fun z hz => zup_ne (by omega)
theorem zfr.fb {mem mem' : zMem} {b : Nat} (h : zfr mem mem' b) : zfb mem mem' b := fun x hx => h x (by omega)
def zhM (h : Nat) (mem : zMem) : zMem := zclr (h + 31) (zclr (h + 25) (zclr (h + 19) (zclr (h + 13) (zclr (h + 7) mem))))
def zhK (h : Nat) (lk : zLk) : zLk := va_up (zclk (h + 31) (va_up (zclk (h + 25) (va_up (zclk (h + 19) (va_up (zclk (h + 13) (va_up (zclk (h + 7) lk) (h + 40) (some (h + 7)))) (h + 41) (some (h + 13)))) (h + 42) (some (h + 19)))) (h + 43) (some (h + 25)))) (h + 44) (some (h + 31))
def zhL (h : Nat) (L : List Nat) : List Nat := L ++ [h + 7] ++ [h + 13] ++ [h + 19] ++ [h + 25] ++ [h + 31]
theorem zhM_fb (i : Nat) (mem : zMem) : zfb mem (zhM (10000 + 64 * i) mem) (10000 + 64 * i) :=
  ((((zfb.clr (by omega) (by omega)).tr (zfb.clr (by omega) (by omega))).tr (zfb.clr (by omega) (by omega))).tr (zfb.clr (by omega) (by omega))).tr (zfb.clr (by omega) (by omega))
theorem zhK_lb (i : Nat) (lk : zLk) : zlb lk (zhK (10000 + 64 * i) lk) (10000 + 64 * i) :=
  (((((((((zlb.clr (by omega) (by omega)).tr (zlb.up (by omega) (by omega))).tr (zlb.clr (by omega) (by omega))).tr (zlb.up (by omega) (by omega))).tr (zlb.clr (by omega) (by omega))).tr (zlb.up (by omega) (by omega))).tr (zlb.clr (by omega) (by omega))).tr (zlb.up (by omega) (by omega))).tr (zlb.clr (by omega) (by omega))).tr (zlb.up (by omega) (by omega))
theorem mo_hf {i j : Nat} (hj : j < 7 ∨ 37 ≤ j ∧ j < 64) : mo (10000 + 64 * i + j) = 10000 + 64 * i := by
  unfold mo
  have h1 : Nat.blt (10000 + 64 * i + j) 10000 = false := by rw [Bool.eq_false_iff, ne_eq, Nat.blt_eq]; omega
  have h2 : (10000 + 64 * i + j - 10000) % 64 = j := by omega
  have h3 : (Nat.blt j 7 || Nat.ble 37 j) = true := by
    rw [Bool.or_eq_true, Nat.blt_eq]
    exact hj.elim Or.inl (fun q => Or.inr (Nat.ble_eq_true_of_le q.1))
  rw [h1, h2, h3, cond_false, cond_true]
  omega
theorem zclk_hf {i j o : Nat} {lk : zLk} (hj : j < 7 ∨ 37 ≤ j ∧ j < 64) (ho : o ≠ 10000 + 64 * i) : zclk o lk (10000 + 64 * i + j) = lk (10000 + 64 * i + j) := if_neg (by rw [mo_hf hj]; omega)
theorem zclr_hf {i j o : Nat} {mem : zMem} (hj : j < 7 ∨ 37 ≤ j ∧ j < 64) (ho : o ≠ 10000 + 64 * i) : zclr o mem (10000 + 64 * i + j) = mem (10000 + 64 * i + j) := if_neg (by rw [mo_hf hj]; omega)
theorem zhK_ho (i : Nat) (lk : zLk) : zHo (zhK (10000 + 64 * i) lk) (10000 + 64 * i) := by
  refine ⟨⟨i, rfl⟩, fun j hj => ?_⟩
  unfold zhK
  rcases (by omega : j = 0 ∨ j = 1 ∨ j = 2 ∨ j = 3 ∨ j = 4) with y | y | y | y | y <;> subst y
  · rw [zup_ne (by omega), zclk_hf (by omega) (by omega), zup_ne (by omega), zclk_hf (by omega) (by omega), zup_ne (by omega), zclk_hf (by omega) (by omega), zup_ne (by omega), zclk_hf (by omega) (by omega)]; exact zup_eq
  · rw [zup_ne (by omega), zclk_hf (by omega) (by omega), zup_ne (by omega), zclk_hf (by omega) (by omega), zup_ne (by omega), zclk_hf (by omega) (by omega)]; exact zup_eq
  · rw [zup_ne (by omega), zclk_hf (by omega) (by omega), zup_ne (by omega), zclk_hf (by omega) (by omega)]; exact zup_eq
  · rw [zup_ne (by omega), zclk_hf (by omega) (by omega)]; exact zup_eq
  · exact zup_eq
theorem zhM_0 (i : Nat) (mem : zMem) : zHB (zhM (10000 + 64 * i) (zclr (10000 + 64 * i) mem)) (10000 + 64 * i) (fun _ => 0) := by
  refine ⟨fun k hk => ?_, fun f e hf he => absurd he (Nat.not_lt_zero e)⟩
  unfold zhM
  rw [zclr_hf (by omega) (by omega), zclr_hf (by omega) (by omega), zclr_hf (by omega) (by omega), zclr_hf (by omega) (by omega), zclr_hf (by omega) (by omega)]
  exact if_pos (mo_hf (by omega))
section NW
variable {X d : Nat} {mem : zMem} {lk : zLk} {L : List Nat} {Q : Option Value → zMem → Prop}
theorem kd_h1 (i : Nat) {j : Nat} (hj : j = 7 ∨ j = 13 ∨ j = 19 ∨ j = 25 ∨ j = 31) : kd (10000 + 64 * i + j) = 9 := by
  rcases hj with y | y | y | y | y <;> subst y
  · exact kd_harr i 0 (by omega)
  · exact kd_harr i 1 (by omega)
  · exact kd_harr i 2 (by omega)
  · exact kd_harr i 3 (by omega)
  · exact kd_harr i 4 (by omega)
theorem ln_h1 (i j : Nat) : nI 6 = nI (ln X (10000 + 64 * i + j)) := by rw [ln_house X _ (by omega)]
theorem ok_newHouse (i : Nat) (hd : 0 < d) (hL : ∀ j, j < 64 → j ≠ 0 → 10000 + 64 * i + j ∉ L) (q : Q none (zhM (10000 + 64 * i) mem)) : zOk X d 40 [.ref (10000 + 64 * i)] mem lk L (zhK (10000 + 64 * i) lk) (zhL (10000 + 64 * i) L) Q := by
  have hlen : (zhL (10000 + 64 * i) L).length = L.length + 5 := by unfold zhL; simp only [List.length_append, List.length_cons, List.length_nil]
  have k3 := kd_house i
  have k9 : ∀ j, (j = 7 ∨ j = 13 ∨ j = 19 ∨ j = 25 ∨ j = 31) → kd (10000 + 64 * i + j) ≠ 13 := fun j hj => by rw [kd_h1 i hj]; decide
  refine zOk_go 40 (tbl := tX3_init) rfl zck_40 rfl hd (by rw [hlen]; omega) (by exact Nat.le_of_ble_eq_true rfl) (hf := by rfl) (h := ?_)
  refine ⟨10000 + 64 * i + 7, kd_h1 i (by omega), ln_h1 i 7, hL 7 (by omega) (by omega), by rw [hlen]; omega, k3, k9 7 (by omega), ?_⟩
  refine ⟨10000 + 64 * i + 13, kd_h1 i (by omega), ln_h1 i 13, ?_, ?_, k3, k9 13 (by omega), ?_⟩
  · simp only [List.mem_append, List.mem_singleton, not_or]; exact ⟨hL 13 (by omega) (by omega), by omega⟩
  · rw [hlen]; simp only [List.length_append, List.length_cons, List.length_nil]; omega
  refine ⟨10000 + 64 * i + 19, kd_h1 i (by omega), ln_h1 i 19, ?_, ?_, k3, k9 19 (by omega), ?_⟩
  · simp only [List.mem_append, List.mem_singleton, not_or]; exact ⟨⟨hL 19 (by omega) (by omega), by omega⟩, by omega⟩
  · rw [hlen]; simp only [List.length_append, List.length_cons, List.length_nil]; omega
  refine ⟨10000 + 64 * i + 25, kd_h1 i (by omega), ln_h1 i 25, ?_, ?_, k3, k9 25 (by omega), ?_⟩
  · simp only [List.mem_append, List.mem_singleton, not_or]; exact ⟨⟨⟨hL 25 (by omega) (by omega), by omega⟩, by omega⟩, by omega⟩
  · rw [hlen]; simp only [List.length_append, List.length_cons, List.length_nil]; omega
  refine ⟨10000 + 64 * i + 31, kd_h1 i (by omega), ln_h1 i 31, ?_, ?_, k3, k9 31 (by omega), ?_⟩
  · simp only [List.mem_append, List.mem_singleton, not_or]; exact ⟨⟨⟨⟨hL 31 (by omega) (by omega), by omega⟩, by omega⟩, by omega⟩, by omega⟩
  · rw [hlen]; simp only [List.length_append, List.length_cons, List.length_nil]; omega
  exact ⟨rfl, rfl, q⟩
end NW
end
section
/-! DishLift$Acts -/
theorem zOk_goc {X d y : Nat} {as : List Value} {mem : zMem} {lk : zLk} {L : List Nat} {lkf : zLk} {Lf : List Nat} {Q : Option Value → zMem → Prop} {tbl : List zR} (cs : List Nat) (n : Nat) (hck : zchk y = true) (ht : zmT y = tbl) (hd : 0 < d) (hlen : L.length ≤ Lf.length) (hm : zmlB y = true := by rfl) (hsz : (zargs as).length ≤ zmL y := by exact Nat.le_of_ble_eq_true rfl) {r : zR} {nxt : List zR} (hf : zfrom tbl 0 = r :: nxt := by rfl)
    (h : zst X d lkf Lf Q tbl (zwpc X d y lkf Lf Q tbl cs n) (fun a ls st mem' lk' L' => zE X d y a ls st mem' lk' L' lkf Lf Q) r nxt (zpad (zmL y) (zargs as)) [] mem lk L) : zOk X d y as mem lk L lkf Lf Q :=
  zOk_of (zmkB_ok (zmk_in hm)).1 (zmkB_ok (zmk_in hm)).2.1 hd hlen hsz (zgoc cs n 0 hck ht (h := h) (hf := hf))
/-- the house of a slot -/
def zAH (s : Nat) : Nat := 10000 + 64 * (5 + s)
/-- what may be undone: u houses, the latest first -/
def zActs (mem : zMem) (lk : zLk) (L : List Nat) (nx u : Nat) (gs : Nat → zH) : Prop :=
  nx < 24 ∧ u ≤ 24 ∧ mem 661 = nI nx ∧ mem 662 = nI u ∧ lk 660 = some 670 ∧
  (∀ s, s < 24 → lk (670 + s) = none ∨ (lk (670 + s) = some (zAH s) ∧ zHo lk (zAH s))) ∧
  (∀ s, s < 24 → lk (670 + s) = none → ∀ j, j < 64 → zAH s + j ∉ L) ∧
  (∀ k, k < u → lk (670 + (nx + 23 - k) % 24) = some (zAH ((nx + 23 - k) % 24)) ∧ zHB mem (zAH ((nx + 23 - k) % 24)) (gs k) ∧ zWF (gs k))
/-- one more -/
def zpsh (g : zH) (gs : Nat → zH) (k : Nat) : zH := if k = 0 then g else gs (k - 1)
theorem zpsh_0 {g : zH} {gs : Nat → zH} : zpsh g gs 0 = g := rfl
theorem zpsh_s {g : zH} {gs : Nat → zH} {k : Nat} (h : ¬ k = 0) : zpsh g gs k = gs (k - 1) := if_neg h
def kpK (nx : Nat) (lk : zLk) : zLk := match lk (670 + nx) with
  | none => va_up (zhK (zAH nx) (zclk (zAH nx) lk)) (670 + nx) (some (zAH nx))
  | some _ => lk
def kpL (nx : Nat) (lk : zLk) (L : List Nat) : List Nat := match lk (670 + nx) with
  | none => zhL (zAH nx) (L ++ [zAH nx])
  | some _ => L
theorem kpL_le (nx : Nat) (lk : zLk) (L : List Nat) : L.length ≤ (kpL nx lk L).length := by
  unfold kpL
  split
  · unfold zhL; simp only [List.length_append, List.length_cons, List.length_nil]; omega
  · exact Nat.le_refl _
theorem kpK_ne {nx x : Nat} {lk : zLk} (h1 : x ≠ 670 + nx) (h2 : ¬ (zAH nx ≤ x ∧ x < zAH nx + 64)) : kpK nx lk x = lk x := by
  unfold kpK
  cases e : lk (670 + nx) with
  | none =>
    show va_up (zhK (zAH nx) (zclk (zAH nx) lk)) (670 + nx) (some (zAH nx)) x = lk x
    rw [zup_ne h1]
    exact (zhK_lb (5 + nx) _ x h2).trans (zlb.clr (i := 5 + nx) (o := zAH nx) (Nat.le_refl _) (by unfold zAH; omega) x h2)
  | some v => rfl
theorem kpK_at {nx : Nat} {lk : zLk} (h : lk (670 + nx) = none ∨ lk (670 + nx) = some (zAH nx)) : kpK nx lk (670 + nx) = some (zAH nx) := by
  unfold kpK
  rcases h with e | e
  · rw [e]; exact zup_eq
  · rw [e]; exact e
theorem zHo.lb {lk lk' : zLk} {h b : Nat} (hh : zHo lk h) (hl : ∀ x, h ≤ x → x < h + 64 → lk' x = lk x) : zHo lk' h :=
  ⟨hh.1, fun j hj => by rw [hl _ (by omega) (by omega)]; exact hh.2 j hj⟩
theorem kpK_ho {nx : Nat} {lk : zLk} (h : lk (670 + nx) = none ∨ (lk (670 + nx) = some (zAH nx) ∧ zHo lk (zAH nx))) (hn : nx < 24) : zHo (kpK nx lk) (zAH nx) := by
  unfold kpK
  rcases h with e | ⟨e, e2⟩
  · rw [e]
    exact zHo.lb (b := 0) (zhK_ho (5 + nx) _) (fun x h1 h2 => zup_ne (by unfold zAH at h1; omega))
  · rw [e]; exact e2
theorem kpL_in {nx : Nat} {lk : zLk} {L : List Nat} {x : Nat} (h : x ∈ kpL nx lk L) : x ∈ L ∨ (zAH nx ≤ x ∧ x < zAH nx + 64) := by
  unfold kpL at h
  split at h
  · unfold zhL at h
    simp only [List.mem_append, List.mem_singleton] at h
    rcases h with ((((((h | h) | h) | h) | h) | h)) | h
    · exact Or.inl h
    all_goals exact Or.inr (by omega)
  · exact Or.inl h
section AC
variable {X d : Nat} {mem : zMem} {lk : zLk} {L : List Nat} {Q : Option Value → zMem → Prop} {h : Nat} {g : zH} {nx u : Nat} {gs : Nat → zH}
theorem in24 {s : Nat} (h : s < 24) : vp_in (nI s) (ln X 670) := vp_in_nI h (by show 24 < 2 ^ 31; decide)
theorem ok_isEmpty (hd : 0 < d) (A : zActs mem lk L nx u gs) (q1 : u = 0 → Q (some (.int (nI 1))) mem) (q0 : u ≠ 0 → Q (some (.int (nI 0))) mem) : zOk X d 1 [.ref 660] mem lk L lk L Q := by
  obtain ⟨a1, a2, a3, a4, -⟩ := A
  refine zOk_do 20 (tbl := tX0_isEmpty) zck_1 rfl hd (h := ?_)
  refine ⟨rfl, fun c => ⟨rfl, rfl, rfl, q0 ?_⟩, fun c => ⟨rfl, rfl, rfl, q1 ?_⟩⟩
  · have c : ¬ mem 662 = 0 := c
    rw [a4, n0 (by omega)] at c; exact c
  · have c : mem 662 = 0 := c
    rw [a4, n0 (by omega)] at c; exact c
theorem ok_forget (hd : 0 < d) (q : Q none (upd mem 662 (nI 0))) : zOk X d 2 [.ref 660] mem lk L lk L Q := by
  refine zOk_do 20 (tbl := tX0_forget) zck_2 rfl hd (h := ?_)
  exact ⟨rfl, rfl, rfl, q⟩
/-- what keep leaves as it is -/
def zkfr (mem mem' : zMem) : Prop := ∀ x, ¬ (661 ≤ x ∧ x ≤ 662) → ¬ (10320 ≤ x ∧ x < 11856) → mem' x = mem x
theorem zkfr.tr {m1 m2 m3 : zMem} (h : zkfr m1 m2) (h' : zkfr m2 m3) : zkfr m1 m3 := fun x h1 h2 => (h' x h1 h2).trans (h x h1 h2)
theorem nrem {a b : Nat} (ha : a < 2147483648) (hb : 0 < b) (hb2 : b < 2147483648) : nI a - nI a / nI b * nI b = nI (a % b) := pk_rem ha hb hb2
theorem keep_tail {lk0 : zLk} {L0 : List Nat} (hd : 1 < d) (hh : zHo lk 10000) (hb : zHB mem 10000 g) (wf : zWF g) (A : zActs mem lk0 L0 nx u gs) (hk : lk = kpK nx lk0) (hL : L = kpL nx lk0 L0)
    (q : ∀ mem', zActs mem' (kpK nx lk0) (kpL nx lk0 L0) ((nx + 1) % 24) (if u < 24 then u + 1 else 24) (zpsh g gs) → zkfr mem mem' → Q none mem') : zE X d 3 28 [.ref 660, .ref 10000] [] mem lk L (kpK nx lk0) (kpL nx lk0 L0) Q := by
  obtain ⟨a1, a2, a3, a4, a5, a6, a7, a8⟩ := A
  have hat : lk (670 + nx) = some (zAH nx) := by rw [hk]; exact kpK_at ((a6 nx a1).imp id And.left)
  have hho : zHo lk (zAH nx) := by rw [hk]; exact kpK_ho (a6 nx a1) a1
  have h660 : lk 660 = some 670 := by rw [hk, kpK_ne (by omega) (by unfold zAH; omega)]; exact a5
  have ei : mem (660 + 1) = nI nx := a3
  have hat' : lk (670 + (mem (660 + 1)).toNatClampNeg) = some (zAH nx) := by rw [ei, nC (by omega)]; exact hat
  have hne : lk (670 + (mem (660 + 1)).toNatClampNeg) = none → False := fun q => by rw [hat'] at q; cases q
  have hin : vp_in (mem (660 + 1)) (ln X 670) := by rw [ei]; exact in24 a1
  refine zE_do 60 28 (tbl := tX0_keep) zck_3 rfl (h := ?_)
  refine ⟨rfl, 670, h660, rfl, Or.inl rfl, hin, fun z => absurd z hne, fun t ht => ?_⟩
  have ht : lk (670 + (mem (660 + 1)).toNatClampNeg) = some t := ht
  rw [hat'] at ht
  cases ht
  refine ⟨by rw [hho.k3]; rfl, ok_become (by omega) hho hh (by unfold zAH; omega) hb wf.1 (fun m1 hb1 hf1 => ⟨rfl, by decide, rfl, rfl, rfl, hk, hL, ?_⟩)⟩
  have e1 : m1 (660 + 1) = nI nx := by rw [hf1 _ (by unfold zAH; omega)]; exact a3
  have e2 : m1 (660 + 2) = nI u := by rw [hf1 _ (by unfold zAH; omega)]; exact a4
  have hp : (nx + 1) % 24 < 24 := by omega
  have hu : (if u < 24 then u + 1 else 24) ≤ 24 := by split <;> omega
  have eA : m1 (660 + 1) + nI 1 - (m1 (660 + 1) + nI 1) / nI 24 * nI 24 = nI ((nx + 1) % 24) := by
    rw [e1, nI_add]; exact nrem (by omega) (by omega) (by omega)
  have eB : (if upd m1 (660 + 1) (nI ((nx + 1) % 24)) (660 + 2) + nI 1 < nI 24 then upd m1 (660 + 1) (nI ((nx + 1) % 24)) (660 + 2) + nI 1 else nI 24) = nI (if u < 24 then u + 1 else 24) := by
    rw [upd_ne (by omega), e2, nI_add]
    by_cases c : u < 24
    · rw [if_pos c]
      by_cases c2 : u + 1 < 24
      · rw [if_pos (by rw [nLt (by omega) (by omega)]; omega)]
      · rw [if_neg (by rw [nLt (by omega) (by omega)]; omega), show u + 1 = 24 by omega]
    · rw [if_neg c, if_neg (by rw [nLt (by omega) (by omega)]; omega)]
  show Q none (upd (upd m1 (660 + 1) (m1 (660 + 1) + nI 1 - (m1 (660 + 1) + nI 1) / nI 24 * nI 24)) (660 + 2) (if upd m1 (660 + 1) (m1 (660 + 1) + nI 1 - (m1 (660 + 1) + nI 1) / nI 24 * nI 24) (660 + 2) + nI 1 < nI 24 then upd m1 (660 + 1) (m1 (660 + 1) + nI 1 - (m1 (660 + 1) + nI 1) / nI 24 * nI 24) (660 + 2) + nI 1 else nI 24))
  rw [eA, eB]
  have hout : ∀ x, x ≠ 661 → x ≠ 662 → upd (upd m1 (660 + 1) (nI ((nx + 1) % 24))) (660 + 2) (nI (if u < 24 then u + 1 else 24)) x = m1 x := fun x h1 h2 => by
    rw [upd_ne (by omega), upd_ne (by omega)]
  refine q _ ⟨hp, hu, ?_, upd_eq, by rw [← hk]; exact h660, fun s hs => ?_, fun s hs hz j hj => ?_, fun k hkk => ?_⟩ (fun x h1 h2 => ?_)
  · rw [upd_ne (by omega)]; exact upd_eq
  · by_cases c : s = nx
    · subst c; rw [← hk]; exact Or.inr ⟨hat, hho⟩
    · rw [kpK_ne (by omega) (by unfold zAH; omega)]
      refine (a6 s hs).imp id (fun z => ⟨z.1, z.2.lb (b := 0) (fun x h1 h2 => kpK_ne (by unfold zAH at h1; omega) (by unfold zAH at h1 h2 ⊢; omega))⟩)
  · by_cases c : s = nx
    · subst c; rw [← hk, hat] at hz; cases hz
    · rw [kpK_ne (by omega) (by unfold zAH; omega)] at hz
      intro hm
      rcases kpL_in hm with z | z
      · exact a7 s hs hz j hj z
      · unfold zAH at z; omega
  · by_cases c : k = 0
    · subst c
      have es : ((nx + 1) % 24 + 23 - 0) % 24 = nx := by omega
      rw [es, zpsh_0, ← hk]
      exact ⟨hat, hb1.same wf.1 (fun j hj => hout _ (by unfold zAH; omega) (by unfold zAH; omega)), wf⟩
    · have hk1 : k - 1 < u := by split at hkk <;> omega
      have hk2 : k ≤ 23 := by split at hkk <;> omega
      have es : ((nx + 1) % 24 + 23 - k) % 24 = (nx + 23 - (k - 1)) % 24 := by omega
      have en : (nx + 23 - (k - 1)) % 24 ≠ nx := by omega
      have el : (nx + 23 - (k - 1)) % 24 < 24 := by omega
      obtain ⟨b1, b2, b3⟩ := a8 (k - 1) hk1
      rw [es, zpsh_s c]
      generalize (nx + 23 - (k - 1)) % 24 = s at b1 b2 en el ⊢
      rw [kpK_ne (by omega) (by unfold zAH; omega)]
      refine ⟨b1, b2.same b3.1 (fun j hj => ?_), b3⟩
      rw [hout _ (by unfold zAH; omega) (by unfold zAH; omega)]
      exact hf1 _ (by unfold zAH; omega)
  · rw [hout _ (by omega) (by omega)]
    exact hf1 _ (by unfold zAH; omega)
theorem ok_keep (hd : 1 < d) (hh : zHo lk 10000) (hb : zHB mem 10000 g) (wf : zWF g) (A : zActs mem lk L nx u gs)
    (q : ∀ mem', zActs mem' (kpK nx lk) (kpL nx lk L) ((nx + 1) % 24) (if u < 24 then u + 1 else 24) (zpsh g gs) → zkfr mem mem' → Q none mem') : zOk X d 3 [.ref 660, .ref 10000] mem lk L (kpK nx lk) (kpL nx lk L) Q := by
  obtain ⟨a1, a2, a3, a4, a5, a6, a7, a8⟩ := A
  have ei : mem (660 + 1) = nI nx := a3
  have hin : vp_in (mem (660 + 1)) (ln X 670) := by rw [ei]; exact in24 a1
  have ea : lk (670 + (mem (660 + 1)).toNatClampNeg) = lk (670 + nx) := by rw [ei, nC (by omega)]
  refine zOk_goc [28] 60 (tbl := tX0_keep) zck_3 rfl (by omega) (kpL_le nx lk L) (h := ?_)
  refine ⟨rfl, 670, a5, rfl, Or.inl rfl, hin, fun z => ?_, fun t ht => ?_⟩
  · have z : lk (670 + (mem (660 + 1)).toNatClampNeg) = none := z
    rw [ea] at z
    have eK : kpK nx lk = va_up (zhK (zAH nx) (zclk (zAH nx) lk)) (670 + nx) (some (zAH nx)) := by unfold kpK; rw [z]
    have eL : kpL nx lk L = zhL (zAH nx) (L ++ [zAH nx]) := by unfold kpL; rw [z]
    have hl5 : (zhL (zAH nx) (L ++ [zAH nx])).length = L.length + 6 := by unfold zhL; simp only [List.length_append, List.length_cons, List.length_nil]
    have h0 := a7 nx a1 z
    have fm : zfb mem (zhM (zAH nx) (zclr (zAH nx) mem)) (zAH nx) := (zfb.clr (i := 5 + nx) (o := zAH nx) (Nat.le_refl _) (by unfold zAH; omega)).tr (zhM_fb (5 + nx) _)
    have e5 : zclk (zAH nx) lk 660 = some 670 := by rw [zlb.clr (i := 5 + nx) (o := zAH nx) (Nat.le_refl _) (by unfold zAH; omega) 660 (by omega)]; exact a5
    have eiz : zclr (zAH nx) mem (660 + 1) = mem (660 + 1) := zfb.clr (i := 5 + nx) (o := zAH nx) (Nat.le_refl _) (by unfold zAH; omega) _ (by omega)
    refine ⟨rfl, 670, a5, rfl, zAH nx, kd_house (5 + nx), h0 0 (by omega), by rw [eL, hl5]; omega, zhK (zAH nx) (zclk (zAH nx) lk), zhL (zAH nx) (L ++ [zAH nx]), by rw [eL]; exact Nat.le_refl _, by rw [hl5]; simp only [List.length_append, List.length_cons, List.length_nil]; omega, ok_newHouse (5 + nx) (by omega) (fun j hj hj0 => ?_) ?_⟩
    · simp only [List.mem_append, List.mem_singleton, not_or]
      exact ⟨h0 j hj, by unfold zAH; omega⟩
    · have hin2 : vp_in (mem (660 + 1)) (ln X 670) := hin
      refine ⟨rfl, kd_house (5 + nx), hin2, ?_⟩
      have e1 : va_up (zhK (zAH nx) (zclk (zAH nx) lk)) (670 + (mem (660 + 1)).toNatClampNeg) (some (zAH nx)) = kpK nx lk := by rw [eK, ei, nC (by omega)]
      have hfm : ∀ x, ¬ (zAH nx ≤ x ∧ x < zAH nx + 64) → zhM (zAH nx) (zclr (zAH nx) mem) x = mem x := fm
      have k := keep_tail (X := X) (d := d) (mem := zhM (zAH nx) (zclr (zAH nx) mem)) (lk := kpK nx lk) (L := kpL nx lk L) (Q := Q) (g := g) (nx := nx) (u := u) (gs := gs) (lk0 := lk) (L0 := L) hd (hh.lb (b := 0) (fun x h1 h2 => kpK_ne (by omega) (by unfold zAH; omega))) (hb.same wf.1 (fun j hj => hfm _ (by unfold zAH; omega))) wf
        ⟨a1, a2, by rw [hfm _ (by unfold zAH; omega)]; exact a3, by rw [hfm _ (by unfold zAH; omega)]; exact a4, a5, a6, a7, fun k hk => ?_⟩ rfl rfl (fun m1 A1 f1 => q m1 A1 ?_)
      · rw [← e1, eL] at k
        rw [← eL, e1] at k ⊢
        exact k
      · obtain ⟨b1, b2, b3⟩ := a8 k hk
        refine ⟨b1, b2.same b3.1 (fun j hj => hfm _ ?_), b3⟩
        have : (nx + 23 - k) % 24 ≠ nx := fun z' => by rw [z', z] at b1; cases b1
        have : (nx + 23 - k) % 24 < 24 := by omega
        unfold zAH; omega
      · exact zkfr.tr (fun x h1 h2 => hfm x (by unfold zAH; omega)) f1
  · have ht : lk (670 + (mem (660 + 1)).toNatClampNeg) = some t := ht
    rw [ea] at ht
    have eK : kpK nx lk = lk := by unfold kpK; rw [ht]
    have eL : kpL nx lk L = L := by unfold kpL; rw [ht]
    exact keep_tail (lk0 := lk) (L0 := L) hd hh hb wf ⟨a1, a2, a3, a4, a5, a6, a7, a8⟩ eK.symm eL.symm q
end AC
section AC2
variable {X d : Nat} {mem : zMem} {lk : zLk} {L : List Nat} {Q : Option Value → zMem → Prop} {g : zH} {nx u : Nat} {gs : Nat → zH}
/-- the latest is taken back -/
theorem ok_takeBack (hd : 1 < d) (hh : zHo lk 10000) (A : zActs mem lk L nx u gs) (hu : u ≠ 0)
    (q : ∀ mem', zActs mem' lk L ((nx + 23) % 24) (u - 1) (fun k => gs (k + 1)) → zHB mem' 10000 (gs 0) → (∀ x, ¬ (661 ≤ x ∧ x ≤ 662) → ¬ (10000 ≤ x ∧ x < 10037) → mem' x = mem x) → Q (some (.int (nI (u - 1)))) mem') : zOk X d 4 [.ref 660, .ref 10000] mem lk L lk L Q := by
  obtain ⟨a1, a2, a3, a4, a5, a6, a7, a8⟩ := A
  obtain ⟨b1, b2, b3⟩ := a8 0 (by omega)
  have es : (nx + 23 - 0) % 24 = (nx + 23) % 24 := rfl
  rw [es] at b1 b2
  have hl : (nx + 23) % 24 < 24 := by omega
  have ho : zHo lk (zAH ((nx + 23) % 24)) := (a6 _ hl).elim (fun z => by rw [z] at b1; cases b1) And.right
  have eA : mem (660 + 1) + nI 24 - nI 1 - (mem (660 + 1) + nI 24 - nI 1) / nI 24 * nI 24 = nI ((nx + 23) % 24) := by
    rw [show mem (660 + 1) = nI nx from a3, nI_add, nsub (by omega) (by omega), show nx + 24 - 1 = nx + 23 by omega]
    exact nrem (by omega) (by omega) (by omega)
  refine zOk_do 60 (tbl := tX0_takeBack) zck_4 rfl (by omega) (h := ?_)
  refine ⟨rfl, by decide, ?_⟩
  have hin : vp_in (mem (660 + 1) + nI 24 - nI 1 - (mem (660 + 1) + nI 24 - nI 1) / nI 24 * nI 24) (ln X 670) := by rw [eA]; exact in24 hl
  have hat : lk (670 + (mem (660 + 1) + nI 24 - nI 1 - (mem (660 + 1) + nI 24 - nI 1) / nI 24 * nI 24).toNatClampNeg) = some (zAH ((nx + 23) % 24)) := by rw [eA, nC (by omega)]; exact b1
  refine ⟨rfl, fun c => ?_, fun c => ⟨rfl, 670, a5, Or.inl rfl, hin, fun z => ?_, fun t ht => ?_⟩⟩
  · exfalso
    have c : mem (660 + 2) ≤ 0 := c
    rw [show mem (660 + 2) = nI u from a4, show (0 : Int32) = nI 0 from rfl, nLe (by omega) (by omega)] at c
    omega
  · exfalso
    have z : lk (670 + (mem (660 + 1) + nI 24 - nI 1 - (mem (660 + 1) + nI 24 - nI 1) / nI 24 * nI 24).toNatClampNeg) = none := z
    rw [hat] at z; cases z
  · have ht : lk (670 + (mem (660 + 1) + nI 24 - nI 1 - (mem (660 + 1) + nI 24 - nI 1) / nI 24 * nI 24).toNatClampNeg) = some t := ht
    refine ⟨rfl, 670, a5, Or.inl rfl, hin, fun z => ?_, fun t2 ht2 => ?_⟩
    · exfalso
      have z : lk (670 + (mem (660 + 1) + nI 24 - nI 1 - (mem (660 + 1) + nI 24 - nI 1) / nI 24 * nI 24).toNatClampNeg) = none := z
      rw [hat] at z; cases z
    · have ht2 : lk (670 + (mem (660 + 1) + nI 24 - nI 1 - (mem (660 + 1) + nI 24 - nI 1) / nI 24 * nI 24).toNatClampNeg) = some t2 := ht2
      rw [hat] at ht2
      cases ht2
      refine ⟨by rw [hh.k3]; rfl, ok_become (by omega) hh ho (by unfold zAH; omega) b2 b3.1 (fun m1 hb1 hf1 => ⟨rfl, rfl, rfl, rfl, rfl, rfl, ?_⟩)⟩
      have e1 : m1 (660 + 2) = nI u := by rw [hf1 _ (by omega)]; exact a4
      show Q (some (.int (upd (upd m1 (660 + 1) (mem (660 + 1) + nI 24 - nI 1 - (mem (660 + 1) + nI 24 - nI 1) / nI 24 * nI 24)) (660 + 2) (upd m1 (660 + 1) (mem (660 + 1) + nI 24 - nI 1 - (mem (660 + 1) + nI 24 - nI 1) / nI 24 * nI 24) (660 + 2) - nI 1) (660 + 2)))) (upd (upd m1 (660 + 1) (mem (660 + 1) + nI 24 - nI 1 - (mem (660 + 1) + nI 24 - nI 1) / nI 24 * nI 24)) (660 + 2) (upd m1 (660 + 1) (mem (660 + 1) + nI 24 - nI 1 - (mem (660 + 1) + nI 24 - nI 1) / nI 24 * nI 24) (660 + 2) - nI 1))
      rw [eA, upd_ne (show 660 + 2 ≠ 660 + 1 by omega), e1, nsub (by omega) (by omega), upd_eq]
      have hout : ∀ x, x ≠ 661 → x ≠ 662 → upd (upd m1 (660 + 1) (nI ((nx + 23) % 24))) (660 + 2) (nI (u - 1)) x = m1 x := fun x h1 h2 => by
        rw [upd_ne (by omega), upd_ne (by omega)]
      refine q _ ⟨hl, by omega, ?_, upd_eq, a5, a6, a7, fun k hk => ?_⟩ (hb1.same b3.1 (fun j hj => hout _ (by omega) (by omega))) (fun x h1 h2 => ?_)
      · rw [upd_ne (by omega)]; exact upd_eq
      · obtain ⟨c1, c2, c3⟩ := a8 (k + 1) (by omega)
        have es2 : ((nx + 23) % 24 + 23 - k) % 24 = (nx + 23 - (k + 1)) % 24 := by omega
        rw [es2]
        refine ⟨c1, c2.same c3.1 (fun j hj => ?_), c3⟩
        rw [hout _ (by unfold zAH; omega) (by unfold zAH; omega)]
        exact hf1 _ (by unfold zAH; omega)
      · rw [hout _ (by omega) (by omega)]
        exact hf1 _ (by omega)
end AC2
end
section
/-! the reference: minds, undo -/
def zRw (mem : zMem) (r : Nat) (g : zH) : Prop := zHB mem (2000 + r) g ∧ zRk mem (2000 + r) (fun e => e) (g 0)
theorem zRw.cp {mem mem' : zMem} {a b : Nat} {g : zH} (h : zRw mem a g) (h6 : g 0 ≤ 6) (hc : ∀ k, k < 43 → mem' (2000 + b + k) = mem (2000 + a + k)) : zRw mem' b g :=
  ⟨⟨fun k hk => by rw [hc k (by omega)]; exact h.1.1 k hk, fun f e hf he => by rw [hc _ (by omega)]; exact h.1.2 f e hf he⟩,
   fun e he => ⟨by rw [show 2000 + b + 37 + e = 2000 + b + (37 + e) by omega, hc _ (by omega), show 2000 + a + (37 + e) = 2000 + a + 37 + e by omega]; exact (h.2 e he).1, he⟩⟩
theorem zRw.same {mem mem' : zMem} {a : Nat} {g : zH} (h : zRw mem a g) (h6 : g 0 ≤ 6) (hc : ∀ k, k < 43 → mem' (2000 + a + k) = mem (2000 + a + k)) : zRw mem' a g := h.cp h6 hc
def zMActs (mem : zMem) (u : Nat) (gs : Nat → zH) : Prop := u ≤ 24 ∧ mem 1001 = nI u ∧ ∀ k, k < u → zRw mem (215 + 43 * (u - 1 - k)) (gs k) ∧ zWF (gs k)
section MA
variable {X d : Nat} {mem : zMem} {lk : zLk} {L : List Nat} {Q : Option Value → zMem → Prop} {g : zH} {u : Nat} {gs : Nat → zH}
theorem nmul {a b : Nat} : nI a * nI b = nI (a * b) := pk_mul a b
/-- what minds leaves -/
def zmfr (mem mem' : zMem) : Prop := ∀ x, x ≠ 1001 → ¬ (2215 ≤ x ∧ x < 3247) → mem' x = mem x
theorem minds_tail {v1 : Value} (hd : 1 < d) (hw : lk 1000 = some 2000) (hr : zRw mem 0 g) (wf : zWF g) (hu : u < 24) (e1 : mem 1001 = nI u) (hA : ∀ k, k < u → zRw mem (215 + 43 * (u - 1 - k)) (gs k) ∧ zWF (gs k))
    (q : ∀ mem', zMActs mem' (u + 1) (zpsh g gs) → zmfr mem mem' → Q none mem') : zE X d 170 57 [.ref 1000, v1] [] mem lk L lk L Q := by
  have ea : nI 215 + nI 43 * mem (1000 + 1) = nI (215 + 43 * u) := by rw [show mem (1000 + 1) = nI u from e1, nmul, nI_add]
  refine zE_do 60 57 (tbl := tX8_minds) zck_170 rfl (h := ?_)
  refine ⟨rfl, rfl, ?_⟩
  rw [ea]
  refine ok_copyOf (a := 0) (b := 215 + 43 * u) (by omega) (by omega) (by omega) (by omega) hw (fun m1 hc hf => ⟨rfl, rfl, rfl, rfl, ?_⟩)
  show Q none (upd m1 (1000 + 1) (m1 (1000 + 1) + nI 1))
  have e2 : m1 (1000 + 1) = nI u := by rw [hf _ (by omega)]; exact e1
  rw [e2, nI_add]
  refine q _ ⟨by omega, upd_eq, fun k hk => ?_⟩ (fun x h1 h2 => by rw [upd_ne (by omega)]; exact hf x (by omega))
  by_cases c : k = 0
  · subst c
    rw [zpsh_0, show u + 1 - 1 - 0 = u by omega]
    exact ⟨hr.cp wf.1 (fun j hj => by rw [upd_ne (by omega)]; exact hc j hj), wf⟩
  · obtain ⟨b1, b2⟩ := hA (k - 1) (by omega)
    rw [zpsh_s c, show u + 1 - 1 - k = u - 1 - (k - 1) by omega]
    refine ⟨b1.same b2.1 (fun j hj => ?_), b2⟩
    rw [upd_ne (by omega)]
    exact hf _ (by omega)
theorem minds_loop (hd : 1 < d) (hw : lk 1000 = some 2000) (hr : zRw mem 0 g) (wf : zWF g) (e1 : mem 1001 = nI 24) (hA : ∀ k, k < 24 → zRw mem (215 + 43 * (23 - k)) (gs k) ∧ zWF (gs k))
    (q : ∀ mem', zMActs mem' 24 (zpsh g gs) → zmfr mem mem' → Q none mem') : ∀ n i m1, i + n = 989 → (∀ j, j < i → m1 (2215 + j) = mem (2215 + j + 43)) → (∀ x, ¬ (2215 ≤ x ∧ x < 2215 + i) → m1 x = mem x) → zE X d 170 11 [.ref 1000, .int (nI i)] [] m1 lk L lk L Q := by
  intro n
  induction n with
  | zero =>
    intro i m1 hi h1 h2
    have c1 : (nI 989 ≤ nI i) := by rw [nLe (by omega) (by omega)]; omega
    refine zgoc [57] 60 11 (tbl := tX8_minds) zck_170 rfl (h := ?_)
    refine ⟨fun _ => ⟨rfl, rfl, ?_⟩, fun c => absurd c1 c⟩
    have e2 : m1 (1000 + 1) = nI 24 := by rw [h2 _ (by omega)]; exact e1
    rw [e2, nsub (by omega) (by omega)]
    have hsh : ∀ j, 43 ≤ j → j < 1032 → m1 (2215 + (j - 43)) = mem (2215 + j) := fun j hj hj2 => by rw [h1 _ (by omega), show 2215 + (j - 43) + 43 = 2215 + j by omega]
    refine minds_tail (u := 23) (gs := gs) hd hw (hr.same wf.1 (fun k hk => ?_)) wf (by omega) upd_eq (fun k hk => ?_) (fun m2 A2 f2 => q m2 A2 (fun x x1 x2 => ?_))
    · rw [upd_ne (by omega), h2 _ (by omega)]
    · obtain ⟨b1, b2⟩ := hA k (by omega)
      refine ⟨b1.cp b2.1 (fun j hj => ?_), b2⟩
      rw [upd_ne (by omega)]
      have := hsh (43 * (23 - k) + j) (by omega) (by omega)
      rw [show 2000 + (215 + 43 * (23 - 1 - k)) + j = 2215 + (43 * (23 - k) + j - 43) by omega, this, show 2000 + (215 + 43 * (23 - k)) + j = 2215 + (43 * (23 - k) + j) by omega]
    · rw [f2 x x1 x2, upd_ne (by omega), h2 x (by omega)]
  | succ n ih =>
    intro i m1 hi h1 h2
    have c1 : ¬ (nI 989 ≤ nI i) := by rw [nLe (by omega) (by omega)]; omega
    have k := ih (i + 1) (upd m1 (2215 + i) (m1 (2215 + i + 43))) (by omega) (fun j hj => ?_) (fun x hx => ?_)
    · rw [← nI_1] at k
      refine zE_do 60 11 (tbl := tX8_minds) zck_170 rfl (h := ?_)
      refine ⟨fun c => absurd c c1, fun _ => ⟨rfl, _, hw, rfl, _, hw, Or.inl rfl, zwi2 (by omega), rfl, zwi1 (by omega), ?_⟩⟩
      have a1 : 2000 + (nI 215 + nI i).toNatClampNeg = 2215 + i := by rw [zw1 (by omega)]; omega
      have a2 : 2000 + (nI 215 + nI i + nI 43).toNatClampNeg = 2215 + i + 43 := by rw [zw2 (by omega)]; omega
      rw [← a2, ← a1] at k
      exact k
    · by_cases c : j = i
      · subst c; rw [upd_eq, h2 _ (by omega)]
      · rw [upd_ne (by omega)]; exact h1 j (by omega)
    · rw [upd_ne (by omega)]; exact h2 x (by omega)
theorem ok_minds (hd : 1 < d) (hw : lk 1000 = some 2000) (hr : zRw mem 0 g) (wf : zWF g) (A : zMActs mem u gs)
    (q : ∀ mem', zMActs mem' (if u < 24 then u + 1 else 24) (zpsh g gs) → zmfr mem mem' → Q none mem') : zOk X d 170 [.ref 1000] mem lk L lk L Q := by
  obtain ⟨a1, a2, a3⟩ := A
  refine zOk_doc [57] 60 (tbl := tX8_minds) zck_170 rfl (by omega) (h := ?_)
  refine ⟨rfl, fun c => ?_, fun c => ?_⟩
  · have c : ¬ mem (1000 + 1) = nI 24 := c
    rw [show mem (1000 + 1) = nI u from a2, nEq (by omega) (by omega)] at c
    rw [if_pos (by omega)] at q
    exact minds_tail hd hw hr wf (by omega) a2 a3 q
  · have c : mem (1000 + 1) = nI 24 := c
    rw [show mem (1000 + 1) = nI u from a2, nEq (by omega) (by omega)] at c
    subst c
    rw [if_neg (by omega)] at q
    exact minds_loop hd hw hr wf a2 a3 q 989 0 mem (by omega) (fun j hj => by omega) (fun x _ => rfl)
theorem ok_mundo (hd : 1 < d) (hw : lk 1000 = some 2000) (A : zMActs mem u gs) (q0 : u = 0 → Q (some (.int (-(nI 1000002)))) mem)
    (q : u ≠ 0 → ∀ mem', zMActs mem' (u - 1) (fun k => gs (k + 1)) → zRw mem' 0 (gs 0) → (∀ x, x ≠ 1001 → ¬ (2000 ≤ x ∧ x < 2043) → mem' x = mem x) → Q (some (.int (nI (u - 1)))) mem') : zOk X d 171 [.ref 1000] mem lk L lk L Q := by
  obtain ⟨a1, a2, a3⟩ := A
  refine zOk_do 60 (tbl := tX8_undo) zck_171 rfl (by omega) (h := ?_)
  refine ⟨rfl, fun c => ?_, fun c => ?_⟩
  · have c : ¬ mem (1000 + 1) = 0 := c
    rw [show mem (1000 + 1) = nI u from a2, n0 (by omega)] at c
    obtain ⟨b1, b2⟩ := a3 0 (by omega)
    have q := q c
    refine ⟨rfl, rfl, rfl, rfl, ?_⟩
    show zOk X (d - 1) 135 [.ref 1000, .int (nI 215 + nI 43 * upd mem (1000 + 1) (mem (1000 + 1) - nI 1) (1000 + 1)), .int (nI 0)] (upd mem (1000 + 1) (mem (1000 + 1) - nI 1)) lk L lk L _
    rw [upd_eq, show mem (1000 + 1) = nI u from a2, nsub (by omega) (by omega), nmul, nI_add]
    refine ok_copyOf (a := 215 + 43 * (u - 1)) (b := 0) (by omega) (by omega) (by omega) (by omega) hw (fun m1 hc hf => ⟨rfl, rfl, rfl, ?_⟩)
    have e2 : m1 (1000 + 1) = nI (u - 1) := by rw [hf _ (by omega)]; exact upd_eq
    show Q (some (.int (m1 (1000 + 1)))) m1
    rw [e2]
    refine q m1 ⟨by omega, e2, fun k hk => ?_⟩ (b1.cp b2.1 (fun j hj => ?_)) (fun x h1 h2 => by rw [hf x (by omega), upd_ne (by omega)])
    · obtain ⟨c1, c2⟩ := a3 (k + 1) (by omega)
      rw [show u - 1 - 1 - k = u - 1 - (k + 1) by omega]
      refine ⟨c1.same c2.1 (fun j hj => ?_), c2⟩
      rw [hf _ (by omega), upd_ne (by omega)]
    · rw [show u - 1 - 0 = u - 1 by omega, hc j hj, upd_ne (by omega)]
  · have c : mem (1000 + 1) = 0 := c
    rw [show mem (1000 + 1) = nI u from a2, n0 (by omega)] at c
    exact ⟨rfl, rfl, q0 c⟩
end MA
end
section
/-! DishLift$Rows -/
def zKl : List (Nat × Nat) := [(100, 120), (101, 530), (102, 10000), (103, 10064), (104, 660), (105, 700), (106, 710), (107, 740), (108, 770), (120, 130), (121, 140), (122, 150), (530, 540), (660, 670), (710, 10128), (711, 720), (740, 10192), (741, 10256), (742, 750), (743, 760), (770, 780)]
/-- the links of the class that never change -/
def zKs (lk : zLk) : Prop := (∀ p, p ∈ zKl → lk p.1 = some p.2) ∧ ∀ k, k < 8 → lk (150 + k) = some (200 + 40 * k)
theorem zKs.at {lk : zLk} (h : zKs lk) (a b : Nat) (hm : (a, b) ∈ zKl := by decide) : lk a = some b := h.1 (a, b) hm
theorem kd_item {k : Nat} (h : k < 8) : kd (200 + 40 * k) = 9 := by
  rcases (by omega : k = 0 ∨ k = 1 ∨ k = 2 ∨ k = 3 ∨ k = 4 ∨ k = 5 ∨ k = 6 ∨ k = 7) with z | z | z | z | z | z | z | z <;> subst z <;> rfl
theorem ln_item {X k : Nat} (h : k < 8) : ln X (200 + 40 * k) = 40 := by
  rcases (by omega : k = 0 ∨ k = 1 ∨ k = 2 ∨ k = 3 ∨ k = 4 ∨ k = 5 ∨ k = 6 ∨ k = 7) with z | z | z | z | z | z | z | z <;> subst z <;> rfl
/-- the rows: 99 is missing -/
def zCR (mem : zMem) (rl rn : Nat → Nat) (ri : Nat → Int32) : Prop :=
  (∀ k, k < 8 → (rl k = 99 → mem (130 + k) = -(nI 1)) ∧ (rl k ≠ 99 → mem (130 + k) = nI (rl k) ∧ mem (140 + k) = nI (rn k))) ∧ ∀ i, i < 320 → mem (200 + i) = ri i
/-- what is true of rows -/
def zRowOk (rl rn : Nat → Nat) : Prop := ∀ k, k < 8 → rl k ≠ 99 → rl k ≤ 2 ∧ rn k ≤ 40
theorem nsubT {a b : Nat} (ha : a < 2147483648) (hb : b < 2147483648) : (nI a - nI b).toInt = (a : Int) - b := by
  rw [Int32.toInt_sub, nT ha, nT hb]
  exact Int.bmod_eq_of_le (by omega) (by omega)
section RW
variable {X d : Nat} {mem : zMem} {lk : zLk} {L : List Nat} {Q : Option Value → zMem → Prop} {rl rn : Nat → Nat} {ri : Nat → Int32}
theorem in8 {X s : Nat} (o : Nat) (ho : ln X o = 8) (h : s < 8) : vp_in (nI s) (ln X o) := by rw [ho]; exact vp_in_nI h (by decide)
theorem fill_loop {o n : Nat} {v : Int32} (hk : kd o = 9) (hl : ln X o = n) (hn : n < 2147483648) (q : ∀ mem', (∀ i, i < n → mem' (o + i) = v) → (∀ x, ¬ (o ≤ x ∧ x < o + n) → mem' x = mem x) → Q none mem') : ∀ m i m1, i + m = n → (∀ j, j < i → m1 (o + j) = v) → (∀ x, ¬ (o ≤ x ∧ x < o + n) → m1 x = mem x) → zE X d 224 5 [.ref o, .int v, .int (nI i), .int (nI n)] [] m1 lk L lk L Q := by
  intro m
  induction m with
  | zero =>
    intro i m1 hi h1 h2
    have c1 : nI n ≤ nI i := by rw [nLe (by omega) (by omega)]; omega
    refine zE_do 40 5 (tbl := tJ7_fill_53178) zck_224 rfl (h := ?_)
    exact ⟨fun _ => ⟨rfl, rfl, q m1 (fun j hj => h1 j (by omega)) h2⟩, fun c => absurd c1 c⟩
  | succ m ih =>
    intro i m1 hi h1 h2
    have c1 : ¬ nI n ≤ nI i := by rw [nLe (by omega) (by omega)]; omega
    have k := ih (i + 1) (upd m1 (o + i) v) (by omega) (fun j hj => ?_) (fun x hx => ?_)
    · rw [← nI_1] at k
      refine zE_do 40 5 (tbl := tJ7_fill_53178) zck_224 rfl (h := ?_)
      refine ⟨fun c => absurd c c1, fun _ => ⟨hk, by rw [hl]; exact vp_in_nI (by omega) (by omega), ?_⟩⟩
      have a1 : (nI i).toNatClampNeg = i := nC (by omega)
      rw [← a1] at k
      rw [a1] at k ⊢
      exact k
    · by_cases c : j = i
      · subst c; exact upd_eq
      · rw [upd_ne (by omega)]; exact h1 j (by omega)
    · rw [upd_ne (by omega)]; exact h2 x hx
theorem ok_fill {o n : Nat} {v : Int32} (hd : 0 < d) (hk : kd o = 9) (hl : ln X o = n) (hn : n < 2147483648) (q : ∀ mem', (∀ i, i < n → mem' (o + i) = v) → (∀ x, ¬ (o ≤ x ∧ x < o + n) → mem' x = mem x) → Q none mem') : zOk X d 224 [.ref o, .int v] mem lk L lk L Q := by
  refine zOk_do 20 (tbl := tJ7_fill_53178) zck_224 rfl hd (h := ?_)
  refine ⟨by rw [hk]; decide, ?_⟩
  rw [hl]
  exact fill_loop hk hl hn q n 0 mem (by omega) (fun j hj => by omega) (fun x _ => rfl)
theorem ok_isRow {x : Int32} (hd : 0 < d) (q1 : ∀ e, e < 8 → x = nI e → Q (some (.int (nI 1))) mem) (q0 : (x.toInt < 0 ∨ 8 ≤ x.toInt) → Q (some (.int (nI 0))) mem) : zOk X d 70 [.int x] mem lk L lk L Q := by
  have n8 : (nI 8).toInt = 8 := nT (by omega)
  refine zOk_do 20 (tbl := tX5_isRow) zck_70 rfl hd (h := ?_)
  refine ⟨fun c => ⟨rfl, rfl, rfl, q0 ?_⟩, fun c => ⟨fun c2 => ⟨rfl, rfl, rfl, q0 ?_⟩, fun c2 => ⟨rfl, rfl, rfl, ?_⟩⟩⟩
  · have c : x < 0 := c
    rw [i_lt, i_0] at c; exact Or.inl c
  · have c2 : nI 8 ≤ x := c2
    rw [i_le, n8] at c2; exact Or.inr c2
  · have c : ¬ x < 0 := c
    have c2 : ¬ nI 8 ≤ x := c2
    rw [i_lt, i_0] at c
    rw [i_le, n8] at c2
    rcases zix x (n := 8) (by omega) with ⟨j, hj, e⟩ | q
    · exact q1 j hj e
    · omega
theorem ok_isLane {x : Int32} (hd : 0 < d) (q1 : ∀ e, e ≤ 2 → x = nI e → Q (some (.int (nI 1))) mem) (q0 : (x.toInt < 0 ∨ 2 < x.toInt) → Q (some (.int (nI 0))) mem) : zOk X d 71 [.int x] mem lk L lk L Q := by
  have n2 : (nI 2).toInt = 2 := nT (by omega)
  refine zOk_do 20 (tbl := tX5_isLane) zck_71 rfl hd (h := ?_)
  refine ⟨fun c => ⟨rfl, rfl, rfl, q0 ?_⟩, fun c => ⟨fun c2 => ⟨rfl, rfl, rfl, q0 ?_⟩, fun c2 => ⟨rfl, rfl, rfl, ?_⟩⟩⟩
  · have c : x < 0 := c
    rw [i_lt, i_0] at c; exact Or.inl c
  · have c2 : nI 2 < x := c2
    rw [i_lt, n2] at c2; exact Or.inr c2
  · have c : ¬ x < 0 := c
    have c2 : ¬ nI 2 < x := c2
    rw [i_lt, i_0] at c
    rw [i_lt, n2] at c2
    rcases zix x (n := 3) (by omega) with ⟨j, hj, e⟩ | q
    · exact q1 j (by omega) e
    · omega
/-- a number is out of some bounds -/
theorem ok_isOutside {x : Int32} {a b : Nat} (hd : 0 < d) (ha : a < 2147483648) (hb : b < 2147483647) (q1 : (x.toInt < a ∨ b < x.toInt) → Q (some (.int (nI 1))) mem) (q0 : ∀ j, a ≤ j → j ≤ b → x = nI j → Q (some (.int (nI 0))) mem) : zOk X d 130 [.int x, .int (nI a), .int (nI b)] mem lk L lk L Q := by
  have na : (nI a).toInt = a := nT ha
  have nb : (nI b).toInt = b := nT (by omega)
  refine zOk_do 20 (tbl := tX7_isOutside) zck_130 rfl hd (h := ?_)
  refine ⟨fun c => ⟨rfl, rfl, rfl, q1 ?_⟩, fun c => ⟨fun c2 => ⟨rfl, rfl, rfl, ?_⟩, fun c2 => ⟨rfl, rfl, rfl, q1 ?_⟩⟩⟩
  · have c : x < nI a := c
    rw [i_lt, na] at c; exact Or.inl c
  · have c : ¬ x < nI a := c
    have c2 : x ≤ nI b := c2
    rw [i_lt, na] at c
    rw [i_le, nb] at c2
    rcases zix x (n := b + 1) (by omega) with ⟨j, hj, e⟩ | q
    · have : x.toInt = j := by rw [e]; exact nT (by omega)
      exact q0 j (by omega) (by omega) e
    · omega
  · have c2 : ¬ x ≤ nI b := c2
    rw [i_le, nb] at c2; exact Or.inr (by omega)
theorem ok_found {n : Nat} (hd : 0 < d) (q : Q (some (.int (-(nI 1000010) - nI n))) (upd mem 109 (nI n))) : zOk X d 128 [.ref 100, .int (nI n)] mem lk L lk L Q := by
  refine zOk_do 20 (tbl := tX7_found) zck_128 rfl hd (h := ?_)
  exact ⟨rfl, rfl, rfl, q⟩
theorem ok_foundNothing {v : Int32} (hd : 0 < d) (q : Q (some (.int v)) (upd mem 109 (nI 0))) : zOk X d 129 [.ref 100, .int v] mem lk L lk L Q := by
  refine zOk_do 20 (tbl := tX7_foundNothing) zck_129 rfl hd (h := ?_)
  exact ⟨rfl, rfl, rfl, q⟩
theorem nneg1 {n : Nat} (h : n < 1000) : ¬ nI n = -(nI 1) := by
  rw [i_eq, nT (by omega), show (-(nI 1)).toInt = -1 from by decide]; omega
theorem ok_isMissing {r : Nat} (hd : 0 < d) (hk : zKs lk) (hR : zCR mem rl rn ri) (ho : zRowOk rl rn) (hr : r < 8) (q1 : rl r = 99 → Q (some (.int (nI 1))) mem) (q0 : rl r ≠ 99 → Q (some (.int (nI 0))) mem) : zOk X d 72 [.ref 120, .int (nI r)] mem lk L lk L Q := by
  have ea : (nI r).toNatClampNeg = r := nC (by omega)
  refine zOk_do 20 (tbl := tX5_isMissing) zck_72 rfl hd (h := ?_)
  refine ⟨rfl, _, hk.at 120 130, Or.inl rfl, in8 130 rfl hr, fun c => ⟨rfl, rfl, rfl, q0 (fun z => c ?_)⟩, fun c => ⟨rfl, rfl, rfl, q1 (Decidable.byContradiction fun z => ?_)⟩⟩
  · show mem (130 + (nI r).toNatClampNeg) = -(nI 1)
    rw [ea]; exact (hR.1 r hr).1 z
  · have c : mem (130 + (nI r).toNatClampNeg) = -(nI 1) := c
    rw [ea, ((hR.1 r hr).2 z).1] at c
    exact nneg1 (by have := ho r hr z; omega) c
theorem ok_covers {r : Nat} {i n : Int32} (hd : 0 < d) (hk : zKs lk) (hR : zCR mem rl rn ri) (ho : zRowOk rl rn) (hr : r < 8) (hp : rl r ≠ 99) (q1 : ∀ a b, i = nI a → n = nI b → a + b ≤ rn r → Q (some (.int (nI 1))) mem) (q0 : (i.toInt < 0 ∨ n.toInt < 0 ∨ (rn r : Int) < i.toInt + n.toInt) → Q (some (.int (nI 0))) mem) : zOk X d 73 [.ref 120, .int (nI r), .int i, .int n] mem lk L lk L Q := by
  have ea : (nI r).toNatClampNeg = r := nC (by omega)
  have h40 := (ho r hr hp).2
  have el : mem (140 + (nI r).toNatClampNeg) = nI (rn r) := by rw [ea]; exact ((hR.1 r hr).2 hp).2
  refine zOk_do 20 (tbl := tX5_covers) zck_73 rfl hd (h := ?_)
  refine ⟨fun c => ⟨rfl, rfl, rfl, q0 ?_⟩, fun c => ⟨fun c2 => ⟨rfl, rfl, rfl, q0 ?_⟩, fun c2 => ⟨rfl, _, hk.at 121 140, Or.inl rfl, in8 140 rfl hr, fun c3 => ⟨rfl, rfl, rfl, q0 ?_⟩, fun c3 => ⟨rfl, rfl, rfl, ?_⟩⟩⟩⟩
  · have c : n < 0 := c
    rw [i_lt, i_0] at c; exact Or.inr (Or.inl c)
  · have c2 : i < 0 := c2
    rw [i_lt, i_0] at c2; exact Or.inl c2
  · have c : ¬ n < 0 := c
    have c3 : mem (140 + (nI r).toNatClampNeg) - n < i := c3
    rw [i_lt, i_0] at c
    obtain ⟨b, hb, e⟩ : ∃ b, b < 2147483648 ∧ n = nI b := ⟨n.toInt.toNat, by have := n.toInt_lt; omega, by rw [i_eq, nT (by have := n.toInt_lt; omega)]; omega⟩
    rw [el, e, i_lt, nsubT (by omega) (by omega)] at c3
    rw [e, nT (by omega)]; exact Or.inr (Or.inr (by omega))
  · have c : ¬ n < 0 := c
    have c2 : ¬ i < 0 := c2
    have c3 : ¬ mem (140 + (nI r).toNatClampNeg) - n < i := c3
    rw [i_lt, i_0] at c c2
    obtain ⟨b, hb, e⟩ : ∃ b, b < 2147483648 ∧ n = nI b := ⟨n.toInt.toNat, by have := n.toInt_lt; omega, by rw [i_eq, nT (by have := n.toInt_lt; omega)]; omega⟩
    obtain ⟨a, ha, e2⟩ : ∃ a, a < 2147483648 ∧ i = nI a := ⟨i.toInt.toNat, by have := i.toInt_lt; omega, by rw [i_eq, nT (by have := i.toInt_lt; omega)]; omega⟩
    rw [el, e, e2, i_lt, nsubT (by omega) (by omega), nT (by omega)] at c3
    exact q1 a b e2 e (by omega)
/-- a row is begun -/
def zri0 (ri : Nat → Int32) (r : Nat) (i : Nat) : Int32 := if 40 * r ≤ i ∧ i < 40 * r + 40 then nI 0 else ri i
theorem ok_begin {r l n : Nat} (hd : 1 < d) (hk : zKs lk) (hR : zCR mem rl rn ri) (hr : r < 8) (hl : l ≤ 2) (q : ∀ mem', zCR mem' (va_up rl r l) (va_up rn r n) (zri0 ri r) → (∀ x, ¬ (130 ≤ x ∧ x < 520) → mem' x = mem x) → Q none mem') : zOk X d 74 [.ref 120, .int (nI r), .int (nI l), .int (nI n)] mem lk L lk L Q := by
  have ea : (nI r).toNatClampNeg = r := nC (by omega)
  refine zOk_do 40 (tbl := tX5_begin) zck_74 rfl (by omega) (h := ?_)
  refine ⟨rfl, _, hk.at 120 130, rfl, in8 130 rfl hr, rfl, _, hk.at 121 140, rfl, in8 140 rfl hr, rfl, _, hk.at 122 150, Or.inr rfl, in8 150 rfl hr, fun z => ?_, fun t ht => ?_⟩
  · exfalso
    have z : lk (150 + (nI r).toNatClampNeg) = none := z
    rw [ea, hk.2 r hr] at z; cases z
  · have ht : lk (150 + (nI r).toNatClampNeg) = some t := ht
    rw [ea, hk.2 r hr] at ht
    cases ht
    refine ok_fill (n := 40) (by omega) (kd_item hr) (ln_item hr) (by omega) (fun m1 h1 h2 => ⟨rfl, rfl, q m1 ⟨fun k hk8 => ?_, fun i hi => ?_⟩ (fun x hx => ?_)⟩)
    · have e1 : m1 (130 + k) = upd (upd mem (130 + (nI r).toNatClampNeg) (nI l)) (140 + (nI r).toNatClampNeg) (nI n) (130 + k) := h2 _ (by omega)
      have e2 : m1 (140 + k) = upd (upd mem (130 + (nI r).toNatClampNeg) (nI l)) (140 + (nI r).toNatClampNeg) (nI n) (140 + k) := h2 _ (by omega)
      rw [ea] at e1 e2
      by_cases c : k = r
      · subst c
        rw [upd_ne (by omega), upd_eq] at e1
        rw [upd_eq] at e2
        rw [zup_eq, zup_eq]
        exact ⟨fun z => by omega, fun _ => ⟨e1, e2⟩⟩
      · rw [upd_ne (by omega), upd_ne (by omega)] at e1
        rw [upd_ne (by omega), upd_ne (by omega)] at e2
        rw [zup_ne c, zup_ne c, e1, e2]
        exact hR.1 k hk8
    · unfold zri0
      by_cases c : 40 * r ≤ i ∧ i < 40 * r + 40
      · rw [if_pos c, show 200 + i = 200 + 40 * r + (i - 40 * r) by omega]
        exact h1 _ (by omega)
      · rw [if_neg c]
        have e1 : m1 (200 + i) = upd (upd mem (130 + (nI r).toNatClampNeg) (nI l)) (140 + (nI r).toNatClampNeg) (nI n) (200 + i) := h2 _ (by omega)
        rw [e1, ea, upd_ne (by omega), upd_ne (by omega)]
        exact hR.2 i hi
    · have e1 : m1 x = upd (upd mem (130 + (nI r).toNatClampNeg) (nI l)) (140 + (nI r).toNatClampNeg) (nI n) x := h2 _ (by omega)
      rw [e1, ea, upd_ne (by omega), upd_ne (by omega)]
/-- a number cut to a lane -/
def zcut (l : Nat) (v : Int32) : Int32 := if l = 0 then v.toInt8.toInt32 else if l = 1 then v.toInt16.toInt32 else v
theorem put_fin {r i : Nat} {v : Int32} (hk : zKs lk) (hR : zCR mem rl rn ri) (hr : r < 8) (hi : i < 40) (q : ∀ mem', zCR mem' rl rn (va_up ri (40 * r + i) v) → (∀ x, ¬ (200 ≤ x ∧ x < 520) → mem' x = mem x) → Q (some (.int v)) mem') : Q (some (.int v)) (upd mem (200 + 40 * r + (nI i).toNatClampNeg) v) := by
  rw [nC (by omega)]
  refine q _ ⟨fun k hk8 => ?_, fun j hj => ?_⟩ (fun x hx => upd_ne (by omega))
  · rw [upd_ne (by omega), upd_ne (by omega)]; exact hR.1 k hk8
  · by_cases c : j = 40 * r + i
    · subst c; rw [zup_eq, show 200 + (40 * r + i) = 200 + 40 * r + i by omega, upd_eq]
    · rw [zup_ne c, upd_ne (by omega)]; exact hR.2 j hj
theorem ok_put {r i : Nat} {v : Int32} (hd : 0 < d) (hk : zKs lk) (hR : zCR mem rl rn ri) (ho : zRowOk rl rn) (hr : r < 8) (hp : rl r ≠ 99) (hi : i < 40) (q : ∀ mem', zCR mem' rl rn (va_up ri (40 * r + i) (zcut (rl r) v)) → (∀ x, ¬ (200 ≤ x ∧ x < 520) → mem' x = mem x) → Q (some (.int (zcut (rl r) v))) mem') : zOk X d 75 [.ref 120, .int (nI r), .int (nI i), .int v] mem lk L lk L Q := by
  have ea : (nI r).toNatClampNeg = r := nC (by omega)
  have h2 := (ho r hr hp).1
  have el : mem (130 + (nI r).toNatClampNeg) = nI (rl r) := by rw [ea]; exact ((hR.1 r hr).2 hp).1
  have hin : vp_in (nI i) (ln X (200 + 40 * r)) := by rw [ln_item hr]; exact vp_in_nI hi (by decide)
  have hno : ∀ {A : Prop}, lk (150 + (nI r).toNatClampNeg) = none → A := fun {A} z => by rw [ea, hk.2 r hr] at z; cases z
  have hso : ∀ t, lk (150 + (nI r).toNatClampNeg) = some t → t = 200 + 40 * r := fun t ht => by rw [ea, hk.2 r hr] at ht; cases ht; rfl
  refine zOk_do 60 (tbl := tX5_put) zck_75 rfl (by omega) (h := ?_)
  refine ⟨rfl, _, hk.at 120 130, Or.inl rfl, in8 130 rfl hr, fun c => ⟨rfl, _, hk.at 120 130, Or.inl rfl, in8 130 rfl hr, fun c2 => ⟨rfl, _, hk.at 122 150, Or.inr rfl, in8 150 rfl hr, fun z => hno z, fun t ht => ?_⟩, fun c2 => ⟨rfl, _, hk.at 122 150, Or.inr rfl, in8 150 rfl hr, fun z => hno z, fun t ht => ?_⟩⟩, fun c => ⟨rfl, _, hk.at 122 150, Or.inr rfl, in8 150 rfl hr, fun z => hno z, fun t ht => ?_⟩⟩
  · have c : ¬ mem (130 + (nI r).toNatClampNeg) = 0 := c
    have c2 : ¬ mem (130 + (nI r).toNatClampNeg) = nI 1 := c2
    rw [el, n0 (by omega)] at c
    rw [el, nEq (by omega) (by omega)] at c2
    have hz : zcut (rl r) v = v := by unfold zcut; rw [if_neg c, if_neg c2]
    rw [hz] at q
    cases hso t ht
    exact ⟨kd_item hr, hin, rfl, rfl, put_fin hk hR hr hi q⟩
  · have c : ¬ mem (130 + (nI r).toNatClampNeg) = 0 := c
    have c2 : mem (130 + (nI r).toNatClampNeg) = nI 1 := c2
    rw [el, n0 (by omega)] at c
    rw [el, nEq (by omega) (by omega)] at c2
    have hz : zcut (rl r) v = v.toInt16.toInt32 := by unfold zcut; rw [if_neg c, if_pos c2]
    rw [hz] at q
    cases hso t ht
    exact ⟨kd_item hr, hin, rfl, rfl, put_fin hk hR hr hi q⟩
  · have c : mem (130 + (nI r).toNatClampNeg) = 0 := c
    rw [el, n0 (by omega)] at c
    have hz : zcut (rl r) v = v.toInt8.toInt32 := by unfold zcut; rw [if_pos c]
    rw [hz] at q
    cases hso t ht
    exact ⟨kd_item hr, hin, rfl, rfl, put_fin hk hR hr hi q⟩
theorem ok_lose76 {r : Nat} (hd : 0 < d) (hk : zKs lk) (hR : zCR mem rl rn ri) (hr : r < 8) (hp : rl r ≠ 99) (q : ∀ mem', zCR mem' (va_up rl r 99) rn ri → (∀ x, ¬ (130 ≤ x ∧ x < 138) → mem' x = mem x) → Q (some (.int (nI (rn r)))) mem') : zOk X d 76 [.ref 120, .int (nI r)] mem lk L lk L Q := by
  have ea : (nI r).toNatClampNeg = r := nC (by omega)
  refine zOk_do 40 (tbl := tX5_lose) zck_76 rfl (by omega) (h := ?_)
  refine ⟨rfl, _, hk.at 120 130, rfl, in8 130 rfl hr, rfl, _, hk.at 121 140, Or.inl rfl, in8 140 rfl hr, rfl, rfl, ?_⟩
  show Q (some (.int (upd mem (130 + (nI r).toNatClampNeg) (-(nI 1)) (140 + (nI r).toNatClampNeg)))) (upd mem (130 + (nI r).toNatClampNeg) (-(nI 1)))
  rw [ea, upd_ne (by omega), ((hR.1 r hr).2 hp).2]
  refine q _ ⟨fun k hk8 => ?_, fun j hj => by rw [upd_ne (by omega)]; exact hR.2 j hj⟩ (fun x hx => upd_ne (by omega))
  by_cases c : k = r
  · subst c; rw [zup_eq, upd_eq]; exact ⟨fun _ => rfl, fun z => absurd rfl z⟩
  · rw [zup_ne c, upd_ne (by omega), upd_ne (by omega)]; exact hR.1 k hk8
end RW
end
section
/-! DishLift: row, set, copy, drop -/
def zBadRow (x y z : Int32) : Prop := (x.toInt < 0 ∨ 8 ≤ x.toInt) ∨ (y.toInt < 0 ∨ 2 < y.toInt) ∨ 40 < z.toInt
def zNoRow (x : Int32) : Prop := x.toInt < 0 ∨ 8 ≤ x.toInt
def zNoCov (k : Nat) (i n : Int32) : Prop := i.toInt < 0 ∨ n.toInt < 0 ∨ (k : Int) < i.toInt + n.toInt
def zricp (ri : Nat → Int32) (a b n : Nat) (x : Nat) : Int32 := if b ≤ x ∧ x < b + n then ri (a + (x - b)) else ri x
theorem zCR.st {mem : zMem} {rl rn : Nat → Nat} {ri : Nat → Int32} {x : Nat} {v : Int32} (h : zCR mem rl rn ri) (hx : x < 130 ∨ 520 ≤ x) : zCR (upd mem x v) rl rn ri :=
  ⟨fun k hk => by rw [upd_ne (by omega), upd_ne (by omega)]; exact h.1 k hk, fun i hi => by rw [upd_ne (by omega)]; exact h.2 i hi⟩
theorem zCR.fr {mem mem' : zMem} {rl rn : Nat → Nat} {ri : Nat → Int32} (h : zCR mem rl rn ri) (hx : ∀ x, 130 ≤ x → x < 520 → mem' x = mem x) : zCR mem' rl rn ri :=
  ⟨fun k hk => by rw [hx _ (by omega) (by omega), hx _ (by omega) (by omega)]; exact h.1 k hk, fun i hi => by rw [hx _ (by omega) (by omega)]; exact h.2 i hi⟩
section DR
variable {X d : Nat} {mem : zMem} {lk : zLk} {L : List Nat} {Q : Option Value → zMem → Prop} {rl rn : Nat → Nat} {ri : Nat → Int32}
theorem ok_row {x y z : Int32} (hd : 2 < d) (hk : zKs lk) (hR : zCR mem rl rn ri)
    (qB : zBadRow x y z → Q (some (.int (-(nI 1000001)))) mem) (qS : ¬ zBadRow x y z → z.toInt < 0 → Q (some (.int (-(nI 1000010) - nI 4))) (upd mem 109 (nI 4)))
    (qG : ∀ r l n, x = nI r → y = nI l → z = nI n → r < 8 → l ≤ 2 → n ≤ 40 → ∀ mem', zCR mem' (va_up rl r l) (va_up rn r n) (zri0 ri r) → mem' 109 = nI 0 → (∀ x, ¬ (130 ≤ x ∧ x < 520) → x ≠ 109 → mem' x = mem x) → Q (some (.int (nI n))) mem') : zOk X d 91 [.ref 100, .int x, .int y, .int z] mem lk L lk L Q := by
  have n40 : (nI 40).toInt = 40 := nT (by omega)
  refine zOk_do 60 (tbl := tX7_row) zck_91 rfl (by omega) (h := ?_)
  refine ok_isRow (by omega) (fun r hr er => zT_eq ?_) (fun c => zF_eq ⟨rfl, rfl, qB (Or.inl c)⟩)
  refine ok_isLane (by omega) (fun l hl el => zT_eq ?_) (fun c => zF_eq ⟨rfl, rfl, qB (Or.inr (Or.inl c))⟩)
  have hx : x.toInt = r := by rw [er]; exact nT (by omega)
  have hy : y.toInt = l := by rw [el]; exact nT (by omega)
  refine ⟨fun c => ⟨fun c2 => ⟨rfl, _, hk.at 100 120, rfl, ?_⟩, fun c2 => ⟨rfl, ok_found (by omega) ⟨rfl, rfl, qS ?_ ?_⟩⟩⟩, fun c => ⟨rfl, rfl, qB (Or.inr (Or.inr ?_))⟩⟩
  · have c : z ≤ nI 40 := c
    have c2 : 0 ≤ z := c2
    rw [i_le, n40] at c
    rw [i_le, i_0] at c2
    rcases zix z (n := 41) (by omega) with ⟨n, hn, e⟩ | q
    · subst er el e
      exact ok_begin (by omega) hk hR hr hl (fun m1 h1 f1 => ⟨rfl, ok_foundNothing (by omega) ⟨rfl, rfl, qG r l n rfl rfl rfl hr hl (by omega) _ (h1.st (by omega)) upd_eq (fun x hx hx2 => by rw [upd_ne hx2]; exact f1 x hx)⟩⟩)
    · omega
  · have c : z ≤ nI 40 := c
    rw [i_le, n40] at c
    unfold zBadRow; omega
  · have c2 : ¬ 0 ≤ z := c2
    rw [i_le, i_0] at c2
    omega
  · have c : ¬ z ≤ nI 40 := c
    rw [i_le, n40] at c
    omega
theorem ok_set {x i v : Int32} (hd : 2 < d) (hk : zKs lk) (hR : zCR mem rl rn ri) (ho : zRowOk rl rn)
    (qB : zNoRow x → Q (some (.int (-(nI 1000001)))) mem) (q1 : ∀ r, r < 8 → x = nI r → rl r = 99 → Q (some (.int (-(nI 1000010) - nI 1))) (upd mem 109 (nI 1)))
    (q2 : ∀ r, r < 8 → x = nI r → rl r ≠ 99 → zNoCov (rn r) i (nI 1) → Q (some (.int (-(nI 1000010) - nI 2))) (upd mem 109 (nI 2)))
    (qG : ∀ r a, r < 8 → x = nI r → rl r ≠ 99 → i = nI a → a + 1 ≤ rn r → ∀ mem', zCR mem' rl rn (va_up ri (40 * r + a) (zcut (rl r) v)) → mem' 109 = nI 0 → (∀ x, ¬ (130 ≤ x ∧ x < 520) → x ≠ 109 → mem' x = mem x) → Q (some (.int (zcut (rl r) v))) mem') : zOk X d 92 [.ref 100, .int x, .int i, .int v] mem lk L lk L Q := by
  refine zOk_do 60 (tbl := tX7_set) zck_92 rfl (by omega) (h := ?_)
  refine ok_isRow (by omega) (fun r hr er => zT_ne ?_) (fun c => zF_ne ⟨rfl, rfl, qB c⟩)
  subst er
  refine ⟨rfl, _, hk.at 100 120, rfl, ok_isMissing (by omega) hk hR ho hr (fun z => zT_eq ⟨rfl, ok_found (by omega) ⟨rfl, rfl, q1 r hr rfl z⟩⟩) (fun z => zF_eq ⟨rfl, _, hk.at 100 120, rfl, ?_⟩)⟩
  have h40 := (ho r hr z).2
  refine ok_covers (by omega) hk hR ho hr z (fun a b ea eb hab => zT_ne ?_) (fun c => zF_ne ⟨rfl, ok_found (by omega) ⟨rfl, rfl, q2 r hr rfl z c⟩⟩)
  have eb1 : b = 1 := by
    have hb2 : (nI 1).toInt = (nI b).toInt := by rw [← eb]
    rw [nT (by omega), nT (by omega)] at hb2; omega
  subst eb1
  subst ea
  exact ⟨rfl, _, hk.at 100 120, rfl, ok_put (by omega) hk hR ho hr z (by omega) (fun m1 h1 f1 => ⟨rfl, ok_foundNothing (by omega) ⟨rfl, rfl, qG r a hr rfl z rfl hab _ (h1.st (by omega)) upd_eq (fun x hx hx2 => by rw [upd_ne hx2]; exact f1 x (by omega))⟩⟩)⟩
theorem ok_drop {x : Int32} (hd : 2 < d) (hk : zKs lk) (hR : zCR mem rl rn ri) (ho : zRowOk rl rn)
    (qB : zNoRow x → Q (some (.int (-(nI 1000001)))) mem) (q1 : ∀ r, r < 8 → x = nI r → rl r = 99 → Q (some (.int (-(nI 1000010) - nI 1))) (upd mem 109 (nI 1)))
    (qG : ∀ r, r < 8 → x = nI r → rl r ≠ 99 → ∀ mem', zCR mem' (va_up rl r 99) rn ri → mem' 109 = nI 0 → (∀ x, ¬ (130 ≤ x ∧ x < 520) → x ≠ 109 → mem' x = mem x) → Q (some (.int (nI (rn r)))) mem') : zOk X d 94 [.ref 100, .int x] mem lk L lk L Q := by
  refine zOk_do 60 (tbl := tX7_drop) zck_94 rfl (by omega) (h := ?_)
  refine ok_isRow (by omega) (fun r hr er => zT_ne ?_) (fun c => zF_ne ⟨rfl, rfl, qB c⟩)
  subst er
  refine ⟨rfl, _, hk.at 100 120, rfl, ok_isMissing (by omega) hk hR ho hr (fun z => zT_eq ⟨rfl, ok_found (by omega) ⟨rfl, rfl, q1 r hr rfl z⟩⟩) (fun z => zF_eq ⟨rfl, _, hk.at 100 120, rfl, ?_⟩)⟩
  exact ok_lose76 (by omega) hk hR hr z (fun m1 h1 f1 => ⟨rfl, ok_foundNothing (by omega) ⟨rfl, rfl, qG r hr rfl z _ (h1.st (by omega)) upd_eq (fun x hx hx2 => by rw [upd_ne hx2]; exact f1 x (by omega))⟩⟩)
theorem ok_copy {x i y j n : Int32} (hd : 2 < d) (hk : zKs lk) (hR : zCR mem rl rn ri) (ho : zRowOk rl rn)
    (qB : (zNoRow x ∨ zNoRow y) → Q (some (.int (-(nI 1000001)))) mem)
    (q1 : ∀ r s, r < 8 → s < 8 → x = nI r → y = nI s → (rl r = 99 ∨ rl s = 99) → Q (some (.int (-(nI 1000010) - nI 1))) (upd mem 109 (nI 1)))
    (q5 : ∀ r s, r < 8 → s < 8 → x = nI r → y = nI s → rl r ≠ 99 → rl s ≠ 99 → rl r ≠ rl s → Q (some (.int (-(nI 1000010) - nI 5))) (upd mem 109 (nI 5)))
    (q2 : ∀ r s, r < 8 → s < 8 → x = nI r → y = nI s → rl r ≠ 99 → rl s ≠ 99 → rl r = rl s → (zNoCov (rn r) i n ∨ zNoCov (rn s) j n) → Q (some (.int (-(nI 1000010) - nI 2))) (upd mem 109 (nI 2)))
    (qG : ∀ r s a b c, r < 8 → s < 8 → x = nI r → y = nI s → rl r ≠ 99 → rl s ≠ 99 → rl r = rl s → i = nI a → j = nI b → n = nI c → a + c ≤ rn r → b + c ≤ rn s → ∀ mem', zCR mem' rl rn (zricp ri (40 * r + a) (40 * s + b) c) → mem' 109 = nI 0 → (∀ x, ¬ (130 ≤ x ∧ x < 520) → x ≠ 109 → mem' x = mem x) → Q (some (.int (nI c))) mem') : zOk X d 93 [.ref 100, .int x, .int i, .int y, .int j, .int n] mem lk L lk L Q := by
  refine zOk_do 100 (tbl := tX7_copy) zck_93 rfl (by omega) (h := ?_)
  refine ok_isRow (by omega) (fun r hr er => zT_eq ?_) (fun c => zF_eq ⟨rfl, rfl, qB (Or.inl c)⟩)
  subst er
  refine ok_isRow (by omega) (fun s hs es => zT_ne ?_) (fun c => zF_ne ⟨rfl, rfl, qB (Or.inr c)⟩)
  subst es
  have ea : (nI r).toNatClampNeg = r := nC (by omega)
  have eb : (nI s).toNatClampNeg = s := nC (by omega)
  refine ⟨rfl, _, hk.at 100 120, rfl, ok_isMissing (by omega) hk hR ho hr (fun z => zT_ne ⟨rfl, ok_found (by omega) ⟨rfl, rfl, q1 r s hr hs rfl rfl (Or.inl z)⟩⟩) (fun z => zF_ne ⟨rfl, _, hk.at 100 120, rfl, ?_⟩)⟩
  refine ok_isMissing (by omega) hk hR ho hs (fun z2 => zT_eq ⟨rfl, ok_found (by omega) ⟨rfl, rfl, q1 r s hr hs rfl rfl (Or.inr z2)⟩⟩) (fun z2 => zF_eq ?_)
  have er : mem (130 + (nI r).toNatClampNeg) = nI (rl r) := by rw [ea]; exact ((hR.1 r hr).2 z).1
  have es : mem (130 + (nI s).toNatClampNeg) = nI (rl s) := by rw [eb]; exact ((hR.1 s hs).2 z2).1
  obtain ⟨o1, o2⟩ := ho r hr z
  obtain ⟨o3, o4⟩ := ho s hs z2
  refine ⟨rfl, _, hk.at 100 120, rfl, _, hk.at 120 130, Or.inl rfl, in8 130 rfl hr, rfl, _, hk.at 100 120, rfl, _, hk.at 120 130, Or.inl rfl, in8 130 rfl hs, fun c => ⟨rfl, _, hk.at 100 120, rfl, ?_⟩, fun c => ⟨rfl, ok_found (by omega) ⟨rfl, rfl, q5 r s hr hs rfl rfl z z2 ?_⟩⟩⟩
  · have c : mem (130 + (nI r).toNatClampNeg) = mem (130 + (nI s).toNatClampNeg) := c
    rw [er, es, nEq (by omega) (by omega)] at c
    refine ok_covers (by omega) hk hR ho hr z (fun a b ea2 eb2 hab => zT_eq ⟨rfl, _, hk.at 100 120, rfl, ?_⟩) (fun c3 => zF_eq ⟨rfl, ok_found (by omega) ⟨rfl, rfl, q2 r s hr hs rfl rfl z z2 c (Or.inl c3)⟩⟩)
    refine ok_covers (by omega) hk hR ho hs z2 (fun a' b' ea3 eb3 hab' => zT_ne ?_) (fun c3 => zF_ne ⟨rfl, ok_found (by omega) ⟨rfl, rfl, q2 r s hr hs rfl rfl z z2 c (Or.inr c3)⟩⟩)
    have hbb : b = b' := by
      rw [eb2] at eb3
      have q := Nat.lt_of_le_of_lt (Nat.le_trans (Nat.le_add_left b a) hab) (show rn r < 1000 by omega)
      have q' := Nat.lt_of_le_of_lt (Nat.le_trans (Nat.le_add_left b' a') hab') (show rn s < 1000 by omega)
      exact (nEq (by omega) (by omega)).mp eb3
    subst hbb
    subst ea2 eb2 ea3
    have hno : ∀ {A : Prop} {k : Nat}, k < 8 → lk (150 + (nI k).toNatClampNeg) = none → A := fun {A k} hk8 z => by rw [nC (by omega), hk.2 k hk8] at z; cases z
    have hso : ∀ {k : Nat} t, k < 8 → lk (150 + (nI k).toNatClampNeg) = some t → t = 200 + 40 * k := fun {k} t hk8 ht => by rw [nC (by omega), hk.2 k hk8] at ht; cases ht; rfl
    refine ⟨rfl, _, hk.at 100 120, rfl, _, hk.at 122 150, Or.inr rfl, in8 150 rfl hr, fun y => hno hr y, fun t ht => ?_⟩
    cases hso t hr ht
    refine ⟨rfl, _, hk.at 100 120, rfl, _, hk.at 122 150, Or.inr rfl, in8 150 rfl hs, fun y => hno hs y, fun t ht => ?_⟩
    cases hso t hs ht
    have na : (nI a).toNatClampNeg = a := nC (by omega)
    have nb : (nI b).toNatClampNeg = b := nC (by omega)
    have nc : (nI a').toNatClampNeg = a' := nC (by omega)
    refine ⟨kd_item hr, kd_item hs, nge0 (by omega), nge0 (by omega), nge0 (by omega), by rw [na, nb, ln_item hr]; omega, by rw [nc, nb, ln_item hs]; omega, rfl, ok_foundNothing (by omega) ⟨rfl, rfl, qG r s a a' b hr hs rfl rfl z z2 c rfl rfl rfl hab hab' _ ?_ upd_eq (fun x hx hx2 => ?_)⟩⟩
    · refine zCR.st ⟨fun k hk8 => ?_, fun p hp => ?_⟩ (by omega)
      · dsimp only
        rw [nc, nb, if_neg (by omega), if_neg (by omega)]; exact hR.1 k hk8
      · dsimp only
        rw [na, nb, nc]
        unfold zricp
        by_cases y : 40 * s + a' ≤ p ∧ p < 40 * s + a' + b
        · rw [if_pos (by omega), if_pos y, show 200 + 40 * r + a + (200 + p - (200 + 40 * s + a')) = 200 + (40 * r + a + (p - (40 * s + a'))) by omega]
          exact hR.2 _ (by omega)
        · rw [if_neg (by omega), if_neg y]; exact hR.2 p hp
    · rw [upd_ne hx2, nc, nb, if_neg (by omega)]
  · have c : ¬ mem (130 + (nI r).toNatClampNeg) = mem (130 + (nI s).toNatClampNeg) := c
    rw [er, es, nEq (by omega) (by omega)] at c
    exact c
end DR
end
section
/-! the reference: against, row, set, copy, drop -/
def zMR (mem : zMem) (rl rn : Nat → Nat) (ri : Nat → Int32) : Prop :=
  (∀ k, k < 8 → (rl k = 99 → mem (3420 + k) = -(nI 1)) ∧ (rl k ≠ 99 → mem (3420 + k) = nI (rn k) ∧ mem (3430 + k) = nI (rl k))) ∧ ∀ i, i < 320 → mem (3440 + i) = ri i
theorem zMR.st {mem : zMem} {rl rn : Nat → Nat} {ri : Nat → Int32} {x : Nat} {v : Int32} (h : zMR mem rl rn ri) (hx : x < 3420 ∨ 3760 ≤ x) : zMR (upd mem x v) rl rn ri :=
  ⟨fun k hk => by rw [upd_ne (by omega), upd_ne (by omega)]; exact h.1 k hk, fun i hi => by rw [upd_ne (by omega)]; exact h.2 i hi⟩
theorem zMR.fr {mem mem' : zMem} {rl rn : Nat → Nat} {ri : Nat → Int32} (h : zMR mem rl rn ri) (hx : ∀ x, 3420 ≤ x → x < 3760 → mem' x = mem x) : zMR mem' rl rn ri :=
  ⟨fun k hk => by rw [hx _ (by omega) (by omega), hx _ (by omega) (by omega)]; exact h.1 k hk, fun i hi => by rw [hx _ (by omega) (by omega)]; exact h.2 i hi⟩
theorem zML.a {lk : zLk} (h : zML lk) : lk 1000 = some 2000 := h.1
theorem zML.b {lk : zLk} (h : zML lk) : lk 1006 = some 3420 := h.2.2.1
theorem zML.c {lk : zLk} (h : zML lk) : lk 1007 = some 3430 := h.2.2.2.1
theorem zML.d {lk : zLk} (h : zML lk) : lk 1008 = some 3440 := h.2.2.2.2.1
theorem zML.e {lk : zLk} (h : zML lk) : lk 1009 = some 3760 := h.2.2.2.2.2.1
theorem la_T (i n : Int32) : (i.toInt64 + n.toInt64).toInt = i.toInt + n.toInt := by
  rw [Int64.toInt_add, il_T, il_T]
  have h1 := i.toInt_lt
  have h2 := n.toInt_lt
  have h3 := i.le_toInt
  have h4 := n.le_toInt
  exact Int.bmod_eq_of_le (by omega) (by omega)
theorem cmp_le (x z : Int64) : lg_cmp x z ≤ 0 ↔ x.toInt ≤ z.toInt := by
  have h := cmp_gt x z
  rw [i_lt, i_0] at h
  rw [i_le, i_0]
  constructor
  · intro q
    exact Int.not_lt.mp (fun z => by have := h.mpr z; omega)
  · intro q
    exact Int.not_lt.mp (fun z => by have := h.mp z; omega)
section MR
variable {X d : Nat} {mem : zMem} {lk : zLk} {L : List Nat} {Q : Option Value → zMem → Prop} {rl rn : Nat → Nat} {ri : Nat → Int32}
theorem in320 {X s : Nat} (h : s < 320) : vp_in (nI s) (ln X 3440) := vp_in_nI h (by show 320 < 2 ^ 31; decide)
theorem ok_against {r : Nat} {i n : Int32} (hd : 0 < d) (hk : zML lk) (hR : zMR mem rl rn ri) (ho : zRowOk rl rn) (hr : r < 8) (q1 : rl r = 99 → Q (some (.int (nI 1))) mem) (q2 : rl r ≠ 99 → zNoCov (rn r) i n → Q (some (.int (nI 2))) mem) (q0 : rl r ≠ 99 → ∀ a b, i = nI a → n = nI b → a + b ≤ rn r → Q (some (.int (nI 0))) mem) : zOk X d 141 [.ref 1000, .int (nI r), .int i, .int n] mem lk L lk L Q := by
  have ea : (nI r).toNatClampNeg = r := nC (by omega)
  have nm : (-(nI 1)).toInt = -1 := by decide
  refine zOk_do 60 (tbl := tX8_against) zck_141 rfl hd (h := ?_)
  refine ⟨rfl, _, hk.b, Or.inl rfl, in8 3420 rfl hr, fun c => ?_, fun c => ⟨rfl, rfl, q1 (Decidable.byContradiction fun z => ?_)⟩⟩
  · have c : 0 ≤ mem (3420 + (nI r).toNatClampNeg) := c
    rw [ea] at c
    have hp : rl r ≠ 99 := fun z => by
      rw [(hR.1 r hr).1 z, i_le, i_0, nm] at c; omega
    have h40 := (ho r hr hp).2
    have el : mem (3420 + (nI r).toNatClampNeg) = nI (rn r) := by rw [ea]; exact ((hR.1 r hr).2 hp).1
    refine ⟨fun c2 => ⟨rfl, rfl, q2 hp ?_⟩, fun c2 => ⟨fun c3 => ⟨rfl, rfl, q2 hp ?_⟩, fun c3 => ⟨rfl, _, hk.b, Or.inl rfl, in8 3420 rfl hr, fun c4 => ⟨rfl, rfl, ?_⟩, fun c4 => ⟨rfl, rfl, q2 hp ?_⟩⟩⟩⟩
    · have c2 : i < 0 := c2
      rw [i_lt, i_0] at c2; exact Or.inl c2
    · have c3 : n < 0 := c3
      rw [i_lt, i_0] at c3; exact Or.inr (Or.inl c3)
    · have c2 : ¬ i < 0 := c2
      have c3 : ¬ n < 0 := c3
      rw [i_lt, i_0] at c2 c3
      have c4 : lg_cmp (i.toInt64 + n.toInt64) (mem (3420 + (nI r).toNatClampNeg)).toInt64 ≤ 0 := c4
      rw [cmp_le, la_T, il_T, el, nT (by omega)] at c4
      refine q0 hp i.toInt.toNat n.toInt.toNat ?_ ?_ (by omega)
      · rw [i_eq, nT (by omega)]; omega
      · rw [i_eq, nT (by omega)]; omega
    · have c4 : ¬ lg_cmp (i.toInt64 + n.toInt64) (mem (3420 + (nI r).toNatClampNeg)).toInt64 ≤ 0 := c4
      rw [cmp_le, la_T, il_T, el, nT (by omega)] at c4
      exact Or.inr (Or.inr (by omega))
  · have c : ¬ 0 ≤ mem (3420 + (nI r).toNatClampNeg) := c
    have h40 := (ho r hr z).2
    rw [ea, ((hR.1 r hr).2 z).1, i_le, i_0, nT (by omega)] at c
    omega
theorem mrow_loop {r l n : Nat} {lo : Nat → Nat} {no : Nat → Nat} (hk : zML lk) (hr : r < 8) (m0 : zMem) (h1 : ∀ k, k < 8 → (lo k = 99 → m0 (3420 + k) = -(nI 1)) ∧ (lo k ≠ 99 → m0 (3420 + k) = nI (no k) ∧ m0 (3430 + k) = nI (lo k))) (h2 : ∀ i, i < 320 → m0 (3440 + i) = ri i)
    (q : ∀ mem', zMR mem' lo no (zri0 ri r) → (∀ x, ¬ (3440 ≤ x ∧ x < 3760) → mem' x = m0 x) → Q (some (.int (nI n))) mem') : ∀ m i m1, i + m = 40 → (∀ j, j < 320 → m1 (3440 + j) = if 40 * r ≤ j ∧ j < 40 * r + i then nI 0 else ri j) → (∀ x, ¬ (3440 ≤ x ∧ x < 3760) → m1 x = m0 x) → zE X d 142 60 [.ref 1000, .int (nI r), .int (nI l), .int (nI n), .int (nI i)] [] m1 lk L lk L Q := by
  intro m
  induction m with
  | zero =>
    intro i m1 hi g1 g2
    have c1 : nI 40 ≤ nI i := by rw [nLe (by omega) (by omega)]; omega
    refine zE_do 40 60 (tbl := tX8_row) zck_142 rfl (h := ?_)
    refine ⟨fun _ => ⟨rfl, rfl, q m1 ⟨fun k hk8 => ?_, fun j hj => ?_⟩ g2⟩, fun c => absurd c1 c⟩
    · rw [g2 _ (by omega), g2 _ (by omega)]; exact h1 k hk8
    · rw [g1 j hj, show i = 40 by omega]; rfl
  | succ m ih =>
    intro i m1 hi g1 g2
    have c1 : ¬ nI 40 ≤ nI i := by rw [nLe (by omega) (by omega)]; omega
    have e1 : nI 40 * nI r + nI i = nI (40 * r + i) := by rw [nmul, nI_add]
    have k := ih (i + 1) (upd m1 (3440 + (40 * r + i)) (nI 0)) (by omega) (fun j hj => ?_) (fun x hx => ?_)
    · rw [← nI_1] at k
      refine zE_do 40 60 (tbl := tX8_row) zck_142 rfl (h := ?_)
      refine ⟨fun c => absurd c c1, fun _ => ⟨rfl, _, hk.d, rfl, ?_, ?_⟩⟩
      · rw [e1]; exact in320 (by omega)
      · have a1 : (nI 40 * nI r + nI i).toNatClampNeg = 40 * r + i := by rw [e1]; exact nC (by omega)
        rw [← a1] at k
        exact k
    · by_cases c : j = 40 * r + i
      · subst c; rw [upd_eq, if_pos (by omega)]
      · rw [upd_ne (by omega), g1 j hj]
        by_cases c2 : 40 * r ≤ j ∧ j < 40 * r + i
        · rw [if_pos c2, if_pos (by omega)]
        · rw [if_neg c2, if_neg (by omega)]
    · rw [upd_ne (by omega)]; exact g2 x hx
theorem ok_mrow {x y z : Int32} (hd : 2 < d) (hk : zML lk) (hR : zMR mem rl rn ri)
    (qB : zBadRow x y z → Q (some (.int (-(nI 1000001)))) mem) (qS : ¬ zBadRow x y z → z.toInt < 0 → Q (some (.int (-(nI 1000010) - nI 4))) (upd mem 1005 (nI 4)))
    (qG : ∀ r l n, x = nI r → y = nI l → z = nI n → r < 8 → l ≤ 2 → n ≤ 40 → ∀ mem', zMR mem' (va_up rl r l) (va_up rn r n) (zri0 ri r) → mem' 1005 = nI 0 → (∀ x, ¬ (3420 ≤ x ∧ x < 3760) → x ≠ 1005 → mem' x = mem x) → Q (some (.int (nI n))) mem') : zOk X d 142 [.ref 1000, .int x, .int y, .int z] mem lk L lk L Q := by
  have n40 : (nI 40).toInt = 40 := nT (by omega)
  refine zOk_do 60 (tbl := tX8_row) zck_142 rfl (by omega) (h := ?_)
  refine ok_misRow (by omega) (fun r hr er => zT_eq ?_) (fun c => zF_eq ⟨rfl, rfl, qB (Or.inl c)⟩)
  have hx : x.toInt = r := by rw [er]; exact nT (by omega)
  refine ok_in (by omega) (fun c1 c2 => zT_eq ?_) (fun c => zF_eq ⟨rfl, rfl, qB (Or.inr (Or.inl ?_))⟩)
  · rw [il_T, l_T (by omega)] at c1
    rw [il_T, l_T (by omega)] at c2
    obtain ⟨l, hl, el⟩ : ∃ l, l ≤ 2 ∧ y = nI l := by
      rcases zix y (n := 3) (by omega) with ⟨j, hj, e⟩ | q
      · exact ⟨j, by omega, e⟩
      · omega
    refine ⟨fun c => ⟨fun c2 => ?_, fun c2 => ⟨rfl, ok_mfinds (by omega) ⟨rfl, rfl, qS ?_ ?_⟩⟩⟩, fun c => ⟨rfl, rfl, qB (Or.inr (Or.inr ?_))⟩⟩
    · have c : z ≤ nI 40 := c
      have c2 : 0 ≤ z := c2
      rw [i_le, n40] at c
      rw [i_le, i_0] at c2
      rcases zix z (n := 41) (by omega) with ⟨n, hn, e⟩ | q
      · subst er el e
        have ea : (nI r).toNatClampNeg = r := nC (by omega)
        refine ⟨rfl, rfl, _, hk.b, rfl, in8 3420 rfl hr, rfl, _, hk.c, rfl, in8 3430 rfl hr, ?_⟩
        have k := mrow_loop (X := X) (d := d) (lk := lk) (L := L) (Q := Q) (ri := ri) (r := r) (l := l) (n := n) (lo := va_up rl r l) (no := va_up rn r n) hk hr (upd (upd (upd mem (1000 + 5) (nI 0)) (3420 + r) (nI n)) (3430 + r) (nI l)) (fun k hk8 => ?_) (fun i hi => ?_) (fun m1 g1 g2 => qG r l n rfl rfl rfl hr hl (by omega) m1 g1 ?_ (fun x hx hx2 => ?_)) 40 0 (upd (upd (upd mem (1000 + 5) (nI 0)) (3420 + r) (nI n)) (3430 + r) (nI l)) (by omega) (fun j hj => ?_) (fun _ _ => rfl)
        · rw [ea]
          exact k
        · by_cases c : k = r
          · subst c
            rw [zup_eq, zup_eq, upd_eq, upd_ne (by omega), upd_eq]
            exact ⟨fun z => by omega, fun _ => ⟨rfl, rfl⟩⟩
          · rw [zup_ne c, zup_ne c, upd_ne (by omega), upd_ne (by omega), upd_ne (by omega), upd_ne (by omega), upd_ne (by omega), upd_ne (by omega)]
            exact hR.1 k hk8
        · rw [upd_ne (by omega), upd_ne (by omega), upd_ne (by omega)]; exact hR.2 i hi
        · rw [g2 _ (by omega), upd_ne (by omega), upd_ne (by omega)]; exact upd_eq
        · rw [g2 _ (by omega), upd_ne (by omega), upd_ne (by omega), upd_ne (by omega)]
        · rw [if_neg (by omega), upd_ne (by omega), upd_ne (by omega), upd_ne (by omega)]; exact hR.2 j hj
      · omega
    · have c : z ≤ nI 40 := c
      rw [i_le, n40] at c
      unfold zBadRow; omega
    · have c2 : ¬ 0 ≤ z := c2
      rw [i_le, i_0] at c2
      omega
    · have c : ¬ z ≤ nI 40 := c
      rw [i_le, n40] at c
      omega
  · rw [il_T, l_T (by omega), l_T (by omega)] at c
    omega
theorem ok_mdrop {x : Int32} (hd : 2 < d) (hk : zML lk) (hR : zMR mem rl rn ri) (ho : zRowOk rl rn)
    (qB : zNoRow x → Q (some (.int (-(nI 1000001)))) mem) (q1 : ∀ r, r < 8 → x = nI r → rl r = 99 → Q (some (.int (-(nI 1000010) - nI 1))) (upd mem 1005 (nI 1)))
    (qG : ∀ r, r < 8 → x = nI r → rl r ≠ 99 → ∀ mem', zMR mem' (va_up rl r 99) rn ri → mem' 1005 = nI 0 → (∀ x, ¬ (3420 ≤ x ∧ x < 3760) → x ≠ 1005 → mem' x = mem x) → Q (some (.int (nI (rn r)))) mem') : zOk X d 145 [.ref 1000, .int x] mem lk L lk L Q := by
  refine zOk_do 60 (tbl := tX8_drop) zck_145 rfl (by omega) (h := ?_)
  refine ok_misRow (by omega) (fun r hr er => zT_ne ?_) (fun c => zF_ne ⟨rfl, rfl, qB c⟩)
  subst er
  have ea : (nI r).toNatClampNeg = r := nC (by omega)
  have nm : (-(nI 1)).toInt = -1 := by decide
  refine ⟨rfl, _, hk.b, Or.inl rfl, in8 3420 rfl hr, fun c => ?_, fun c => ⟨rfl, ok_mfinds (by omega) ⟨rfl, rfl, q1 r hr rfl (Decidable.byContradiction fun z => ?_)⟩⟩⟩
  · have c : 0 ≤ mem (3420 + (nI r).toNatClampNeg) := c
    rw [ea] at c
    have hp : rl r ≠ 99 := fun z => by
      rw [(hR.1 r hr).1 z, i_le, i_0, nm] at c; omega
    refine ⟨rfl, rfl, _, hk.b, Or.inl rfl, in8 3420 rfl hr, rfl, _, hk.b, rfl, in8 3420 rfl hr, rfl, rfl, ?_⟩
    show Q (some (.int (upd mem (1000 + 5) (nI 0) (3420 + (nI r).toNatClampNeg)))) (upd (upd mem (1000 + 5) (nI 0)) (3420 + (nI r).toNatClampNeg) (-(nI 1)))
    rw [ea, upd_ne (by omega), ((hR.1 r hr).2 hp).1]
    refine qG r hr rfl hp _ ⟨fun k hk8 => ?_, fun j hj => by rw [upd_ne (by omega), upd_ne (by omega)]; exact hR.2 j hj⟩ (by rw [upd_ne (by omega)]; exact upd_eq) (fun x hx hx2 => by rw [upd_ne (by omega), upd_ne (by omega)])
    by_cases c : k = r
    · subst c; rw [zup_eq, upd_eq]; exact ⟨fun _ => rfl, fun z => absurd rfl z⟩
    · rw [zup_ne c, upd_ne (by omega), upd_ne (by omega), upd_ne (by omega), upd_ne (by omega)]; exact hR.1 k hk8
  · have c : ¬ 0 ≤ mem (3420 + (nI r).toNatClampNeg) := c
    have h40 := (ho r hr z).2
    rw [ea, ((hR.1 r hr).2 z).1, i_le, i_0, nT (by omega)] at c
    omega
end MR
end
section
/-! the reference: set, copy -/
section MR
variable {X d : Nat} {mem : zMem} {lk : zLk} {L : List Nat} {Q : Option Value → zMem → Prop} {rl rn : Nat → Nat} {ri : Nat → Int32}
theorem mset_fin {r a : Nat} {w : Int32} (hR : zMR mem rl rn ri) (hr : r < 8) (ha : a < 40)
    (qG : ∀ mem', zMR mem' rl rn (va_up ri (40 * r + a) w) → mem' 1005 = nI 0 → (∀ x, ¬ (3420 ≤ x ∧ x < 3760) → x ≠ 1005 → mem' x = mem x) → Q (some (.int w)) mem') :
    Q (some (.int (upd (upd mem (1000 + 5) (nI 0)) (3440 + (nI 40 * nI r + nI a).toNatClampNeg) w (3440 + (nI 40 * nI r + nI a).toNatClampNeg)))) (upd (upd mem (1000 + 5) (nI 0)) (3440 + (nI 40 * nI r + nI a).toNatClampNeg) w) := by
  have a1 : (nI 40 * nI r + nI a).toNatClampNeg = 40 * r + a := by rw [nmul, nI_add]; exact nC (by omega)
  rw [a1, upd_eq]
  refine qG _ ⟨fun k hk8 => ?_, fun j hj => ?_⟩ (by rw [upd_ne (by omega)]; exact upd_eq) (fun x hx hx2 => by rw [upd_ne (by omega), upd_ne (by omega)])
  · rw [upd_ne (by omega), upd_ne (by omega), upd_ne (by omega), upd_ne (by omega)]; exact hR.1 k hk8
  · by_cases c : j = 40 * r + a
    · subst c; rw [zup_eq, upd_eq]
    · rw [zup_ne c, upd_ne (by omega), upd_ne (by omega)]; exact hR.2 j hj
theorem ok_mset {x i v : Int32} (hd : 2 < d) (hk : zML lk) (hR : zMR mem rl rn ri) (ho : zRowOk rl rn)
    (qB : zNoRow x → Q (some (.int (-(nI 1000001)))) mem) (q1 : ∀ r, r < 8 → x = nI r → rl r = 99 → Q (some (.int (-(nI 1000010) - nI 1))) (upd mem 1005 (nI 1)))
    (q2 : ∀ r, r < 8 → x = nI r → rl r ≠ 99 → zNoCov (rn r) i (nI 1) → Q (some (.int (-(nI 1000010) - nI 2))) (upd mem 1005 (nI 2)))
    (qG : ∀ r a, r < 8 → x = nI r → rl r ≠ 99 → i = nI a → a + 1 ≤ rn r → ∀ mem', zMR mem' rl rn (va_up ri (40 * r + a) (zcut (rl r) v)) → mem' 1005 = nI 0 → (∀ x, ¬ (3420 ≤ x ∧ x < 3760) → x ≠ 1005 → mem' x = mem x) → Q (some (.int (zcut (rl r) v))) mem') : zOk X d 143 [.ref 1000, .int x, .int i, .int v] mem lk L lk L Q := by
  refine zOk_do 80 (tbl := tX8_set) zck_143 rfl (by omega) (h := ?_)
  refine ok_misRow (by omega) (fun r hr er => zT_ne ?_) (fun c => zF_ne ⟨rfl, rfl, qB c⟩)
  subst er
  have ea : (nI r).toNatClampNeg = r := nC (by omega)
  refine ⟨rfl, ok_against (by omega) hk hR ho hr (fun z => ⟨fun c => absurd c (by decide), fun _ => ⟨rfl, ok_mfinds (by omega) ⟨rfl, rfl, q1 r hr rfl z⟩⟩⟩) (fun z z2 => ⟨fun c => absurd c (by decide), fun _ => ⟨rfl, ok_mfinds (by omega) ⟨rfl, rfl, q2 r hr rfl z z2⟩⟩⟩) (fun z a b e1 e2 hab => ⟨fun _ => ?_, fun c => absurd (show nI 0 ≤ 0 by decide) c⟩)⟩
  obtain ⟨h2, h40⟩ := ho r hr z
  have eb1 : b = 1 := by
    have hb2 : (nI 1).toInt = (nI b).toInt := by rw [← e2]
    rw [nT (by omega), nT (by omega)] at hb2; omega
  subst eb1
  subst e1
  have hin : vp_in (nI 40 * nI r + nI a) (ln X 3440) := by rw [nmul, nI_add]; exact in320 (by omega)
  have el : upd mem (1000 + 5) (nI 0) (3430 + (nI r).toNatClampNeg) = nI (rl r) := by rw [ea, upd_ne (by omega)]; exact ((hR.1 r hr).2 z).2
  refine ⟨rfl, rfl, _, hk.d, rfl, _, hk.c, Or.inl rfl, in8 3430 rfl hr, fun c => ⟨rfl, _, hk.c, Or.inl rfl, in8 3430 rfl hr, fun c2 => ⟨rfl, hin, rfl, _, hk.d, Or.inl rfl, hin, rfl, rfl, ?_⟩, fun c2 => ⟨rfl, hin, rfl, _, hk.d, Or.inl rfl, hin, rfl, rfl, ?_⟩⟩, fun c => ⟨rfl, hin, rfl, _, hk.d, Or.inl rfl, hin, rfl, rfl, ?_⟩⟩
  · have c : ¬ upd mem (1000 + 5) (nI 0) (3430 + (nI r).toNatClampNeg) = 0 := c
    have c2 : ¬ upd mem (1000 + 5) (nI 0) (3430 + (nI r).toNatClampNeg) = nI 1 := c2
    rw [el, n0 (by omega)] at c
    rw [el, nEq (by omega) (by omega)] at c2
    have hz : zcut (rl r) v = v := by unfold zcut; rw [if_neg c, if_neg c2]
    have qG := qG r a hr rfl z rfl hab
    rw [hz] at qG
    exact mset_fin hR hr (by omega) qG
  · have c : ¬ upd mem (1000 + 5) (nI 0) (3430 + (nI r).toNatClampNeg) = 0 := c
    have c2 : upd mem (1000 + 5) (nI 0) (3430 + (nI r).toNatClampNeg) = nI 1 := c2
    rw [el, n0 (by omega)] at c
    rw [el, nEq (by omega) (by omega)] at c2
    have hz : zcut (rl r) v = v.toInt16.toInt32 := by unfold zcut; rw [if_neg c, if_pos c2]
    have qG := qG r a hr rfl z rfl hab
    rw [hz] at qG
    exact mset_fin hR hr (by omega) qG
  · have c : upd mem (1000 + 5) (nI 0) (3430 + (nI r).toNatClampNeg) = 0 := c
    rw [el, n0 (by omega)] at c
    have hz : zcut (rl r) v = v.toInt8.toInt32 := by unfold zcut; rw [if_pos c]
    have qG := qG r a hr rfl z rfl hab
    rw [hz] at qG
    exact mset_fin hR hr (by omega) qG
theorem in40 {X s : Nat} (h : s < 40) : vp_in (nI s) (ln X 3760) := vp_in_nI h (by show 40 < 2 ^ 31; decide)
theorem mcopy2 {r s a b n : Nat} (hk : zML lk) (hr : r < 8) (hs : s < 8) (ha : a + n ≤ 40) (hb : b + n ≤ 40) (m0 : zMem) (h1 : ∀ k, k < 8 → (rl k = 99 → m0 (3420 + k) = -(nI 1)) ∧ (rl k ≠ 99 → m0 (3420 + k) = nI (rn k) ∧ m0 (3430 + k) = nI (rl k))) (h2 : ∀ i, i < 320 → m0 (3440 + i) = ri i) (h3 : ∀ i, i < n → m0 (3760 + i) = ri (40 * r + a + i))
    (q : ∀ mem', zMR mem' rl rn (zricp ri (40 * r + a) (40 * s + b) n) → (∀ x, ¬ (3440 ≤ x ∧ x < 3760) → mem' x = m0 x) → Q (some (.int (nI n))) mem') : ∀ m i m1, i + m = n → (∀ j, j < 320 → m1 (3440 + j) = if 40 * s + b ≤ j ∧ j < 40 * s + b + i then ri (40 * r + a + (j - (40 * s + b))) else ri j) → (∀ x, ¬ (3440 ≤ x ∧ x < 3760) → m1 x = m0 x) → zE X d 144 136 [.ref 1000, .int (nI r), .int (nI a), .int (nI s), .int (nI b), .int (nI n), .int (nI i)] [] m1 lk L lk L Q := by
  intro m
  induction m with
  | zero =>
    intro i m1 hi g1 g2
    have c1 : nI n ≤ nI i := by rw [nLe (by omega) (by omega)]; omega
    refine zE_do 40 136 (tbl := tX8_copy) zck_144 rfl (h := ?_)
    refine ⟨fun _ => ⟨rfl, rfl, q m1 ⟨fun k hk8 => ?_, fun j hj => ?_⟩ g2⟩, fun c => absurd c1 c⟩
    · rw [g2 _ (by omega), g2 _ (by omega)]; exact h1 k hk8
    · rw [g1 j hj, show i = n by omega]; rfl
  | succ m ih =>
    intro i m1 hi g1 g2
    have c1 : ¬ nI n ≤ nI i := by rw [nLe (by omega) (by omega)]; omega
    have e1 : nI 40 * nI s + nI b + nI i = nI (40 * s + b + i) := by rw [nmul, nI_add, nI_add]
    have ei : (nI i).toNatClampNeg = i := nC (by omega)
    have k := ih (i + 1) (upd m1 (3440 + (40 * s + b + i)) (m1 (3760 + i))) (by omega) (fun j hj => ?_) (fun x hx => ?_)
    · rw [← nI_1] at k
      refine zE_do 60 136 (tbl := tX8_copy) zck_144 rfl (h := ?_)
      refine ⟨fun c => absurd c c1, fun _ => ⟨rfl, _, hk.d, rfl, _, hk.e, Or.inl rfl, in40 (by omega), rfl, ?_, ?_⟩⟩
      · rw [e1]; exact in320 (by omega)
      · have a1 : (nI 40 * nI s + nI b + nI i).toNatClampNeg = 40 * s + b + i := by rw [e1]; exact nC (by omega)
        show zE X d 144 136 [.ref 1000, .int (nI r), .int (nI a), .int (nI s), .int (nI b), .int (nI n), .int (nI i + nI 1)] [] (upd m1 (3440 + (nI 40 * nI s + nI b + nI i).toNatClampNeg) (m1 (3760 + (nI i).toNatClampNeg))) lk L lk L Q
        rw [a1, ei]
        exact k
    · by_cases c : j = 40 * s + b + i
      · subst c; rw [upd_eq, if_pos (by omega), g2 _ (by omega), h3 _ (by omega), show 40 * s + b + i - (40 * s + b) = i by omega]
      · rw [upd_ne (by omega), g1 j hj]
        by_cases c2 : 40 * s + b ≤ j ∧ j < 40 * s + b + i
        · rw [if_pos c2, if_pos (by omega)]
        · rw [if_neg c2, if_neg (by omega)]
    · rw [upd_ne (by omega)]; exact g2 x hx
theorem mcopy1 {r s a b n : Nat} (hk : zML lk) (hr : r < 8) (hs : s < 8) (ha : a + n ≤ 40) (hb : b + n ≤ 40) (hR : zMR mem rl rn ri)
    (q : ∀ mem', zMR mem' rl rn (zricp ri (40 * r + a) (40 * s + b) n) → (∀ x, ¬ (3440 ≤ x ∧ x < 3800) → mem' x = mem x) → Q (some (.int (nI n))) mem') : ∀ m i m1, i + m = n → (∀ j, j < i → m1 (3760 + j) = ri (40 * r + a + j)) → (∀ x, ¬ (3760 ≤ x ∧ x < 3800) → m1 x = mem x) → zE X d 144 99 [.ref 1000, .int (nI r), .int (nI a), .int (nI s), .int (nI b), .int (nI n), .int (nI i)] [] m1 lk L lk L Q := by
  intro m
  induction m with
  | zero =>
    intro i m1 hi g1 g2
    have c1 : nI n ≤ nI i := by rw [nLe (by omega) (by omega)]; omega
    have hR1 := hR.fr (mem' := m1) (fun x h1 h2 => g2 x (by omega))
    refine zE_do 40 99 (tbl := tX8_copy) zck_144 rfl (h := ?_)
    refine ⟨fun _ => ?_, fun c => absurd c1 c⟩
    exact mcopy2 (rl := rl) (rn := rn) (ri := ri) hk hr hs ha hb m1 hR1.1 hR1.2 (fun j hj => g1 j (by omega)) (fun m2 f1 f2 => q m2 f1 (fun x hx => by rw [f2 x (by omega), g2 x (by omega)])) n 0 m1 (by omega) (fun j hj => by rw [if_neg (by omega)]; exact hR1.2 j hj) (fun _ _ => rfl)
  | succ m ih =>
    intro i m1 hi g1 g2
    have c1 : ¬ nI n ≤ nI i := by rw [nLe (by omega) (by omega)]; omega
    have e1 : nI 40 * nI r + nI a + nI i = nI (40 * r + a + i) := by rw [nmul, nI_add, nI_add]
    have ei : (nI i).toNatClampNeg = i := nC (by omega)
    have k := ih (i + 1) (upd m1 (3760 + i) (m1 (3440 + (40 * r + a + i)))) (by omega) (fun j hj => ?_) (fun x hx => ?_)
    · rw [← nI_1] at k
      refine zE_do 60 99 (tbl := tX8_copy) zck_144 rfl (h := ?_)
      refine ⟨fun c => absurd c c1, fun _ => ⟨rfl, _, hk.e, rfl, _, hk.d, Or.inl rfl, ?_, rfl, in40 (by omega), ?_⟩⟩
      · rw [e1]; exact in320 (by omega)
      · have a1 : (nI 40 * nI r + nI a + nI i).toNatClampNeg = 40 * r + a + i := by rw [e1]; exact nC (by omega)
        show zE X d 144 99 [.ref 1000, .int (nI r), .int (nI a), .int (nI s), .int (nI b), .int (nI n), .int (nI i + nI 1)] [] (upd m1 (3760 + (nI i).toNatClampNeg) (m1 (3440 + (nI 40 * nI r + nI a + nI i).toNatClampNeg))) lk L lk L Q
        rw [a1, ei]
        exact k
    · by_cases c : j = i
      · subst c; rw [upd_eq, g2 _ (by omega)]; exact hR.2 _ (by omega)
      · rw [upd_ne (by omega)]; exact g1 j (by omega)
    · rw [upd_ne (by omega)]; exact g2 x hx
theorem ok_mcopy {x i y j n : Int32} (hd : 2 < d) (hk : zML lk) (hR : zMR mem rl rn ri) (ho : zRowOk rl rn)
    (qB : (zNoRow x ∨ zNoRow y) → Q (some (.int (-(nI 1000001)))) mem)
    (q1 : ∀ r s, r < 8 → s < 8 → x = nI r → y = nI s → (rl r = 99 ∨ rl s = 99) → Q (some (.int (-(nI 1000010) - nI 1))) (upd mem 1005 (nI 1)))
    (q5 : ∀ r s, r < 8 → s < 8 → x = nI r → y = nI s → rl r ≠ 99 → rl s ≠ 99 → rl r ≠ rl s → Q (some (.int (-(nI 1000010) - nI 5))) (upd mem 1005 (nI 5)))
    (q2 : ∀ r s, r < 8 → s < 8 → x = nI r → y = nI s → rl r ≠ 99 → rl s ≠ 99 → rl r = rl s → (zNoCov (rn r) i n ∨ zNoCov (rn s) j n) → Q (some (.int (-(nI 1000010) - nI 2))) (upd mem 1005 (nI 2)))
    (qG : ∀ r s a b c, r < 8 → s < 8 → x = nI r → y = nI s → rl r ≠ 99 → rl s ≠ 99 → rl r = rl s → i = nI a → j = nI b → n = nI c → a + c ≤ rn r → b + c ≤ rn s → ∀ mem', zMR mem' rl rn (zricp ri (40 * r + a) (40 * s + b) c) → mem' 1005 = nI 0 → (∀ x, ¬ (3420 ≤ x ∧ x < 3800) → x ≠ 1005 → mem' x = mem x) → Q (some (.int (nI c))) mem') : zOk X d 144 [.ref 1000, .int x, .int i, .int y, .int j, .int n] mem lk L lk L Q := by
  refine zOk_do 100 (tbl := tX8_copy) zck_144 rfl (by omega) (h := ?_)
  refine ok_misRow (by omega) (fun r hr er => zT_eq ?_) (fun c => zF_eq ⟨rfl, rfl, qB (Or.inl c)⟩)
  subst er
  refine ok_misRow (by omega) (fun s hs es => zT_ne ?_) (fun c => zF_ne ⟨rfl, rfl, qB (Or.inr c)⟩)
  subst es
  have ea : (nI r).toNatClampNeg = r := nC (by omega)
  have eb : (nI s).toNatClampNeg = s := nC (by omega)
  have nm : (-(nI 1)).toInt = -1 := by decide
  have hms : ∀ k, k < 8 → (mem (3420 + (nI k).toNatClampNeg) < 0 ↔ rl k = 99) := fun k hk8 => by
    rw [nC (by omega), i_lt, i_0]
    by_cases z : rl k = 99
    · rw [(hR.1 k hk8).1 z, nm]; omega
    · have := (ho k hk8 z).2
      rw [((hR.1 k hk8).2 z).1, nT (by omega)]; omega
  have hge : ∀ k, k < 8 → (0 ≤ mem (3420 + (nI k).toNatClampNeg) ↔ ¬ rl k = 99) := fun k hk8 => by
    rw [← hms k hk8, i_le, i_lt, i_0]; omega
  refine ⟨rfl, _, hk.b, Or.inl rfl, in8 3420 rfl hr, fun c => ⟨rfl, ok_mfinds (by omega) ⟨rfl, rfl, q1 r s hr hs rfl rfl (Or.inl ((hms r hr).mp c))⟩⟩, fun c => ⟨rfl, _, hk.b, Or.inl rfl, in8 3420 rfl hs, fun c2 => ?_, fun c2 => ⟨rfl, ok_mfinds (by omega) ⟨rfl, rfl, q1 r s hr hs rfl rfl (Or.inr (Decidable.byContradiction fun z => c2 ((hge s hs).mpr z)))⟩⟩⟩⟩
  have z : rl r ≠ 99 := fun z => c ((hms r hr).mpr z)
  have z2 : rl s ≠ 99 := (hge s hs).mp c2
  have er : mem (3430 + (nI r).toNatClampNeg) = nI (rl r) := by rw [ea]; exact ((hR.1 r hr).2 z).2
  have es : mem (3430 + (nI s).toNatClampNeg) = nI (rl s) := by rw [eb]; exact ((hR.1 s hs).2 z2).2
  obtain ⟨o1, o2⟩ := ho r hr z
  obtain ⟨o3, o4⟩ := ho s hs z2
  refine ⟨rfl, _, hk.c, Or.inl rfl, in8 3430 rfl hr, rfl, _, hk.c, Or.inl rfl, in8 3430 rfl hs, fun c3 => ⟨rfl, ?_⟩, fun c3 => ⟨rfl, ok_mfinds (by omega) ⟨rfl, rfl, q5 r s hr hs rfl rfl z z2 ?_⟩⟩⟩
  · have c3 : mem (3430 + (nI r).toNatClampNeg) = mem (3430 + (nI s).toNatClampNeg) := c3
    rw [er, es, nEq (by omega) (by omega)] at c3
    refine ok_against (by omega) hk hR ho hr (fun y => absurd y z) (fun _ y => ⟨fun _ => ⟨rfl, ok_mfinds (by omega) ⟨rfl, rfl, q2 r s hr hs rfl rfl z z2 c3 (Or.inl y)⟩⟩, fun y => absurd (show 0 < nI 2 by decide) y⟩) (fun _ a b e1 e2 hab => ⟨fun y => absurd y (by decide), fun _ => ⟨rfl, ?_⟩⟩)
    refine ok_against (by omega) hk hR ho hs (fun y => absurd y z2) (fun _ y => ⟨fun y => absurd y (by decide), fun _ => ⟨rfl, ok_mfinds (by omega) ⟨rfl, rfl, q2 r s hr hs rfl rfl z z2 c3 (Or.inr y)⟩⟩⟩) (fun _ a' b' e3 e4 hab' => ⟨fun _ => ⟨rfl, ?_⟩, fun y => absurd (show nI 0 ≤ 0 by decide) y⟩)
    have hbb : b = b' := by
      rw [e2] at e4
      have q := Nat.lt_of_le_of_lt (Nat.le_trans (Nat.le_add_left b a) hab) (show rn r < 1000 by omega)
      have q' := Nat.lt_of_le_of_lt (Nat.le_trans (Nat.le_add_left b' a') hab') (show rn s < 1000 by omega)
      exact (nEq (by omega) (by omega)).mp e4
    subst hbb
    subst e1 e2 e3
    exact mcopy1 (mem := upd mem (1000 + 5) (nI 0)) hk hr hs (by omega) (by omega) (hR.st (by omega)) (fun m1 f1 f2 => qG r s a a' b hr hs rfl rfl z z2 c3 rfl rfl rfl hab hab' m1 f1 (by rw [f2 _ (by omega)]; exact upd_eq) (fun x hx hx2 => by rw [f2 x (by omega), upd_ne (by omega)])) b 0 (upd mem (1000 + 5) (nI 0)) (by omega) (fun j hj => by omega) (fun _ _ => rfl)
  · have c3 : ¬ mem (3430 + (nI r).toNatClampNeg) = mem (3430 + (nI s).toNatClampNeg) := c3
    rw [er, es, nEq (by omega) (by omega)] at c3
    exact c3
end MR
end
section
/-! DishLift: undo, pull, rope, room, send, minutes -/
theorem zWF.s2 {g : zH} (w : zWF g) {v : Nat} (hv : 1 ≤ v ∧ v ≤ 4) : zWF (va_up g 2 v) := by
  have n : ∀ j, j ≠ 2 → va_up g 2 v j = g j := fun j hj => zup_ne hj
  obtain ⟨c0, c1, c2, c3, c4, c5, c6, c7, c8⟩ := w
  refine ⟨by rw [n _ (by omega)]; exact c0, by rw [n _ (by omega)]; exact c1, by rw [n _ (by omega)]; exact c2, by rw [zup_eq]; exact hv, by rw [n _ (by omega)]; exact c4, by rw [n _ (by omega), n _ (by omega)]; exact c5, by rw [n _ (by omega)]; exact c6, by rw [n _ (by omega)]; exact c7, fun e he => ?_⟩
  rw [n _ (by omega)] at he
  rw [n _ (by omega), n _ (by omega), n _ (by omega), n _ (by omega), n _ (by omega), n _ (by omega)]
  exact c8 e he
theorem zWF.s3 {g : zH} (w : zWF g) {v : Nat} (hv : 1 ≤ v ∧ v ≤ 40) : zWF (va_up g 3 v) := by
  have n : ∀ j, j ≠ 3 → va_up g 3 v j = g j := fun j hj => zup_ne hj
  obtain ⟨c0, c1, c2, c3, c4, c5, c6, c7, c8⟩ := w
  refine ⟨by rw [n _ (by omega)]; exact c0, by rw [n _ (by omega)]; exact c1, by rw [n _ (by omega)]; exact c2, by rw [n _ (by omega)]; exact c3, by rw [zup_eq]; exact hv, by rw [n _ (by omega), n _ (by omega)]; exact c5, by rw [n _ (by omega)]; exact c6, by rw [n _ (by omega)]; exact c7, fun e he => ?_⟩
  rw [n _ (by omega)] at he
  rw [n _ (by omega), n _ (by omega), n _ (by omega), n _ (by omega), n _ (by omega), n _ (by omega)]
  exact c8 e he
/-- a house of the class, now: it stands, or nothing was told -/
def zNow (g : zH) : Prop := (zWF g ∧ 1 ≤ g 0 ∧ g 6 ≤ 999) ∨ ∀ k, k < 7 → g k = 0
theorem zNow.le {g : zH} (h : zNow g) : g 0 ≤ 6 ∧ g 1 ≤ 9 := by
  rcases h with ⟨w, -⟩ | z
  · exact ⟨w.1, w.2.2.1⟩
  · rw [z 0 (by omega), z 1 (by omega)]; omega
theorem zNow.wf {g : zH} (h : zNow g) (h0 : 0 < g 0) : zWF g ∧ g 6 ≤ 999 := by
  rcases h with ⟨w, -, w6⟩ | z
  · exact ⟨w, w6⟩
  · rw [z 0 (by omega)] at h0; omega
theorem zNow.wf1 {g : zH} (h : zNow g) (h0 : 0 < g 1) : zWF g ∧ g 6 ≤ 999 ∧ 1 ≤ g 0 := by
  rcases h with ⟨w, w0, w6⟩ | z
  · exact ⟨w, w6, w0⟩
  · rw [z 1 (by omega)] at h0; omega
/-- the house now, and what may be undone -/
def zCN (mem : zMem) (lk : zLk) (L : List Nat) (nx u : Nat) (g : zH) (gs : Nat → zH) : Prop := zKs lk ∧ zHo lk 10000 ∧ zHB mem 10000 g ∧ zActs mem lk L nx u gs
/-- what the acts leave as it is -/
def zafr (mem mem' : zMem) : Prop := ∀ x, ¬ (661 ≤ x ∧ x ≤ 662) → ¬ (10320 ≤ x ∧ x < 11856) → ¬ (10000 ≤ x ∧ x < 10037) → mem' x = mem x
theorem zafr.rf {mem : zMem} : zafr mem mem := fun _ _ _ _ => rfl
theorem zafr.tr {m1 m2 m3 : zMem} (h : zafr m1 m2) (h' : zafr m2 m3) : zafr m1 m3 := fun x a b c => (h' x a b c).trans (h x a b c)
theorem zkfr.a {mem mem' : zMem} (h : zkfr mem mem') : zafr mem mem' := fun x a b _ => h x a b
theorem zfr.a {mem mem' : zMem} (h : zfr mem mem' 10000) : zafr mem mem' := fun x _ _ c => h x c
theorem zKl_lt : ∀ p, p ∈ zKl → (p.1 < 670 ∨ 694 ≤ p.1) ∧ p.1 < 10000 := by decide
theorem zKs.kp {lk : zLk} {nx : Nat} (h : zKs lk) (hn : nx < 24) : zKs (kpK nx lk) :=
  ⟨fun p hp => by have := zKl_lt p hp; rw [kpK_ne (by omega) (by unfold zAH; omega)]; exact h.1 p hp, fun k hk => by rw [kpK_ne (by omega) (by unfold zAH; omega)]; exact h.2 k hk⟩
theorem zHo.kp {lk : zLk} {nx : Nat} (h : zHo lk 10000) (hn : nx < 24) : zHo (kpK nx lk) 10000 := h.lb (b := 0) (fun x h1 h2 => kpK_ne (by omega) (by unfold zAH; omega))
theorem zActs.fr {mem mem' : zMem} {lk : zLk} {L : List Nat} {nx u : Nat} {gs : Nat → zH} (A : zActs mem lk L nx u gs) (hf : zfr mem mem' 10000) : zActs mem' lk L nx u gs := by
  obtain ⟨a1, a2, a3, a4, a5, a6, a7, a8⟩ := A
  refine ⟨a1, a2, by rw [hf _ (by omega)]; exact a3, by rw [hf _ (by omega)]; exact a4, a5, a6, a7, fun k hk => ?_⟩
  obtain ⟨b1, b2, b3⟩ := a8 k hk
  exact ⟨b1, b2.same b3.1 (fun j hj => hf _ (by unfold zAH; omega)), b3⟩
theorem zpass_ne {ord : Nat → Nat} {g : zH} (h6 : g 0 ≤ 6) {j : Nat} (hj : j < 13 ∨ 19 ≤ j ∧ j < 25) (h4 : j ≠ 4) (h5 : j ≠ 5) (hj6 : j ≠ 6) : zpass ord g j = g j := by
  have l0 : zlets g (g 0) 0 = g 0 := zlets_ne (by omega) _ h6
  unfold zpass
  rw [zup_ne hj6, zages_0 (by omega), zmove_ne h4 h5, ztakes_ne (by omega) (by omega), zlets_ne (by omega) _ h6]
theorem zpass_6 {ord : Nat → Nat} {g : zH} (h6 : g 0 ≤ 6) : zpass ord g 6 = g 6 + 1 := by
  have l0 : zlets g (g 0) 0 = g 0 := zlets_ne (by omega) _ h6
  unfold zpass
  rw [zup_eq, zages_0 (by omega), zmove_ne (by omega) (by omega), ztakes_ne (by omega) (by omega), zlets_ne (by omega) _ h6]
theorem zpass_wf {ord : Nat → Nat} {g : zH} (w : zWF g) (h6 : g 6 ≤ 1000000) : zWF (zpass ord g) := by
  have l0 : zlets g (g 0) 0 = g 0 := zlets_ne (by omega) _ w.1
  have w0 := w.1
  have wl := zlets_wf w (g 0) w.1
  have wt := ztakes_wf (ord := ord) wl (g 0)
  have wm := zmove_wf wt
  have m0 : zmove (ztakes ord (zlets g (g 0)) (g 0)) 0 = g 0 := by rw [zmove_ne (by omega) (by omega), ztakes_ne (by omega) (by omega), zlets_ne (by omega) _ w.1]
  have m6 : zmove (ztakes ord (zlets g (g 0)) (g 0)) 6 = g 6 := by rw [zmove_ne (by omega) (by omega), ztakes_ne (by omega) (by omega), zlets_ne (by omega) _ w.1]
  unfold zpass
  refine (zages_wf wm (g 0) (by omega)).s6 ?_
  rw [zages_0 (by omega), m6]
  omega
section DA
variable {X d : Nat} {mem : zMem} {lk lkf : zLk} {L Lf : List Nat} {Q : Option Value → zMem → Prop} {g : zH} {nx u : Nat} {gs : Nat → zH}
theorem ok_undo (hd : 2 < d) (C : zCN mem lk L nx u g gs) (q0 : u = 0 → Q (some (.int (-(nI 1000002)))) mem)
    (q : u ≠ 0 → ∀ mem', zCN mem' lk L ((nx + 23) % 24) (u - 1) (gs 0) (fun k => gs (k + 1)) → zafr mem mem' → Q (some (.int (nI (u - 1)))) mem') : zOk X d 98 [.ref 100] mem lk L lk L Q := by
  obtain ⟨hk, hh, hb, A⟩ := C
  refine zOk_do 40 (tbl := tX7_undo) zck_98 rfl (by omega) (h := ?_)
  refine ⟨rfl, _, hk.at 104 660, rfl, ok_isEmpty (by omega) A (fun z => zT_eq ⟨rfl, rfl, q0 z⟩) (fun z => zF_eq ⟨rfl, _, hk.at 104 660, rfl, _, hk.at 102 10000, rfl, ?_⟩)⟩
  exact ok_takeBack (by omega) hh A z (fun m1 A1 hb1 f1 => ⟨rfl, rfl, q z m1 ⟨hk, hh, hb1, A1⟩ (fun x a _ c => f1 x a c)⟩)
theorem ok_pull {x : Int32} (hd : 2 < d) (C : zCN mem lk L nx u g gs) (hN : zNow g) (hlen : L.length ≤ Lf.length)
    (qB : (x.toInt < 0 ∨ (g 1 : Int) ≤ x.toInt) → lk = lkf ∧ L = Lf ∧ Q (some (.int (-(nI 1000001)))) mem)
    (qS : ∀ e, e < g 1 → x = nI e → g 4 = e → lk = lkf ∧ L = Lf ∧ Q (some (.int (-(nI 1000002)))) mem)
    (qG : ∀ e, e < g 1 → x = nI e → g 4 ≠ e → (lkf = kpK nx lk ∧ Lf = kpL nx lk L) ∧ ∀ mem', zCN mem' lkf Lf ((nx + 1) % 24) (if u < 24 then u + 1 else 24) (va_up g 4 e) (zpsh g gs) → zafr mem mem' → Q (some (.int (nI (g 4)))) mem') : zOk X d 100 [.ref 100, .int x] mem lk L lkf Lf Q := by
  obtain ⟨hk, hh, hb, A⟩ := C
  have e4 : mem (10000 + 4) = nI (g 4) := hb.k 4 (by omega)
  refine zOk_goc [] 60 (tbl := tX7_pull) zck_100 rfl (by omega) hlen (h := ?_)
  refine ⟨rfl, _, hk.at 102 10000, by rw [hh.k3]; rfl, ok_isFloor (by omega) hh hb hN.le.2 (fun e he ex => zT_ne ?_) (fun c => zF_ne (qB c))⟩
  have hw := hN.wf1 (by omega)
  have w4 := hw.1.2.2.2.2.2.1
  have w1 := hw.1.2.2.1
  subst ex
  refine ⟨rfl, _, hk.at 102 10000, hh.k3, fun c => ?_, fun c => ?_⟩
  · have c : ¬ mem (10000 + 4) = nI e := c
    rw [e4, nEq (by omega) (by omega)] at c
    obtain ⟨⟨q1, q2⟩, q3⟩ := qG e he rfl c
    subst q1 q2
    refine ⟨rfl, _, hk.at 104 660, rfl, _, hk.at 102 10000, rfl, _, _, Nat.le_refl _, kpL_le nx lk L, ok_keep (by omega) hh hb hw.1 A (fun m1 A1 f1 => ?_)⟩
    have hk1 := hk.kp A.1
    have hh1 : zHo (kpK nx lk) 10000 := hh.kp A.1
    have hb1 : zHB m1 10000 g := hb.same hw.1.1 (fun j hj => f1 _ (by omega) (by omega))
    have e41 : m1 (10000 + 4) = nI (g 4) := hb1.k 4 (by omega)
    refine ⟨rfl, _, hk1.at 102 10000, hh1.k3, rfl, _, hk1.at 102 10000, hh1.k3, rfl, rfl, ?_⟩
    show Q (some (.int (m1 (10000 + 4)))) (upd m1 (10000 + 4) (nI e))
    rw [e41]
    exact q3 _ ⟨hk1, hh1, hb1.set 4 e (by omega) rfl, A1.fr (zfr.up (by omega) (by omega))⟩ (f1.a.tr (zfr.a (zfr.up (by omega) (by omega))))
  · have c : mem (10000 + 4) = nI e := c
    rw [e4, nEq (by omega) (by omega)] at c
    exact qS e he rfl c
theorem ok_rope {x : Int32} (hd : 2 < d) (C : zCN mem lk L nx u g gs) (hN : zNow g) (hlen : L.length ≤ Lf.length)
    (qS : g 0 = 0 → lk = lkf ∧ L = Lf ∧ Q (some (.int (-(nI 1000002)))) mem)
    (qB : 0 < g 0 → (x.toInt < 1 ∨ 40 < x.toInt) → lk = lkf ∧ L = Lf ∧ Q (some (.int (-(nI 1000001)))) mem)
    (qG : ∀ e, 0 < g 0 → x = nI e → 1 ≤ e ∧ e ≤ 40 → (lkf = kpK nx lk ∧ Lf = kpL nx lk L) ∧ ∀ mem', zCN mem' lkf Lf ((nx + 1) % 24) (if u < 24 then u + 1 else 24) (va_up g 3 e) (zpsh g gs) → zafr mem mem' → Q (some (.int (nI (g 3)))) mem') : zOk X d 101 [.ref 100, .int x] mem lk L lkf Lf Q := by
  obtain ⟨hk, hh, hb, A⟩ := C
  have n1 : (nI 1).toInt = 1 := nT (by omega)
  have n40 : (nI 40).toInt = 40 := nT (by omega)
  refine zOk_goc [] 60 (tbl := tX7_rope) zck_101 rfl (by omega) hlen (h := ?_)
  refine ⟨rfl, _, hk.at 102 10000, by rw [hh.k3]; rfl, ok_stands (by omega) hh hb hN.le.1 (fun h0 => zT_ne ?_) (fun h0 => zF_ne (qS h0))⟩
  have hw := hN.wf h0
  refine ⟨fun c => qB h0 (Or.inl ?_), fun c => ⟨fun c2 => ?_, fun c2 => qB h0 (Or.inr ?_)⟩⟩
  · have c : x < nI 1 := c
    rw [i_lt, n1] at c; exact c
  · have c : ¬ x < nI 1 := c
    have c2 : x ≤ nI 40 := c2
    rw [i_lt, n1] at c
    rw [i_le, n40] at c2
    rcases zix x (n := 41) (by omega) with ⟨e, he, ex⟩ | z
    · have hx : x.toInt = e := by rw [ex]; exact nT (by omega)
      obtain ⟨⟨q1, q2⟩, q3⟩ := qG e h0 ex (by omega)
      subst q1 q2 ex
      refine ⟨rfl, _, hk.at 104 660, rfl, _, hk.at 102 10000, rfl, _, _, Nat.le_refl _, kpL_le nx lk L, ok_keep (by omega) hh hb hw.1 A (fun m1 A1 f1 => ?_)⟩
      have hk1 := hk.kp A.1
      have hh1 : zHo (kpK nx lk) 10000 := hh.kp A.1
      have hb1 : zHB m1 10000 g := hb.same hw.1.1 (fun j hj => f1 _ (by omega) (by omega))
      have e41 : m1 (10000 + 3) = nI (g 3) := hb1.k 3 (by omega)
      refine ⟨rfl, _, hk1.at 102 10000, hh1.k3, rfl, _, hk1.at 102 10000, hh1.k3, rfl, rfl, ?_⟩
      show Q (some (.int (m1 (10000 + 3)))) (upd m1 (10000 + 3) (nI e))
      rw [e41]
      exact q3 _ ⟨hk1, hh1, hb1.set 3 e (by omega) rfl, A1.fr (zfr.up (by omega) (by omega))⟩ (f1.a.tr (zfr.a (zfr.up (by omega) (by omega))))
    · omega
  · have c2 : ¬ x ≤ nI 40 := c2
    rw [i_le, n40] at c2; omega
theorem ok_room {x : Int32} (hd : 2 < d) (C : zCN mem lk L nx u g gs) (hN : zNow g) (hlen : L.length ≤ Lf.length)
    (qS : g 0 = 0 → lk = lkf ∧ L = Lf ∧ Q (some (.int (-(nI 1000002)))) mem)
    (qB : 0 < g 0 → (x.toInt < 1 ∨ 4 < x.toInt) → lk = lkf ∧ L = Lf ∧ Q (some (.int (-(nI 1000001)))) mem)
    (qG : ∀ e, 0 < g 0 → x = nI e → 1 ≤ e ∧ e ≤ 4 → (lkf = kpK nx lk ∧ Lf = kpL nx lk L) ∧ ∀ mem', zCN mem' lkf Lf ((nx + 1) % 24) (if u < 24 then u + 1 else 24) (va_up g 2 e) (zpsh g gs) → zafr mem mem' → Q (some (.int (nI (g 2)))) mem') : zOk X d 102 [.ref 100, .int x] mem lk L lkf Lf Q := by
  obtain ⟨hk, hh, hb, A⟩ := C
  have n1 : (nI 1).toInt = 1 := nT (by omega)
  have n40 : (nI 4).toInt = 4 := nT (by omega)
  refine zOk_goc [] 60 (tbl := tX7_room) zck_102 rfl (by omega) hlen (h := ?_)
  refine ⟨rfl, _, hk.at 102 10000, by rw [hh.k3]; rfl, ok_stands (by omega) hh hb hN.le.1 (fun h0 => zT_ne ?_) (fun h0 => zF_ne (qS h0))⟩
  have hw := hN.wf h0
  refine ⟨fun c => qB h0 (Or.inl ?_), fun c => ⟨fun c2 => ?_, fun c2 => qB h0 (Or.inr ?_)⟩⟩
  · have c : x < nI 1 := c
    rw [i_lt, n1] at c; exact c
  · have c : ¬ x < nI 1 := c
    have c2 : x ≤ nI 4 := c2
    rw [i_lt, n1] at c
    rw [i_le, n40] at c2
    rcases zix x (n := 5) (by omega) with ⟨e, he, ex⟩ | z
    · have hx : x.toInt = e := by rw [ex]; exact nT (by omega)
      obtain ⟨⟨q1, q2⟩, q3⟩ := qG e h0 ex (by omega)
      subst q1 q2 ex
      refine ⟨rfl, _, hk.at 104 660, rfl, _, hk.at 102 10000, rfl, _, _, Nat.le_refl _, kpL_le nx lk L, ok_keep (by omega) hh hb hw.1 A (fun m1 A1 f1 => ?_)⟩
      have hk1 := hk.kp A.1
      have hh1 : zHo (kpK nx lk) 10000 := hh.kp A.1
      have hb1 : zHB m1 10000 g := hb.same hw.1.1 (fun j hj => f1 _ (by omega) (by omega))
      have e41 : m1 (10000 + 2) = nI (g 2) := hb1.k 2 (by omega)
      refine ⟨rfl, _, hk1.at 102 10000, hh1.k3, rfl, _, hk1.at 102 10000, hh1.k3, rfl, rfl, ?_⟩
      show Q (some (.int (m1 (10000 + 2)))) (upd m1 (10000 + 2) (nI e))
      rw [e41]
      exact q3 _ ⟨hk1, hh1, hb1.set 2 e (by omega) rfl, A1.fr (zfr.up (by omega) (by omega))⟩ (f1.a.tr (zfr.a (zfr.up (by omega) (by omega))))
    · omega
  · have c2 : ¬ x ≤ nI 4 := c2
    rw [i_le, n40] at c2; omega
end DA
end
section
/-! DishLift: send, minutes -/
theorem zsend_wf {g : zH} (w : zWF g) {e t ht : Nat} (he : e < g 0) (h1 : t < g 1) (h2 : ht ≤ 60) : zWF (zsend g e t ht) := by
  have w0 := w.1
  unfold zsend
  refine ((w.sAt (by omega) (Or.inl (w.2.2.2.2.2.2.2.2 e he).2.2.1)).sTo (by omega) ?_).sHt (by omega) h2
  rw [zup_ne (by omega)]; exact h1
theorem zsend_ne {g : zH} {e t ht j : Nat} (h1 : j ≠ 13 + e) (h2 : j ≠ 19 + e) (h3 : j ≠ 31 + e) : zsend g e t ht j = g j := by
  unfold zsend; rw [zup_ne h3, zup_ne h2, zup_ne h1]
theorem zSt.ord {X : Nat} {mem : zMem} (h : zSt mem) {b : Nat} (hb : 10000 ≤ b) : zOrd X mem 4000 (fun e => e) b :=
  ⟨Or.inr rfl, rfl, fun k hk => ⟨h.1 k hk, hk⟩, Or.inl (by omega)⟩
/-- what some minutes make of all -/
def mnK : Nat → Nat → zLk → zLk
  | 0, _, lk => lk
  | m + 1, nx, lk => mnK m ((nx + 1) % 24) (kpK nx lk)
def mnL : Nat → Nat → zLk → List Nat → List Nat
  | 0, _, _, L => L
  | m + 1, nx, lk, L => mnL m ((nx + 1) % 24) (kpK nx lk) (kpL nx lk L)
def mnX : Nat → Nat → Nat
  | 0, nx => nx
  | m + 1, nx => mnX m ((nx + 1) % 24)
def mnU : Nat → Nat → Nat
  | 0, u => u
  | m + 1, u => mnU m (if u < 24 then u + 1 else 24)
def mnG : Nat → zH → zH
  | 0, g => g
  | m + 1, g => mnG m (zpass (fun e => e) g)
def mnS : Nat → zH → (Nat → zH) → Nat → zH
  | 0, _, gs => gs
  | m + 1, g, gs => mnS m (zpass (fun e => e) g) (zpsh g gs)
theorem mnL_le : ∀ m nx lk L, L.length ≤ (mnL m nx lk L).length
  | 0, _, _, L => Nat.le_refl _
  | m + 1, nx, lk, L => Nat.le_trans (kpL_le nx lk L) (mnL_le m _ _ _)
theorem mnG_wf : ∀ m g, zWF g → g 6 + m ≤ 999999 → zWF (mnG m g) ∧ mnG m g 0 = g 0 ∧ mnG m g 6 = g 6 + m
  | 0, g, w, _ => ⟨w, rfl, rfl⟩
  | m + 1, g, w, h => by
    have h6 : zpass (fun e => e) g 6 = g 6 + 1 := zpass_6 w.1
    obtain ⟨a, b, c⟩ := mnG_wf m (zpass (fun e => e) g) (zpass_wf w (by omega)) (by omega)
    exact ⟨a, by show mnG m _ 0 = _; rw [b]; exact zpass_ne w.1 (by omega) (by omega) (by omega) (by omega), by show mnG m _ 6 = _; rw [c, h6]; omega⟩
section DA
variable {X d : Nat} {mem : zMem} {lk lkf : zLk} {L Lf : List Nat} {Q : Option Value → zMem → Prop} {g : zH} {nx u : Nat} {gs : Nat → zH}
/-- what is wrong with what is sent -/
def zBadSend (g : zH) (x y z : Int32) : Prop := (x.toInt < 0 ∨ (g 0 : Int) ≤ x.toInt) ∨ (y.toInt < 0 ∨ (g 1 : Int) ≤ y.toInt) ∨ z.toInt < 0 ∨ 60 < z.toInt
theorem ok_send {x y z : Int32} (hd : 3 < d) (C : zCN mem lk L nx u g gs) (hN : zNow g) (hlen : L.length ≤ Lf.length)
    (qB : zBadSend g x y z → lk = lkf ∧ L = Lf ∧ Q (some (.int (-(nI 1000001)))) mem)
    (qS : ∀ e t h, e < g 0 → t < g 1 → h ≤ 60 → x = nI e → y = nI t → z = nI h → (g (13 + e) ≠ 11 ∨ g (19 + e) = t) → lk = lkf ∧ L = Lf ∧ Q (some (.int (-(nI 1000002)))) mem)
    (qG : ∀ e t h, e < g 0 → t < g 1 → h ≤ 60 → x = nI e → y = nI t → z = nI h → g (13 + e) = 11 → g (19 + e) ≠ t → (lkf = kpK nx lk ∧ Lf = kpL nx lk L) ∧ ∀ mem', zCN mem' lkf Lf ((nx + 1) % 24) (if u < 24 then u + 1 else 24) (zsend g e t h) (zpsh g gs) → zafr mem mem' → Q (some (.int (nI (zbits (zsend g e t h) 11 (g 0))))) mem') : zOk X d 103 [.ref 100, .int x, .int y, .int z] mem lk L lkf Lf Q := by
  obtain ⟨hk, hh, hb, A⟩ := C
  have n60 : (nI 60).toInt = 60 := nT (by omega)
  refine zOk_goc [] 80 (tbl := tX7_send) zck_103 rfl (by omega) hlen (h := ?_)
  refine ⟨rfl, _, hk.at 102 10000, by rw [hh.k3]; rfl, ok_isDish (by omega) hh hb hN.le.1 (fun e he ex => zT_eq ?_) (fun c => zF_eq (qB (Or.inl c)))⟩
  have hw := hN.wf (by omega)
  have w0 := hw.1.1
  have w1 := hw.1.2.2.1
  have w11 := hw.1.at11 e he
  obtain ⟨-, -, wt, -, -⟩ := hw.1.2.2.2.2.2.2.2.2 e he
  refine ⟨rfl, _, hk.at 102 10000, by rw [hh.k3]; rfl, ok_isFloor (by omega) hh hb hN.le.2 (fun t ht ey => zT_eq ?_) (fun c => zF_eq (qB (Or.inr (Or.inl c))))⟩
  refine ⟨fun c => qB (Or.inr (Or.inr (Or.inl ?_))), fun c => ⟨fun c2 => ?_, fun c2 => qB (Or.inr (Or.inr (Or.inr ?_)))⟩⟩
  · have c : z < 0 := c
    rw [i_lt, i_0] at c; exact c
  · have c : ¬ z < 0 := c
    have c2 : z ≤ nI 60 := c2
    rw [i_lt, i_0] at c
    rw [i_le, n60] at c2
    obtain ⟨h, hh60, ez⟩ : ∃ h, h ≤ 60 ∧ z = nI h := by
      rcases zix z (n := 61) (by omega) with ⟨j, hj, e⟩ | q
      · exact ⟨j, by omega, e⟩
      · omega
    subst ex ey ez
    have ea : mem (10000 + (7 + 6 * 1) + (nI e).toNatClampNeg) = nI (g (13 + e)) := by rw [nC (by omega)]; exact hb.at he
    have eb : mem (10000 + (7 + 6 * 2) + (nI e).toNatClampNeg) = nI (g (19 + e)) := by rw [nC (by omega)]; exact hb.to he
    refine ⟨rfl, _, hk.at 102 10000, hh.k3, _, hh.lk 1 (by omega), Or.inl (hh.ka 1 (by omega)), hh.inn (by omega), fun c3 => ?_, fun c3 => ⟨rfl, _, hk.at 102 10000, hh.k3, _, hh.lk 2 (by omega), Or.inl (hh.ka 2 (by omega)), hh.inn (by omega), fun c4 => ?_, fun c4 => ?_⟩⟩
    · have c3 : ¬ mem (10000 + (7 + 6 * 1) + (nI e).toNatClampNeg) = nI 11 := c3
      rw [ea, nEq (by omega) (by omega)] at c3
      exact qS e t h he ht hh60 rfl rfl rfl (Or.inl c3)
    · have c3 : mem (10000 + (7 + 6 * 1) + (nI e).toNatClampNeg) = nI 11 := c3
      have c4 : ¬ mem (10000 + (7 + 6 * 2) + (nI e).toNatClampNeg) = nI t := c4
      rw [ea, nEq (by omega) (by omega)] at c3
      rw [eb, nEq (by omega) (by omega)] at c4
      obtain ⟨⟨q1, q2⟩, q3⟩ := qG e t h he ht hh60 rfl rfl rfl c3 c4
      subst q1 q2
      refine ⟨rfl, _, hk.at 104 660, rfl, _, hk.at 102 10000, rfl, _, _, Nat.le_refl _, kpL_le nx lk L, ok_keep (by omega) hh hb hw.1 A (fun m1 A1 f1 => ?_)⟩
      have hk1 := hk.kp A.1
      have hh1 : zHo (kpK nx lk) 10000 := hh.kp A.1
      have hb1 : zHB m1 10000 g := hb.same hw.1.1 (fun j hj => f1 _ (by omega) (by omega))
      have ws := zsend_wf hw.1 he ht hh60
      have s0 : zsend g e t h 0 = g 0 := zsend_ne (by omega) (by omega) (by omega)
      refine ⟨rfl, _, hk1.at 102 10000, by rw [hh1.k3]; rfl, ok_sendBack (by omega) hh1 hb1 hw.1 he (fun m2 hb2 f2 => ⟨rfl, _, hk1.at 102 10000, by rw [hh1.k3]; rfl, ok_served (by omega) hh1 hb2 (by omega) ws.at11 ⟨rfl, rfl, ?_⟩⟩)⟩
      rw [s0]
      exact q3 _ ⟨hk1, hh1, hb2, A1.fr f2⟩ (f1.a.tr f2.a)
    · have c3 : mem (10000 + (7 + 6 * 1) + (nI e).toNatClampNeg) = nI 11 := c3
      have c4 : mem (10000 + (7 + 6 * 2) + (nI e).toNatClampNeg) = nI t := c4
      rw [eb, nEq (by omega) (by omega)] at c4
      exact qS e t h he ht hh60 rfl rfl rfl (Or.inr c4)
  · have c2 : ¬ z ≤ nI 60 := c2
    rw [i_le, n60] at c2; omega
theorem minutes_loop {n : Nat} (hn : n ≤ 24) (hd : 4 < d) : ∀ m i nx u g gs lk L mem, i + m = n → zCN mem lk L nx u g gs → zWF g → g 6 + m ≤ 999999 → zSt mem →
    (∀ mem', zCN mem' (mnK m nx lk) (mnL m nx lk L) (mnX m nx) (mnU m u) (mnG m g) (mnS m g gs) → zafr mem mem' → Q (some (.int (nI (zbits (mnG m g) 11 (g 0))))) mem') → zE X d 99 47 [.ref 100, .int (nI n), .int (nI i)] [] mem lk L (mnK m nx lk) (mnL m nx lk L) Q := by
  intro m
  induction m with
  | zero =>
    intro i nx u g gs lk L mem hi C wf h6 hS q
    have c1 : nI n ≤ nI i := by rw [nLe (by omega) (by omega)]; omega
    obtain ⟨hk, hh, hb, A⟩ := C
    refine zE_do 40 47 (tbl := tX7_minutes) zck_99 rfl (h := ?_)
    refine ⟨fun _ => ⟨rfl, _, hk.at 102 10000, by rw [hh.k3]; rfl, ok_served (by omega) hh hb wf.1 wf.at11 ⟨rfl, rfl, q mem ⟨hk, hh, hb, A⟩ zafr.rf⟩⟩, fun c => absurd c1 c⟩
  | succ m ih =>
    intro i nx u g gs lk L mem hi C wf h6 hS q
    have c1 : ¬ nI n ≤ nI i := by rw [nLe (by omega) (by omega)]; omega
    obtain ⟨hk, hh, hb, A⟩ := C
    refine zE_do 40 47 (tbl := tX7_minutes) zck_99 rfl (h := ?_)
    refine ⟨fun c => absurd c c1, fun _ => ⟨rfl, _, hk.at 104 660, rfl, _, hk.at 102 10000, rfl, kpK nx lk, kpL nx lk L, mnL_le m _ _ _, kpL_le nx lk L, ok_keep (by omega) hh hb wf A (fun m1 A1 f1 => ?_)⟩⟩
    have hk1 := hk.kp A.1
    have hh1 : zHo (kpK nx lk) 10000 := hh.kp A.1
    have hb1 : zHB m1 10000 g := hb.same wf.1 (fun j hj => f1 _ (by omega) (by omega))
    have hS1 : zSt m1 := ⟨fun i hi => by rw [f1 _ (by omega) (by omega)]; exact hS.1 i hi, fun i hi => by rw [f1 _ (by omega) (by omega)]; exact hS.2.1 i hi, fun i hi => by rw [f1 _ (by omega) (by omega)]; exact hS.2.2.1 i hi, fun i hi => by rw [f1 _ (by omega) (by omega)]; exact hS.2.2.2 i hi⟩
    refine ⟨rfl, _, hk1.at 102 10000, by rw [hh1.k3]; rfl, ok_pass (by omega) hh1 hb1 wf (by omega) (hS1.ord (Nat.le_refl _)) (fun m2 hb2 f2 => ?_)⟩
    have h61 : zpass (fun e => e) g 6 = g 6 + 1 := zpass_6 wf.1
    have h01 : zpass (fun e => e) g 0 = g 0 := zpass_ne wf.1 (by omega) (by omega) (by omega) (by omega)
    have k := ih (i + 1) ((nx + 1) % 24) (if u < 24 then u + 1 else 24) (zpass (fun e => e) g) (zpsh g gs) (kpK nx lk) (kpL nx lk L) m2 (by omega) ⟨hk1, hh1, hb2, A1.fr f2⟩ (zpass_wf wf (by omega)) (by omega) (hS1.fr f2 (Or.inl (Nat.le_refl _))) (fun m3 C3 f3 => by rw [h01]; exact q m3 C3 ((f1.a.tr f2.a).tr f3))
    rw [← nI_1] at k
    exact k
theorem ok_minutes {x : Int32} (hd : 4 < d) (C : zCN mem lk L nx u g gs) (hN : zNow g) (hS : zSt mem) (hlen : L.length ≤ Lf.length)
    (qS : g 0 = 0 → lk = lkf ∧ L = Lf ∧ Q (some (.int (-(nI 1000002)))) mem)
    (qB : 0 < g 0 → (x.toInt < 1 ∨ 24 < x.toInt) → lk = lkf ∧ L = Lf ∧ Q (some (.int (-(nI 1000001)))) mem)
    (qF : ∀ n, 0 < g 0 → x = nI n → 1 ≤ n ∧ n ≤ 24 → 999 < g 6 + n → lk = lkf ∧ L = Lf ∧ Q (some (.int (-(nI 1000003)))) mem)
    (qG : ∀ n, 0 < g 0 → x = nI n → 1 ≤ n ∧ n ≤ 24 → g 6 + n ≤ 999 → (lkf = mnK n nx lk ∧ Lf = mnL n nx lk L) ∧ ∀ mem', zCN mem' lkf Lf (mnX n nx) (mnU n u) (mnG n g) (mnS n g gs) → zafr mem mem' → Q (some (.int (nI (zbits (mnG n g) 11 (g 0))))) mem') : zOk X d 99 [.ref 100, .int x] mem lk L lkf Lf Q := by
  have C' := C
  obtain ⟨hk, hh, hb, A⟩ := C
  have n1 : (nI 1).toInt = 1 := nT (by omega)
  have n24 : (nI 24).toInt = 24 := nT (by omega)
  have e6 : mem (10000 + 6) = nI (g 6) := hb.k 6 (by omega)
  refine zOk_goc [] 60 (tbl := tX7_minutes) zck_99 rfl (by omega) hlen (h := ?_)
  refine ⟨rfl, _, hk.at 102 10000, by rw [hh.k3]; rfl, ok_stands (by omega) hh hb hN.le.1 (fun h0 => zT_ne ?_) (fun h0 => zF_ne (qS h0))⟩
  have hw := hN.wf h0
  refine ⟨fun c => qB h0 (Or.inl ?_), fun c => ⟨fun c2 => ?_, fun c2 => qB h0 (Or.inr ?_)⟩⟩
  · have c : x < nI 1 := c
    rw [i_lt, n1] at c; exact c
  · have c : ¬ x < nI 1 := c
    have c2 : x ≤ nI 24 := c2
    rw [i_lt, n1] at c
    rw [i_le, n24] at c2
    rcases zix x (n := 25) (by omega) with ⟨n, hn, ex⟩ | z
    · have hx : x.toInt = n := by rw [ex]; exact nT (by omega)
      refine ⟨rfl, _, hk.at 102 10000, hh.k3, fun c3 => ?_, fun c3 => ?_⟩
      · have c3 : mem (10000 + 6) + x ≤ nI 999 := c3
        rw [e6, ex, nI_add, nLe (by omega) (by omega)] at c3
        obtain ⟨⟨q1, q2⟩, q3⟩ := qG n h0 ex (by omega) c3
        subst q1 q2 ex
        exact minutes_loop (by omega) hd n 0 nx u g gs lk L mem (by omega) C' hw.1 (by omega) hS q3
      · have c3 : ¬ mem (10000 + 6) + x ≤ nI 999 := c3
        rw [e6, ex, nI_add, nLe (by omega) (by omega)] at c3
        exact qF n h0 ex (by omega) (by omega)
    · omega
  · have c2 : ¬ x ≤ nI 24 := c2
    rw [i_le, n24] at c2; omega
end DA
end
section
/-! the reference: pull, rope, room, send, minutes -/
theorem zRw.to {mem mem' : zMem} {r : Nat} {g g' : zH} (h : zRw mem r g) (hb : zHB mem' (2000 + r) g') (h0 : g' 0 = g 0) (hf : zfr mem mem' (2000 + r)) : zRw mem' r g' :=
  ⟨hb, by rw [h0]; exact h.2.fr hf⟩
/-- what the acts of the reference leave -/
def zbfr (mem mem' : zMem) : Prop := ∀ x, x ≠ 1001 → ¬ (2000 ≤ x ∧ x < 2043) → ¬ (2215 ≤ x ∧ x < 3247) → mem' x = mem x
theorem zbfr.rf {mem : zMem} : zbfr mem mem := fun _ _ _ _ => rfl
theorem zbfr.tr {m1 m2 m3 : zMem} (h : zbfr m1 m2) (h' : zbfr m2 m3) : zbfr m1 m3 := fun x a b c => (h' x a b c).trans (h x a b c)
theorem zmfr.b {mem mem' : zMem} (h : zmfr mem mem') : zbfr mem mem' := fun x a _ c => h x a c
theorem zfr.b {mem mem' : zMem} (h : zfr mem mem' 2000) : zbfr mem mem' := fun x _ b _ => h x (by omega)
theorem zMActs.fr {mem mem' : zMem} {u : Nat} {gs : Nat → zH} (A : zMActs mem u gs) (hf : zfr mem mem' 2000) : zMActs mem' u gs :=
  ⟨A.1, by rw [hf _ (by omega)]; exact A.2.1, fun k hk => by
    obtain ⟨b1, b2⟩ := A.2.2 k hk
    exact ⟨b1.same b2.1 (fun j hj => hf _ (by omega)), b2⟩⟩
def zMN (mem : zMem) (lk : zLk) (u : Nat) (g : zH) (gs : Nat → zH) : Prop := zML lk ∧ zRw mem 0 g ∧ zMActs mem u gs
section MA
variable {X d : Nat} {mem : zMem} {lk : zLk} {L : List Nat} {Q : Option Value → zMem → Prop} {g : zH} {u : Nat} {gs : Nat → zH}
theorem ok_min {x : Int32} {a b : Nat} (hd : 0 < d) (ha : a < 2147483648) (hb : b < 2147483647) (q1 : (x.toInt < a ∨ b < x.toInt) → Q (some (.int (nI 0))) mem) (q0 : ∀ j, a ≤ j → j ≤ b → x = nI j → Q (some (.int (nI 1))) mem) : zOk X d 132 [.long x.toInt64, .long (lN a), .long (lN b)] mem lk L lk L Q := by
  refine ok_in hd (fun c1 c2 => ?_) (fun c => q1 ?_)
  · rw [il_T, l_T (by omega)] at c1
    rw [il_T, l_T (by omega)] at c2
    rcases zix x (n := b + 1) (by omega) with ⟨j, hj, e⟩ | q
    · have : x.toInt = j := by rw [e]; exact nT (by omega)
      exact q0 j (by omega) (by omega) e
    · omega
  · rw [il_T, l_T (by omega), l_T (by omega)] at c
    exact c
theorem ok_mpull {x : Int32} (hd : 3 < d) (C : zMN mem lk u g gs) (hN : zNow g)
    (qB : (x.toInt < 0 ∨ (g 1 : Int) ≤ x.toInt) → Q (some (.int (-(nI 1000001)))) mem)
    (qS : ∀ e, e < g 1 → x = nI e → g 4 = e → Q (some (.int (-(nI 1000002)))) mem)
    (qG : ∀ e, e < g 1 → x = nI e → g 4 ≠ e → ∀ mem', zMN mem' lk (if u < 24 then u + 1 else 24) (va_up g 4 e) (zpsh g gs) → zbfr mem mem' → Q (some (.int (nI (g 4)))) mem') : zOk X d 173 [.ref 1000, .int x] mem lk L lk L Q := by
  obtain ⟨hk, hr, A⟩ := C
  have e4 : mem (2000 + (nI 4).toNatClampNeg) = nI (g 4) := hr.1.k 4 (by omega)
  refine zOk_do 60 (tbl := tX8_pull) zck_173 rfl (by omega) (h := ?_)
  refine ⟨rfl, ok_misFloor (by omega) hk.1 hr.1 hN.le.2 (fun e he ex => zT_ne ?_) (fun c => zF_ne ⟨rfl, rfl, qB c⟩)⟩
  have hw := hN.wf1 (by omega)
  have w4 := hw.1.2.2.2.2.2.1
  have w1 := hw.1.2.2.1
  subst ex
  refine ⟨rfl, _, hk.1, Or.inl rfl, zwi0 (by omega), fun c => ⟨rfl, ?_⟩, fun c => ⟨rfl, rfl, ?_⟩⟩
  · have c : ¬ mem (2000 + (nI 4).toNatClampNeg) = nI e := c
    rw [e4, nEq (by omega) (by omega)] at c
    refine ok_minds (by omega) hk.1 hr hw.1 A (fun m1 A1 f1 => ⟨rfl, _, hk.1, Or.inl rfl, zwi0 (by omega), rfl, _, hk.1, rfl, zwi0 (by omega), rfl, rfl, ?_⟩)
    have hr1 : zRw m1 0 g := hr.same hw.1.1 (fun j hj => f1 _ (by omega) (by omega))
    have e41 : m1 (2000 + (nI 4).toNatClampNeg) = nI (g 4) := hr1.1.k 4 (by omega)
    have ff : zfr m1 (upd m1 (2000 + (nI 4).toNatClampNeg) (nI e)) 2000 := zfr.up (x := 2000 + 4) (by omega) (by omega)
    show Q (some (.int (m1 (2000 + (nI 4).toNatClampNeg)))) (upd m1 (2000 + (nI 4).toNatClampNeg) (nI e))
    rw [e41]
    exact qG e he rfl c _ ⟨hk, hr1.to (hr1.1.set 4 e (by omega) rfl) (zup_ne (by omega)) ff, A1.fr ff⟩ (f1.b.tr ff.b)
  · have c : mem (2000 + (nI 4).toNatClampNeg) = nI e := c
    rw [e4, nEq (by omega) (by omega)] at c
    exact qS e he rfl c
theorem ok_mrope {x : Int32} (hd : 3 < d) (C : zMN mem lk u g gs) (hN : zNow g)
    (qS : g 0 = 0 → Q (some (.int (-(nI 1000002)))) mem)
    (qB : 0 < g 0 → (x.toInt < 1 ∨ 40 < x.toInt) → Q (some (.int (-(nI 1000001)))) mem)
    (qG : ∀ e, 0 < g 0 → x = nI e → 1 ≤ e ∧ e ≤ 40 → ∀ mem', zMN mem' lk (if u < 24 then u + 1 else 24) (va_up g 3 e) (zpsh g gs) → zbfr mem mem' → Q (some (.int (nI (g 3)))) mem') : zOk X d 174 [.ref 1000, .int x] mem lk L lk L Q := by
  obtain ⟨hk, hr, A⟩ := C
  refine zOk_do 60 (tbl := tX8_rope) zck_174 rfl (by omega) (h := ?_)
  refine ⟨rfl, ok_misHouse (by omega) hk.1 hr.1 hN.le.1 (fun h0 => zT_ne ?_) (fun h0 => zF_ne ⟨rfl, rfl, qS h0⟩)⟩
  have hw := hN.wf h0
  refine ok_min (a := 1) (b := 40) (by omega) (by omega) (by omega) (fun c => zF_ne ⟨rfl, rfl, qB h0 c⟩) (fun e h1 h2 ex => zT_ne ⟨rfl, ?_⟩)
  subst ex
  refine ok_minds (by omega) hk.1 hr hw.1 A (fun m1 A1 f1 => ⟨rfl, _, hk.1, Or.inl rfl, zwi0 (by omega), rfl, _, hk.1, rfl, zwi0 (by omega), rfl, rfl, ?_⟩)
  have hr1 : zRw m1 0 g := hr.same hw.1.1 (fun j hj => f1 _ (by omega) (by omega))
  have e41 : m1 (2000 + (nI 3).toNatClampNeg) = nI (g 3) := hr1.1.k 3 (by omega)
  have ff : zfr m1 (upd m1 (2000 + (nI 3).toNatClampNeg) (nI e)) 2000 := zfr.up (x := 2000 + 3) (by omega) (by omega)
  show Q (some (.int (m1 (2000 + (nI 3).toNatClampNeg)))) (upd m1 (2000 + (nI 3).toNatClampNeg) (nI e))
  rw [e41]
  exact qG e h0 rfl ⟨h1, h2⟩ _ ⟨hk, hr1.to (hr1.1.set 3 e (by omega) rfl) (zup_ne (by omega)) ff, A1.fr ff⟩ (f1.b.tr ff.b)
theorem ok_mroom {x : Int32} (hd : 3 < d) (C : zMN mem lk u g gs) (hN : zNow g)
    (qS : g 0 = 0 → Q (some (.int (-(nI 1000002)))) mem)
    (qB : 0 < g 0 → (x.toInt < 1 ∨ 4 < x.toInt) → Q (some (.int (-(nI 1000001)))) mem)
    (qG : ∀ e, 0 < g 0 → x = nI e → 1 ≤ e ∧ e ≤ 4 → ∀ mem', zMN mem' lk (if u < 24 then u + 1 else 24) (va_up g 2 e) (zpsh g gs) → zbfr mem mem' → Q (some (.int (nI (g 2)))) mem') : zOk X d 175 [.ref 1000, .int x] mem lk L lk L Q := by
  obtain ⟨hk, hr, A⟩ := C
  refine zOk_do 60 (tbl := tX8_room) zck_175 rfl (by omega) (h := ?_)
  refine ⟨rfl, ok_misHouse (by omega) hk.1 hr.1 hN.le.1 (fun h0 => zT_ne ?_) (fun h0 => zF_ne ⟨rfl, rfl, qS h0⟩)⟩
  have hw := hN.wf h0
  refine ok_min (a := 1) (b := 4) (by omega) (by omega) (by omega) (fun c => zF_ne ⟨rfl, rfl, qB h0 c⟩) (fun e h1 h2 ex => zT_ne ⟨rfl, ?_⟩)
  subst ex
  refine ok_minds (by omega) hk.1 hr hw.1 A (fun m1 A1 f1 => ⟨rfl, _, hk.1, Or.inl rfl, zwi0 (by omega), rfl, _, hk.1, rfl, zwi0 (by omega), rfl, rfl, ?_⟩)
  have hr1 : zRw m1 0 g := hr.same hw.1.1 (fun j hj => f1 _ (by omega) (by omega))
  have e41 : m1 (2000 + (nI 2).toNatClampNeg) = nI (g 2) := hr1.1.k 2 (by omega)
  have ff : zfr m1 (upd m1 (2000 + (nI 2).toNatClampNeg) (nI e)) 2000 := zfr.up (x := 2000 + 2) (by omega) (by omega)
  show Q (some (.int (m1 (2000 + (nI 2).toNatClampNeg)))) (upd m1 (2000 + (nI 2).toNatClampNeg) (nI e))
  rw [e41]
  exact qG e h0 rfl ⟨h1, h2⟩ _ ⟨hk, hr1.to (hr1.1.set 2 e (by omega) rfl) (zup_ne (by omega)) ff, A1.fr ff⟩ (f1.b.tr ff.b)
theorem minutes_mloop {n : Nat} (hn : n ≤ 24) (hd : 4 < d) : ∀ m i u g gs mem, i + m = n → zMN mem lk u g gs → zWF g → g 6 + m ≤ 999999 →
    (∀ mem', zMN mem' lk (mnU m u) (mnG m g) (mnS m g gs) → zbfr mem mem' → Q (some (.int (nI (zbits (mnG m g) 11 (g 0))))) mem') → zE X d 172 45 [.ref 1000, .int (nI n), .int (nI i)] [] mem lk L lk L Q := by
  intro m
  induction m with
  | zero =>
    intro i u g gs mem hi C wf h6 q
    have c1 : nI n ≤ nI i := by rw [nLe (by omega) (by omega)]; omega
    obtain ⟨hk, hr, A⟩ := C
    refine zE_do 40 45 (tbl := tX8_minutes) zck_172 rfl (h := ?_)
    refine ⟨fun _ => ⟨rfl, ok_mservedOf (r := 0) (by omega) hk.1 (by omega) hr.1 wf.1 wf.at11 ⟨rfl, rfl, q mem ⟨hk, hr, A⟩ zbfr.rf⟩⟩, fun c => absurd c1 c⟩
  | succ m ih =>
    intro i u g gs mem hi C wf h6 q
    have c1 : ¬ nI n ≤ nI i := by rw [nLe (by omega) (by omega)]; omega
    obtain ⟨hk, hr, A⟩ := C
    refine zE_do 40 45 (tbl := tX8_minutes) zck_172 rfl (h := ?_)
    refine ⟨fun c => absurd c c1, fun _ => ⟨rfl, ok_minds (by omega) hk.1 hr wf A (fun m1 A1 f1 => ⟨rfl, ?_⟩)⟩⟩
    have hr1 : zRw m1 0 g := hr.same wf.1 (fun j hj => f1 _ (by omega) (by omega))
    refine ok_mpasses (r := 0) (by omega) hk.1 (by omega) hr1.1 wf (by omega) hr1.2 (fun m2 hb2 f2 => ?_)
    have h61 : zpass (fun e => e) g 6 = g 6 + 1 := zpass_6 wf.1
    have h01 : zpass (fun e => e) g 0 = g 0 := zpass_ne wf.1 (by omega) (by omega) (by omega) (by omega)
    have k := ih (i + 1) (if u < 24 then u + 1 else 24) (zpass (fun e => e) g) (zpsh g gs) m2 (by omega) ⟨hk, hr1.to hb2 h01 f2, A1.fr f2⟩ (zpass_wf wf (by omega)) (by omega) (fun m3 C3 f3 => by rw [h01]; exact q m3 C3 ((f1.b.tr (zfr.b f2)).tr f3))
    rw [← nI_1] at k
    exact k
theorem ok_mminutes {x : Int32} (hd : 4 < d) (C : zMN mem lk u g gs) (hN : zNow g)
    (qS : g 0 = 0 → Q (some (.int (-(nI 1000002)))) mem)
    (qB : 0 < g 0 → (x.toInt < 1 ∨ 24 < x.toInt) → Q (some (.int (-(nI 1000001)))) mem)
    (qF : ∀ n, 0 < g 0 → x = nI n → 1 ≤ n ∧ n ≤ 24 → 999 < g 6 + n → Q (some (.int (-(nI 1000003)))) mem)
    (qG : ∀ n, 0 < g 0 → x = nI n → 1 ≤ n ∧ n ≤ 24 → g 6 + n ≤ 999 → ∀ mem', zMN mem' lk (mnU n u) (mnG n g) (mnS n g gs) → zbfr mem mem' → Q (some (.int (nI (zbits (mnG n g) 11 (g 0))))) mem') : zOk X d 172 [.ref 1000, .int x] mem lk L lk L Q := by
  have C' := C
  obtain ⟨hk, hr, A⟩ := C
  have e6 : mem (2000 + (nI 6).toNatClampNeg) = nI (g 6) := hr.1.k 6 (by omega)
  refine zOk_do 60 (tbl := tX8_minutes) zck_172 rfl (by omega) (h := ?_)
  refine ⟨rfl, ok_misHouse (by omega) hk.1 hr.1 hN.le.1 (fun h0 => zT_ne ?_) (fun h0 => zF_ne ⟨rfl, rfl, qS h0⟩)⟩
  have hw := hN.wf h0
  refine ok_min (a := 1) (b := 24) (by omega) (by omega) (by omega) (fun c => zF_ne ⟨rfl, rfl, qB h0 c⟩) (fun n h1 h2 ex => zT_ne ⟨rfl, _, hk.1, Or.inl rfl, zwi0 (by omega), fun c3 => ?_, fun c3 => ⟨rfl, rfl, ?_⟩⟩)
  · have c4 : mem (2000 + (nI 6).toNatClampNeg) + x ≤ nI 999 := c3
    rw [e6, ex, nI_add, nLe (by omega) (by omega)] at c4
    have q4 := qG n h0 ex ⟨h1, h2⟩ c4
    subst ex
    exact minutes_mloop (by omega) hd n 0 u g gs mem (by omega) C' hw.1 (by omega) q4
  · have c3 : ¬ mem (2000 + (nI 6).toNatClampNeg) + x ≤ nI 999 := c3
    rw [e6, ex, nI_add, nLe (by omega) (by omega)] at c3
    exact qF n h0 ex ⟨h1, h2⟩ (by omega)
theorem ok_msendsBack {r e t ht : Nat} (hd : 0 < d) (hw : lk 1000 = some 2000) (hr : r + 43 ≤ 1247) (hb : zHB mem (2000 + r) g) (wf : zWF g) (he : e < g 0) (q : ∀ mem', zHB mem' (2000 + r) (zsend g e t ht) → zfr mem mem' (2000 + r) → Q none mem') : zOk X d 176 [.ref 1000, .int (nI r), .int (nI e), .int (nI t), .int (nI ht)] mem lk L lk L Q := by
  have h6 := wf.1
  have e1 := hb.rt hr h6 he
  have a1 : 2000 + (nI r + nI 13 + nI e).toNatClampNeg = 2000 + r + (13 + e) := by rw [zw2 (by omega)]; omega
  have a2 : 2000 + (nI r + nI 19 + nI e).toNatClampNeg = 2000 + r + (19 + e) := by rw [zw2 (by omega)]; omega
  have a3 : 2000 + (nI r + nI 31 + nI e).toNatClampNeg = 2000 + r + (31 + e) := by rw [zw2 (by omega)]; omega
  refine zOk_do 60 (tbl := tX8_sendsBack) zck_176 rfl (by omega) (h := ?_)
  refine ⟨rfl, _, hw, rfl, _, hw, Or.inl rfl, zwi2 (by omega), rfl, zwi2 (by omega), rfl, _, hw, rfl, zwi2 (by omega), rfl, _, hw, rfl, zwi2 (by omega), rfl, rfl, ?_⟩
  show Q none (upd (upd (upd mem (2000 + (nI r + nI 13 + nI e).toNatClampNeg) (mem (2000 + (nI r + nI 19 + nI e).toNatClampNeg))) (2000 + (nI r + nI 19 + nI e).toNatClampNeg) (nI t)) (2000 + (nI r + nI 31 + nI e).toNatClampNeg) (nI ht))
  rw [e1]
  exact q _ (((hb.set (13 + e) _ (by omega) a1).set (19 + e) t (by omega) a2).set (31 + e) ht (by omega) a3) (((zfr.up (by omega) (by omega)).tr (zfr.up (by omega) (by omega))).tr (zfr.up (by omega) (by omega)))
theorem ok_msend {x y z : Int32} (hd : 3 < d) (C : zMN mem lk u g gs) (hN : zNow g)
    (qB : zBadSend g x y z → Q (some (.int (-(nI 1000001)))) mem)
    (qS : ∀ e t h, e < g 0 → t < g 1 → h ≤ 60 → x = nI e → y = nI t → z = nI h → (g (13 + e) ≠ 11 ∨ g (19 + e) = t) → Q (some (.int (-(nI 1000002)))) mem)
    (qG : ∀ e t h, e < g 0 → t < g 1 → h ≤ 60 → x = nI e → y = nI t → z = nI h → g (13 + e) = 11 → g (19 + e) ≠ t → ∀ mem', zMN mem' lk (if u < 24 then u + 1 else 24) (zsend g e t h) (zpsh g gs) → zbfr mem mem' → Q (some (.int (nI (zbits (zsend g e t h) 11 (g 0))))) mem') : zOk X d 177 [.ref 1000, .int x, .int y, .int z] mem lk L lk L Q := by
  obtain ⟨hk, hr, A⟩ := C
  refine zOk_do 80 (tbl := tX8_send) zck_177 rfl (by omega) (h := ?_)
  refine ⟨rfl, ok_misDish (by omega) hk.1 hr.1 hN.le.1 (fun e he ex => zT_eq ⟨rfl, ?_⟩) (fun c => zF_eq ⟨rfl, rfl, qB (Or.inl c)⟩)⟩
  have hw := hN.wf (by omega)
  have w0 := hw.1.1
  have w1 := hw.1.2.2.1
  have w11 := hw.1.at11 e he
  obtain ⟨-, -, wt, -, -⟩ := hw.1.2.2.2.2.2.2.2.2 e he
  refine ok_misFloor (by omega) hk.1 hr.1 hN.le.2 (fun t ht ey => zT_eq ?_) (fun c => zF_eq ⟨rfl, rfl, qB (Or.inr (Or.inl c))⟩)
  refine ok_min (a := 0) (b := 60) (by omega) (by omega) (by omega) (fun c => zF_ne ⟨rfl, rfl, qB (Or.inr (Or.inr (by omega)))⟩) (fun h h1 h2 ez => zT_ne ?_)
  subst ex ey ez
  have ea : mem (2000 + (nI 13 + nI e).toNatClampNeg) = nI (g (13 + e)) := by rw [zw1 (by omega), show 2000 + (13 + e) = 2000 + 0 + 13 + e by omega]; exact hr.1.at he
  have eb : mem (2000 + (nI 19 + nI e).toNatClampNeg) = nI (g (19 + e)) := by rw [zw1 (by omega), show 2000 + (19 + e) = 2000 + 0 + 19 + e by omega]; exact hr.1.to he
  refine ⟨rfl, _, hk.1, Or.inl rfl, zwi1 (by omega), fun c3 => ⟨rfl, rfl, ?_⟩, fun c3 => ⟨rfl, _, hk.1, Or.inl rfl, zwi1 (by omega), fun c4 => ⟨rfl, ?_⟩, fun c4 => ⟨rfl, rfl, ?_⟩⟩⟩
  · have c3 : ¬ mem (2000 + (nI 13 + nI e).toNatClampNeg) = nI 11 := c3
    rw [ea, nEq (by omega) (by omega)] at c3
    exact qS e t h he ht h2 rfl rfl rfl (Or.inl c3)
  · have c3 : mem (2000 + (nI 13 + nI e).toNatClampNeg) = nI 11 := c3
    have c4 : ¬ mem (2000 + (nI 19 + nI e).toNatClampNeg) = nI t := c4
    rw [ea, nEq (by omega) (by omega)] at c3
    rw [eb, nEq (by omega) (by omega)] at c4
    refine ok_minds (by omega) hk.1 hr hw.1 A (fun m1 A1 f1 => ⟨rfl, ?_⟩)
    have hr1 : zRw m1 0 g := hr.same hw.1.1 (fun j hj => f1 _ (by omega) (by omega))
    have ws := zsend_wf hw.1 he ht h2
    have s0 : zsend g e t h 0 = g 0 := zsend_ne (by omega) (by omega) (by omega)
    refine ok_msendsBack (r := 0) (by omega) hk.1 (by omega) hr1.1 hw.1 he (fun m2 hb2 f2 => ⟨rfl, ok_mservedOf (r := 0) (by omega) hk.1 (by omega) hb2 (by omega) ws.at11 ⟨rfl, rfl, ?_⟩⟩)
    rw [s0]
    exact qG e t h he ht h2 rfl rfl rfl c3 c4 _ ⟨hk, hr1.to hb2 s0 f2, A1.fr f2⟩ (f1.b.tr (zfr.b f2))
  · have c4 : mem (2000 + (nI 19 + nI e).toNatClampNeg) = nI t := c4
    rw [eb, nEq (by omega) (by omega)] at c4
    exact qS e t h he ht h2 rfl rfl rfl (Or.inr c4)
end MA
end
