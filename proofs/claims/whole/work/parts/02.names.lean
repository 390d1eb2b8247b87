-- ===== PART A: goes FIRST, ahead of the names: the tables' words, and 'selects' of the private methods out of them =====
/-- a private method of a class that the tables say can be made, by its rows of tables_1 -/
def lw_okq (q : MethodName × Nat) : Prop := (q.1.cls ≠ "java/lang/invoke/MethodHandle" ∧ q.1.cls ≠ "java/lang/invoke/VarHandle") ∧ Cond.instantiable q.1.cls q.2 ∈ tables_1 ∧ Cond.privateMethod q.1 ∈ tables_1 ∧ Cond.instanceMethod q.1 ∈ tables_1
theorem lw_p0 : lw_okq (⟨"CargoHeel", "momentKept", "(I)I"⟩, 12) := ⟨⟨by decide +kernel, by decide +kernel⟩, List.mem_of_getElem? (i := 17) (by decide +kernel), List.mem_of_getElem? (i := 235) (by decide +kernel), List.mem_of_getElem? (i := 236) (by decide +kernel)⟩
theorem lw_p1 : lw_okq (⟨"java/lang/Throwable", "fillInStackTrace", "(I)Ljava/lang/Throwable;"⟩, 6) := ⟨⟨by decide +kernel, by decide +kernel⟩, List.mem_of_getElem? (i := 309) (by decide +kernel), List.mem_of_getElem? (i := 307) (by decide +kernel), List.mem_of_getElem? (i := 308) (by decide +kernel)⟩
theorem lw_p2 : lw_okq (⟨"CargoHeel", "mayBeStacked", "(II)Z"⟩, 12) := ⟨⟨by decide +kernel, by decide +kernel⟩, List.mem_of_getElem? (i := 17) (by decide +kernel), List.mem_of_getElem? (i := 459) (by decide +kernel), List.mem_of_getElem? (i := 460) (by decide +kernel)⟩
theorem lw_p3 : lw_okq (⟨"CargoHeel", "putInYard", "(II)V"⟩, 12) := ⟨⟨by decide +kernel, by decide +kernel⟩, List.mem_of_getElem? (i := 17) (by decide +kernel), List.mem_of_getElem? (i := 479) (by decide +kernel), List.mem_of_getElem? (i := 480) (by decide +kernel)⟩
theorem lw_p4 : lw_okq (⟨"CargoHeel", "isBox", "(I)Z"⟩, 12) := ⟨⟨by decide +kernel, by decide +kernel⟩, List.mem_of_getElem? (i := 17) (by decide +kernel), List.mem_of_getElem? (i := 500) (by decide +kernel), List.mem_of_getElem? (i := 501) (by decide +kernel)⟩
theorem lw_p5 : lw_okq (⟨"CargoHeel", "isAhead", "(I)Z"⟩, 12) := ⟨⟨by decide +kernel, by decide +kernel⟩, List.mem_of_getElem? (i := 17) (by decide +kernel), List.mem_of_getElem? (i := 518) (by decide +kernel), List.mem_of_getElem? (i := 519) (by decide +kernel)⟩
theorem lw_p6 : lw_okq (⟨"CargoHeel", "portBehind", "(I)I"⟩, 12) := ⟨⟨by decide +kernel, by decide +kernel⟩, List.mem_of_getElem? (i := 17) (by decide +kernel), List.mem_of_getElem? (i := 523) (by decide +kernel), List.mem_of_getElem? (i := 524) (by decide +kernel)⟩
theorem lw_p7 : lw_okq (⟨"CargoHeel", "isOrder", "(I)Z"⟩, 12) := ⟨⟨by decide +kernel, by decide +kernel⟩, List.mem_of_getElem? (i := 17) (by decide +kernel), List.mem_of_getElem? (i := 548) (by decide +kernel), List.mem_of_getElem? (i := 549) (by decide +kernel)⟩
theorem lw_p8 : lw_okq (⟨"CargoHeel", "workAnHour", "(I)I"⟩, 12) := ⟨⟨by decide +kernel, by decide +kernel⟩, List.mem_of_getElem? (i := 17) (by decide +kernel), List.mem_of_getElem? (i := 566) (by decide +kernel), List.mem_of_getElem? (i := 567) (by decide +kernel)⟩
theorem lw_p9 : lw_okq (⟨"CargoHeel", "firstFor", "(I)I"⟩, 12) := ⟨⟨by decide +kernel, by decide +kernel⟩, List.mem_of_getElem? (i := 17) (by decide +kernel), List.mem_of_getElem? (i := 570) (by decide +kernel), List.mem_of_getElem? (i := 571) (by decide +kernel)⟩
theorem lw_p10 : lw_okq (⟨"CargoHeel", "canDo", "(II)Z"⟩, 12) := ⟨⟨by decide +kernel, by decide +kernel⟩, List.mem_of_getElem? (i := 17) (by decide +kernel), List.mem_of_getElem? (i := 574) (by decide +kernel), List.mem_of_getElem? (i := 575) (by decide +kernel)⟩
theorem lw_p11 : lw_okq (⟨"CargoHeel", "canLoad", "(I)Z"⟩, 12) := ⟨⟨by decide +kernel, by decide +kernel⟩, List.mem_of_getElem? (i := 17) (by decide +kernel), List.mem_of_getElem? (i := 583) (by decide +kernel), List.mem_of_getElem? (i := 584) (by decide +kernel)⟩
theorem lw_p12 : lw_okq (⟨"CargoHeel", "mayBeIn", "(II)Z"⟩, 12) := ⟨⟨by decide +kernel, by decide +kernel⟩, List.mem_of_getElem? (i := 17) (by decide +kernel), List.mem_of_getElem? (i := 587) (by decide +kernel), List.mem_of_getElem? (i := 588) (by decide +kernel)⟩
theorem lw_p13 : lw_okq (⟨"CargoHeel", "isApartIn", "(II)Z"⟩, 12) := ⟨⟨by decide +kernel, by decide +kernel⟩, List.mem_of_getElem? (i := 17) (by decide +kernel), List.mem_of_getElem? (i := 597) (by decide +kernel), List.mem_of_getElem? (i := 598) (by decide +kernel)⟩
theorem lw_p14 : lw_okq (⟨"CargoHeel", "canTake", "(II)Z"⟩, 12) := ⟨⟨by decide +kernel, by decide +kernel⟩, List.mem_of_getElem? (i := 17) (by decide +kernel), List.mem_of_getElem? (i := 601) (by decide +kernel), List.mem_of_getElem? (i := 602) (by decide +kernel)⟩
theorem lw_p15 : lw_okq (⟨"CargoHeel", "isJammed", "(I)Z"⟩, 12) := ⟨⟨by decide +kernel, by decide +kernel⟩, List.mem_of_getElem? (i := 17) (by decide +kernel), List.mem_of_getElem? (i := 610) (by decide +kernel), List.mem_of_getElem? (i := 611) (by decide +kernel)⟩
def lw_privs_1 : List (MethodName × Nat) := [(⟨"CargoHeel", "momentKept", "(I)I"⟩, 12), (⟨"java/lang/Throwable", "fillInStackTrace", "(I)Ljava/lang/Throwable;"⟩, 6), (⟨"CargoHeel", "mayBeStacked", "(II)Z"⟩, 12), (⟨"CargoHeel", "putInYard", "(II)V"⟩, 12), (⟨"CargoHeel", "isBox", "(I)Z"⟩, 12), (⟨"CargoHeel", "isAhead", "(I)Z"⟩, 12), (⟨"CargoHeel", "portBehind", "(I)I"⟩, 12), (⟨"CargoHeel", "isOrder", "(I)Z"⟩, 12), (⟨"CargoHeel", "workAnHour", "(I)I"⟩, 12), (⟨"CargoHeel", "firstFor", "(I)I"⟩, 12), (⟨"CargoHeel", "canDo", "(II)Z"⟩, 12), (⟨"CargoHeel", "canLoad", "(I)Z"⟩, 12), (⟨"CargoHeel", "mayBeIn", "(II)Z"⟩, 12), (⟨"CargoHeel", "isApartIn", "(II)Z"⟩, 12), (⟨"CargoHeel", "canTake", "(II)Z"⟩, 12), (⟨"CargoHeel", "isJammed", "(I)Z"⟩, 12)]
theorem lw_r1 : ∀ q ∈ lw_privs_1, lw_okq q := List.forall_mem_cons.mpr ⟨lw_p0, List.forall_mem_cons.mpr ⟨lw_p1, List.forall_mem_cons.mpr ⟨lw_p2, List.forall_mem_cons.mpr ⟨lw_p3, List.forall_mem_cons.mpr ⟨lw_p4, List.forall_mem_cons.mpr ⟨lw_p5, List.forall_mem_cons.mpr ⟨lw_p6, List.forall_mem_cons.mpr ⟨lw_p7, List.forall_mem_cons.mpr ⟨lw_p8, List.forall_mem_cons.mpr ⟨lw_p9, List.forall_mem_cons.mpr ⟨lw_p10, List.forall_mem_cons.mpr ⟨lw_p11, List.forall_mem_cons.mpr ⟨lw_p12, List.forall_mem_cons.mpr ⟨lw_p13, List.forall_mem_cons.mpr ⟨lw_p14, List.forall_mem_cons.mpr ⟨lw_p15, fun _ h => absurd h List.not_mem_nil⟩⟩⟩⟩⟩⟩⟩⟩⟩⟩⟩⟩⟩⟩⟩⟩
theorem lw_p16 : lw_okq (⟨"CargoHeel", "lift", "(III)V"⟩, 12) := ⟨⟨by decide +kernel, by decide +kernel⟩, List.mem_of_getElem? (i := 17) (by decide +kernel), List.mem_of_getElem? (i := 619) (by decide +kernel), List.mem_of_getElem? (i := 620) (by decide +kernel)⟩
theorem lw_p17 : lw_okq (⟨"CargoHeel", "takeAway", "(I)V"⟩, 12) := ⟨⟨by decide +kernel, by decide +kernel⟩, List.mem_of_getElem? (i := 17) (by decide +kernel), List.mem_of_getElem? (i := 623) (by decide +kernel), List.mem_of_getElem? (i := 624) (by decide +kernel)⟩
theorem lw_p18 : lw_okq (⟨"CargoHeel$Ship", "addWeight", "(II)V"⟩, 7) := ⟨⟨by decide +kernel, by decide +kernel⟩, List.mem_of_getElem? (i := 91) (by decide +kernel), List.mem_of_getElem? (i := 631) (by decide +kernel), List.mem_of_getElem? (i := 632) (by decide +kernel)⟩
theorem lw_p19 : lw_okq (⟨"CargoHeel", "putOnShip", "(II)V"⟩, 12) := ⟨⟨by decide +kernel, by decide +kernel⟩, List.mem_of_getElem? (i := 17) (by decide +kernel), List.mem_of_getElem? (i := 642) (by decide +kernel), List.mem_of_getElem? (i := 643) (by decide +kernel)⟩
theorem lw_p20 : lw_okq (⟨"CargoHeel", "overdueBoxes", "()I"⟩, 12) := ⟨⟨by decide +kernel, by decide +kernel⟩, List.mem_of_getElem? (i := 17) (by decide +kernel), List.mem_of_getElem? (i := 650) (by decide +kernel), List.mem_of_getElem? (i := 651) (by decide +kernel)⟩
theorem lw_p21 : lw_okq (⟨"CargoHeel", "boxesOn", "(I)I"⟩, 12) := ⟨⟨by decide +kernel, by decide +kernel⟩, List.mem_of_getElem? (i := 17) (by decide +kernel), List.mem_of_getElem? (i := 678) (by decide +kernel), List.mem_of_getElem? (i := 679) (by decide +kernel)⟩
theorem lw_p22 : lw_okq (⟨"CargoHeelModel", "stackMay", "(II)Z"⟩, 31) := ⟨⟨by decide +kernel, by decide +kernel⟩, List.mem_of_getElem? (i := 749) (by decide +kernel), List.mem_of_getElem? (i := 896) (by decide +kernel), List.mem_of_getElem? (i := 897) (by decide +kernel)⟩
theorem lw_p23 : lw_okq (⟨"CargoHeelModel", "fits", "(II)Z"⟩, 31) := ⟨⟨by decide +kernel, by decide +kernel⟩, List.mem_of_getElem? (i := 749) (by decide +kernel), List.mem_of_getElem? (i := 900) (by decide +kernel), List.mem_of_getElem? (i := 901) (by decide +kernel)⟩
theorem lw_p24 : lw_okq (⟨"CargoHeelModel", "comesTo", "(II)V"⟩, 31) := ⟨⟨by decide +kernel, by decide +kernel⟩, List.mem_of_getElem? (i := 749) (by decide +kernel), List.mem_of_getElem? (i := 904) (by decide +kernel), List.mem_of_getElem? (i := 905) (by decide +kernel)⟩
theorem lw_p25 : lw_okq (⟨"CargoHeelModel", "isBox", "(I)Z"⟩, 31) := ⟨⟨by decide +kernel, by decide +kernel⟩, List.mem_of_getElem? (i := 749) (by decide +kernel), List.mem_of_getElem? (i := 912) (by decide +kernel), List.mem_of_getElem? (i := 913) (by decide +kernel)⟩
theorem lw_p26 : lw_okq (⟨"CargoHeelModel", "isHeld", "(I)Z"⟩, 31) := ⟨⟨by decide +kernel, by decide +kernel⟩, List.mem_of_getElem? (i := 749) (by decide +kernel), List.mem_of_getElem? (i := 916) (by decide +kernel), List.mem_of_getElem? (i := 917) (by decide +kernel)⟩
theorem lw_p27 : lw_okq (⟨"CargoHeelModel", "isAhead", "(I)Z"⟩, 31) := ⟨⟨by decide +kernel, by decide +kernel⟩, List.mem_of_getElem? (i := 749) (by decide +kernel), List.mem_of_getElem? (i := 924) (by decide +kernel), List.mem_of_getElem? (i := 925) (by decide +kernel)⟩
theorem lw_p28 : lw_okq (⟨"CargoHeelModel", "nextPort", "(I)I"⟩, 31) := ⟨⟨by decide +kernel, by decide +kernel⟩, List.mem_of_getElem? (i := 749) (by decide +kernel), List.mem_of_getElem? (i := 928) (by decide +kernel), List.mem_of_getElem? (i := 929) (by decide +kernel)⟩
theorem lw_p29 : lw_okq (⟨"CargoHeelModel", "isOrder", "(I)Z"⟩, 31) := ⟨⟨by decide +kernel, by decide +kernel⟩, List.mem_of_getElem? (i := 749) (by decide +kernel), List.mem_of_getElem? (i := 940) (by decide +kernel), List.mem_of_getElem? (i := 941) (by decide +kernel)⟩
theorem lw_p30 : lw_okq (⟨"CargoHeelModel", "removes", "(I)V"⟩, 31) := ⟨⟨by decide +kernel, by decide +kernel⟩, List.mem_of_getElem? (i := 749) (by decide +kernel), List.mem_of_getElem? (i := 944) (by decide +kernel), List.mem_of_getElem? (i := 945) (by decide +kernel)⟩
theorem lw_p31 : lw_okq (⟨"CargoHeelModel", "liftsOf", "(I)I"⟩, 31) := ⟨⟨by decide +kernel, by decide +kernel⟩, List.mem_of_getElem? (i := 749) (by decide +kernel), List.mem_of_getElem? (i := 952) (by decide +kernel), List.mem_of_getElem? (i := 953) (by decide +kernel)⟩
def lw_privs_2 : List (MethodName × Nat) := [(⟨"CargoHeel", "lift", "(III)V"⟩, 12), (⟨"CargoHeel", "takeAway", "(I)V"⟩, 12), (⟨"CargoHeel$Ship", "addWeight", "(II)V"⟩, 7), (⟨"CargoHeel", "putOnShip", "(II)V"⟩, 12), (⟨"CargoHeel", "overdueBoxes", "()I"⟩, 12), (⟨"CargoHeel", "boxesOn", "(I)I"⟩, 12), (⟨"CargoHeelModel", "stackMay", "(II)Z"⟩, 31), (⟨"CargoHeelModel", "fits", "(II)Z"⟩, 31), (⟨"CargoHeelModel", "comesTo", "(II)V"⟩, 31), (⟨"CargoHeelModel", "isBox", "(I)Z"⟩, 31), (⟨"CargoHeelModel", "isHeld", "(I)Z"⟩, 31), (⟨"CargoHeelModel", "isAhead", "(I)Z"⟩, 31), (⟨"CargoHeelModel", "nextPort", "(I)I"⟩, 31), (⟨"CargoHeelModel", "isOrder", "(I)Z"⟩, 31), (⟨"CargoHeelModel", "removes", "(I)V"⟩, 31), (⟨"CargoHeelModel", "liftsOf", "(I)I"⟩, 31)]
theorem lw_r2 : ∀ q ∈ lw_privs_2, lw_okq q := List.forall_mem_cons.mpr ⟨lw_p16, List.forall_mem_cons.mpr ⟨lw_p17, List.forall_mem_cons.mpr ⟨lw_p18, List.forall_mem_cons.mpr ⟨lw_p19, List.forall_mem_cons.mpr ⟨lw_p20, List.forall_mem_cons.mpr ⟨lw_p21, List.forall_mem_cons.mpr ⟨lw_p22, List.forall_mem_cons.mpr ⟨lw_p23, List.forall_mem_cons.mpr ⟨lw_p24, List.forall_mem_cons.mpr ⟨lw_p25, List.forall_mem_cons.mpr ⟨lw_p26, List.forall_mem_cons.mpr ⟨lw_p27, List.forall_mem_cons.mpr ⟨lw_p28, List.forall_mem_cons.mpr ⟨lw_p29, List.forall_mem_cons.mpr ⟨lw_p30, List.forall_mem_cons.mpr ⟨lw_p31, fun _ h => absurd h List.not_mem_nil⟩⟩⟩⟩⟩⟩⟩⟩⟩⟩⟩⟩⟩⟩⟩⟩
theorem lw_p32 : lw_okq (⟨"CargoHeelModel", "isDoable", "(II)Z"⟩, 31) := ⟨⟨by decide +kernel, by decide +kernel⟩, List.mem_of_getElem? (i := 749) (by decide +kernel), List.mem_of_getElem? (i := 956) (by decide +kernel), List.mem_of_getElem? (i := 957) (by decide +kernel)⟩
theorem lw_p33 : lw_okq (⟨"CargoHeelModel", "reaches", "(II)Z"⟩, 31) := ⟨⟨by decide +kernel, by decide +kernel⟩, List.mem_of_getElem? (i := 749) (by decide +kernel), List.mem_of_getElem? (i := 960) (by decide +kernel), List.mem_of_getElem? (i := 961) (by decide +kernel)⟩
theorem lw_p34 : lw_okq (⟨"CargoHeelModel", "isWithin", "(II)Z"⟩, 31) := ⟨⟨by decide +kernel, by decide +kernel⟩, List.mem_of_getElem? (i := 749) (by decide +kernel), List.mem_of_getElem? (i := 964) (by decide +kernel), List.mem_of_getElem? (i := 965) (by decide +kernel)⟩
theorem lw_p35 : lw_okq (⟨"CargoHeelModel", "isPossible", "(I)Z"⟩, 31) := ⟨⟨by decide +kernel, by decide +kernel⟩, List.mem_of_getElem? (i := 749) (by decide +kernel), List.mem_of_getElem? (i := 968) (by decide +kernel), List.mem_of_getElem? (i := 969) (by decide +kernel)⟩
theorem lw_p36 : lw_okq (⟨"CargoHeelModel", "isOnTop", "(I)Z"⟩, 31) := ⟨⟨by decide +kernel, by decide +kernel⟩, List.mem_of_getElem? (i := 749) (by decide +kernel), List.mem_of_getElem? (i := 972) (by decide +kernel), List.mem_of_getElem? (i := 973) (by decide +kernel)⟩
theorem lw_p37 : lw_okq (⟨"CargoHeelModel", "slotMay", "(II)Z"⟩, 31) := ⟨⟨by decide +kernel, by decide +kernel⟩, List.mem_of_getElem? (i := 749) (by decide +kernel), List.mem_of_getElem? (i := 976) (by decide +kernel), List.mem_of_getElem? (i := 977) (by decide +kernel)⟩
theorem lw_p38 : lw_okq (⟨"CargoHeelModel", "isDangerous", "(I)Z"⟩, 31) := ⟨⟨by decide +kernel, by decide +kernel⟩, List.mem_of_getElem? (i := 749) (by decide +kernel), List.mem_of_getElem? (i := 980) (by decide +kernel), List.mem_of_getElem? (i := 981) (by decide +kernel)⟩
theorem lw_p39 : lw_okq (⟨"CargoHeelModel", "isApart", "(II)Z"⟩, 31) := ⟨⟨by decide +kernel, by decide +kernel⟩, List.mem_of_getElem? (i := 749) (by decide +kernel), List.mem_of_getElem? (i := 984) (by decide +kernel), List.mem_of_getElem? (i := 985) (by decide +kernel)⟩
theorem lw_p40 : lw_okq (⟨"CargoHeelModel", "canTake", "(I)Z"⟩, 31) := ⟨⟨by decide +kernel, by decide +kernel⟩, List.mem_of_getElem? (i := 749) (by decide +kernel), List.mem_of_getElem? (i := 988) (by decide +kernel), List.mem_of_getElem? (i := 989) (by decide +kernel)⟩
theorem lw_p41 : lw_okq (⟨"CargoHeelModel", "canOpen", "(I)Z"⟩, 31) := ⟨⟨by decide +kernel, by decide +kernel⟩, List.mem_of_getElem? (i := 749) (by decide +kernel), List.mem_of_getElem? (i := 992) (by decide +kernel), List.mem_of_getElem? (i := 993) (by decide +kernel)⟩
theorem lw_p42 : lw_okq (⟨"CargoHeelModel", "hasOnTop", "(I)Z"⟩, 31) := ⟨⟨by decide +kernel, by decide +kernel⟩, List.mem_of_getElem? (i := 749) (by decide +kernel), List.mem_of_getElem? (i := 996) (by decide +kernel), List.mem_of_getElem? (i := 997) (by decide +kernel)⟩
theorem lw_p43 : lw_okq (⟨"CargoHeelModel", "does", "(I)V"⟩, 31) := ⟨⟨by decide +kernel, by decide +kernel⟩, List.mem_of_getElem? (i := 749) (by decide +kernel), List.mem_of_getElem? (i := 1000) (by decide +kernel), List.mem_of_getElem? (i := 1001) (by decide +kernel)⟩
theorem lw_p44 : lw_okq (⟨"CargoHeelModel", "comesAboard", "(II)V"⟩, 31) := ⟨⟨by decide +kernel, by decide +kernel⟩, List.mem_of_getElem? (i := 749) (by decide +kernel), List.mem_of_getElem? (i := 1004) (by decide +kernel), List.mem_of_getElem? (i := 1005) (by decide +kernel)⟩
theorem lw_p45 : lw_okq (⟨"CargoHeelModel", "barsNow", "()I"⟩, 31) := ⟨⟨by decide +kernel, by decide +kernel⟩, List.mem_of_getElem? (i := 749) (by decide +kernel), List.mem_of_getElem? (i := 1012) (by decide +kernel), List.mem_of_getElem? (i := 1013) (by decide +kernel)⟩
theorem lw_p46 : lw_okq (⟨"CargoHeelModel", "momentOf", "(I)I"⟩, 31) := ⟨⟨by decide +kernel, by decide +kernel⟩, List.mem_of_getElem? (i := 749) (by decide +kernel), List.mem_of_getElem? (i := 1016) (by decide +kernel), List.mem_of_getElem? (i := 1017) (by decide +kernel)⟩
theorem lw_p47 : lw_okq (⟨"CargoHeelModel", "liesOn", "(I)I"⟩, 31) := ⟨⟨by decide +kernel, by decide +kernel⟩, List.mem_of_getElem? (i := 749) (by decide +kernel), List.mem_of_getElem? (i := 1042) (by decide +kernel), List.mem_of_getElem? (i := 1043) (by decide +kernel)⟩
def lw_privs_3 : List (MethodName × Nat) := [(⟨"CargoHeelModel", "isDoable", "(II)Z"⟩, 31), (⟨"CargoHeelModel", "reaches", "(II)Z"⟩, 31), (⟨"CargoHeelModel", "isWithin", "(II)Z"⟩, 31), (⟨"CargoHeelModel", "isPossible", "(I)Z"⟩, 31), (⟨"CargoHeelModel", "isOnTop", "(I)Z"⟩, 31), (⟨"CargoHeelModel", "slotMay", "(II)Z"⟩, 31), (⟨"CargoHeelModel", "isDangerous", "(I)Z"⟩, 31), (⟨"CargoHeelModel", "isApart", "(II)Z"⟩, 31), (⟨"CargoHeelModel", "canTake", "(I)Z"⟩, 31), (⟨"CargoHeelModel", "canOpen", "(I)Z"⟩, 31), (⟨"CargoHeelModel", "hasOnTop", "(I)Z"⟩, 31), (⟨"CargoHeelModel", "does", "(I)V"⟩, 31), (⟨"CargoHeelModel", "comesAboard", "(II)V"⟩, 31), (⟨"CargoHeelModel", "barsNow", "()I"⟩, 31), (⟨"CargoHeelModel", "momentOf", "(I)I"⟩, 31), (⟨"CargoHeelModel", "liesOn", "(I)I"⟩, 31)]
theorem lw_r3 : ∀ q ∈ lw_privs_3, lw_okq q := List.forall_mem_cons.mpr ⟨lw_p32, List.forall_mem_cons.mpr ⟨lw_p33, List.forall_mem_cons.mpr ⟨lw_p34, List.forall_mem_cons.mpr ⟨lw_p35, List.forall_mem_cons.mpr ⟨lw_p36, List.forall_mem_cons.mpr ⟨lw_p37, List.forall_mem_cons.mpr ⟨lw_p38, List.forall_mem_cons.mpr ⟨lw_p39, List.forall_mem_cons.mpr ⟨lw_p40, List.forall_mem_cons.mpr ⟨lw_p41, List.forall_mem_cons.mpr ⟨lw_p42, List.forall_mem_cons.mpr ⟨lw_p43, List.forall_mem_cons.mpr ⟨lw_p44, List.forall_mem_cons.mpr ⟨lw_p45, List.forall_mem_cons.mpr ⟨lw_p46, List.forall_mem_cons.mpr ⟨lw_p47, fun _ h => absurd h List.not_mem_nil⟩⟩⟩⟩⟩⟩⟩⟩⟩⟩⟩⟩⟩⟩⟩⟩
def lw_privs : List (MethodName × Nat) := lw_privs_1 ++ (lw_privs_2 ++ (lw_privs_3))
def lw_tbl : List Cond := k2_sels lw_privs ++ tables_1
theorem lw_privs_ok : ∀ q ∈ lw_privs, lw_okq q := by
  show ∀ q ∈ lw_privs_1 ++ (lw_privs_2 ++ (lw_privs_3)), lw_okq q
  exact List.forall_mem_append.mpr ⟨lw_r1, List.forall_mem_append.mpr ⟨lw_r2, lw_r3⟩⟩

/-! the good words of the tables, as one list; names of classes, fields, methods -/
def TBL : List Cond := lw_tbl.filter goodWord
theorem tb_s {w : Cond} (i : Nat) (h : (k2_sels lw_privs)[i]? = some w) (hg : goodWord w = true) : w ∈ TBL := List.mem_filter.mpr ⟨List.mem_append_left _ (List.mem_of_getElem? h), hg⟩
theorem tb_1 {w : Cond} (i : Nat) (h : tables_1_1[i]? = some w) (hg : goodWord w = true) : w ∈ TBL := List.mem_filter.mpr ⟨List.mem_append_right _ (List.mem_append_left _ (List.mem_of_getElem? h)), hg⟩
theorem tb_2 {w : Cond} (i : Nat) (h : tables_1_2[i]? = some w) (hg : goodWord w = true) : w ∈ TBL := List.mem_filter.mpr ⟨List.mem_append_right _ (List.mem_append_right _ (List.mem_append_left _ (List.mem_of_getElem? h))), hg⟩
theorem tb_3 {w : Cond} (i : Nat) (h : tables_1_3[i]? = some w) (hg : goodWord w = true) : w ∈ TBL := List.mem_filter.mpr ⟨List.mem_append_right _ (List.mem_append_right _ (List.mem_append_right _ (List.mem_append_left _ (List.mem_of_getElem? h)))), hg⟩
theorem tb_4 {w : Cond} (i : Nat) (h : tables_1_4[i]? = some w) (hg : goodWord w = true) : w ∈ TBL := List.mem_filter.mpr ⟨List.mem_append_right _ (List.mem_append_right _ (List.mem_append_right _ (List.mem_append_right _ (List.mem_append_left _ (List.mem_of_getElem? h))))), hg⟩
theorem tb_5 {w : Cond} (i : Nat) (h : tables_1_5[i]? = some w) (hg : goodWord w = true) : w ∈ TBL := List.mem_filter.mpr ⟨List.mem_append_right _ (List.mem_append_right _ (List.mem_append_right _ (List.mem_append_right _ (List.mem_append_right _ (List.mem_of_getElem? h))))), hg⟩
def RX0 : String := "CargoHeel$Boxes"
def TX0 : u_T := fun k => match k with
  | 0 => ("CargoHeel$Boxes", "told", "LCargoHeel$Row;", true)
  | 1 => ("CargoHeel$Boxes", "truth", "LCargoHeel$Row;", true)
  | 2 => ("CargoHeel$Boxes", "port", "LCargoHeel$Row;", true)
  | 3 => ("CargoHeel$Boxes", "kind", "LCargoHeel$Row;", true)
  | 4 => ("CargoHeel$Boxes", "papers", "LCargoHeel$Row;", true)
  | 5 => ("CargoHeel$Boxes", "where", "LCargoHeel$Row;", true)
  | 6 => ("CargoHeel$Boxes", "place", "LCargoHeel$Row;", true)
  | _ => ("CargoHeel$Boxes", "count", "I", false)
def tyX0 : Nat → FieldType := fun k => match k with
  | 0 => .object "CargoHeel$Row"
  | 1 => .object "CargoHeel$Row"
  | 2 => .object "CargoHeel$Row"
  | 3 => .object "CargoHeel$Row"
  | 4 => .object "CargoHeel$Row"
  | 5 => .object "CargoHeel$Row"
  | 6 => .object "CargoHeel$Row"
  | _ => .int
abbrev wsX00 : List Cond := u_ws RX0 TX0 8
theorem nmX0 : ∀ a, a < 8 → ∀ b, b < 8 → a ≠ b → (TX0 a).2.1 ≠ (TX0 b).2.1 := by decide +kernel
theorem tyX0_ok : ∀ k, k < 8 → parseFieldDescriptor (TX0 k).2.2.1 = some (tyX0 k) := by decide +kernel
abbrev cX0_init : ByteArray := prog_2_method_1_code
def yX0_init : MethodName := ⟨RX0, "<init>", "()V"⟩
abbrev cX0_come : ByteArray := prog_2_method_2_code
def yX0_come : MethodName := ⟨RX0, "come", "(IIII)I"⟩
abbrev cX0_isHeld : ByteArray := prog_2_method_3_code
def yX0_isHeld : MethodName := ⟨RX0, "isHeld", "(I)Z"⟩
abbrev cX0_mayCarry : ByteArray := prog_2_method_4_code
def yX0_mayCarry : MethodName := ⟨RX0, "mayCarry", "(II)Z"⟩
abbrev cX0_move : ByteArray := prog_2_method_5_code
def yX0_move : MethodName := ⟨RX0, "move", "(III)V"⟩
def RX1 : String := "CargoHeel$Cranes"
def TX1 : u_T := fun k => match k with
  | 0 => ("CargoHeel$Cranes", "from", "LCargoHeel$Row;", true)
  | 1 => ("CargoHeel$Cranes", "to", "LCargoHeel$Row;", true)
  | _ => ("CargoHeel$Cranes", "lifts", "LCargoHeel$Row;", true)
def tyX1 : Nat → FieldType := fun k => match k with
  | 0 => .object "CargoHeel$Row"
  | 1 => .object "CargoHeel$Row"
  | _ => .object "CargoHeel$Row"
abbrev wsX10 : List Cond := u_ws RX1 TX1 3
theorem nmX1 : ∀ a, a < 3 → ∀ b, b < 3 → a ≠ b → (TX1 a).2.1 ≠ (TX1 b).2.1 := by decide +kernel
theorem tyX1_ok : ∀ k, k < 3 → parseFieldDescriptor (TX1 k).2.2.1 = some (tyX1 k) := by decide +kernel
abbrev cX1_init : ByteArray := prog_3_method_1_code
def yX1_init : MethodName := ⟨RX1, "<init>", "()V"⟩
abbrev cX1_reaches : ByteArray := prog_3_method_2_code
def yX1_reaches : MethodName := ⟨RX1, "reaches", "(II)Z"⟩
def RX2 : String := "CargoHeel$Queue"
def TX2 : u_T := fun k => match k with
  | 0 => ("CargoHeel$Queue", "what", "LCargoHeel$Row;", true)
  | 1 => ("CargoHeel$Queue", "its", "LCargoHeel$Row;", true)
  | 2 => ("CargoHeel$Queue", "place", "LCargoHeel$Row;", true)
  | _ => ("CargoHeel$Queue", "count", "I", false)
def tyX2 : Nat → FieldType := fun k => match k with
  | 0 => .object "CargoHeel$Row"
  | 1 => .object "CargoHeel$Row"
  | 2 => .object "CargoHeel$Row"
  | _ => .int
abbrev wsX20 : List Cond := u_ws RX2 TX2 4
theorem nmX2 : ∀ a, a < 4 → ∀ b, b < 4 → a ≠ b → (TX2 a).2.1 ≠ (TX2 b).2.1 := by decide +kernel
theorem tyX2_ok : ∀ k, k < 4 → parseFieldDescriptor (TX2 k).2.2.1 = some (tyX2 k) := by decide +kernel
abbrev cX2_init : ByteArray := prog_4_method_1_code
def yX2_init : MethodName := ⟨RX2, "<init>", "()V"⟩
abbrev cX2_append : ByteArray := prog_4_method_2_code
def yX2_append : MethodName := ⟨RX2, "append", "(III)V"⟩
abbrev cX2_remove : ByteArray := prog_4_method_3_code
def yX2_remove : MethodName := ⟨RX2, "remove", "(I)V"⟩
def RX3 : String := "CargoHeel$Row"
def TX3 : u_T := fun k => match k with
  | _ => ("CargoHeel$Row", "cells", "[I", true)
def tyX3 : Nat → FieldType := fun k => match k with
  | _ => .array .int
abbrev wsX30 : List Cond := u_ws RX3 TX3 1
theorem nmX3 : ∀ a, a < 1 → ∀ b, b < 1 → a ≠ b → (TX3 a).2.1 ≠ (TX3 b).2.1 := by decide +kernel
theorem tyX3_ok : ∀ k, k < 1 → parseFieldDescriptor (TX3 k).2.2.1 = some (tyX3 k) := by decide +kernel
abbrev cX3_init : ByteArray := prog_5_method_1_code
def yX3_init : MethodName := ⟨RX3, "<init>", "(II)V"⟩
abbrev cX3_get : ByteArray := prog_5_method_2_code
def yX3_get : MethodName := ⟨RX3, "get", "(I)I"⟩
abbrev cX3_set : ByteArray := prog_5_method_3_code
def yX3_set : MethodName := ⟨RX3, "set", "(II)V"⟩
abbrev cX3_add : ByteArray := prog_5_method_4_code
def yX3_add : MethodName := ⟨RX3, "add", "(II)V"⟩
abbrev cX3_fill : ByteArray := prog_5_method_5_code
def yX3_fill : MethodName := ⟨RX3, "fill", "(I)V"⟩
def RX4 : String := "CargoHeel$Ship"
def TX4 : u_T := fun k => match k with
  | 0 => ("CargoHeel$Ship", "open", "LCargoHeel$Row;", true)
  | 1 => ("CargoHeel$Ship", "jammedTill", "LCargoHeel$Row;", true)
  | 2 => ("CargoHeel$Ship", "water", "LCargoHeel$Row;", true)
  | 3 => ("CargoHeel$Ship", "load", "LCargoHeel$Row;", true)
  | 4 => ("CargoHeel$Ship", "heel", "I", false)
  | 5 => ("CargoHeel$Ship", "held", "LCargoHeel$Row;", true)
  | _ => ("CargoHeel$Ship", "plugs", "LCargoHeel$Row;", true)
def tyX4 : Nat → FieldType := fun k => match k with
  | 0 => .object "CargoHeel$Row"
  | 1 => .object "CargoHeel$Row"
  | 2 => .object "CargoHeel$Row"
  | 3 => .object "CargoHeel$Row"
  | 4 => .int
  | 5 => .object "CargoHeel$Row"
  | _ => .object "CargoHeel$Row"
abbrev wsX40 : List Cond := u_ws RX4 TX4 7
theorem nmX4 : ∀ a, a < 7 → ∀ b, b < 7 → a ≠ b → (TX4 a).2.1 ≠ (TX4 b).2.1 := by decide +kernel
theorem tyX4_ok : ∀ k, k < 7 → parseFieldDescriptor (TX4 k).2.2.1 = some (tyX4 k) := by decide +kernel
abbrev cX4_init : ByteArray := prog_6_method_1_code
def yX4_init : MethodName := ⟨RX4, "<init>", "()V"⟩
abbrev cX4_cellOf : ByteArray := prog_6_method_2_code
def yX4_cellOf : MethodName := ⟨RX4, "cellOf", "(I)I"⟩
abbrev cX4_boxIn : ByteArray := prog_6_method_3_code
def yX4_boxIn : MethodName := ⟨RX4, "boxIn", "(I)I"⟩
abbrev cX4_boxOver : ByteArray := prog_6_method_4_code
def yX4_boxOver : MethodName := ⟨RX4, "boxOver", "(I)I"⟩
abbrev cX4_boxesOnTop : ByteArray := prog_6_method_5_code
def yX4_boxesOnTop : MethodName := ⟨RX4, "boxesOnTop", "(I)I"⟩
abbrev cX4_isOpen : ByteArray := prog_6_method_6_code
def yX4_isOpen : MethodName := ⟨RX4, "isOpen", "(I)Z"⟩
abbrev cX4_hasPlug : ByteArray := prog_6_method_7_code
def yX4_hasPlug : MethodName := ⟨RX4, "hasPlug", "(I)Z"⟩
abbrev cX4_turnPlug : ByteArray := prog_6_method_8_code
def yX4_turnPlug : MethodName := ⟨RX4, "turnPlug", "(I)V"⟩
abbrev cX4_put : ByteArray := prog_6_method_9_code
def yX4_put : MethodName := ⟨RX4, "put", "(III)V"⟩
abbrev cX4_take : ByteArray := prog_6_method_10_code
def yX4_take : MethodName := ⟨RX4, "take", "(II)V"⟩
abbrev cX4_addWeight : ByteArray := prog_6_method_11_code
def yX4_addWeight : MethodName := ⟨RX4, "addWeight", "(II)V"⟩
def RX5 : String := "CargoHeel$Yard"
def TX5 : u_T := fun k => match k with
  | 0 => ("CargoHeel$Yard", "height", "LCargoHeel$Row;", true)
  | _ => ("CargoHeel$Yard", "held", "LCargoHeel$Row;", true)
def tyX5 : Nat → FieldType := fun k => match k with
  | 0 => .object "CargoHeel$Row"
  | _ => .object "CargoHeel$Row"
abbrev wsX50 : List Cond := u_ws RX5 TX5 2
theorem nmX5 : ∀ a, a < 2 → ∀ b, b < 2 → a ≠ b → (TX5 a).2.1 ≠ (TX5 b).2.1 := by decide +kernel
theorem tyX5_ok : ∀ k, k < 2 → parseFieldDescriptor (TX5 k).2.2.1 = some (tyX5 k) := by decide +kernel
abbrev cX5_init : ByteArray := prog_7_method_1_code
def yX5_init : MethodName := ⟨RX5, "<init>", "()V"⟩
abbrev cX5_boxIn : ByteArray := prog_7_method_2_code
def yX5_boxIn : MethodName := ⟨RX5, "boxIn", "(II)I"⟩
abbrev cX5_topOf : ByteArray := prog_7_method_3_code
def yX5_topOf : MethodName := ⟨RX5, "topOf", "(I)I"⟩
abbrev cX5_boxesOver : ByteArray := prog_7_method_4_code
def yX5_boxesOver : MethodName := ⟨RX5, "boxesOver", "(II)I"⟩
abbrev cX5_put : ByteArray := prog_7_method_5_code
def yX5_put : MethodName := ⟨RX5, "put", "(II)V"⟩
abbrev cX5_takeTop : ByteArray := prog_7_method_6_code
def yX5_takeTop : MethodName := ⟨RX5, "takeTop", "(I)V"⟩
abbrev cX5_clear : ByteArray := prog_7_method_7_code
def yX5_clear : MethodName := ⟨RX5, "clear", "()V"⟩
def RX6 : String := "CargoHeel"
def TX6 : u_T := fun k => match k with
  | 0 => ("CargoHeel", "boxes", "LCargoHeel$Boxes;", true)
  | 1 => ("CargoHeel", "yard", "LCargoHeel$Yard;", true)
  | 2 => ("CargoHeel", "ship", "LCargoHeel$Ship;", true)
  | 3 => ("CargoHeel", "queue", "LCargoHeel$Queue;", true)
  | 4 => ("CargoHeel", "cranes", "LCargoHeel$Cranes;", true)
  | 5 => ("CargoHeel", "leftOut", "LCargoHeel$Row;", true)
  | 6 => ("CargoHeel", "hour", "I", false)
  | 7 => ("CargoHeel", "port", "I", false)
  | 8 => ("CargoHeel", "paid", "I", false)
  | 9 => ("CargoHeel", "trimBound", "I", false)
  | 10 => ("CargoHeel", "heelBound", "I", false)
  | _ => ("CargoHeel", "bendingBound", "I", false)
def tyX6 : Nat → FieldType := fun k => match k with
  | 0 => .object "CargoHeel$Boxes"
  | 1 => .object "CargoHeel$Yard"
  | 2 => .object "CargoHeel$Ship"
  | 3 => .object "CargoHeel$Queue"
  | 4 => .object "CargoHeel$Cranes"
  | 5 => .object "CargoHeel$Row"
  | 6 => .int
  | 7 => .int
  | 8 => .int
  | 9 => .int
  | 10 => .int
  | _ => .int
abbrev wsX60 : List Cond := u_ws RX6 TX6 12
theorem nmX6 : ∀ a, a < 12 → ∀ b, b < 12 → a ≠ b → (TX6 a).2.1 ≠ (TX6 b).2.1 := by decide +kernel
theorem tyX6_ok : ∀ k, k < 12 → parseFieldDescriptor (TX6 k).2.2.1 = some (tyX6 k) := by decide +kernel
abbrev cX6_init : ByteArray := prog_1_method_1_code
def yX6_init : MethodName := ⟨RX6, "<init>", "()V"⟩
abbrev cX6_plug : ByteArray := prog_1_method_2_code
def yX6_plug : MethodName := ⟨RX6, "plug", "(I)Z"⟩
abbrev cX6_bounds : ByteArray := prog_1_method_3_code
def yX6_bounds : MethodName := ⟨RX6, "bounds", "(III)V"⟩
abbrev cX6_tank : ByteArray := prog_1_method_4_code
def yX6_tank : MethodName := ⟨RX6, "tank", "(II)I"⟩
abbrev cX6_jam : ByteArray := prog_1_method_5_code
def yX6_jam : MethodName := ⟨RX6, "jam", "(II)I"⟩
abbrev cX6_crane : ByteArray := prog_1_method_6_code
def yX6_crane : MethodName := ⟨RX6, "crane", "(IIII)V"⟩
abbrev cX6_box : ByteArray := prog_1_method_7_code
def yX6_box : MethodName := ⟨RX6, "box", "(IIIII)I"⟩
abbrev cX6_paper : ByteArray := prog_1_method_8_code
def yX6_paper : MethodName := ⟨RX6, "paper", "(II)Z"⟩
abbrev cX6_skip : ByteArray := prog_1_method_9_code
def yX6_skip : MethodName := ⟨RX6, "skip", "(I)I"⟩
abbrev cX6_order : ByteArray := prog_1_method_10_code
def yX6_order : MethodName := ⟨RX6, "order", "(III)I"⟩
abbrev cX6_drop : ByteArray := prog_1_method_11_code
def yX6_drop : MethodName := ⟨RX6, "drop", "(I)I"⟩
abbrev cX6_pass : ByteArray := prog_1_method_12_code
def yX6_pass : MethodName := ⟨RX6, "pass", "(I)I"⟩
abbrev cX6_leave : ByteArray := prog_1_method_13_code
def yX6_leave : MethodName := ⟨RX6, "leave", "()I"⟩
abbrev cX6_hour : ByteArray := prog_1_method_14_code
def yX6_hour : MethodName := ⟨RX6, "hour", "()I"⟩
abbrev cX6_port : ByteArray := prog_1_method_15_code
def yX6_port : MethodName := ⟨RX6, "port", "()I"⟩
abbrev cX6_cost : ByteArray := prog_1_method_16_code
def yX6_cost : MethodName := ⟨RX6, "cost", "()I"⟩
abbrev cX6_of : ByteArray := prog_1_method_17_code
def yX6_of : MethodName := ⟨RX6, "of", "(II)I"⟩
abbrev cX6_at : ByteArray := prog_1_method_18_code
def yX6_at : MethodName := ⟨RX6, "at", "(I)I"⟩
abbrev cX6_inYard : ByteArray := prog_1_method_19_code
def yX6_inYard : MethodName := ⟨RX6, "inYard", "(II)I"⟩
abbrev cX6_hatch : ByteArray := prog_1_method_20_code
def yX6_hatch : MethodName := ⟨RX6, "hatch", "(I)I"⟩
abbrev cX6_moment : ByteArray := prog_1_method_21_code
def yX6_moment : MethodName := ⟨RX6, "moment", "(I)I"⟩
abbrev cX6_momentAnew : ByteArray := prog_1_method_22_code
def yX6_momentAnew : MethodName := ⟨RX6, "momentAnew", "(I)I"⟩
abbrev cX6_bars : ByteArray := prog_1_method_23_code
def yX6_bars : MethodName := ⟨RX6, "bars", "()I"⟩
abbrev cX6_dig : ByteArray := prog_1_method_24_code
def yX6_dig : MethodName := ⟨RX6, "dig", "(I)I"⟩
abbrev cX6_orders : ByteArray := prog_1_method_25_code
def yX6_orders : MethodName := ⟨RX6, "orders", "()I"⟩
abbrev cX6_can : ByteArray := prog_1_method_26_code
def yX6_can : MethodName := ⟨RX6, "can", "(II)Z"⟩
abbrev cX6_may : ByteArray := prog_1_method_27_code
def yX6_may : MethodName := ⟨RX6, "may", "(II)Z"⟩
abbrev cX6_isWithin : ByteArray := prog_1_method_28_code
def yX6_isWithin : MethodName := ⟨RX6, "isWithin", "(III)Z"⟩
abbrev cX6_isBay : ByteArray := prog_1_method_29_code
def yX6_isBay : MethodName := ⟨RX6, "isBay", "(I)Z"⟩
abbrev cX6_isSlot : ByteArray := prog_1_method_30_code
def yX6_isSlot : MethodName := ⟨RX6, "isSlot", "(I)Z"⟩
abbrev cX6_isStack : ByteArray := prog_1_method_31_code
def yX6_isStack : MethodName := ⟨RX6, "isStack", "(I)Z"⟩
abbrev cX6_isCrane : ByteArray := prog_1_method_32_code
def yX6_isCrane : MethodName := ⟨RX6, "isCrane", "(I)Z"⟩
abbrev cX6_isBox : ByteArray := prog_1_method_33_code
def yX6_isBox : MethodName := ⟨RX6, "isBox", "(I)Z"⟩
abbrev cX6_isOrder : ByteArray := prog_1_method_34_code
def yX6_isOrder : MethodName := ⟨RX6, "isOrder", "(I)Z"⟩
abbrev cX6_bayOf : ByteArray := prog_1_method_35_code
def yX6_bayOf : MethodName := ⟨RX6, "bayOf", "(I)I"⟩
abbrev cX6_rowOf : ByteArray := prog_1_method_36_code
def yX6_rowOf : MethodName := ⟨RX6, "rowOf", "(I)I"⟩
abbrev cX6_tierOf : ByteArray := prog_1_method_37_code
def yX6_tierOf : MethodName := ⟨RX6, "tierOf", "(I)I"⟩
abbrev cX6_isUnderHatch : ByteArray := prog_1_method_38_code
def yX6_isUnderHatch : MethodName := ⟨RX6, "isUnderHatch", "(I)Z"⟩
abbrev cX6_restsOnBox : ByteArray := prog_1_method_39_code
def yX6_restsOnBox : MethodName := ⟨RX6, "restsOnBox", "(I)Z"⟩
abbrev cX6_isAhead : ByteArray := prog_1_method_40_code
def yX6_isAhead : MethodName := ⟨RX6, "isAhead", "(I)Z"⟩
abbrev cX6_portBehind : ByteArray := prog_1_method_41_code
def yX6_portBehind : MethodName := ⟨RX6, "portBehind", "(I)I"⟩
abbrev cX6_overdueBoxes : ByteArray := prog_1_method_42_code
def yX6_overdueBoxes : MethodName := ⟨RX6, "overdueBoxes", "()I"⟩
abbrev cX6_mayBeStacked : ByteArray := prog_1_method_43_code
def yX6_mayBeStacked : MethodName := ⟨RX6, "mayBeStacked", "(II)Z"⟩
abbrev cX6_mayBeIn : ByteArray := prog_1_method_44_code
def yX6_mayBeIn : MethodName := ⟨RX6, "mayBeIn", "(II)Z"⟩
abbrev cX6_isApartIn : ByteArray := prog_1_method_45_code
def yX6_isApartIn : MethodName := ⟨RX6, "isApartIn", "(II)Z"⟩
abbrev cX6_boxesOn : ByteArray := prog_1_method_46_code
def yX6_boxesOn : MethodName := ⟨RX6, "boxesOn", "(I)I"⟩
abbrev cX6_putInYard : ByteArray := prog_1_method_47_code
def yX6_putInYard : MethodName := ⟨RX6, "putInYard", "(II)V"⟩
abbrev cX6_putOnShip : ByteArray := prog_1_method_48_code
def yX6_putOnShip : MethodName := ⟨RX6, "putOnShip", "(II)V"⟩
abbrev cX6_takeAway : ByteArray := prog_1_method_49_code
def yX6_takeAway : MethodName := ⟨RX6, "takeAway", "(I)V"⟩
abbrev cX6_momentKept : ByteArray := prog_1_method_50_code
def yX6_momentKept : MethodName := ⟨RX6, "momentKept", "(I)I"⟩
abbrev cX6_leverOf : ByteArray := prog_1_method_51_code
def yX6_leverOf : MethodName := ⟨RX6, "leverOf", "(II)I"⟩
abbrev cX6_isJammed : ByteArray := prog_1_method_52_code
def yX6_isJammed : MethodName := ⟨RX6, "isJammed", "(I)Z"⟩
abbrev cX6_canDo : ByteArray := prog_1_method_53_code
def yX6_canDo : MethodName := ⟨RX6, "canDo", "(II)Z"⟩
abbrev cX6_canLoad : ByteArray := prog_1_method_54_code
def yX6_canLoad : MethodName := ⟨RX6, "canLoad", "(I)Z"⟩
abbrev cX6_canTake : ByteArray := prog_1_method_55_code
def yX6_canTake : MethodName := ⟨RX6, "canTake", "(II)Z"⟩
abbrev cX6_workAnHour : ByteArray := prog_1_method_56_code
def yX6_workAnHour : MethodName := ⟨RX6, "workAnHour", "(I)I"⟩
abbrev cX6_firstFor : ByteArray := prog_1_method_57_code
def yX6_firstFor : MethodName := ⟨RX6, "firstFor", "(I)I"⟩
abbrev cX6_lift : ByteArray := prog_1_method_58_code
def yX6_lift : MethodName := ⟨RX6, "lift", "(III)V"⟩
def RX7 : String := "CargoHeelModel"
def TX7 : u_T := fun k => match k with
  | 0 => ("CargoHeelModel", "thrown", "I", false)
  | 1 => ("CargoHeelModel", "slot", "[I", true)
  | 2 => ("CargoHeelModel", "hasPlug", "[Z", true)
  | 3 => ("CargoHeelModel", "isOpen", "[Z", true)
  | 4 => ("CargoHeelModel", "jammedTo", "[I", true)
  | 5 => ("CargoHeelModel", "water", "[I", true)
  | 6 => ("CargoHeelModel", "mostTrim", "I", false)
  | 7 => ("CargoHeelModel", "mostHeel", "I", false)
  | 8 => ("CargoHeelModel", "mostBending", "I", false)
  | 9 => ("CargoHeelModel", "boxes", "I", false)
  | 10 => ("CargoHeelModel", "told", "[I", true)
  | 11 => ("CargoHeelModel", "truth", "[I", true)
  | 12 => ("CargoHeelModel", "port", "[I", true)
  | 13 => ("CargoHeelModel", "kind", "[I", true)
  | 14 => ("CargoHeelModel", "papers", "[I", true)
  | 15 => ("CargoHeelModel", "where", "[I", true)
  | 16 => ("CargoHeelModel", "place", "[I", true)
  | 17 => ("CargoHeelModel", "high", "[I", true)
  | 18 => ("CargoHeelModel", "stack", "[I", true)
  | 19 => ("CargoHeelModel", "now", "I", false)
  | 20 => ("CargoHeelModel", "isOut", "[Z", true)
  | 21 => ("CargoHeelModel", "from", "[I", true)
  | 22 => ("CargoHeelModel", "to", "[I", true)
  | 23 => ("CargoHeelModel", "lifts", "[I", true)
  | 24 => ("CargoHeelModel", "orders", "I", false)
  | 25 => ("CargoHeelModel", "what", "[I", true)
  | 26 => ("CargoHeelModel", "its", "[I", true)
  | 27 => ("CargoHeelModel", "goal", "[I", true)
  | 28 => ("CargoHeelModel", "hour", "I", false)
  | 29 => ("CargoHeelModel", "cost", "I", false)
  | _ => ("CargoHeelModel", "load", "[I", true)
def tyX7 : Nat → FieldType := fun k => match k with
  | 0 => .int
  | 1 => .array .int
  | 2 => .array .boolean
  | 3 => .array .boolean
  | 4 => .array .int
  | 5 => .array .int
  | 6 => .int
  | 7 => .int
  | 8 => .int
  | 9 => .int
  | 10 => .array .int
  | 11 => .array .int
  | 12 => .array .int
  | 13 => .array .int
  | 14 => .array .int
  | 15 => .array .int
  | 16 => .array .int
  | 17 => .array .int
  | 18 => .array .int
  | 19 => .int
  | 20 => .array .boolean
  | 21 => .array .int
  | 22 => .array .int
  | 23 => .array .int
  | 24 => .int
  | 25 => .array .int
  | 26 => .array .int
  | 27 => .array .int
  | 28 => .int
  | 29 => .int
  | _ => .array .int
abbrev wsX70 : List Cond := u_ws RX7 TX7 31
theorem nmX7 : ∀ a, a < 31 → ∀ b, b < 31 → a ≠ b → (TX7 a).2.1 ≠ (TX7 b).2.1 := by decide +kernel
theorem tyX7_ok : ∀ k, k < 31 → parseFieldDescriptor (TX7 k).2.2.1 = some (tyX7 k) := by decide +kernel
abbrev cX7_init : ByteArray := prog_9_method_1_code
def yX7_init : MethodName := ⟨RX7, "<init>", "()V"⟩
abbrev cX7_thrown : ByteArray := prog_9_method_2_code
def yX7_thrown : MethodName := ⟨RX7, "thrown", "()I"⟩
abbrev cX7_in : ByteArray := prog_9_method_3_code
def yX7_in : MethodName := ⟨RX7, "in", "(III)Z"⟩
abbrev cX7_isSlot : ByteArray := prog_9_method_4_code
def yX7_isSlot : MethodName := ⟨RX7, "isSlot", "(I)Z"⟩
abbrev cX7_indexOf : ByteArray := prog_9_method_5_code
def yX7_indexOf : MethodName := ⟨RX7, "indexOf", "(I)I"⟩
abbrev cX7_isBay : ByteArray := prog_9_method_6_code
def yX7_isBay : MethodName := ⟨RX7, "isBay", "(I)Z"⟩
abbrev cX7_isStack : ByteArray := prog_9_method_7_code
def yX7_isStack : MethodName := ⟨RX7, "isStack", "(I)Z"⟩
abbrev cX7_isCrane : ByteArray := prog_9_method_8_code
def yX7_isCrane : MethodName := ⟨RX7, "isCrane", "(I)Z"⟩
abbrev cX7_isBox : ByteArray := prog_9_method_9_code
def yX7_isBox : MethodName := ⟨RX7, "isBox", "(I)Z"⟩
abbrev cX7_isOrder : ByteArray := prog_9_method_10_code
def yX7_isOrder : MethodName := ⟨RX7, "isOrder", "(I)Z"⟩
abbrev cX7_isAhead : ByteArray := prog_9_method_11_code
def yX7_isAhead : MethodName := ⟨RX7, "isAhead", "(I)Z"⟩
abbrev cX7_isHeld : ByteArray := prog_9_method_12_code
def yX7_isHeld : MethodName := ⟨RX7, "isHeld", "(I)Z"⟩
abbrev cX7_plug : ByteArray := prog_9_method_13_code
def yX7_plug : MethodName := ⟨RX7, "plug", "(I)Z"⟩
abbrev cX7_bounds : ByteArray := prog_9_method_14_code
def yX7_bounds : MethodName := ⟨RX7, "bounds", "(III)V"⟩
abbrev cX7_tank : ByteArray := prog_9_method_15_code
def yX7_tank : MethodName := ⟨RX7, "tank", "(II)I"⟩
abbrev cX7_jam : ByteArray := prog_9_method_16_code
def yX7_jam : MethodName := ⟨RX7, "jam", "(II)I"⟩
abbrev cX7_crane : ByteArray := prog_9_method_17_code
def yX7_crane : MethodName := ⟨RX7, "crane", "(IIII)V"⟩
abbrev cX7_hasOnTop : ByteArray := prog_9_method_18_code
def yX7_hasOnTop : MethodName := ⟨RX7, "hasOnTop", "(I)Z"⟩
abbrev cX7_canOpen : ByteArray := prog_9_method_19_code
def yX7_canOpen : MethodName := ⟨RX7, "canOpen", "(I)Z"⟩
abbrev cX7_fits : ByteArray := prog_9_method_20_code
def yX7_fits : MethodName := ⟨RX7, "fits", "(II)Z"⟩
abbrev cX7_stackMay : ByteArray := prog_9_method_21_code
def yX7_stackMay : MethodName := ⟨RX7, "stackMay", "(II)Z"⟩
abbrev cX7_isDangerous : ByteArray := prog_9_method_22_code
def yX7_isDangerous : MethodName := ⟨RX7, "isDangerous", "(I)Z"⟩
abbrev cX7_isApart : ByteArray := prog_9_method_23_code
def yX7_isApart : MethodName := ⟨RX7, "isApart", "(II)Z"⟩
abbrev cX7_slotMay : ByteArray := prog_9_method_24_code
def yX7_slotMay : MethodName := ⟨RX7, "slotMay", "(II)Z"⟩
abbrev cX7_canTake : ByteArray := prog_9_method_25_code
def yX7_canTake : MethodName := ⟨RX7, "canTake", "(I)Z"⟩
abbrev cX7_isOnTop : ByteArray := prog_9_method_26_code
def yX7_isOnTop : MethodName := ⟨RX7, "isOnTop", "(I)Z"⟩
abbrev cX7_box : ByteArray := prog_9_method_27_code
def yX7_box : MethodName := ⟨RX7, "box", "(IIIII)I"⟩
abbrev cX7_comesTo : ByteArray := prog_9_method_28_code
def yX7_comesTo : MethodName := ⟨RX7, "comesTo", "(II)V"⟩
abbrev cX7_comesAboard : ByteArray := prog_9_method_29_code
def yX7_comesAboard : MethodName := ⟨RX7, "comesAboard", "(II)V"⟩
abbrev cX7_paper : ByteArray := prog_9_method_30_code
def yX7_paper : MethodName := ⟨RX7, "paper", "(II)Z"⟩
abbrev cX7_nextPort : ByteArray := prog_9_method_31_code
def yX7_nextPort : MethodName := ⟨RX7, "nextPort", "(I)I"⟩
abbrev cX7_skip : ByteArray := prog_9_method_32_code
def yX7_skip : MethodName := ⟨RX7, "skip", "(I)I"⟩
abbrev cX7_order : ByteArray := prog_9_method_33_code
def yX7_order : MethodName := ⟨RX7, "order", "(III)I"⟩
abbrev cX7_removes : ByteArray := prog_9_method_34_code
def yX7_removes : MethodName := ⟨RX7, "removes", "(I)V"⟩
abbrev cX7_drop : ByteArray := prog_9_method_35_code
def yX7_drop : MethodName := ⟨RX7, "drop", "(I)I"⟩
abbrev cX7_isPossible : ByteArray := prog_9_method_36_code
def yX7_isPossible : MethodName := ⟨RX7, "isPossible", "(I)Z"⟩
abbrev cX7_isWithin : ByteArray := prog_9_method_37_code
def yX7_isWithin : MethodName := ⟨RX7, "isWithin", "(II)Z"⟩
abbrev cX7_reaches : ByteArray := prog_9_method_38_code
def yX7_reaches : MethodName := ⟨RX7, "reaches", "(II)Z"⟩
abbrev cX7_isDoable : ByteArray := prog_9_method_39_code
def yX7_isDoable : MethodName := ⟨RX7, "isDoable", "(II)Z"⟩
abbrev cX7_does : ByteArray := prog_9_method_40_code
def yX7_does : MethodName := ⟨RX7, "does", "(I)V"⟩
abbrev cX7_liftsOf : ByteArray := prog_9_method_41_code
def yX7_liftsOf : MethodName := ⟨RX7, "liftsOf", "(I)I"⟩
abbrev cX7_pass : ByteArray := prog_9_method_42_code
def yX7_pass : MethodName := ⟨RX7, "pass", "(I)I"⟩
abbrev cX7_leave : ByteArray := prog_9_method_43_code
def yX7_leave : MethodName := ⟨RX7, "leave", "()I"⟩
abbrev cX7_hour : ByteArray := prog_9_method_44_code
def yX7_hour : MethodName := ⟨RX7, "hour", "()I"⟩
abbrev cX7_port : ByteArray := prog_9_method_45_code
def yX7_port : MethodName := ⟨RX7, "port", "()I"⟩
abbrev cX7_cost : ByteArray := prog_9_method_46_code
def yX7_cost : MethodName := ⟨RX7, "cost", "()I"⟩
abbrev cX7_slotOf : ByteArray := prog_9_method_47_code
def yX7_slotOf : MethodName := ⟨RX7, "slotOf", "(I)I"⟩
abbrev cX7_liesOn : ByteArray := prog_9_method_48_code
def yX7_liesOn : MethodName := ⟨RX7, "liesOn", "(I)I"⟩
abbrev cX7_of : ByteArray := prog_9_method_49_code
def yX7_of : MethodName := ⟨RX7, "of", "(II)I"⟩
abbrev cX7_at : ByteArray := prog_9_method_50_code
def yX7_at : MethodName := ⟨RX7, "at", "(I)I"⟩
abbrev cX7_inYard : ByteArray := prog_9_method_51_code
def yX7_inYard : MethodName := ⟨RX7, "inYard", "(II)I"⟩
abbrev cX7_hatch : ByteArray := prog_9_method_52_code
def yX7_hatch : MethodName := ⟨RX7, "hatch", "(I)I"⟩
abbrev cX7_momentOf : ByteArray := prog_9_method_53_code
def yX7_momentOf : MethodName := ⟨RX7, "momentOf", "(I)I"⟩
abbrev cX7_moment : ByteArray := prog_9_method_54_code
def yX7_moment : MethodName := ⟨RX7, "moment", "(I)I"⟩
abbrev cX7_momentAnew : ByteArray := prog_9_method_55_code
def yX7_momentAnew : MethodName := ⟨RX7, "momentAnew", "(I)I"⟩
abbrev cX7_isBeyond : ByteArray := prog_9_method_56_code
def yX7_isBeyond : MethodName := ⟨RX7, "isBeyond", "(II)Z"⟩
abbrev cX7_barsNow : ByteArray := prog_9_method_57_code
def yX7_barsNow : MethodName := ⟨RX7, "barsNow", "()I"⟩
abbrev cX7_bars : ByteArray := prog_9_method_58_code
def yX7_bars : MethodName := ⟨RX7, "bars", "()I"⟩
abbrev cX7_dig : ByteArray := prog_9_method_59_code
def yX7_dig : MethodName := ⟨RX7, "dig", "(I)I"⟩
abbrev cX7_orders : ByteArray := prog_9_method_60_code
def yX7_orders : MethodName := ⟨RX7, "orders", "()I"⟩
abbrev cX7_can : ByteArray := prog_9_method_61_code
def yX7_can : MethodName := ⟨RX7, "can", "(II)Z"⟩
abbrev cX7_may : ByteArray := prog_9_method_62_code
def yX7_may : MethodName := ⟨RX7, "may", "(II)Z"⟩
def RJ9 : String := "java/lang/Math"
def TJ9 : u_T := fun k => match k with
  | _ => ("", "", "", false)
def tyJ9 : Nat → FieldType := fun k => match k with
  | _ => .int
abbrev wsJ90 : List Cond := u_ws RJ9 TJ9 0
theorem nmJ9 : ∀ a, a < 0 → ∀ b, b < 0 → a ≠ b → (TJ9 a).2.1 ≠ (TJ9 b).2.1 := by decide +kernel
theorem tyJ9_ok : ∀ k, k < 0 → parseFieldDescriptor (TJ9 k).2.2.1 = some (tyJ9 k) := by decide +kernel
abbrev cJ9_abs_0f7a4 : ByteArray := prog_14_method_59_code
def yJ9_abs_0f7a4 : MethodName := ⟨RJ9, "abs", "(I)I"⟩
abbrev cJ9_max_7cf53 : ByteArray := prog_14_method_65_code
def yJ9_max_7cf53 : MethodName := ⟨RJ9, "max", "(II)I"⟩
def RJ0 : String := "java/lang/String"
def TJ0 : u_T := fun k => match k with
  | _ => ("", "", "", false)
def tyJ0 : Nat → FieldType := fun k => match k with
  | _ => .int
abbrev wsJ00 : List Cond := u_ws RJ0 TJ0 0
theorem nmJ0 : ∀ a, a < 0 → ∀ b, b < 0 → a ≠ b → (TJ0 a).2.1 ≠ (TJ0 b).2.1 := by decide +kernel
theorem tyJ0_ok : ∀ k, k < 0 → parseFieldDescriptor (TJ0 k).2.2.1 = some (tyJ0 k) := by decide +kernel
def RL : String := "CargoHeelLaw"
abbrev cL_plug : ByteArray := method_3_code
def yL_plug : MethodName := ⟨RL, "plug", "(LCargoHeel;I[J)I"⟩
abbrev cL_bounds : ByteArray := method_4_code
def yL_bounds : MethodName := ⟨RL, "bounds", "(LCargoHeel;III)I"⟩
abbrev cL_tank : ByteArray := method_5_code
def yL_tank : MethodName := ⟨RL, "tank", "(LCargoHeel;II[J)I"⟩
abbrev cL_jam : ByteArray := method_6_code
def yL_jam : MethodName := ⟨RL, "jam", "(LCargoHeel;II[J)I"⟩
abbrev cL_crane : ByteArray := method_7_code
def yL_crane : MethodName := ⟨RL, "crane", "(LCargoHeel;IIII)I"⟩
abbrev cL_box : ByteArray := method_8_code
def yL_box : MethodName := ⟨RL, "box", "(LCargoHeel;IIIII[J)I"⟩
abbrev cL_paper : ByteArray := method_9_code
def yL_paper : MethodName := ⟨RL, "paper", "(LCargoHeel;II[J)I"⟩
abbrev cL_skip : ByteArray := method_10_code
def yL_skip : MethodName := ⟨RL, "skip", "(LCargoHeel;I[J)I"⟩
abbrev cL_order : ByteArray := method_11_code
def yL_order : MethodName := ⟨RL, "order", "(LCargoHeel;III[J)I"⟩
abbrev cL_drop : ByteArray := method_12_code
def yL_drop : MethodName := ⟨RL, "drop", "(LCargoHeel;I[J)I"⟩
abbrev cL_pass : ByteArray := method_13_code
def yL_pass : MethodName := ⟨RL, "pass", "(LCargoHeel;I[J)I"⟩
abbrev cL_leave : ByteArray := method_14_code
def yL_leave : MethodName := ⟨RL, "leave", "(LCargoHeel;[J)I"⟩
abbrev cL_of : ByteArray := method_15_code
def yL_of : MethodName := ⟨RL, "of", "(LCargoHeel;II[J)I"⟩
abbrev cL_at : ByteArray := method_16_code
def yL_at : MethodName := ⟨RL, "at", "(LCargoHeel;I[J)I"⟩
abbrev cL_inYard : ByteArray := method_17_code
def yL_inYard : MethodName := ⟨RL, "inYard", "(LCargoHeel;II[J)I"⟩
abbrev cL_hatch : ByteArray := method_18_code
def yL_hatch : MethodName := ⟨RL, "hatch", "(LCargoHeel;I[J)I"⟩
abbrev cL_moment : ByteArray := method_19_code
def yL_moment : MethodName := ⟨RL, "moment", "(LCargoHeel;I[J)I"⟩
abbrev cL_momentAnew : ByteArray := method_20_code
def yL_momentAnew : MethodName := ⟨RL, "momentAnew", "(LCargoHeel;I[J)I"⟩
abbrev cL_dig : ByteArray := method_21_code
def yL_dig : MethodName := ⟨RL, "dig", "(LCargoHeel;I[J)I"⟩
abbrev cL_can : ByteArray := method_22_code
def yL_can : MethodName := ⟨RL, "can", "(LCargoHeel;II[J)I"⟩
abbrev cL_may : ByteArray := method_23_code
def yL_may : MethodName := ⟨RL, "may", "(LCargoHeel;II[J)I"⟩
abbrev cL_law : ByteArray := code
def yL_law : MethodName := ⟨RL, "law", "([I)Z"⟩
