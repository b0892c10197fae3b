section
-- ===== PART A: goes FIRST, ahead of the names: the tables' words, and 'selects' of the private methods out of them =====
/-- a private method of a class that the tables say can be made, by its rows of tables_1 -/
def lw_okq (q : MethodName × Nat) : Prop := (q.1.cls ≠ "java/lang/invoke/MethodHandle" ∧ q.1.cls ≠ "java/lang/invoke/VarHandle") ∧ Cond.instantiable q.1.cls q.2 ∈ tables_1 ∧ Cond.privateMethod q.1 ∈ tables_1 ∧ Cond.instanceMethod q.1 ∈ tables_1
theorem lw_p0 : lw_okq (⟨"RavelKnit$Evening", "add", "(I)V"⟩, 6) := ⟨⟨by decide +kernel, by decide +kernel⟩, List.mem_of_getElem? (i := 115) (by decide +kernel), List.mem_of_getElem? (i := 309) (by decide +kernel), List.mem_of_getElem? (i := 310) (by decide +kernel)⟩
theorem lw_p1 : lw_okq (⟨"RavelKnit$Pattern", "add", "(II)V"⟩, 3) := ⟨⟨by decide +kernel, by decide +kernel⟩, List.mem_of_getElem? (i := 148) (by decide +kernel), List.mem_of_getElem? (i := 324) (by decide +kernel), List.mem_of_getElem? (i := 325) (by decide +kernel)⟩
theorem lw_p2 : lw_okq (⟨"RavelKnit", "playPad", "()I"⟩, 9) := ⟨⟨by decide +kernel, by decide +kernel⟩, List.mem_of_getElem? (i := 14) (by decide +kernel), List.mem_of_getElem? (i := 333) (by decide +kernel), List.mem_of_getElem? (i := 334) (by decide +kernel)⟩
theorem lw_p3 : lw_okq (⟨"RavelKnit$Needles", "dropColour", "()V"⟩, 8) := ⟨⟨by decide +kernel, by decide +kernel⟩, List.mem_of_getElem? (i := 28) (by decide +kernel), List.mem_of_getElem? (i := 370) (by decide +kernel), List.mem_of_getElem? (i := 371) (by decide +kernel)⟩
theorem lw_p4 : lw_okq (⟨"RavelKnit$Needles", "dropTop", "()V"⟩, 8) := ⟨⟨by decide +kernel, by decide +kernel⟩, List.mem_of_getElem? (i := 28) (by decide +kernel), List.mem_of_getElem? (i := 379) (by decide +kernel), List.mem_of_getElem? (i := 380) (by decide +kernel)⟩
theorem lw_p5 : lw_okq (⟨"RavelKnit$Needles", "lay", "(II)V"⟩, 8) := ⟨⟨by decide +kernel, by decide +kernel⟩, List.mem_of_getElem? (i := 28) (by decide +kernel), List.mem_of_getElem? (i := 383) (by decide +kernel), List.mem_of_getElem? (i := 384) (by decide +kernel)⟩
theorem lw_p6 : lw_okq (⟨"RavelKnit", "readPattern", "()I"⟩, 9) := ⟨⟨by decide +kernel, by decide +kernel⟩, List.mem_of_getElem? (i := 14) (by decide +kernel), List.mem_of_getElem? (i := 443) (by decide +kernel), List.mem_of_getElem? (i := 444) (by decide +kernel)⟩
theorem lw_p7 : lw_okq (⟨"RavelKnit", "fewestRemarks", "(I)I"⟩, 9) := ⟨⟨by decide +kernel, by decide +kernel⟩, List.mem_of_getElem? (i := 14) (by decide +kernel), List.mem_of_getElem? (i := 447) (by decide +kernel), List.mem_of_getElem? (i := 448) (by decide +kernel)⟩
theorem lw_p8 : lw_okq (⟨"RavelKnit", "isThereAlready", "(I)Z"⟩, 9) := ⟨⟨by decide +kernel, by decide +kernel⟩, List.mem_of_getElem? (i := 14) (by decide +kernel), List.mem_of_getElem? (i := 451) (by decide +kernel), List.mem_of_getElem? (i := 452) (by decide +kernel)⟩
theorem lw_p9 : lw_okq (⟨"RavelKnit", "remarksDownTo", "(I)I"⟩, 9) := ⟨⟨by decide +kernel, by decide +kernel⟩, List.mem_of_getElem? (i := 14) (by decide +kernel), List.mem_of_getElem? (i := 458) (by decide +kernel), List.mem_of_getElem? (i := 459) (by decide +kernel)⟩
theorem lw_p10 : lw_okq (⟨"RavelKnit", "remarksUpTo", "(II)I"⟩, 9) := ⟨⟨by decide +kernel, by decide +kernel⟩, List.mem_of_getElem? (i := 14) (by decide +kernel), List.mem_of_getElem? (i := 467) (by decide +kernel), List.mem_of_getElem? (i := 468) (by decide +kernel)⟩
theorem lw_p11 : lw_okq (⟨"RavelKnit", "surveyWorlds", "()Z"⟩, 9) := ⟨⟨by decide +kernel, by decide +kernel⟩, List.mem_of_getElem? (i := 14) (by decide +kernel), List.mem_of_getElem? (i := 491) (by decide +kernel), List.mem_of_getElem? (i := 492) (by decide +kernel)⟩
theorem lw_p12 : lw_okq (⟨"RavelKnit$Orders", "raise", "(I)V"⟩, 1) := ⟨⟨by decide +kernel, by decide +kernel⟩, List.mem_of_getElem? (i := 193) (by decide +kernel), List.mem_of_getElem? (i := 549) (by decide +kernel), List.mem_of_getElem? (i := 550) (by decide +kernel)⟩
theorem lw_p13 : lw_okq (⟨"RavelKnit$Orders", "addDropped", "(II)V"⟩, 1) := ⟨⟨by decide +kernel, by decide +kernel⟩, List.mem_of_getElem? (i := 193) (by decide +kernel), List.mem_of_getElem? (i := 556) (by decide +kernel), List.mem_of_getElem? (i := 557) (by decide +kernel)⟩
theorem lw_p14 : lw_okq (⟨"RavelKnit$Odds", "step", "(I)V"⟩, 1) := ⟨⟨by decide +kernel, by decide +kernel⟩, List.mem_of_getElem? (i := 204) (by decide +kernel), List.mem_of_getElem? (i := 578) (by decide +kernel), List.mem_of_getElem? (i := 579) (by decide +kernel)⟩
theorem lw_p15 : lw_okq (⟨"RavelKnit", "imageAt", "(I)LRavelKnit$Company;"⟩, 9) := ⟨⟨by decide +kernel, by decide +kernel⟩, List.mem_of_getElem? (i := 14) (by decide +kernel), List.mem_of_getElem? (i := 622) (by decide +kernel), List.mem_of_getElem? (i := 623) (by decide +kernel)⟩
def lw_privs_1 : List (MethodName × Nat) := [(⟨"RavelKnit$Evening", "add", "(I)V"⟩, 6), (⟨"RavelKnit$Pattern", "add", "(II)V"⟩, 3), (⟨"RavelKnit", "playPad", "()I"⟩, 9), (⟨"RavelKnit$Needles", "dropColour", "()V"⟩, 8), (⟨"RavelKnit$Needles", "dropTop", "()V"⟩, 8), (⟨"RavelKnit$Needles", "lay", "(II)V"⟩, 8), (⟨"RavelKnit", "readPattern", "()I"⟩, 9), (⟨"RavelKnit", "fewestRemarks", "(I)I"⟩, 9), (⟨"RavelKnit", "isThereAlready", "(I)Z"⟩, 9), (⟨"RavelKnit", "remarksDownTo", "(I)I"⟩, 9), (⟨"RavelKnit", "remarksUpTo", "(II)I"⟩, 9), (⟨"RavelKnit", "surveyWorlds", "()Z"⟩, 9), (⟨"RavelKnit$Orders", "raise", "(I)V"⟩, 1), (⟨"RavelKnit$Orders", "addDropped", "(II)V"⟩, 1), (⟨"RavelKnit$Odds", "step", "(I)V"⟩, 1), (⟨"RavelKnit", "imageAt", "(I)LRavelKnit$Company;"⟩, 9)]
theorem lw_r1 : ∀ q ∈ lw_privs_1, lw_okq q := List.forall_mem_cons.mpr ⟨lw_p0, List.forall_mem_cons.mpr ⟨lw_p1, List.forall_mem_cons.mpr ⟨lw_p2, List.forall_mem_cons.mpr ⟨lw_p3, List.forall_mem_cons.mpr ⟨lw_p4, List.forall_mem_cons.mpr ⟨lw_p5, List.forall_mem_cons.mpr ⟨lw_p6, List.forall_mem_cons.mpr ⟨lw_p7, List.forall_mem_cons.mpr ⟨lw_p8, List.forall_mem_cons.mpr ⟨lw_p9, List.forall_mem_cons.mpr ⟨lw_p10, List.forall_mem_cons.mpr ⟨lw_p11, List.forall_mem_cons.mpr ⟨lw_p12, List.forall_mem_cons.mpr ⟨lw_p13, List.forall_mem_cons.mpr ⟨lw_p14, List.forall_mem_cons.mpr ⟨lw_p15, fun _ h => absurd h List.not_mem_nil⟩⟩⟩⟩⟩⟩⟩⟩⟩⟩⟩⟩⟩⟩⟩⟩
theorem lw_p16 : lw_okq (⟨"RavelKnitModel", "begin", "(I)V"⟩, 47) := ⟨⟨by decide +kernel, by decide +kernel⟩, List.mem_of_getElem? (i := 640) (by decide +kernel), List.mem_of_getElem? (i := 646) (by decide +kernel), List.mem_of_getElem? (i := 647) (by decide +kernel)⟩
theorem lw_p17 : lw_okq (⟨"RavelKnitModel", "isFact", "(I)Z"⟩, 47) := ⟨⟨by decide +kernel, by decide +kernel⟩, List.mem_of_getElem? (i := 640) (by decide +kernel), List.mem_of_getElem? (i := 805) (by decide +kernel), List.mem_of_getElem? (i := 806) (by decide +kernel)⟩
theorem lw_p18 : lw_okq (⟨"RavelKnitModel", "faultOfEvening", "()I"⟩, 47) := ⟨⟨by decide +kernel, by decide +kernel⟩, List.mem_of_getElem? (i := 640) (by decide +kernel), List.mem_of_getElem? (i := 837) (by decide +kernel), List.mem_of_getElem? (i := 838) (by decide +kernel)⟩
theorem lw_p19 : lw_okq (⟨"RavelKnitModel", "faultOfPattern", "()I"⟩, 47) := ⟨⟨by decide +kernel, by decide +kernel⟩, List.mem_of_getElem? (i := 640) (by decide +kernel), List.mem_of_getElem? (i := 844) (by decide +kernel), List.mem_of_getElem? (i := 845) (by decide +kernel)⟩
theorem lw_p20 : lw_okq (⟨"RavelKnitModel", "refusal", "()I"⟩, 47) := ⟨⟨by decide +kernel, by decide +kernel⟩, List.mem_of_getElem? (i := 640) (by decide +kernel), List.mem_of_getElem? (i := 853) (by decide +kernel), List.mem_of_getElem? (i := 854) (by decide +kernel)⟩
theorem lw_p21 : lw_okq (⟨"RavelKnitModel", "keepNow", "()V"⟩, 47) := ⟨⟨by decide +kernel, by decide +kernel⟩, List.mem_of_getElem? (i := 640) (by decide +kernel), List.mem_of_getElem? (i := 857) (by decide +kernel), List.mem_of_getElem? (i := 858) (by decide +kernel)⟩
theorem lw_p22 : lw_okq (⟨"RavelKnitModel", "goEvening", "(I)V"⟩, 47) := ⟨⟨by decide +kernel, by decide +kernel⟩, List.mem_of_getElem? (i := 640) (by decide +kernel), List.mem_of_getElem? (i := 861) (by decide +kernel), List.mem_of_getElem? (i := 862) (by decide +kernel)⟩
theorem lw_p23 : lw_okq (⟨"RavelKnitModel", "isSeenSo", "(I)Z"⟩, 47) := ⟨⟨by decide +kernel, by decide +kernel⟩, List.mem_of_getElem? (i := 640) (by decide +kernel), List.mem_of_getElem? (i := 865) (by decide +kernel), List.mem_of_getElem? (i := 866) (by decide +kernel)⟩
theorem lw_p24 : lw_okq (⟨"RavelKnitModel", "whyNot", "(II)I"⟩, 47) := ⟨⟨by decide +kernel, by decide +kernel⟩, List.mem_of_getElem? (i := 640) (by decide +kernel), List.mem_of_getElem? (i := 869) (by decide +kernel), List.mem_of_getElem? (i := 870) (by decide +kernel)⟩
theorem lw_p25 : lw_okq (⟨"RavelKnitModel", "isLie", "(II)Z"⟩, 47) := ⟨⟨by decide +kernel, by decide +kernel⟩, List.mem_of_getElem? (i := 640) (by decide +kernel), List.mem_of_getElem? (i := 873) (by decide +kernel), List.mem_of_getElem? (i := 874) (by decide +kernel)⟩
theorem lw_p26 : lw_okq (⟨"RavelKnitModel", "whyNotSay", "(IZ)I"⟩, 47) := ⟨⟨by decide +kernel, by decide +kernel⟩, List.mem_of_getElem? (i := 640) (by decide +kernel), List.mem_of_getElem? (i := 877) (by decide +kernel), List.mem_of_getElem? (i := 878) (by decide +kernel)⟩
theorem lw_p27 : lw_okq (⟨"RavelKnitModel", "whyNotKnit", "()I"⟩, 47) := ⟨⟨by decide +kernel, by decide +kernel⟩, List.mem_of_getElem? (i := 640) (by decide +kernel), List.mem_of_getElem? (i := 881) (by decide +kernel), List.mem_of_getElem? (i := 882) (by decide +kernel)⟩
theorem lw_p28 : lw_okq (⟨"RavelKnitModel", "happen", "(II)V"⟩, 47) := ⟨⟨by decide +kernel, by decide +kernel⟩, List.mem_of_getElem? (i := 640) (by decide +kernel), List.mem_of_getElem? (i := 885) (by decide +kernel), List.mem_of_getElem? (i := 886) (by decide +kernel)⟩
theorem lw_p29 : lw_okq (⟨"RavelKnitModel", "tells", "(IZ)V"⟩, 47) := ⟨⟨by decide +kernel, by decide +kernel⟩, List.mem_of_getElem? (i := 640) (by decide +kernel), List.mem_of_getElem? (i := 889) (by decide +kernel), List.mem_of_getElem? (i := 890) (by decide +kernel)⟩
theorem lw_p30 : lw_okq (⟨"RavelKnitModel", "knit", "(II)V"⟩, 47) := ⟨⟨by decide +kernel, by decide +kernel⟩, List.mem_of_getElem? (i := 640) (by decide +kernel), List.mem_of_getElem? (i := 893) (by decide +kernel), List.mem_of_getElem? (i := 894) (by decide +kernel)⟩
theorem lw_p31 : lw_okq (⟨"RavelKnitModel", "ravel", "()V"⟩, 47) := ⟨⟨by decide +kernel, by decide +kernel⟩, List.mem_of_getElem? (i := 640) (by decide +kernel), List.mem_of_getElem? (i := 897) (by decide +kernel), List.mem_of_getElem? (i := 898) (by decide +kernel)⟩
def lw_privs_2 : List (MethodName × Nat) := [(⟨"RavelKnitModel", "begin", "(I)V"⟩, 47), (⟨"RavelKnitModel", "isFact", "(I)Z"⟩, 47), (⟨"RavelKnitModel", "faultOfEvening", "()I"⟩, 47), (⟨"RavelKnitModel", "faultOfPattern", "()I"⟩, 47), (⟨"RavelKnitModel", "refusal", "()I"⟩, 47), (⟨"RavelKnitModel", "keepNow", "()V"⟩, 47), (⟨"RavelKnitModel", "goEvening", "(I)V"⟩, 47), (⟨"RavelKnitModel", "isSeenSo", "(I)Z"⟩, 47), (⟨"RavelKnitModel", "whyNot", "(II)I"⟩, 47), (⟨"RavelKnitModel", "isLie", "(II)Z"⟩, 47), (⟨"RavelKnitModel", "whyNotSay", "(IZ)I"⟩, 47), (⟨"RavelKnitModel", "whyNotKnit", "()I"⟩, 47), (⟨"RavelKnitModel", "happen", "(II)V"⟩, 47), (⟨"RavelKnitModel", "tells", "(IZ)V"⟩, 47), (⟨"RavelKnitModel", "knit", "(II)V"⟩, 47), (⟨"RavelKnitModel", "ravel", "()V"⟩, 47)]
theorem lw_r2 : ∀ q ∈ lw_privs_2, lw_okq q := List.forall_mem_cons.mpr ⟨lw_p16, List.forall_mem_cons.mpr ⟨lw_p17, List.forall_mem_cons.mpr ⟨lw_p18, List.forall_mem_cons.mpr ⟨lw_p19, List.forall_mem_cons.mpr ⟨lw_p20, List.forall_mem_cons.mpr ⟨lw_p21, List.forall_mem_cons.mpr ⟨lw_p22, List.forall_mem_cons.mpr ⟨lw_p23, List.forall_mem_cons.mpr ⟨lw_p24, List.forall_mem_cons.mpr ⟨lw_p25, List.forall_mem_cons.mpr ⟨lw_p26, List.forall_mem_cons.mpr ⟨lw_p27, List.forall_mem_cons.mpr ⟨lw_p28, List.forall_mem_cons.mpr ⟨lw_p29, List.forall_mem_cons.mpr ⟨lw_p30, List.forall_mem_cons.mpr ⟨lw_p31, fun _ h => absurd h List.not_mem_nil⟩⟩⟩⟩⟩⟩⟩⟩⟩⟩⟩⟩⟩⟩⟩⟩
theorem lw_p32 : lw_okq (⟨"RavelKnitModel", "undo", "()V"⟩, 47) := ⟨⟨by decide +kernel, by decide +kernel⟩, List.mem_of_getElem? (i := 640) (by decide +kernel), List.mem_of_getElem? (i := 901) (by decide +kernel), List.mem_of_getElem? (i := 902) (by decide +kernel)⟩
theorem lw_p33 : lw_okq (⟨"RavelKnitModel", "look", "(I)V"⟩, 47) := ⟨⟨by decide +kernel, by decide +kernel⟩, List.mem_of_getElem? (i := 640) (by decide +kernel), List.mem_of_getElem? (i := 905) (by decide +kernel), List.mem_of_getElem? (i := 906) (by decide +kernel)⟩
theorem lw_p34 : lw_okq (⟨"RavelKnitModel", "putBack", "()V"⟩, 47) := ⟨⟨by decide +kernel, by decide +kernel⟩, List.mem_of_getElem? (i := 640) (by decide +kernel), List.mem_of_getElem? (i := 909) (by decide +kernel), List.mem_of_getElem? (i := 910) (by decide +kernel)⟩
theorem lw_p35 : lw_okq (⟨"RavelKnitModel", "isRow", "(I)Z"⟩, 47) := ⟨⟨by decide +kernel, by decide +kernel⟩, List.mem_of_getElem? (i := 640) (by decide +kernel), List.mem_of_getElem? (i := 925) (by decide +kernel), List.mem_of_getElem? (i := 926) (by decide +kernel)⟩
theorem lw_p36 : lw_okq (⟨"RavelKnitModel", "madeOf", "(I)I"⟩, 47) := ⟨⟨by decide +kernel, by decide +kernel⟩, List.mem_of_getElem? (i := 640) (by decide +kernel), List.mem_of_getElem? (i := 941) (by decide +kernel), List.mem_of_getElem? (i := 942) (by decide +kernel)⟩
theorem lw_p37 : lw_okq (⟨"RavelKnitModel", "alikeUpTo", "(I)I"⟩, 47) := ⟨⟨by decide +kernel, by decide +kernel⟩, List.mem_of_getElem? (i := 640) (by decide +kernel), List.mem_of_getElem? (i := 945) (by decide +kernel), List.mem_of_getElem? (i := 946) (by decide +kernel)⟩
theorem lw_p38 : lw_okq (⟨"RavelKnitModel", "findDown", "()V"⟩, 47) := ⟨⟨by decide +kernel, by decide +kernel⟩, List.mem_of_getElem? (i := 640) (by decide +kernel), List.mem_of_getElem? (i := 949) (by decide +kernel), List.mem_of_getElem? (i := 950) (by decide +kernel)⟩
theorem lw_p39 : lw_okq (⟨"RavelKnitModel", "canTell", "()Z"⟩, 47) := ⟨⟨by decide +kernel, by decide +kernel⟩, List.mem_of_getElem? (i := 640) (by decide +kernel), List.mem_of_getElem? (i := 954) (by decide +kernel), List.mem_of_getElem? (i := 955) (by decide +kernel)⟩
theorem lw_p40 : lw_okq (⟨"RavelKnitModel", "building", "(II)I"⟩, 47) := ⟨⟨by decide +kernel, by decide +kernel⟩, List.mem_of_getElem? (i := 640) (by decide +kernel), List.mem_of_getElem? (i := 958) (by decide +kernel), List.mem_of_getElem? (i := 959) (by decide +kernel)⟩
theorem lw_p41 : lw_okq (⟨"RavelKnitModel", "findWorlds", "()V"⟩, 47) := ⟨⟨by decide +kernel, by decide +kernel⟩, List.mem_of_getElem? (i := 640) (by decide +kernel), List.mem_of_getElem? (i := 980) (by decide +kernel), List.mem_of_getElem? (i := 981) (by decide +kernel)⟩
theorem lw_p42 : lw_okq (⟨"RavelKnitModel", "isWorld", "(I)Z"⟩, 47) := ⟨⟨by decide +kernel, by decide +kernel⟩, List.mem_of_getElem? (i := 640) (by decide +kernel), List.mem_of_getElem? (i := 984) (by decide +kernel), List.mem_of_getElem? (i := 985) (by decide +kernel)⟩
theorem lw_p43 : lw_okq (⟨"RavelKnitModel", "mostLeft", "(I)I"⟩, 47) := ⟨⟨by decide +kernel, by decide +kernel⟩, List.mem_of_getElem? (i := 640) (by decide +kernel), List.mem_of_getElem? (i := 992) (by decide +kernel), List.mem_of_getElem? (i := 993) (by decide +kernel)⟩
theorem lw_p44 : lw_okq (⟨"RavelKnitModel", "raise", "(I)V"⟩, 47) := ⟨⟨by decide +kernel, by decide +kernel⟩, List.mem_of_getElem? (i := 640) (by decide +kernel), List.mem_of_getElem? (i := 1010) (by decide +kernel), List.mem_of_getElem? (i := 1011) (by decide +kernel)⟩
theorem lw_p45 : lw_okq (⟨"RavelKnitModel", "goChance", "(III)V"⟩, 47) := ⟨⟨by decide +kernel, by decide +kernel⟩, List.mem_of_getElem? (i := 640) (by decide +kernel), List.mem_of_getElem? (i := 1024) (by decide +kernel), List.mem_of_getElem? (i := 1025) (by decide +kernel)⟩
theorem lw_p46 : lw_okq (⟨"RavelKnitModel", "atLeast", "(I)J"⟩, 47) := ⟨⟨by decide +kernel, by decide +kernel⟩, List.mem_of_getElem? (i := 640) (by decide +kernel), List.mem_of_getElem? (i := 1028) (by decide +kernel), List.mem_of_getElem? (i := 1029) (by decide +kernel)⟩
theorem lw_p47 : lw_okq (⟨"RavelKnitModel", "drawn", "(I)V"⟩, 47) := ⟨⟨by decide +kernel, by decide +kernel⟩, List.mem_of_getElem? (i := 640) (by decide +kernel), List.mem_of_getElem? (i := 1056) (by decide +kernel), List.mem_of_getElem? (i := 1057) (by decide +kernel)⟩
def lw_privs_3 : List (MethodName × Nat) := [(⟨"RavelKnitModel", "undo", "()V"⟩, 47), (⟨"RavelKnitModel", "look", "(I)V"⟩, 47), (⟨"RavelKnitModel", "putBack", "()V"⟩, 47), (⟨"RavelKnitModel", "isRow", "(I)Z"⟩, 47), (⟨"RavelKnitModel", "madeOf", "(I)I"⟩, 47), (⟨"RavelKnitModel", "alikeUpTo", "(I)I"⟩, 47), (⟨"RavelKnitModel", "findDown", "()V"⟩, 47), (⟨"RavelKnitModel", "canTell", "()Z"⟩, 47), (⟨"RavelKnitModel", "building", "(II)I"⟩, 47), (⟨"RavelKnitModel", "findWorlds", "()V"⟩, 47), (⟨"RavelKnitModel", "isWorld", "(I)Z"⟩, 47), (⟨"RavelKnitModel", "mostLeft", "(I)I"⟩, 47), (⟨"RavelKnitModel", "raise", "(I)V"⟩, 47), (⟨"RavelKnitModel", "goChance", "(III)V"⟩, 47), (⟨"RavelKnitModel", "atLeast", "(I)J"⟩, 47), (⟨"RavelKnitModel", "drawn", "(I)V"⟩, 47)]
theorem lw_r3 : ∀ q ∈ lw_privs_3, lw_okq q := List.forall_mem_cons.mpr ⟨lw_p32, List.forall_mem_cons.mpr ⟨lw_p33, List.forall_mem_cons.mpr ⟨lw_p34, List.forall_mem_cons.mpr ⟨lw_p35, List.forall_mem_cons.mpr ⟨lw_p36, List.forall_mem_cons.mpr ⟨lw_p37, List.forall_mem_cons.mpr ⟨lw_p38, List.forall_mem_cons.mpr ⟨lw_p39, List.forall_mem_cons.mpr ⟨lw_p40, List.forall_mem_cons.mpr ⟨lw_p41, List.forall_mem_cons.mpr ⟨lw_p42, List.forall_mem_cons.mpr ⟨lw_p43, List.forall_mem_cons.mpr ⟨lw_p44, List.forall_mem_cons.mpr ⟨lw_p45, List.forall_mem_cons.mpr ⟨lw_p46, List.forall_mem_cons.mpr ⟨lw_p47, fun _ h => absurd h List.not_mem_nil⟩⟩⟩⟩⟩⟩⟩⟩⟩⟩⟩⟩⟩⟩⟩⟩
theorem lw_p48 : lw_okq (⟨"RavelKnitModel", "passAll", "()V"⟩, 47) := ⟨⟨by decide +kernel, by decide +kernel⟩, List.mem_of_getElem? (i := 640) (by decide +kernel), List.mem_of_getElem? (i := 1064) (by decide +kernel), List.mem_of_getElem? (i := 1065) (by decide +kernel)⟩
theorem lw_p49 : lw_okq (⟨"RavelKnitModel", "pass", "(I)I"⟩, 47) := ⟨⟨by decide +kernel, by decide +kernel⟩, List.mem_of_getElem? (i := 640) (by decide +kernel), List.mem_of_getElem? (i := 1068) (by decide +kernel), List.mem_of_getElem? (i := 1069) (by decide +kernel)⟩
def lw_privs_4 : List (MethodName × Nat) := [(⟨"RavelKnitModel", "passAll", "()V"⟩, 47), (⟨"RavelKnitModel", "pass", "(I)I"⟩, 47)]
theorem lw_r4 : ∀ q ∈ lw_privs_4, lw_okq q := List.forall_mem_cons.mpr ⟨lw_p48, List.forall_mem_cons.mpr ⟨lw_p49, fun _ h => absurd h List.not_mem_nil⟩⟩
def lw_privs : List (MethodName × Nat) := lw_privs_1 ++ (lw_privs_2 ++ (lw_privs_3 ++ (lw_privs_4)))
def lw_tbl : List Cond := k2_sels lw_privs ++ tables_1
theorem lw_privs_ok : ∀ q ∈ lw_privs, lw_okq q := by
  show ∀ q ∈ lw_privs_1 ++ (lw_privs_2 ++ (lw_privs_3 ++ (lw_privs_4))), lw_okq q
  exact List.forall_mem_append.mpr ⟨lw_r1, List.forall_mem_append.mpr ⟨lw_r2, List.forall_mem_append.mpr ⟨lw_r3, lw_r4⟩⟩⟩
end
section
def RX0 : String := "RavelKnit$Company"
def TX0 : u_T := fun k => match k with
  | 0 => ("RavelKnit$Company", "factCount", "I", false)
  | 1 => ("RavelKnit$Company", "soBits", "I", false)
  | 2 => ("RavelKnit$Company", "tempers", "[I", true)
  | 3 => ("RavelKnit$Company", "needles", "LRavelKnit$Needles;", true)
  | 4 => ("RavelKnit$Company", "sightCount", "I", false)
  | 5 => ("RavelKnit$Company", "sightRemarks", "[I", true)
  | 6 => ("RavelKnit$Company", "sightRows", "[I", true)
  | _ => ("RavelKnit$Company", "isKept", "Z", false)
def tyX0 : Nat → FieldType := fun k => match k with
  | 0 => .int
  | 1 => .int
  | 2 => .array .int
  | 3 => .object "RavelKnit$Needles"
  | 4 => .int
  | 5 => .array .int
  | 6 => .array .int
  | _ => .boolean
theorem nmX0 : ∀ a, a < 8 → ∀ b, b < 8 → a ≠ b → (TX0 a).2.1 ≠ (TX0 b).2.1 := by decide +kernel
theorem tyX0_ok : ∀ k, k < 8 → parseFieldDescriptor (TX0 k).2.2.1 = some (tyX0 k) := by decide +kernel
abbrev cX0_init : ByteArray := prog_2_method_1_code
def yX0_init : MethodName := ⟨RX0, "<init>", "()V"⟩
abbrev cX0_restart : ByteArray := prog_2_method_2_code
def yX0_restart : MethodName := ⟨RX0, "restart", "(I)V"⟩
abbrev cX0_copyFrom : ByteArray := prog_2_method_3_code
def yX0_copyFrom : MethodName := ⟨RX0, "copyFrom", "(LRavelKnit$Company;)V"⟩
abbrev cX0_temperOf : ByteArray := prog_2_method_4_code
def yX0_temperOf : MethodName := ⟨RX0, "temperOf", "(I)I"⟩
abbrev cX0_countWithout : ByteArray := prog_2_method_5_code
def yX0_countWithout : MethodName := ⟨RX0, "countWithout", "(I)I"⟩
abbrev cX0_addSight : ByteArray := prog_2_method_6_code
def yX0_addSight : MethodName := ⟨RX0, "addSight", "(II)I"⟩
abbrev cX0_sightsFit : ByteArray := prog_2_method_7_code
def yX0_sightsFit : MethodName := ⟨RX0, "sightsFit", "(LRavelKnit$Evening;)Z"⟩
def RX1 : String := "RavelKnit$Evening"
def TX1 : u_T := fun k => match k with
  | 0 => ("RavelKnit$Evening", "remarks", "[I", true)
  | 1 => ("RavelKnit$Evening", "count", "I", false)
  | 2 => ("RavelKnit$Evening", "heights", "[I", true)
  | 3 => ("RavelKnit$Evening", "needles", "LRavelKnit$Needles;", true)
  | 4 => ("RavelKnit$Evening", "stop", "I", false)
  | _ => ("RavelKnit$Evening", "why", "I", false)
def tyX1 : Nat → FieldType := fun k => match k with
  | 0 => .array .int
  | 1 => .int
  | 2 => .array .int
  | 3 => .object "RavelKnit$Needles"
  | 4 => .int
  | _ => .int
theorem nmX1 : ∀ a, a < 6 → ∀ b, b < 6 → a ≠ b → (TX1 a).2.1 ≠ (TX1 b).2.1 := by decide +kernel
theorem tyX1_ok : ∀ k, k < 6 → parseFieldDescriptor (TX1 k).2.2.1 = some (tyX1 k) := by decide +kernel
abbrev cX1_init : ByteArray := prog_3_method_1_code
def yX1_init : MethodName := ⟨RX1, "<init>", "()V"⟩
abbrev cX1_read : ByteArray := prog_3_method_2_code
def yX1_read : MethodName := ⟨RX1, "read", "(LRavelKnit$Pad;I)I"⟩
abbrev cX1_unspoken : ByteArray := prog_3_method_3_code
def yX1_unspoken : MethodName := ⟨RX1, "unspoken", "(I)I"⟩
abbrev cX1_add : ByteArray := prog_3_method_4_code
def yX1_add : MethodName := ⟨RX1, "add", "(I)V"⟩
abbrev cX1_play : ByteArray := prog_3_method_5_code
def yX1_play : MethodName := ⟨RX1, "play", "(LRavelKnit$Company;I)V"⟩
abbrev cX1_lowest : ByteArray := prog_3_method_6_code
def yX1_lowest : MethodName := ⟨RX1, "lowest", "()I"⟩
abbrev cX1_highest : ByteArray := prog_3_method_7_code
def yX1_highest : MethodName := ⟨RX1, "highest", "()I"⟩
abbrev cX1_remarkTaking : ByteArray := prog_3_method_8_code
def yX1_remarkTaking : MethodName := ⟨RX1, "remarkTaking", "(I)I"⟩
abbrev cX1_habitOf : ByteArray := prog_3_method_9_code
def yX1_habitOf : MethodName := ⟨RX1, "habitOf", "(II)I"⟩
def RX2 : String := "RavelKnit$Needles"
def TX2 : u_T := fun k => match k with
  | 0 => ("RavelKnit$Needles", "colours", "[I", true)
  | 1 => ("RavelKnit$Needles", "kinds", "[I", true)
  | 2 => ("RavelKnit$Needles", "widths", "[I", true)
  | 3 => ("RavelKnit$Needles", "count", "I", false)
  | 4 => ("RavelKnit$Needles", "width", "I", false)
  | 5 => ("RavelKnit$Needles", "came", "I", false)
  | 6 => ("RavelKnit$Needles", "went", "I", false)
  | _ => ("RavelKnit$Needles", "liar", "I", false)
def tyX2 : Nat → FieldType := fun k => match k with
  | 0 => .array .int
  | 1 => .array .int
  | 2 => .array .int
  | 3 => .int
  | 4 => .int
  | 5 => .int
  | 6 => .int
  | _ => .int
theorem nmX2 : ∀ a, a < 8 → ∀ b, b < 8 → a ≠ b → (TX2 a).2.1 ≠ (TX2 b).2.1 := by decide +kernel
theorem tyX2_ok : ∀ k, k < 8 → parseFieldDescriptor (TX2 k).2.2.1 = some (tyX2 k) := by decide +kernel
abbrev cX2_init : ByteArray := prog_4_method_1_code
def yX2_init : MethodName := ⟨RX2, "<init>", "()V"⟩
abbrev cX2_restart : ByteArray := prog_4_method_2_code
def yX2_restart : MethodName := ⟨RX2, "restart", "()V"⟩
abbrev cX2_copyFrom : ByteArray := prog_4_method_3_code
def yX2_copyFrom : MethodName := ⟨RX2, "copyFrom", "(LRavelKnit$Needles;)V"⟩
abbrev cX2_has : ByteArray := prog_4_method_4_code
def yX2_has : MethodName := ⟨RX2, "has", "(I)Z"⟩
abbrev cX2_colourAt : ByteArray := prog_4_method_5_code
def yX2_colourAt : MethodName := ⟨RX2, "colourAt", "(I)I"⟩
abbrev cX2_kindAt : ByteArray := prog_4_method_6_code
def yX2_kindAt : MethodName := ⟨RX2, "kindAt", "(I)I"⟩
abbrev cX2_tellRow : ByteArray := prog_4_method_7_code
def yX2_tellRow : MethodName := ⟨RX2, "tellRow", "(II)I"⟩
abbrev cX2_hear : ByteArray := prog_4_method_8_code
def yX2_hear : MethodName := ⟨RX2, "hear", "(II)V"⟩
abbrev cX2_lay : ByteArray := prog_4_method_9_code
def yX2_lay : MethodName := ⟨RX2, "lay", "(II)V"⟩
abbrev cX2_dropTop : ByteArray := prog_4_method_10_code
def yX2_dropTop : MethodName := ⟨RX2, "dropTop", "()V"⟩
abbrev cX2_dropColour : ByteArray := prog_4_method_11_code
def yX2_dropColour : MethodName := ⟨RX2, "dropColour", "()V"⟩
def RX3 : String := "RavelKnit$Odds"
def TX3 : u_T := fun k => match k with
  | _ => ("RavelKnit$Odds", "shares", "[J", true)
def tyX3 : Nat → FieldType := fun k => match k with
  | _ => .array .long
theorem nmX3 : ∀ a, a < 1 → ∀ b, b < 1 → a ≠ b → (TX3 a).2.1 ≠ (TX3 b).2.1 := by decide +kernel
theorem tyX3_ok : ∀ k, k < 1 → parseFieldDescriptor (TX3 k).2.2.1 = some (tyX3 k) := by decide +kernel
abbrev cX3_init : ByteArray := prog_5_method_1_code
def yX3_init : MethodName := ⟨RX3, "<init>", "()V"⟩
abbrev cX3_play : ByteArray := prog_5_method_2_code
def yX3_play : MethodName := ⟨RX3, "play", "(III)V"⟩
abbrev cX3_step : ByteArray := prog_5_method_3_code
def yX3_step : MethodName := ⟨RX3, "step", "(I)V"⟩
abbrev cX3_atLeast : ByteArray := prog_5_method_4_code
def yX3_atLeast : MethodName := ⟨RX3, "atLeast", "(I)J"⟩
abbrev cX3_sumOfRows : ByteArray := prog_5_method_5_code
def yX3_sumOfRows : MethodName := ⟨RX3, "sumOfRows", "()J"⟩
def RX4 : String := "RavelKnit$Orders"
def TX4 : u_T := fun k => match k with
  | _ => ("RavelKnit$Orders", "ways", "[J", true)
def tyX4 : Nat → FieldType := fun k => match k with
  | _ => .array .long
theorem nmX4 : ∀ a, a < 1 → ∀ b, b < 1 → a ≠ b → (TX4 a).2.1 ≠ (TX4 b).2.1 := by decide +kernel
theorem tyX4_ok : ∀ k, k < 1 → parseFieldDescriptor (TX4 k).2.2.1 = some (tyX4 k) := by decide +kernel
abbrev cX4_init : ByteArray := prog_6_method_1_code
def yX4_init : MethodName := ⟨RX4, "<init>", "()V"⟩
abbrev cX4_ending : ByteArray := prog_6_method_2_code
def yX4_ending : MethodName := ⟨RX4, "ending", "(IIII)J"⟩
abbrev cX4_raise : ByteArray := prog_6_method_3_code
def yX4_raise : MethodName := ⟨RX4, "raise", "(I)V"⟩
abbrev cX4_addDropped : ByteArray := prog_6_method_4_code
def yX4_addDropped : MethodName := ⟨RX4, "addDropped", "(II)V"⟩
def RX5 : String := "RavelKnit$Pad"
def TX5 : u_T := fun k => match k with
  | 0 => ("RavelKnit$Pad", "signs", "[I", true)
  | _ => ("RavelKnit$Pad", "count", "I", false)
def tyX5 : Nat → FieldType := fun k => match k with
  | 0 => .array .int
  | _ => .int
theorem nmX5 : ∀ a, a < 2 → ∀ b, b < 2 → a ≠ b → (TX5 a).2.1 ≠ (TX5 b).2.1 := by decide +kernel
theorem tyX5_ok : ∀ k, k < 2 → parseFieldDescriptor (TX5 k).2.2.1 = some (tyX5 k) := by decide +kernel
abbrev cX5_init : ByteArray := prog_7_method_1_code
def yX5_init : MethodName := ⟨RX5, "<init>", "()V"⟩
abbrev cX5_add : ByteArray := prog_7_method_2_code
def yX5_add : MethodName := ⟨RX5, "add", "(I)I"⟩
def RX6 : String := "RavelKnit$Pattern"
def TX6 : u_T := fun k => match k with
  | 0 => ("RavelKnit$Pattern", "colours", "[I", true)
  | 1 => ("RavelKnit$Pattern", "kinds", "[I", true)
  | _ => ("RavelKnit$Pattern", "count", "I", false)
def tyX6 : Nat → FieldType := fun k => match k with
  | 0 => .array .int
  | 1 => .array .int
  | _ => .int
theorem nmX6 : ∀ a, a < 3 → ∀ b, b < 3 → a ≠ b → (TX6 a).2.1 ≠ (TX6 b).2.1 := by decide +kernel
theorem tyX6_ok : ∀ k, k < 3 → parseFieldDescriptor (TX6 k).2.2.1 = some (tyX6 k) := by decide +kernel
abbrev cX6_init : ByteArray := prog_8_method_1_code
def yX6_init : MethodName := ⟨RX6, "<init>", "()V"⟩
abbrev cX6_read : ByteArray := prog_8_method_2_code
def yX6_read : MethodName := ⟨RX6, "read", "(LRavelKnit$Pad;)I"⟩
abbrev cX6_add : ByteArray := prog_8_method_3_code
def yX6_add : MethodName := ⟨RX6, "add", "(II)V"⟩
def RX7 : String := "RavelKnit$Survey"
def TX7 : u_T := fun k => match k with
  | 0 => ("RavelKnit$Survey", "count", "I", false)
  | 1 => ("RavelKnit$Survey", "least", "I", false)
  | 2 => ("RavelKnit$Survey", "inAll", "I", false)
  | 3 => ("RavelKnit$Survey", "inSome", "I", false)
  | _ => ("RavelKnit$Survey", "soIn", "[I", true)
def tyX7 : Nat → FieldType := fun k => match k with
  | 0 => .int
  | 1 => .int
  | 2 => .int
  | 3 => .int
  | _ => .array .int
theorem nmX7 : ∀ a, a < 5 → ∀ b, b < 5 → a ≠ b → (TX7 a).2.1 ≠ (TX7 b).2.1 := by decide +kernel
theorem tyX7_ok : ∀ k, k < 5 → parseFieldDescriptor (TX7 k).2.2.1 = some (tyX7 k) := by decide +kernel
abbrev cX7_init : ByteArray := prog_9_method_1_code
def yX7_init : MethodName := ⟨RX7, "<init>", "()V"⟩
abbrev cX7_clear : ByteArray := prog_9_method_2_code
def yX7_clear : MethodName := ⟨RX7, "clear", "()V"⟩
abbrev cX7_add : ByteArray := prog_9_method_3_code
def yX7_add : MethodName := ⟨RX7, "add", "(I)V"⟩
abbrev cX7_leftAtMost : ByteArray := prog_9_method_4_code
def yX7_leftAtMost : MethodName := ⟨RX7, "leftAtMost", "(I)I"⟩
abbrev cX7_bestFact : ByteArray := prog_9_method_5_code
def yX7_bestFact : MethodName := ⟨RX7, "bestFact", "(I)I"⟩
def RX8 : String := "RavelKnit"
def TX8 : u_T := fun k => match k with
  | 0 => ("RavelKnit", "now", "LRavelKnit$Company;", true)
  | 1 => ("RavelKnit", "imageZero", "LRavelKnit$Company;", true)
  | 2 => ("RavelKnit", "imageOne", "LRavelKnit$Company;", true)
  | 3 => ("RavelKnit", "pad", "LRavelKnit$Pad;", true)
  | 4 => ("RavelKnit", "evening", "LRavelKnit$Evening;", true)
  | 5 => ("RavelKnit", "pattern", "LRavelKnit$Pattern;", true)
  | 6 => ("RavelKnit", "survey", "LRavelKnit$Survey;", true)
  | 7 => ("RavelKnit", "orderTable", "LRavelKnit$Orders;", true)
  | _ => ("RavelKnit", "odds", "LRavelKnit$Odds;", true)
def tyX8 : Nat → FieldType := fun k => match k with
  | 0 => .object "RavelKnit$Company"
  | 1 => .object "RavelKnit$Company"
  | 2 => .object "RavelKnit$Company"
  | 3 => .object "RavelKnit$Pad"
  | 4 => .object "RavelKnit$Evening"
  | 5 => .object "RavelKnit$Pattern"
  | 6 => .object "RavelKnit$Survey"
  | 7 => .object "RavelKnit$Orders"
  | _ => .object "RavelKnit$Odds"
theorem nmX8 : ∀ a, a < 9 → ∀ b, b < 9 → a ≠ b → (TX8 a).2.1 ≠ (TX8 b).2.1 := by decide +kernel
theorem tyX8_ok : ∀ k, k < 9 → parseFieldDescriptor (TX8 k).2.2.1 = some (tyX8 k) := by decide +kernel
abbrev cX8_init : ByteArray := prog_1_method_1_code
def yX8_init : MethodName := ⟨RX8, "<init>", "()V"⟩
abbrev cX8_facts : ByteArray := prog_1_method_2_code
def yX8_facts : MethodName := ⟨RX8, "facts", "(I)I"⟩
abbrev cX8_fact : ByteArray := prog_1_method_3_code
def yX8_fact : MethodName := ⟨RX8, "fact", "(IZ)I"⟩
abbrev cX8_temper : ByteArray := prog_1_method_4_code
def yX8_temper : MethodName := ⟨RX8, "temper", "(II)I"⟩
abbrev cX8_width : ByteArray := prog_1_method_5_code
def yX8_width : MethodName := ⟨RX8, "width", "(I)I"⟩
abbrev cX8_say : ByteArray := prog_1_method_6_code
def yX8_say : MethodName := ⟨RX8, "say", "(I)I"⟩
abbrev cX8_wipe : ByteArray := prog_1_method_7_code
def yX8_wipe : MethodName := ⟨RX8, "wipe", "()I"⟩
abbrev cX8_fault : ByteArray := prog_1_method_8_code
def yX8_fault : MethodName := ⟨RX8, "fault", "(I)I"⟩
abbrev cX8_judge : ByteArray := prog_1_method_9_code
def yX8_judge : MethodName := ⟨RX8, "judge", "(I)I"⟩
abbrev cX8_behind : ByteArray := prog_1_method_10_code
def yX8_behind : MethodName := ⟨RX8, "behind", "(I)I"⟩
abbrev cX8_row : ByteArray := prog_1_method_11_code
def yX8_row : MethodName := ⟨RX8, "row", "(II)I"⟩
abbrev cX8_lost : ByteArray := prog_1_method_12_code
def yX8_lost : MethodName := ⟨RX8, "lost", "(I)I"⟩
abbrev cX8_done : ByteArray := prog_1_method_13_code
def yX8_done : MethodName := ⟨RX8, "done", "()I"⟩
abbrev cX8_state : ByteArray := prog_1_method_14_code
def yX8_state : MethodName := ⟨RX8, "state", "(II)I"⟩
abbrev cX8_made : ByteArray := prog_1_method_15_code
def yX8_made : MethodName := ⟨RX8, "made", "()I"⟩
abbrev cX8_bars : ByteArray := prog_1_method_16_code
def yX8_bars : MethodName := ⟨RX8, "bars", "()I"⟩
abbrev cX8_seen : ByteArray := prog_1_method_17_code
def yX8_seen : MethodName := ⟨RX8, "seen", "(II)I"⟩
abbrev cX8_forget : ByteArray := prog_1_method_18_code
def yX8_forget : MethodName := ⟨RX8, "forget", "()I"⟩
abbrev cX8_worlds : ByteArray := prog_1_method_19_code
def yX8_worlds : MethodName := ⟨RX8, "worlds", "(I)I"⟩
abbrev cX8_tell : ByteArray := prog_1_method_20_code
def yX8_tell : MethodName := ⟨RX8, "tell", "(I)I"⟩
abbrev cX8_says : ByteArray := prog_1_method_21_code
def yX8_says : MethodName := ⟨RX8, "says", "(I)I"⟩
abbrev cX8_orders : ByteArray := prog_1_method_22_code
def yX8_orders : MethodName := ⟨RX8, "orders", "(IIII)J"⟩
abbrev cX8_left : ByteArray := prog_1_method_23_code
def yX8_left : MethodName := ⟨RX8, "left", "(IIII)I"⟩
abbrev cX8_chance : ByteArray := prog_1_method_24_code
def yX8_chance : MethodName := ⟨RX8, "chance", "(IIII)J"⟩
abbrev cX8_over : ByteArray := prog_1_method_25_code
def yX8_over : MethodName := ⟨RX8, "over", "(IIIII)I"⟩
abbrev cX8_patterns : ByteArray := prog_1_method_26_code
def yX8_patterns : MethodName := ⟨RX8, "patterns", "(I)I"⟩
abbrev cX8_draws : ByteArray := prog_1_method_27_code
def yX8_draws : MethodName := ⟨RX8, "draws", "(III)I"⟩
abbrev cX8_image : ByteArray := prog_1_method_28_code
def yX8_image : MethodName := ⟨RX8, "image", "(I)I"⟩
abbrev cX8_restore : ByteArray := prog_1_method_29_code
def yX8_restore : MethodName := ⟨RX8, "restore", "(I)I"⟩
abbrev cX8_told : ByteArray := prog_1_method_30_code
def yX8_told : MethodName := ⟨RX8, "told", "(I)I"⟩
abbrev cX8_playPad : ByteArray := prog_1_method_31_code
def yX8_playPad : MethodName := ⟨RX8, "playPad", "()I"⟩
abbrev cX8_readPattern : ByteArray := prog_1_method_32_code
def yX8_readPattern : MethodName := ⟨RX8, "readPattern", "()I"⟩
abbrev cX8_imageAt : ByteArray := prog_1_method_33_code
def yX8_imageAt : MethodName := ⟨RX8, "imageAt", "(I)LRavelKnit$Company;"⟩
abbrev cX8_surveyWorlds : ByteArray := prog_1_method_34_code
def yX8_surveyWorlds : MethodName := ⟨RX8, "surveyWorlds", "()Z"⟩
abbrev cX8_fewestRemarks : ByteArray := prog_1_method_35_code
def yX8_fewestRemarks : MethodName := ⟨RX8, "fewestRemarks", "(I)I"⟩
abbrev cX8_isThereAlready : ByteArray := prog_1_method_36_code
def yX8_isThereAlready : MethodName := ⟨RX8, "isThereAlready", "(I)Z"⟩
abbrev cX8_remarksDownTo : ByteArray := prog_1_method_37_code
def yX8_remarksDownTo : MethodName := ⟨RX8, "remarksDownTo", "(I)I"⟩
abbrev cX8_remarksUpTo : ByteArray := prog_1_method_38_code
def yX8_remarksUpTo : MethodName := ⟨RX8, "remarksUpTo", "(II)I"⟩
abbrev cX8_spoken : ByteArray := prog_1_method_39_code
def yX8_spoken : MethodName := ⟨RX8, "spoken", "(IIZ)I"⟩
abbrev cX8_isSpoken : ByteArray := prog_1_method_40_code
def yX8_isSpoken : MethodName := ⟨RX8, "isSpoken", "(I)Z"⟩
abbrev cX8_guestOf : ByteArray := prog_1_method_41_code
def yX8_guestOf : MethodName := ⟨RX8, "guestOf", "(I)I"⟩
abbrev cX8_isTrue : ByteArray := prog_1_method_42_code
def yX8_isTrue : MethodName := ⟨RX8, "isTrue", "(II)Z"⟩
abbrev cX8_drawnRemark : ByteArray := prog_1_method_43_code
def yX8_drawnRemark : MethodName := ⟨RX8, "drawnRemark", "(II)I"⟩
abbrev cX8_whyNot : ByteArray := prog_1_method_44_code
def yX8_whyNot : MethodName := ⟨RX8, "whyNot", "(ILRavelKnit$Company;ILRavelKnit$Needles;)I"⟩
abbrev cX8_isWithin : ByteArray := prog_1_method_45_code
def yX8_isWithin : MethodName := ⟨RX8, "isWithin", "(III)Z"⟩
abbrev cX8_isGuest : ByteArray := prog_1_method_46_code
def yX8_isGuest : MethodName := ⟨RX8, "isGuest", "(I)Z"⟩
abbrev cX8_areOrders : ByteArray := prog_1_method_47_code
def yX8_areOrders : MethodName := ⟨RX8, "areOrders", "(III)Z"⟩
abbrev cX8_areChances : ByteArray := prog_1_method_48_code
def yX8_areChances : MethodName := ⟨RX8, "areChances", "(II)Z"⟩
abbrev cX8_powerOfTen : ByteArray := prog_1_method_49_code
def yX8_powerOfTen : MethodName := ⟨RX8, "powerOfTen", "(I)J"⟩
abbrev cX8_greatestDivisor : ByteArray := prog_1_method_50_code
def yX8_greatestDivisor : MethodName := ⟨RX8, "greatestDivisor", "(JJ)J"⟩
abbrev cX8_at : ByteArray := prog_1_method_51_code
def yX8_at : MethodName := ⟨RX8, "at", "([II)I"⟩
abbrev cX8_put : ByteArray := prog_1_method_52_code
def yX8_put : MethodName := ⟨RX8, "put", "([III)V"⟩
abbrev cX8_at_ : ByteArray := prog_1_method_53_code
def yX8_at_ : MethodName := ⟨RX8, "at", "([JI)J"⟩
abbrev cX8_put_ : ByteArray := prog_1_method_54_code
def yX8_put_ : MethodName := ⟨RX8, "put", "([JIJ)V"⟩
abbrev cX8_copyAll : ByteArray := prog_1_method_55_code
def yX8_copyAll : MethodName := ⟨RX8, "copyAll", "([I[I)V"⟩
def RX9 : String := "RavelKnitModel"
def TX9 : u_T := fun k => match k with
  | 0 => ("RavelKnitModel", "facts", "I", false)
  | 1 => ("RavelKnitModel", "so", "I", false)
  | 2 => ("RavelKnitModel", "temper", "[I", true)
  | 3 => ("RavelKnitModel", "rows", "I", false)
  | 4 => ("RavelKnitModel", "width", "I", false)
  | 5 => ("RavelKnitModel", "colour", "[I", true)
  | 6 => ("RavelKnitModel", "kind", "[I", true)
  | 7 => ("RavelKnitModel", "wide", "[I", true)
  | 8 => ("RavelKnitModel", "sightRemarks", "[I", true)
  | 9 => ("RavelKnitModel", "sightRows", "[I", true)
  | 10 => ("RavelKnitModel", "sights", "I", false)
  | 11 => ("RavelKnitModel", "pad", "[I", true)
  | 12 => ("RavelKnitModel", "padMany", "I", false)
  | 13 => ("RavelKnitModel", "remark", "[I", true)
  | 14 => ("RavelKnitModel", "whose", "[I", true)
  | 15 => ("RavelKnitModel", "about", "[I", true)
  | 16 => ("RavelKnitModel", "toldSo", "[I", true)
  | 17 => ("RavelKnitModel", "remarks", "I", false)
  | 18 => ("RavelKnitModel", "wantedColour", "[I", true)
  | 19 => ("RavelKnitModel", "wantedKind", "[I", true)
  | 20 => ("RavelKnitModel", "wanted", "I", false)
  | 21 => ("RavelKnitModel", "came", "I", false)
  | 22 => ("RavelKnitModel", "went", "I", false)
  | 23 => ("RavelKnitModel", "least", "I", false)
  | 24 => ("RavelKnitModel", "most", "I", false)
  | 25 => ("RavelKnitModel", "lastLiar", "I", false)
  | 26 => ("RavelKnitModel", "lostBy", "[I", true)
  | 27 => ("RavelKnitModel", "had", "[I", true)
  | 28 => ("RavelKnitModel", "badRemark", "I", false)
  | 29 => ("RavelKnitModel", "badWhy", "I", false)
  | 30 => ("RavelKnitModel", "seenSo", "Z", false)
  | 31 => ("RavelKnitModel", "leaves", "[I", true)
  | 32 => ("RavelKnitModel", "leavesRows", "I", false)
  | 33 => ("RavelKnitModel", "leavesWidth", "I", false)
  | 34 => ("RavelKnitModel", "down", "[I", true)
  | 35 => ("RavelKnitModel", "worldMany", "I", false)
  | 36 => ("RavelKnitModel", "worldLeast", "I", false)
  | 37 => ("RavelKnitModel", "inAll", "I", false)
  | 38 => ("RavelKnitModel", "inSome", "I", false)
  | 39 => ("RavelKnitModel", "soIn", "[I", true)
  | 40 => ("RavelKnitModel", "waysTo", "[J", true)
  | 41 => ("RavelKnitModel", "nextWays", "[J", true)
  | 42 => ("RavelKnitModel", "ordersTo", "[J", true)
  | 43 => ("RavelKnitModel", "kept", "[I", true)
  | 44 => ("RavelKnitModel", "isKept", "[Z", true)
  | 45 => ("RavelKnitModel", "keptAt", "I", false)
  | _ => ("RavelKnitModel", "isWriting", "Z", false)
def tyX9 : Nat → FieldType := fun k => match k with
  | 0 => .int
  | 1 => .int
  | 2 => .array .int
  | 3 => .int
  | 4 => .int
  | 5 => .array .int
  | 6 => .array .int
  | 7 => .array .int
  | 8 => .array .int
  | 9 => .array .int
  | 10 => .int
  | 11 => .array .int
  | 12 => .int
  | 13 => .array .int
  | 14 => .array .int
  | 15 => .array .int
  | 16 => .array .int
  | 17 => .int
  | 18 => .array .int
  | 19 => .array .int
  | 20 => .int
  | 21 => .int
  | 22 => .int
  | 23 => .int
  | 24 => .int
  | 25 => .int
  | 26 => .array .int
  | 27 => .array .int
  | 28 => .int
  | 29 => .int
  | 30 => .boolean
  | 31 => .array .int
  | 32 => .int
  | 33 => .int
  | 34 => .array .int
  | 35 => .int
  | 36 => .int
  | 37 => .int
  | 38 => .int
  | 39 => .array .int
  | 40 => .array .long
  | 41 => .array .long
  | 42 => .array .long
  | 43 => .array .int
  | 44 => .array .boolean
  | 45 => .int
  | _ => .boolean
theorem nmX9 : ∀ a, a < 47 → ∀ b, b < 47 → a ≠ b → (TX9 a).2.1 ≠ (TX9 b).2.1 := by decide +kernel
theorem tyX9_ok : ∀ k, k < 47 → parseFieldDescriptor (TX9 k).2.2.1 = some (tyX9 k) := by decide +kernel
abbrev cX9_init : ByteArray := prog_11_method_1_code
def yX9_init : MethodName := ⟨RX9, "<init>", "()V"⟩
abbrev cX9_in : ByteArray := prog_11_method_3_code
def yX9_in : MethodName := ⟨RX9, "in", "(JJJ)Z"⟩
abbrev cX9_begin : ByteArray := prog_11_method_4_code
def yX9_begin : MethodName := ⟨RX9, "begin", "(I)V"⟩
abbrev cX9_isFact : ByteArray := prog_11_method_5_code
def yX9_isFact : MethodName := ⟨RX9, "isFact", "(I)Z"⟩
abbrev cX9_isGuest : ByteArray := prog_11_method_6_code
def yX9_isGuest : MethodName := ⟨RX9, "isGuest", "(I)Z"⟩
abbrev cX9_isRow : ByteArray := prog_11_method_7_code
def yX9_isRow : MethodName := ⟨RX9, "isRow", "(I)Z"⟩
abbrev cX9_facts : ByteArray := prog_11_method_8_code
def yX9_facts : MethodName := ⟨RX9, "facts", "(I)I"⟩
abbrev cX9_fact : ByteArray := prog_11_method_9_code
def yX9_fact : MethodName := ⟨RX9, "fact", "(IZ)I"⟩
abbrev cX9_temper : ByteArray := prog_11_method_10_code
def yX9_temper : MethodName := ⟨RX9, "temper", "(II)I"⟩
abbrev cX9_width : ByteArray := prog_11_method_11_code
def yX9_width : MethodName := ⟨RX9, "width", "(I)I"⟩
abbrev cX9_say : ByteArray := prog_11_method_12_code
def yX9_say : MethodName := ⟨RX9, "say", "(I)I"⟩
abbrev cX9_wipe : ByteArray := prog_11_method_13_code
def yX9_wipe : MethodName := ⟨RX9, "wipe", "()I"⟩
abbrev cX9_shortRemark : ByteArray := prog_11_method_14_code
def yX9_shortRemark : MethodName := ⟨RX9, "shortRemark", "(I)I"⟩
abbrev cX9_faultOfEvening : ByteArray := prog_11_method_15_code
def yX9_faultOfEvening : MethodName := ⟨RX9, "faultOfEvening", "()I"⟩
abbrev cX9_faultOfPattern : ByteArray := prog_11_method_16_code
def yX9_faultOfPattern : MethodName := ⟨RX9, "faultOfPattern", "()I"⟩
abbrev cX9_fault : ByteArray := prog_11_method_17_code
def yX9_fault : MethodName := ⟨RX9, "fault", "(I)I"⟩
abbrev cX9_isLie : ByteArray := prog_11_method_18_code
def yX9_isLie : MethodName := ⟨RX9, "isLie", "(II)Z"⟩
abbrev cX9_whyNotKnit : ByteArray := prog_11_method_19_code
def yX9_whyNotKnit : MethodName := ⟨RX9, "whyNotKnit", "()I"⟩
abbrev cX9_whyNotSay : ByteArray := prog_11_method_20_code
def yX9_whyNotSay : MethodName := ⟨RX9, "whyNotSay", "(IZ)I"⟩
abbrev cX9_whyNot : ByteArray := prog_11_method_21_code
def yX9_whyNot : MethodName := ⟨RX9, "whyNot", "(II)I"⟩
abbrev cX9_knit : ByteArray := prog_11_method_22_code
def yX9_knit : MethodName := ⟨RX9, "knit", "(II)V"⟩
abbrev cX9_ravel : ByteArray := prog_11_method_23_code
def yX9_ravel : MethodName := ⟨RX9, "ravel", "()V"⟩
abbrev cX9_undo : ByteArray := prog_11_method_24_code
def yX9_undo : MethodName := ⟨RX9, "undo", "()V"⟩
abbrev cX9_tells : ByteArray := prog_11_method_25_code
def yX9_tells : MethodName := ⟨RX9, "tells", "(IZ)V"⟩
abbrev cX9_happen : ByteArray := prog_11_method_26_code
def yX9_happen : MethodName := ⟨RX9, "happen", "(II)V"⟩
abbrev cX9_keepNow : ByteArray := prog_11_method_27_code
def yX9_keepNow : MethodName := ⟨RX9, "keepNow", "()V"⟩
abbrev cX9_putBack : ByteArray := prog_11_method_28_code
def yX9_putBack : MethodName := ⟨RX9, "putBack", "()V"⟩
abbrev cX9_look : ByteArray := prog_11_method_29_code
def yX9_look : MethodName := ⟨RX9, "look", "(I)V"⟩
abbrev cX9_isSeenSo : ByteArray := prog_11_method_30_code
def yX9_isSeenSo : MethodName := ⟨RX9, "isSeenSo", "(I)Z"⟩
abbrev cX9_goEvening : ByteArray := prog_11_method_31_code
def yX9_goEvening : MethodName := ⟨RX9, "goEvening", "(I)V"⟩
abbrev cX9_refusal : ByteArray := prog_11_method_32_code
def yX9_refusal : MethodName := ⟨RX9, "refusal", "()I"⟩
abbrev cX9_judge : ByteArray := prog_11_method_33_code
def yX9_judge : MethodName := ⟨RX9, "judge", "(I)I"⟩
abbrev cX9_behind : ByteArray := prog_11_method_34_code
def yX9_behind : MethodName := ⟨RX9, "behind", "(I)I"⟩
abbrev cX9_row : ByteArray := prog_11_method_35_code
def yX9_row : MethodName := ⟨RX9, "row", "(II)I"⟩
abbrev cX9_lost : ByteArray := prog_11_method_36_code
def yX9_lost : MethodName := ⟨RX9, "lost", "(I)I"⟩
abbrev cX9_done : ByteArray := prog_11_method_37_code
def yX9_done : MethodName := ⟨RX9, "done", "()I"⟩
abbrev cX9_state : ByteArray := prog_11_method_38_code
def yX9_state : MethodName := ⟨RX9, "state", "(II)I"⟩
abbrev cX9_canTell : ByteArray := prog_11_method_39_code
def yX9_canTell : MethodName := ⟨RX9, "canTell", "()Z"⟩
abbrev cX9_alikeUpTo : ByteArray := prog_11_method_40_code
def yX9_alikeUpTo : MethodName := ⟨RX9, "alikeUpTo", "(I)I"⟩
abbrev cX9_findDown : ByteArray := prog_11_method_41_code
def yX9_findDown : MethodName := ⟨RX9, "findDown", "()V"⟩
abbrev cX9_building : ByteArray := prog_11_method_42_code
def yX9_building : MethodName := ⟨RX9, "building", "(II)I"⟩
abbrev cX9_madeOf : ByteArray := prog_11_method_43_code
def yX9_madeOf : MethodName := ⟨RX9, "madeOf", "(I)I"⟩
abbrev cX9_made : ByteArray := prog_11_method_44_code
def yX9_made : MethodName := ⟨RX9, "made", "()I"⟩
abbrev cX9_bars : ByteArray := prog_11_method_45_code
def yX9_bars : MethodName := ⟨RX9, "bars", "()I"⟩
abbrev cX9_seen : ByteArray := prog_11_method_46_code
def yX9_seen : MethodName := ⟨RX9, "seen", "(II)I"⟩
abbrev cX9_forget : ByteArray := prog_11_method_47_code
def yX9_forget : MethodName := ⟨RX9, "forget", "()I"⟩
abbrev cX9_isWorld : ByteArray := prog_11_method_48_code
def yX9_isWorld : MethodName := ⟨RX9, "isWorld", "(I)Z"⟩
abbrev cX9_findWorlds : ByteArray := prog_11_method_49_code
def yX9_findWorlds : MethodName := ⟨RX9, "findWorlds", "()V"⟩
abbrev cX9_worlds : ByteArray := prog_11_method_50_code
def yX9_worlds : MethodName := ⟨RX9, "worlds", "(I)I"⟩
abbrev cX9_mostLeft : ByteArray := prog_11_method_51_code
def yX9_mostLeft : MethodName := ⟨RX9, "mostLeft", "(I)I"⟩
abbrev cX9_tell : ByteArray := prog_11_method_52_code
def yX9_tell : MethodName := ⟨RX9, "tell", "(I)I"⟩
abbrev cX9_says : ByteArray := prog_11_method_53_code
def yX9_says : MethodName := ⟨RX9, "says", "(I)I"⟩
abbrev cX9_areRemarks : ByteArray := prog_11_method_54_code
def yX9_areRemarks : MethodName := ⟨RX9, "areRemarks", "(III)Z"⟩
abbrev cX9_orders : ByteArray := prog_11_method_55_code
def yX9_orders : MethodName := ⟨RX9, "orders", "(IIII)J"⟩
abbrev cX9_raise : ByteArray := prog_11_method_56_code
def yX9_raise : MethodName := ⟨RX9, "raise", "(I)V"⟩
abbrev cX9_left : ByteArray := prog_11_method_57_code
def yX9_left : MethodName := ⟨RX9, "left", "(IIII)I"⟩
abbrev cX9_goChance : ByteArray := prog_11_method_58_code
def yX9_goChance : MethodName := ⟨RX9, "goChance", "(III)V"⟩
abbrev cX9_tens : ByteArray := prog_11_method_59_code
def yX9_tens : MethodName := ⟨RX9, "tens", "(I)J"⟩
abbrev cX9_lowest : ByteArray := prog_11_method_60_code
def yX9_lowest : MethodName := ⟨RX9, "lowest", "(JJI)J"⟩
abbrev cX9_atLeast : ByteArray := prog_11_method_61_code
def yX9_atLeast : MethodName := ⟨RX9, "atLeast", "(I)J"⟩
abbrev cX9_chance : ByteArray := prog_11_method_62_code
def yX9_chance : MethodName := ⟨RX9, "chance", "(IIII)J"⟩
abbrev cX9_over : ByteArray := prog_11_method_63_code
def yX9_over : MethodName := ⟨RX9, "over", "(IIIII)I"⟩
abbrev cX9_patterns : ByteArray := prog_11_method_64_code
def yX9_patterns : MethodName := ⟨RX9, "patterns", "(I)I"⟩
abbrev cX9_draws : ByteArray := prog_11_method_65_code
def yX9_draws : MethodName := ⟨RX9, "draws", "(III)I"⟩
abbrev cX9_drawn : ByteArray := prog_11_method_66_code
def yX9_drawn : MethodName := ⟨RX9, "drawn", "(I)V"⟩
abbrev cX9_pass : ByteArray := prog_11_method_67_code
def yX9_pass : MethodName := ⟨RX9, "pass", "(I)I"⟩
abbrev cX9_passAll : ByteArray := prog_11_method_68_code
def yX9_passAll : MethodName := ⟨RX9, "passAll", "()V"⟩
abbrev cX9_image : ByteArray := prog_11_method_69_code
def yX9_image : MethodName := ⟨RX9, "image", "(I)I"⟩
abbrev cX9_restore : ByteArray := prog_11_method_70_code
def yX9_restore : MethodName := ⟨RX9, "restore", "(I)I"⟩
abbrev cX9_told : ByteArray := prog_11_method_71_code
def yX9_told : MethodName := ⟨RX9, "told", "(I)I"⟩
def RL : String := "RavelKnitLaw"
abbrev cL_law : ByteArray := code
def yL_law : MethodName := ⟨RL, "law", "([I)Z"⟩
end
section
-- the cells of the class and of its check: 67, numbered; what kind each is of (0 to 9 an object of that class of cls; 10 ints, 11 longs, 12 booleans) and how long
def layL : List (Nat × Nat) := [(8, 0), (0, 0), (10, 6), (2, 0), (10, 30), (10, 30), (10, 30), (10, 8), (10, 8), (0, 0), (10, 6), (2, 0), (10, 30), (10, 30), (10, 30), (10, 8), (10, 8), (0, 0), (10, 6), (2, 0), (10, 30), (10, 30), (10, 30), (10, 8), (10, 8), (5, 0), (10, 60), (1, 0), (10, 60), (10, 61), (2, 0), (10, 30), (10, 30), (10, 30), (6, 0), (10, 60), (10, 60), (7, 0), (10, 8), (4, 0), (11, 559), (3, 0), (11, 83), (9, 0), (10, 6), (10, 30), (10, 30), (10, 30), (10, 8), (10, 8), (10, 60), (10, 60), (10, 60), (10, 60), (10, 60), (10, 60), (10, 60), (10, 30), (10, 92), (10, 90), (10, 31), (10, 8), (11, 96), (11, 96), (11, 1248), (10, 260), (12, 2)]
def kd (k : Nat) : Nat := (layL.getD k (99, 0)).1
def ln (k : Nat) : Nat := (layL.getD k (99, 0)).2
-- a class's fields in the order of its slots: an int (none), or the cell so many places behind the object
def fldL : List (List (Option Nat)) := [[none, none, some 1, some 2, none, some 6, some 7, none], [some 1, none, some 2, some 3, none, none], [some 1, some 2, some 3, none, none, none, none, none], [some 1], [some 1], [some 1, none], [some 1, some 2, none], [none, none, none, none, some 1], [some 1, some 9, some 17, some 25, some 27, some 34, some 37, some 39, some 41], [none, none, some 1, none, none, some 2, some 3, some 4, some 5, some 6, none, some 7, none, some 8, some 9, some 10, some 11, none, some 12, some 13, none, none, none, none, none, none, some 14, some 15, none, none, none, some 16, none, none, some 17, none, none, none, none, some 18, some 19, some 20, some 21, some 22, some 23, none, none]]
def fo (c j : Nat) : Option Nat := (fldL.getD c []).getD j none
def fn (c : Nat) : Nat := (fldL.getD c []).length
abbrev cls : List vw_C := [(RX0, TX0, 8), (RX1, TX1, 6), (RX2, TX2, 8), (RX3, TX3, 1), (RX4, TX4, 1), (RX5, TX5, 2), (RX6, TX6, 3), (RX7, TX7, 5), (RX8, TX8, 9), (RX9, TX9, 47)]
-- what the cells hold: ints by cell and place, longs by cell and place
abbrev Sto : Type := (Nat → Nat → Int32) × (Nat → Nat → Int64)
def stI (σ : Sto) (k j : Nat) (v : Int32) : Sto := (fun a => if a = k then (fun b => if b = j then v else σ.1 k b) else σ.1 a, σ.2)
def stL (σ : Sto) (k j : Nat) (v : Int64) : Sto := (σ.1, fun a => if a = k then (fun b => if b = j then v else σ.2 k b) else σ.2 a)
def stC (σ : Sto) (a b n : Nat) : Sto := (fun q => if q = b then va_cpy (σ.1 a) (σ.1 b) 0 0 n else σ.1 q, σ.2)
def fv (ad : Nat → Nat) (σ : Sto) (k j : Nat) : Value := match fo (kd k) j with
  | none => .int (σ.1 k j)
  | some d => .ref (ad (k + d))
abbrev C3 : Type := ClassId × ClassId × ClassId
def Ec (ad : Nat → Nat) (cc : C3) (σ : Sto) (k : Nat) : va_E :=
  if kd k ≤ 9 then .inr (kd k, (List.range (fn (kd k))).map (fv ad σ k))
  else if kd k = 10 then .inl (cc.1, ln k, .inl (σ.1 k))
  else if kd k = 11 then .inl (cc.2.1, ln k, .inr (.inl (σ.2 k)))
  else .inl (cc.2.2, ln k, .inl (σ.1 k))
def wv (ad : Nat → Nat) (cc : C3) (σ : Sto) : va_W := (List.range 67).map (fun k => (ad k, Ec ad cc σ k))
theorem layL_len : layL.length = 67 := by decide +kernel
theorem kd_lt {k : Nat} (h : kd k ≤ 12) : k < 67 := by
  by_cases hk : k < 67
  · exact hk
  · exfalso
    unfold kd at h
    rw [List.getD_eq_getElem?_getD, List.getElem?_eq_none (by rw [layL_len]; omega)] at h
    exact absurd h (by decide)
theorem wv_get {ad : Nat → Nat} {cc : C3} {σ : Sto} {k : Nat} (h : k < 67) : (wv ad cc σ)[k]? = some (ad k, Ec ad cc σ k) := by
  unfold wv
  rw [List.getElem?_map, List.getElem?_range h]; rfl
theorem wv_obj {ad : Nat → Nat} {cc : C3} {σ : Sto} {k c : Nat} (h : kd k = c) (hc : c ≤ 9) : (wv ad cc σ)[k]? = some (ad k, .inr (c, (List.range (fn c)).map (fv ad σ k))) := by
  rw [wv_get (kd_lt (by omega))]
  subst h
  rw [Ec, if_pos hc]
theorem wv_int {ad : Nat → Nat} {cc : C3} {σ : Sto} {k : Nat} (h : kd k = 10) : (wv ad cc σ)[k]? = some (ad k, .inl (cc.1, ln k, .inl (σ.1 k))) := by
  rw [wv_get (kd_lt (by omega)), Ec, if_neg (by omega), if_pos h]
theorem wv_lng {ad : Nat → Nat} {cc : C3} {σ : Sto} {k : Nat} (h : kd k = 11) : (wv ad cc σ)[k]? = some (ad k, .inl (cc.2.1, ln k, .inr (.inl (σ.2 k)))) := by
  rw [wv_get (kd_lt (by omega)), Ec, if_neg (by omega), if_neg (by omega), if_pos h]
theorem wv_boo {ad : Nat → Nat} {cc : C3} {σ : Sto} {k : Nat} (h : kd k = 12) : (wv ad cc σ)[k]? = some (ad k, .inl (cc.2.2, ln k, .inl (σ.1 k))) := by
  rw [wv_get (kd_lt (by omega)), Ec, if_neg (by omega), if_neg (by omega), if_neg (by omega)]
theorem wv_set {ad : Nat → Nat} {cc : C3} {σ σ' : Sto} {k : Nat} {e : va_E} (hk : k < 67) (he : Ec ad cc σ' k = e) (ho : ∀ q, q ≠ k → Ec ad cc σ' q = Ec ad cc σ q) : (wv ad cc σ).set k (ad k, e) = wv ad cc σ' := by
  refine List.ext_getElem? fun i => ?_
  have hlen : (wv ad cc σ).length = 67 := by simp [wv]
  by_cases hi : i < 67
  · rw [wv_get hi]
    by_cases hik : i = k
    · subst hik
      rw [List.getElem?_set_self (by omega), he]
    · rw [List.getElem?_set_ne (Ne.symm hik), wv_get hi, ho i hik]
  · rw [List.getElem?_eq_none (by simp [wv]; omega), List.getElem?_eq_none (by simp [wv]; omega)]
theorem Ec_ne {ad : Nat → Nat} {cc : C3} {σ σ' : Sto} {q : Nat} (h1 : σ'.1 q = σ.1 q) (h2 : σ'.2 q = σ.2 q) : Ec ad cc σ' q = Ec ad cc σ q := by
  have hf : fv ad σ' q = fv ad σ q := by
    funext j
    unfold fv
    rw [h1]
  unfold Ec
  rw [h1, h2, hf]
theorem stI_ne {σ : Sto} {k j q : Nat} {v : Int32} (h : q ≠ k) : (stI σ k j v).1 q = σ.1 q := by simp [stI, h]
theorem stI_2 {σ : Sto} {k j q : Nat} {v : Int32} : (stI σ k j v).2 q = σ.2 q := rfl
theorem stI_self {σ : Sto} {k j : Nat} {v : Int32} : (stI σ k j v).1 k = fun b => if b = j then v else σ.1 k b := by simp [stI]
theorem stL_ne {σ : Sto} {k j q : Nat} {v : Int64} (h : q ≠ k) : (stL σ k j v).2 q = σ.2 q := by simp [stL, h]
theorem stL_1 {σ : Sto} {k j q : Nat} {v : Int64} : (stL σ k j v).1 q = σ.1 q := rfl
theorem stL_self {σ : Sto} {k j : Nat} {v : Int64} : (stL σ k j v).2 k = fun b => if b = j then v else σ.2 k b := by simp [stL]
theorem wv_stO {ad : Nat → Nat} {cc : C3} {σ : Sto} {k c j : Nat} {v : Int32} (h : kd k = c) (hc : c ≤ 9) (hj : j < fn c) (hf : fo c j = none) : (wv ad cc σ).set k (ad k, .inr (c, ((List.range (fn c)).map (fv ad σ k)).set j (.int v))) = wv ad cc (stI σ k j v) := by
  refine wv_set (kd_lt (by omega)) ?_ fun q hq => Ec_ne (stI_ne hq) stI_2
  subst h
  rw [Ec, if_pos hc]
  congr 2
  refine List.ext_getElem? fun i => ?_
  by_cases hi : i < fn (kd k)
  · rw [List.getElem?_map, List.getElem?_range hi]
    by_cases hij : i = j
    · subst hij
      rw [List.getElem?_set_self (by simpa using hi)]
      show some (fv ad (stI σ k i v) k i) = _
      unfold fv
      rw [hf, stI_self]
      simp
    · rw [List.getElem?_set_ne (Ne.symm hij), List.getElem?_map, List.getElem?_range hi]
      show some (fv ad (stI σ k j v) k i) = some (fv ad σ k i)
      unfold fv
      rw [stI_self]
      simp [hij]
  · rw [List.getElem?_eq_none (by simpa using hi), List.getElem?_eq_none (by simpa using hi)]
theorem wv_stA {ad : Nat → Nat} {cc : C3} {σ : Sto} {k j : Nat} {v : Int32} (h : kd k = 10) : (wv ad cc σ).set k (ad k, .inl (cc.1, ln k, .inl (upd (σ.1 k) j v))) = wv ad cc (stI σ k j v) := by
  refine wv_set (kd_lt (by omega)) ?_ fun q hq => Ec_ne (stI_ne hq) stI_2
  rw [Ec, if_neg (by omega), if_pos h, stI_self]
  rfl
theorem wv_stZ {ad : Nat → Nat} {cc : C3} {σ : Sto} {k j : Nat} {v : Int32} (h : kd k = 12) : (wv ad cc σ).set k (ad k, .inl (cc.2.2, ln k, .inl (upd (σ.1 k) j v))) = wv ad cc (stI σ k j v) := by
  refine wv_set (kd_lt (by omega)) ?_ fun q hq => Ec_ne (stI_ne hq) stI_2
  rw [Ec, if_neg (by omega), if_neg (by omega), if_neg (by omega), stI_self]
  rfl
theorem wv_stL {ad : Nat → Nat} {cc : C3} {σ : Sto} {k j : Nat} {v : Int64} (h : kd k = 11) : (wv ad cc σ).set k (ad k, .inl (cc.2.1, ln k, .inr (.inl (vp_updL (σ.2 k) j v)))) = wv ad cc (stL σ k j v) := by
  refine wv_set (kd_lt (by omega)) ?_ fun q hq => Ec_ne stL_1 (stL_ne hq)
  rw [Ec, if_neg (by omega), if_neg (by omega), if_pos h, stL_self]
  rfl
theorem wv_stC {ad : Nat → Nat} {cc : C3} {σ : Sto} {a k n : Nat} (h : kd k = 10) : (wv ad cc σ).set k (ad k, .inl (cc.1, ln k, .inl (va_cpy (σ.1 a) (σ.1 k) 0 0 n))) = wv ad cc (stC σ a k n) := by
  refine wv_set (kd_lt (by omega)) ?_ fun q hq => Ec_ne (by simp [stC, hq]) rfl
  rw [Ec, if_neg (by omega), if_pos h]
  simp [stC]
-- the tables' words that a call takes on
def lw_gd : List Cond := lw_tbl.filter goodWord
theorem lw_in {w : Cond} (i : Nat) (h : lw_tbl[i]? = some w) (hg : goodWord w = true) : w ∈ lw_gd := List.mem_filter.mpr ⟨List.mem_of_getElem? h, hg⟩
/-- the words of nest mates' calls: they go on by themselves -/
def Nst (U : State) : Prop := ∀ (a : String) (i : Nat) (y : MethodName) (h : String), Cond.methodLinkNest a i y h ∈ lw_tbl → va_Nw (.methodLinkNest a i y h) U
-- a frame of a walk: the machine's names, bundled
abbrev Fr : Type := (Program × Launch × Env × Room × State × MethodId × Array Value × List Frame) × (Method × Code × va_G × C3 × (Nat → Prop) × Heap) × (Nat × Nat × Nat × (State → Prop))
abbrev tysOf (c3 : C3) : List (ClassId × FieldType) := [(c3.1, .int), (c3.2.1, .long), (c3.2.2, .boolean)]
/-- the machine comes from this point, over these cells, to what the frame asks -/
def wpm (φ : Fr) (ad : Nat → Nat) (pc : Nat) (lv : List (Nat × Value)) (st : List Value) (σ : Sto) : Prop := match φ with
  | ((p, l, e, R, s, m, args, below), (meth, c, D, c3, A, H0), (nL, cells, slots, Q)) =>
    ∀ (H : Heap) (locs : List Loc) (ls : Array Slot), va_P D cls (wv ad c3 σ) H → va_S A H0 H locs → lv_has ls nL lv → W p l e R s m args below meth c H locs cells slots Q (F0 m pc ls st)
/-- what holds all the while in a frame -/
def Cx (φ : Fr) (ad : Nat → Nat) (cc : ByteArray) (ret : Option FieldType) (own : String) (n fr lo : Nat) : Prop := match φ with
  | ((p, l, e, R, s, m, args, below), (meth, c, D, c3, A, H0), (nL, cells, slots, Q)) =>
    p.tables.exec = Jvm.exec ∧ c.code = cc ∧ meth.sig.returnType = ret ∧ c.maxLocals = n ∧ nL = n ∧ s.vm.findClass own = some m.cls ∧ (∀ w ∈ lw_gd, w.before args s = true) ∧ meth.locks = false ∧ va_K D cls (tysOf c3) s ∧ (∀ σ, va_D A (wv ad c3 σ)) ∧ (∀ q, H0.size ≤ q → A q) ∧ fr ≤ R.frames ∧ lo ≤ R.locals ∧ cells ≤ R.cells ∧ slots ≤ R.slots ∧ Nst s
/-- a method's end -/
def Qm (D : va_G) (ad : Nat → Nat) (c3 : C3) (A : Nat → Prop) (r : Option Value) (σ' : Sto) : Array Value → State → Outcome → State → Prop := fun _ st oc t => (oc = .returned r ∧ va_P D cls (wv ad c3 σ') t.heap) ∧ va_F A st t
def Fini (φ : Fr) (ad : Nat → Nat) (r : Option Value) (σ' : Sto) : Prop := match φ with
  | ((p, l, e, R, s, m, args, below), (meth, c, D, c3, A, H0), (nL, cells, slots, Q)) => Q = MQ below (Qm D ad c3 A r σ') args s cells slots A ∧ H0 = s.heap
/-- a method's contract over the cells -/
def Ct (y : MethodName) (cc : ByteArray) (n : Nat) (ret : Option FieldType) (fr lo : Nat) (av : (Nat → Nat) → List Value) (σ : Sto) (r : (Nat → Nat) → Option Value) (σ' : Sto) : Prop :=
  ∀ (l : Launch) (D : va_G) (c3 : C3) (ad : Nat → Nat) (sz : Nat), Met l y (.code y cc n ret :: lw_gd) { frames := fr, cells := 0, slots := 0, locals := lo } (va_Pc (av ad) (fun U => U.heap.size = sz ∧ va_P D cls (wv ad c3 σ) U.heap ∧ va_K D cls (tysOf c3) U ∧ va_D (fun _ => True) (wv ad c3 σ) ∧ Nst U)) (Qm D ad c3 (va_A (wv ad c3 σ) sz) (r ad) σ') 0 0 (va_A (wv ad c3 σ) sz)
theorem wv_D {A : Nat → Prop} {ad : Nat → Nat} {c3 : C3} {σ : Sto} (h : va_D A (wv ad c3 σ)) (τ : Sto) : va_D A (wv ad c3 τ) := by
  have key : ∀ (k : Nat) (q : Nat × va_E), (wv ad c3 τ)[k]? = some q → ∃ q', (wv ad c3 σ)[k]? = some q' ∧ q'.1 = q.1 := by
    intro k q hq
    by_cases hk : k < 67
    · rw [wv_get hk] at hq
      cases hq
      exact ⟨_, wv_get hk, rfl⟩
    · rw [List.getElem?_eq_none (by simp [wv]; omega)] at hq
      cases hq
  refine ⟨fun i j p q hp hq hpq => ?_, fun k q hq => ?_⟩
  · obtain ⟨p', h1, h2⟩ := key i p hp
    obtain ⟨q', h3, h4⟩ := key j q hq
    exact h.1 i j p' q' h1 h3 (by rw [h2, h4, hpq])
  · obtain ⟨q', h1, h2⟩ := key k q hq
    rw [← h2]
    exact h.2 k q' h1
theorem wv_A {ad : Nat → Nat} {c3 : C3} {σ τ : Sto} {sz q : Nat} (h : va_A (wv ad c3 σ) sz q) : va_A (wv ad c3 τ) sz q := by
  rcases h with ⟨k, e, h⟩ | h
  · left
    by_cases hk : k < 67
    · rw [wv_get hk] at h
      cases h
      exact ⟨k, _, wv_get hk⟩
    · rw [List.getElem?_eq_none (by simp [wv]; omega)] at h
      cases h
  · exact Or.inr h
theorem lw_goodIn {ws : List Cond} (h : ∀ w ∈ ws, w ∈ lw_gd) : GoodIn lw_gd ws := fun w hw => ⟨h w hw, good_of_word (List.mem_filter.mp (h w hw)).2⟩
theorem Ct_of {y : MethodName} {cc : ByteArray} {n : Nat} {ret : Option FieldType} {fr lo : Nat} {av : (Nat → Nat) → List Value} {σ : Sto} {r : (Nat → Nat) → Option Value} {σ' : Sto}
    (hy : plainName y.cls = true) (hn : ∀ ad, (lg_sl (av ad)).length ≤ n)
    (body : ∀ (φ : Fr) (ad : Nat → Nat), Cx φ ad cc ret y.cls n fr lo → Fini φ ad (r ad) σ' → wpm φ ad 0 (lv_args 0 (av ad)) [] σ) : Ct y cc n ret fr lo av σ r σ' := by
  intro l D c3 ad sz
  refine Met.ofW (cc := cc) (maxL := n) (ret := ret) hy rfl ?_
  intro p e s m args below meth c s₁ B hml hv
  obtain ⟨rfl, hsz, hP, hK, hD0, hN⟩ := hv
  subst hsz
  have hts : ∀ w ∈ lw_gd, w.before (av ad).toArray s = true := fun w hw => atoms_spec (ws := .code y cc n ret :: lw_gd) B.pre w (List.mem_cons_of_mem _ hw)
  have hD : va_D (va_A (wv ad c3 σ) s.heap.size) (wv ad c3 σ) := hD0.self (sz := s.heap.size)
  have K := body ((p, l, e, (headSpec (.code y cc n ret :: lw_gd) { frames := fr, cells := 0, slots := 0, locals := lo }).room, s, m, (av ad).toArray, below), (meth, c, D, c3, va_A (wv ad c3 σ) s.heap.size, s.heap), (n, 0, 0, MQ below (Qm D ad c3 (va_A (wv ad c3 σ) s.heap.size) (r ad) σ') (av ad).toArray s 0 0 (va_A (wv ad c3 σ) s.heap.size))) ad
    ⟨B.exec, B.bytes, B.returns, hml, rfl, findClass_of_methodNamed B.named, hts, B.notSynchronized, hK, wv_D hD, fun q h => Or.inr h, Nat.le_refl _, Nat.le_refl _, Nat.zero_le _, Nat.zero_le _, hN⟩ ⟨rfl, rfl⟩
  rw [lg_entry_eq]
  exact K s.heap [] _ hP va_S.rf (lv_entry (av ad) (hn ad))
end
section
section WP
variable {φ : Fr} {ad : Nat → Nat} {cc : ByteArray} {ret : Option FieldType} {own : String} {n fr lo pc : Nat} {lv lv' : List (Nat × Value)} {st : List Value} {σ : Sto}
theorem w_sub (ks : List Nat) (hl : lv_pick lv ks = lv') (K : wpm φ ad pc lv' st σ) : wpm φ ad pc lv st σ := by
  obtain ⟨⟨p, l, e, R, s, m, args, below⟩, ⟨meth, c, D, c3, A, H0⟩, ⟨nL, cells, slots, Q⟩⟩ := φ
  intro H locs ls hP hS hh
  exact K H locs ls hP hS (lv_sub hh ks hl)
theorem w_at {pc' : Nat} (h : pc' = pc) (K : wpm φ ad pc' lv st σ) : wpm φ ad pc lv st σ := h ▸ K
theorem w_iconst {z : Int} {v : Int32} (X : Cx φ ad cc ret own n fr lo) (hd : decode cc pc = .ok (.iconst z, 1)) (hv : Int32.ofInt z = v) (K : wpm φ ad (pc + 1) lv (.int v :: st) σ) : wpm φ ad pc lv st σ := by
  obtain ⟨⟨p, l, e, R, s, m, args, below⟩, ⟨meth, c, D, c3, A, H0⟩, ⟨nL, cells, slots, Q⟩⟩ := φ
  obtain ⟨hx, hb, hr, hml, hnl, hown, hts, hlk, hK, hD, hA, hfr, hlo, hce, hsl, hN⟩ := X
  subst hnl
  intro H locs ls hP hS hl
  exact lv_iconst hx hb hd hv (K H locs ls hP hS hl)
theorem w_bipush {z : Int} {v : Int32} (X : Cx φ ad cc ret own n fr lo) (hd : decode cc pc = .ok (.bipush z, 2)) (hv : (Int8.ofInt z).toInt32 = v) (K : wpm φ ad (pc + 2) lv (.int v :: st) σ) : wpm φ ad pc lv st σ := by
  obtain ⟨⟨p, l, e, R, s, m, args, below⟩, ⟨meth, c, D, c3, A, H0⟩, ⟨nL, cells, slots, Q⟩⟩ := φ
  obtain ⟨hx, hb, hr, hml, hnl, hown, hts, hlk, hK, hD, hA, hfr, hlo, hce, hsl, hN⟩ := X
  subst hnl
  intro H locs ls hP hS hl
  exact lv_bipush hx hb hd hv (K H locs ls hP hS hl)
theorem w_sipush {z : Int} {v : Int32} (X : Cx φ ad cc ret own n fr lo) (hd : decode cc pc = .ok (.sipush z, 3)) (hv : (Int16.ofInt z).toInt32 = v) (K : wpm φ ad (pc + 3) lv (.int v :: st) σ) : wpm φ ad pc lv st σ := by
  obtain ⟨⟨p, l, e, R, s, m, args, below⟩, ⟨meth, c, D, c3, A, H0⟩, ⟨nL, cells, slots, Q⟩⟩ := φ
  obtain ⟨hx, hb, hr, hml, hnl, hown, hts, hlk, hK, hD, hA, hfr, hlo, hce, hsl, hN⟩ := X
  subst hnl
  intro H locs ls hP hS hl
  exact lv_sipush hx hb hd hv (K H locs ls hP hS hl)
theorem w_lconst {z : Fin 2} {v : Int64} (X : Cx φ ad cc ret own n fr lo) (hd : decode cc pc = .ok (.lconst z, 1)) (hv : Int64.ofNat (z : Nat) = v) (K : wpm φ ad (pc + 1) lv (.long v :: st) σ) : wpm φ ad pc lv st σ := by
  obtain ⟨⟨p, l, e, R, s, m, args, below⟩, ⟨meth, c, D, c3, A, H0⟩, ⟨nL, cells, slots, Q⟩⟩ := φ
  obtain ⟨hx, hb, hr, hml, hnl, hown, hts, hlk, hK, hD, hA, hfr, hlo, hce, hsl, hN⟩ := X
  subst hnl
  intro H locs ls hP hS hl
  exact lv_lconst hx hb hd hv (K H locs ls hP hS hl)
theorem w_ldc {idx : Nat} {v : Int32} (X : Cx φ ad cc ret own n fr lo) (hd : decode cc pc = .ok (.ldc idx, 2)) (hw : Cond.constant own idx v ∈ lw_gd) (K : wpm φ ad (pc + 2) lv (.int v :: st) σ) : wpm φ ad pc lv st σ := by
  obtain ⟨⟨p, l, e, R, s, m, args, below⟩, ⟨meth, c, D, c3, A, H0⟩, ⟨nL, cells, slots, Q⟩⟩ := φ
  obtain ⟨hx, hb, hr, hml, hnl, hown, hts, hlk, hK, hD, hA, hfr, hlo, hce, hsl, hN⟩ := X
  subst hnl
  intro H locs ls hP hS hl
  exact lv_ldc hx hb hown (hts _ hw) hd (K H locs ls hP hS hl)
theorem w_ldc2 {idx : Nat} {v : Int64} (X : Cx φ ad cc ret own n fr lo) (hd : decode cc pc = .ok (.ldc2_w idx, 3)) (hw : Cond.constantLong own idx v ∈ lw_gd) (K : wpm φ ad (pc + 3) lv (.long v :: st) σ) : wpm φ ad pc lv st σ := by
  obtain ⟨⟨p, l, e, R, s, m, args, below⟩, ⟨meth, c, D, c3, A, H0⟩, ⟨nL, cells, slots, Q⟩⟩ := φ
  obtain ⟨hx, hb, hr, hml, hnl, hown, hts, hlk, hK, hD, hA, hfr, hlo, hce, hsl, hN⟩ := X
  subst hnl
  intro H locs ls hP hS hl
  exact lv_ldc2 hx hb hown (hts _ hw) hd (K H locs ls hP hS hl)
theorem w_iload_n {k : Fin 4} {x : Int32} (X : Cx φ ad cc ret own n fr lo) (hd : decode cc pc = .ok (.iload_n k, 1)) (j : Nat) (hj : lv[j]? = some ((k : Nat), .int x)) (K : wpm φ ad (pc + 1) lv (.int x :: st) σ) : wpm φ ad pc lv st σ := by
  obtain ⟨⟨p, l, e, R, s, m, args, below⟩, ⟨meth, c, D, c3, A, H0⟩, ⟨nL, cells, slots, Q⟩⟩ := φ
  obtain ⟨hx, hb, hr, hml, hnl, hown, hts, hlk, hK, hD, hA, hfr, hlo, hce, hsl, hN⟩ := X
  subst hnl
  intro H locs ls hP hS hl
  exact lv_iload_n hx hb hd rfl (lv_at hl j hj) (K H locs ls hP hS hl)
theorem w_iload {k : Nat} {x : Int32} (X : Cx φ ad cc ret own n fr lo) (hd : decode cc pc = .ok (.iload k, 2)) (j : Nat) (hj : lv[j]? = some (k, .int x)) (K : wpm φ ad (pc + 2) lv (.int x :: st) σ) : wpm φ ad pc lv st σ := by
  obtain ⟨⟨p, l, e, R, s, m, args, below⟩, ⟨meth, c, D, c3, A, H0⟩, ⟨nL, cells, slots, Q⟩⟩ := φ
  obtain ⟨hx, hb, hr, hml, hnl, hown, hts, hlk, hK, hD, hA, hfr, hlo, hce, hsl, hN⟩ := X
  subst hnl
  intro H locs ls hP hS hl
  exact lv_iload hx hb hd (lv_at hl j hj) (K H locs ls hP hS hl)
theorem w_lload_n {k : Fin 4} {x : Int64} (X : Cx φ ad cc ret own n fr lo) (hd : decode cc pc = .ok (.lload_n k, 1)) (j : Nat) (hj : lv[j]? = some ((k : Nat), .long x)) (K : wpm φ ad (pc + 1) lv (.long x :: st) σ) : wpm φ ad pc lv st σ := by
  obtain ⟨⟨p, l, e, R, s, m, args, below⟩, ⟨meth, c, D, c3, A, H0⟩, ⟨nL, cells, slots, Q⟩⟩ := φ
  obtain ⟨hx, hb, hr, hml, hnl, hown, hts, hlk, hK, hD, hA, hfr, hlo, hce, hsl, hN⟩ := X
  subst hnl
  intro H locs ls hP hS hl
  exact lv_lload_n hx hb hd rfl (lv_at hl j hj) (K H locs ls hP hS hl)
theorem w_lload {k : Nat} {x : Int64} (X : Cx φ ad cc ret own n fr lo) (hd : decode cc pc = .ok (.lload k, 2)) (j : Nat) (hj : lv[j]? = some (k, .long x)) (K : wpm φ ad (pc + 2) lv (.long x :: st) σ) : wpm φ ad pc lv st σ := by
  obtain ⟨⟨p, l, e, R, s, m, args, below⟩, ⟨meth, c, D, c3, A, H0⟩, ⟨nL, cells, slots, Q⟩⟩ := φ
  obtain ⟨hx, hb, hr, hml, hnl, hown, hts, hlk, hK, hD, hA, hfr, hlo, hce, hsl, hN⟩ := X
  subst hnl
  intro H locs ls hP hS hl
  exact lv_lload hx hb hd (lv_at hl j hj) (K H locs ls hP hS hl)
theorem w_aload_n {k : Fin 4} {x : Nat} (X : Cx φ ad cc ret own n fr lo) (hd : decode cc pc = .ok (.aload_n k, 1)) (j : Nat) (hj : lv[j]? = some ((k : Nat), .ref x)) (K : wpm φ ad (pc + 1) lv (.ref x :: st) σ) : wpm φ ad pc lv st σ := by
  obtain ⟨⟨p, l, e, R, s, m, args, below⟩, ⟨meth, c, D, c3, A, H0⟩, ⟨nL, cells, slots, Q⟩⟩ := φ
  obtain ⟨hx, hb, hr, hml, hnl, hown, hts, hlk, hK, hD, hA, hfr, hlo, hce, hsl, hN⟩ := X
  subst hnl
  intro H locs ls hP hS hl
  exact lv_aload_n hx hb hd rfl (lv_at hl j hj) (K H locs ls hP hS hl)
theorem w_aload {k : Nat} {x : Nat} (X : Cx φ ad cc ret own n fr lo) (hd : decode cc pc = .ok (.aload k, 2)) (j : Nat) (hj : lv[j]? = some (k, .ref x)) (K : wpm φ ad (pc + 2) lv (.ref x :: st) σ) : wpm φ ad pc lv st σ := by
  obtain ⟨⟨p, l, e, R, s, m, args, below⟩, ⟨meth, c, D, c3, A, H0⟩, ⟨nL, cells, slots, Q⟩⟩ := φ
  obtain ⟨hx, hb, hr, hml, hnl, hown, hts, hlk, hK, hD, hA, hfr, hlo, hce, hsl, hN⟩ := X
  subst hnl
  intro H locs ls hP hS hl
  exact lv_aload hx hb hd (lv_at hl j hj) (K H locs ls hP hS hl)
theorem w_istore_n {k : Fin 4} {x : Int32} (X : Cx φ ad cc ret own n fr lo) (hd : decode cc pc = .ok (.istore_n k, 1)) (i : Nat) (hi : (k : Nat) = i) (hn : i < n) (hv : (i, Value.int x) :: lv.filter (fun q => !(q.1 == i) && !(q.1 + 1 == i && q.2.category == 2)) = lv') (K : wpm φ ad (pc + 1) lv' st σ) : wpm φ ad pc lv (.int x :: st) σ := by
  obtain ⟨⟨p, l, e, R, s, m, args, below⟩, ⟨meth, c, D, c3, A, H0⟩, ⟨nL, cells, slots, Q⟩⟩ := φ
  obtain ⟨hx, hb, hr, hml, hnl, hown, hts, hlk, hK, hD, hA, hfr, hlo, hce, hsl, hN⟩ := X
  subst hnl
  intro H locs ls hP hS hl
  exact lv_istore_n hx hb hd hi hl hn hv (fun ls' hl' => K H locs ls' hP hS hl')
theorem w_istore {i : Nat} {x : Int32} (X : Cx φ ad cc ret own n fr lo) (hd : decode cc pc = .ok (.istore i, 2)) (hn : i < n) (hv : (i, Value.int x) :: lv.filter (fun q => !(q.1 == i) && !(q.1 + 1 == i && q.2.category == 2)) = lv') (K : wpm φ ad (pc + 2) lv' st σ) : wpm φ ad pc lv (.int x :: st) σ := by
  obtain ⟨⟨p, l, e, R, s, m, args, below⟩, ⟨meth, c, D, c3, A, H0⟩, ⟨nL, cells, slots, Q⟩⟩ := φ
  obtain ⟨hx, hb, hr, hml, hnl, hown, hts, hlk, hK, hD, hA, hfr, hlo, hce, hsl, hN⟩ := X
  subst hnl
  intro H locs ls hP hS hl
  exact lv_istore hx hb hd hl hn hv (fun ls' hl' => K H locs ls' hP hS hl')
theorem w_lstore_n {k : Fin 4} {x : Int64} (X : Cx φ ad cc ret own n fr lo) (hd : decode cc pc = .ok (.lstore_n k, 1)) (i : Nat) (hi : (k : Nat) = i) (hn : i + 1 < n) (hv : (i, Value.long x) :: lv.filter (fun q => !(q.1 == i) && (!(q.1 == i + 1) && !(q.1 + 1 == i && q.2.category == 2))) = lv') (K : wpm φ ad (pc + 1) lv' st σ) : wpm φ ad pc lv (.long x :: st) σ := by
  obtain ⟨⟨p, l, e, R, s, m, args, below⟩, ⟨meth, c, D, c3, A, H0⟩, ⟨nL, cells, slots, Q⟩⟩ := φ
  obtain ⟨hx, hb, hr, hml, hnl, hown, hts, hlk, hK, hD, hA, hfr, hlo, hce, hsl, hN⟩ := X
  subst hnl
  intro H locs ls hP hS hl
  exact lv_lstore_n hx hb hd hi hl hn hv (fun ls' hl' => K H locs ls' hP hS hl')
theorem w_lstore {i : Nat} {x : Int64} (X : Cx φ ad cc ret own n fr lo) (hd : decode cc pc = .ok (.lstore i, 2)) (hn : i + 1 < n) (hv : (i, Value.long x) :: lv.filter (fun q => !(q.1 == i) && (!(q.1 == i + 1) && !(q.1 + 1 == i && q.2.category == 2))) = lv') (K : wpm φ ad (pc + 2) lv' st σ) : wpm φ ad pc lv (.long x :: st) σ := by
  obtain ⟨⟨p, l, e, R, s, m, args, below⟩, ⟨meth, c, D, c3, A, H0⟩, ⟨nL, cells, slots, Q⟩⟩ := φ
  obtain ⟨hx, hb, hr, hml, hnl, hown, hts, hlk, hK, hD, hA, hfr, hlo, hce, hsl, hN⟩ := X
  subst hnl
  intro H locs ls hP hS hl
  exact lv_lstore hx hb hd hl hn hv (fun ls' hl' => K H locs ls' hP hS hl')
theorem w_astore_n {k : Fin 4} {x : Nat} (X : Cx φ ad cc ret own n fr lo) (hd : decode cc pc = .ok (.astore_n k, 1)) (i : Nat) (hi : (k : Nat) = i) (hn : i < n) (hv : (i, Value.ref x) :: lv.filter (fun q => !(q.1 == i) && !(q.1 + 1 == i && q.2.category == 2)) = lv') (K : wpm φ ad (pc + 1) lv' st σ) : wpm φ ad pc lv (.ref x :: st) σ := by
  obtain ⟨⟨p, l, e, R, s, m, args, below⟩, ⟨meth, c, D, c3, A, H0⟩, ⟨nL, cells, slots, Q⟩⟩ := φ
  obtain ⟨hx, hb, hr, hml, hnl, hown, hts, hlk, hK, hD, hA, hfr, hlo, hce, hsl, hN⟩ := X
  subst hnl
  intro H locs ls hP hS hl
  exact lv_astore_n hx hb hd hi hl hn hv (fun ls' hl' => K H locs ls' hP hS hl')
theorem w_astore {i : Nat} {x : Nat} (X : Cx φ ad cc ret own n fr lo) (hd : decode cc pc = .ok (.astore i, 2)) (hn : i < n) (hv : (i, Value.ref x) :: lv.filter (fun q => !(q.1 == i) && !(q.1 + 1 == i && q.2.category == 2)) = lv') (K : wpm φ ad (pc + 2) lv' st σ) : wpm φ ad pc lv (.ref x :: st) σ := by
  obtain ⟨⟨p, l, e, R, s, m, args, below⟩, ⟨meth, c, D, c3, A, H0⟩, ⟨nL, cells, slots, Q⟩⟩ := φ
  obtain ⟨hx, hb, hr, hml, hnl, hown, hts, hlk, hK, hD, hA, hfr, hlo, hce, hsl, hN⟩ := X
  subst hnl
  intro H locs ls hP hS hl
  exact lv_astore hx hb hd hl hn hv (fun ls' hl' => K H locs ls' hP hS hl')
theorem w_iinc {i : Nat} {z : Int} {x v : Int32} (X : Cx φ ad cc ret own n fr lo) (hd : decode cc pc = .ok (.iinc i z, 3)) (j : Nat) (hj : lv[j]? = some (i, .int x)) (hz : x + Int32.ofInt z = v) (hn : i < n) (hv : (i, Value.int v) :: lv.filter (fun q => !(q.1 == i) && !(q.1 + 1 == i && q.2.category == 2)) = lv') (K : wpm φ ad (pc + 3) lv' st σ) : wpm φ ad pc lv st σ := by
  obtain ⟨⟨p, l, e, R, s, m, args, below⟩, ⟨meth, c, D, c3, A, H0⟩, ⟨nL, cells, slots, Q⟩⟩ := φ
  obtain ⟨hx, hb, hr, hml, hnl, hown, hts, hlk, hK, hD, hA, hfr, hlo, hce, hsl, hN⟩ := X
  subst hnl
  intro H locs ls hP hS hl
  exact lv_iinc hx hb hd hl (k := j) hj hz hn hv (fun ls' hl' => K H locs ls' hP hS hl')
theorem w_iadd {x y : Int32} (X : Cx φ ad cc ret own n fr lo) (hd : decode cc pc = .ok (.iadd, 1))  (K : wpm φ ad (pc + 1) lv (.int (x + y) :: st) σ) : wpm φ ad pc lv (.int y :: .int x :: st) σ := by
  obtain ⟨⟨p, l, e, R, s, m, args, below⟩, ⟨meth, c, D, c3, A, H0⟩, ⟨nL, cells, slots, Q⟩⟩ := φ
  obtain ⟨hx, hb, hr, hml, hnl, hown, hts, hlk, hK, hD, hA, hfr, hlo, hce, hsl, hN⟩ := X
  subst hnl
  intro H locs ls hP hS hl
  exact lv_iadd hx hb hd (K H locs ls hP hS hl)
theorem w_isub {x y : Int32} (X : Cx φ ad cc ret own n fr lo) (hd : decode cc pc = .ok (.isub, 1))  (K : wpm φ ad (pc + 1) lv (.int (x - y) :: st) σ) : wpm φ ad pc lv (.int y :: .int x :: st) σ := by
  obtain ⟨⟨p, l, e, R, s, m, args, below⟩, ⟨meth, c, D, c3, A, H0⟩, ⟨nL, cells, slots, Q⟩⟩ := φ
  obtain ⟨hx, hb, hr, hml, hnl, hown, hts, hlk, hK, hD, hA, hfr, hlo, hce, hsl, hN⟩ := X
  subst hnl
  intro H locs ls hP hS hl
  exact lv_isub hx hb hd (K H locs ls hP hS hl)
theorem w_imul {x y : Int32} (X : Cx φ ad cc ret own n fr lo) (hd : decode cc pc = .ok (.imul, 1))  (K : wpm φ ad (pc + 1) lv (.int (x * y) :: st) σ) : wpm φ ad pc lv (.int y :: .int x :: st) σ := by
  obtain ⟨⟨p, l, e, R, s, m, args, below⟩, ⟨meth, c, D, c3, A, H0⟩, ⟨nL, cells, slots, Q⟩⟩ := φ
  obtain ⟨hx, hb, hr, hml, hnl, hown, hts, hlk, hK, hD, hA, hfr, hlo, hce, hsl, hN⟩ := X
  subst hnl
  intro H locs ls hP hS hl
  exact lv_imul hx hb hd (K H locs ls hP hS hl)
theorem w_iand {x y : Int32} (X : Cx φ ad cc ret own n fr lo) (hd : decode cc pc = .ok (.iand, 1))  (K : wpm φ ad (pc + 1) lv (.int (x &&& y) :: st) σ) : wpm φ ad pc lv (.int y :: .int x :: st) σ := by
  obtain ⟨⟨p, l, e, R, s, m, args, below⟩, ⟨meth, c, D, c3, A, H0⟩, ⟨nL, cells, slots, Q⟩⟩ := φ
  obtain ⟨hx, hb, hr, hml, hnl, hown, hts, hlk, hK, hD, hA, hfr, hlo, hce, hsl, hN⟩ := X
  subst hnl
  intro H locs ls hP hS hl
  exact lv_iand hx hb hd (K H locs ls hP hS hl)
theorem w_ior {x y : Int32} (X : Cx φ ad cc ret own n fr lo) (hd : decode cc pc = .ok (.ior, 1))  (K : wpm φ ad (pc + 1) lv (.int (x ||| y) :: st) σ) : wpm φ ad pc lv (.int y :: .int x :: st) σ := by
  obtain ⟨⟨p, l, e, R, s, m, args, below⟩, ⟨meth, c, D, c3, A, H0⟩, ⟨nL, cells, slots, Q⟩⟩ := φ
  obtain ⟨hx, hb, hr, hml, hnl, hown, hts, hlk, hK, hD, hA, hfr, hlo, hce, hsl, hN⟩ := X
  subst hnl
  intro H locs ls hP hS hl
  exact lv_ior hx hb hd (K H locs ls hP hS hl)
theorem w_ixor {x y : Int32} (X : Cx φ ad cc ret own n fr lo) (hd : decode cc pc = .ok (.ixor, 1))  (K : wpm φ ad (pc + 1) lv (.int (x ^^^ y) :: st) σ) : wpm φ ad pc lv (.int y :: .int x :: st) σ := by
  obtain ⟨⟨p, l, e, R, s, m, args, below⟩, ⟨meth, c, D, c3, A, H0⟩, ⟨nL, cells, slots, Q⟩⟩ := φ
  obtain ⟨hx, hb, hr, hml, hnl, hown, hts, hlk, hK, hD, hA, hfr, hlo, hce, hsl, hN⟩ := X
  subst hnl
  intro H locs ls hP hS hl
  exact lv_ixor hx hb hd (K H locs ls hP hS hl)
theorem w_ishl {x y : Int32} (X : Cx φ ad cc ret own n fr lo) (hd : decode cc pc = .ok (.ishl, 1))  (K : wpm φ ad (pc + 1) lv (.int (x <<< (y &&& 31)) :: st) σ) : wpm φ ad pc lv (.int y :: .int x :: st) σ := by
  obtain ⟨⟨p, l, e, R, s, m, args, below⟩, ⟨meth, c, D, c3, A, H0⟩, ⟨nL, cells, slots, Q⟩⟩ := φ
  obtain ⟨hx, hb, hr, hml, hnl, hown, hts, hlk, hK, hD, hA, hfr, hlo, hce, hsl, hN⟩ := X
  subst hnl
  intro H locs ls hP hS hl
  exact lv_ishl hx hb hd (K H locs ls hP hS hl)
theorem w_ishr {x y : Int32} (X : Cx φ ad cc ret own n fr lo) (hd : decode cc pc = .ok (.ishr, 1))  (K : wpm φ ad (pc + 1) lv (.int (x >>> (y &&& 31)) :: st) σ) : wpm φ ad pc lv (.int y :: .int x :: st) σ := by
  obtain ⟨⟨p, l, e, R, s, m, args, below⟩, ⟨meth, c, D, c3, A, H0⟩, ⟨nL, cells, slots, Q⟩⟩ := φ
  obtain ⟨hx, hb, hr, hml, hnl, hown, hts, hlk, hK, hD, hA, hfr, hlo, hce, hsl, hN⟩ := X
  subst hnl
  intro H locs ls hP hS hl
  exact lv_ishr hx hb hd (K H locs ls hP hS hl)
theorem w_ladd {x y : Int64} (X : Cx φ ad cc ret own n fr lo) (hd : decode cc pc = .ok (.ladd, 1))  (K : wpm φ ad (pc + 1) lv (.long (x + y) :: st) σ) : wpm φ ad pc lv (.long y :: .long x :: st) σ := by
  obtain ⟨⟨p, l, e, R, s, m, args, below⟩, ⟨meth, c, D, c3, A, H0⟩, ⟨nL, cells, slots, Q⟩⟩ := φ
  obtain ⟨hx, hb, hr, hml, hnl, hown, hts, hlk, hK, hD, hA, hfr, hlo, hce, hsl, hN⟩ := X
  subst hnl
  intro H locs ls hP hS hl
  exact lv_ladd hx hb hd (K H locs ls hP hS hl)
theorem w_lmul {x y : Int64} (X : Cx φ ad cc ret own n fr lo) (hd : decode cc pc = .ok (.lmul, 1))  (K : wpm φ ad (pc + 1) lv (.long (x * y) :: st) σ) : wpm φ ad pc lv (.long y :: .long x :: st) σ := by
  obtain ⟨⟨p, l, e, R, s, m, args, below⟩, ⟨meth, c, D, c3, A, H0⟩, ⟨nL, cells, slots, Q⟩⟩ := φ
  obtain ⟨hx, hb, hr, hml, hnl, hown, hts, hlk, hK, hD, hA, hfr, hlo, hce, hsl, hN⟩ := X
  subst hnl
  intro H locs ls hP hS hl
  exact lv_lmul hx hb hd (K H locs ls hP hS hl)
theorem w_idiv {x y : Int32} (X : Cx φ ad cc ret own n fr lo) (hd : decode cc pc = .ok (.idiv, 1)) (h0 : ¬ y = 0) (K : wpm φ ad (pc + 1) lv (.int (x / y) :: st) σ) : wpm φ ad pc lv (.int y :: .int x :: st) σ := by
  obtain ⟨⟨p, l, e, R, s, m, args, below⟩, ⟨meth, c, D, c3, A, H0⟩, ⟨nL, cells, slots, Q⟩⟩ := φ
  obtain ⟨hx, hb, hr, hml, hnl, hown, hts, hlk, hK, hD, hA, hfr, hlo, hce, hsl, hN⟩ := X
  subst hnl
  intro H locs ls hP hS hl
  exact lv_idiv hx hb hd h0 (K H locs ls hP hS hl)
theorem w_irem {x y : Int32} (X : Cx φ ad cc ret own n fr lo) (hd : decode cc pc = .ok (.irem, 1)) (h0 : ¬ y = 0) (K : wpm φ ad (pc + 1) lv (.int (x - x / y * y) :: st) σ) : wpm φ ad pc lv (.int y :: .int x :: st) σ := by
  obtain ⟨⟨p, l, e, R, s, m, args, below⟩, ⟨meth, c, D, c3, A, H0⟩, ⟨nL, cells, slots, Q⟩⟩ := φ
  obtain ⟨hx, hb, hr, hml, hnl, hown, hts, hlk, hK, hD, hA, hfr, hlo, hce, hsl, hN⟩ := X
  subst hnl
  intro H locs ls hP hS hl
  exact lv_irem hx hb hd h0 (K H locs ls hP hS hl)
theorem w_ldiv {x y : Int64} (X : Cx φ ad cc ret own n fr lo) (hd : decode cc pc = .ok (.ldiv, 1)) (h0 : ¬ y = 0) (K : wpm φ ad (pc + 1) lv (.long (x / y) :: st) σ) : wpm φ ad pc lv (.long y :: .long x :: st) σ := by
  obtain ⟨⟨p, l, e, R, s, m, args, below⟩, ⟨meth, c, D, c3, A, H0⟩, ⟨nL, cells, slots, Q⟩⟩ := φ
  obtain ⟨hx, hb, hr, hml, hnl, hown, hts, hlk, hK, hD, hA, hfr, hlo, hce, hsl, hN⟩ := X
  subst hnl
  intro H locs ls hP hS hl
  exact lv_ldiv hx hb hd h0 (K H locs ls hP hS hl)
theorem w_lrem {x y : Int64} (X : Cx φ ad cc ret own n fr lo) (hd : decode cc pc = .ok (.lrem, 1)) (h0 : ¬ y = 0) (K : wpm φ ad (pc + 1) lv (.long (x - x / y * y) :: st) σ) : wpm φ ad pc lv (.long y :: .long x :: st) σ := by
  obtain ⟨⟨p, l, e, R, s, m, args, below⟩, ⟨meth, c, D, c3, A, H0⟩, ⟨nL, cells, slots, Q⟩⟩ := φ
  obtain ⟨hx, hb, hr, hml, hnl, hown, hts, hlk, hK, hD, hA, hfr, hlo, hce, hsl, hN⟩ := X
  subst hnl
  intro H locs ls hP hS hl
  exact lv_lrem hx hb hd h0 (K H locs ls hP hS hl)
theorem w_i2l {x : Int32} (X : Cx φ ad cc ret own n fr lo) (hd : decode cc pc = .ok (.i2l, 1))  (K : wpm φ ad (pc + 1) lv (.long x.toInt64 :: st) σ) : wpm φ ad pc lv (.int x :: st) σ := by
  obtain ⟨⟨p, l, e, R, s, m, args, below⟩, ⟨meth, c, D, c3, A, H0⟩, ⟨nL, cells, slots, Q⟩⟩ := φ
  obtain ⟨hx, hb, hr, hml, hnl, hown, hts, hlk, hK, hD, hA, hfr, hlo, hce, hsl, hN⟩ := X
  subst hnl
  intro H locs ls hP hS hl
  exact lv_i2l hx hb hd rfl (K H locs ls hP hS hl)
theorem w_l2i {x : Int64} (X : Cx φ ad cc ret own n fr lo) (hd : decode cc pc = .ok (.l2i, 1))  (K : wpm φ ad (pc + 1) lv (.int x.toInt32 :: st) σ) : wpm φ ad pc lv (.long x :: st) σ := by
  obtain ⟨⟨p, l, e, R, s, m, args, below⟩, ⟨meth, c, D, c3, A, H0⟩, ⟨nL, cells, slots, Q⟩⟩ := φ
  obtain ⟨hx, hb, hr, hml, hnl, hown, hts, hlk, hK, hD, hA, hfr, hlo, hce, hsl, hN⟩ := X
  subst hnl
  intro H locs ls hP hS hl
  exact lv_l2i hx hb hd rfl (K H locs ls hP hS hl)
theorem w_dup {v : Value} (X : Cx φ ad cc ret own n fr lo) (hd : decode cc pc = .ok (.dup, 1)) (h1 : v.category = 1) (K : wpm φ ad (pc + 1) lv (v :: v :: st) σ) : wpm φ ad pc lv (v :: st) σ := by
  obtain ⟨⟨p, l, e, R, s, m, args, below⟩, ⟨meth, c, D, c3, A, H0⟩, ⟨nL, cells, slots, Q⟩⟩ := φ
  obtain ⟨hx, hb, hr, hml, hnl, hown, hts, hlk, hK, hD, hA, hfr, hlo, hce, hsl, hN⟩ := X
  subst hnl
  intro H locs ls hP hS hl
  exact lv_dup hx hb hd h1 (K H locs ls hP hS hl)
theorem w_dup2 {v w : Value} (X : Cx φ ad cc ret own n fr lo) (hd : decode cc pc = .ok (.dup2, 1)) (h1 : v.category = 1) (h2 : w.category = 1) (K : wpm φ ad (pc + 1) lv (v :: w :: v :: w :: st) σ) : wpm φ ad pc lv (v :: w :: st) σ := by
  obtain ⟨⟨p, l, e, R, s, m, args, below⟩, ⟨meth, c, D, c3, A, H0⟩, ⟨nL, cells, slots, Q⟩⟩ := φ
  obtain ⟨hx, hb, hr, hml, hnl, hown, hts, hlk, hK, hD, hA, hfr, hlo, hce, hsl, hN⟩ := X
  subst hnl
  intro H locs ls hP hS hl
  exact lv_dup2_11 hx hb hd h1 h2 (K H locs ls hP hS hl)
theorem w_pop {v : Value} (X : Cx φ ad cc ret own n fr lo) (hd : decode cc pc = .ok (.pop, 1)) (h1 : v.category = 1) (K : wpm φ ad (pc + 1) lv st σ) : wpm φ ad pc lv (v :: st) σ := by
  obtain ⟨⟨p, l, e, R, s, m, args, below⟩, ⟨meth, c, D, c3, A, H0⟩, ⟨nL, cells, slots, Q⟩⟩ := φ
  obtain ⟨hx, hb, hr, hml, hnl, hown, hts, hlk, hK, hD, hA, hfr, hlo, hce, hsl, hN⟩ := X
  subst hnl
  intro H locs ls hP hS hl
  exact lv_pop hx hb hd h1 (K H locs ls hP hS hl)
theorem w_lcmp {x y : Int64} (X : Cx φ ad cc ret own n fr lo) (hd : decode cc pc = .ok (.lcmp, 1))  (K : wpm φ ad (pc + 1) lv (.int (lg_cmp x y) :: st) σ) : wpm φ ad pc lv (.long y :: .long x :: st) σ := by
  obtain ⟨⟨p, l, e, R, s, m, args, below⟩, ⟨meth, c, D, c3, A, H0⟩, ⟨nL, cells, slots, Q⟩⟩ := φ
  obtain ⟨hx, hb, hr, hml, hnl, hown, hts, hlk, hK, hD, hA, hfr, hlo, hce, hsl, hN⟩ := X
  subst hnl
  intro H locs ls hP hS hl
  exact W.lcmp hx hb hd (K H locs ls hP hS hl)
theorem w_goto {off : Int} {tgt : Nat} (X : Cx φ ad cc ret own n fr lo) (hd : decode cc pc = .ok (.goto off, 3)) (ht : (pc : Int) + off = (tgt : Int)) (K : wpm φ ad tgt lv st σ) : wpm φ ad pc lv st σ := by
  obtain ⟨⟨p, l, e, R, s, m, args, below⟩, ⟨meth, c, D, c3, A, H0⟩, ⟨nL, cells, slots, Q⟩⟩ := φ
  obtain ⟨hx, hb, hr, hml, hnl, hown, hts, hlk, hK, hD, hA, hfr, hlo, hce, hsl, hN⟩ := X
  subst hnl
  intro H locs ls hP hS hl
  exact lv_goto hx hb hd ht (K H locs ls hP hS hl)
theorem w_if_eq {x : Int32} {off : Int} {tgt : Nat} (X : Cx φ ad cc ret own n fr lo) (hd : decode cc pc = .ok (.ifCond .eq off, 3)) (ht : (pc : Int) + off = (tgt : Int)) (kt : x = 0 → wpm φ ad tgt lv st σ) (kf : ¬ x = 0 → wpm φ ad (pc + 3) lv st σ) : wpm φ ad pc lv (.int x :: st) σ := by
  obtain ⟨⟨p, l, e, R, s, m, args, below⟩, ⟨meth, c, D, c3, A, H0⟩, ⟨nL, cells, slots, Q⟩⟩ := φ
  obtain ⟨hx, hb, hr, hml, hnl, hown, hts, hlk, hK, hD, hA, hfr, hlo, hce, hsl, hN⟩ := X
  subst hnl
  intro H locs ls hP hS hl
  exact lv_if_eq hx hb hd ht (fun q => kt q H locs ls hP hS hl) (fun q => kf q H locs ls hP hS hl)
theorem w_if_ne {x : Int32} {off : Int} {tgt : Nat} (X : Cx φ ad cc ret own n fr lo) (hd : decode cc pc = .ok (.ifCond .ne off, 3)) (ht : (pc : Int) + off = (tgt : Int)) (kt : ¬ x = 0 → wpm φ ad tgt lv st σ) (kf : x = 0 → wpm φ ad (pc + 3) lv st σ) : wpm φ ad pc lv (.int x :: st) σ := by
  obtain ⟨⟨p, l, e, R, s, m, args, below⟩, ⟨meth, c, D, c3, A, H0⟩, ⟨nL, cells, slots, Q⟩⟩ := φ
  obtain ⟨hx, hb, hr, hml, hnl, hown, hts, hlk, hK, hD, hA, hfr, hlo, hce, hsl, hN⟩ := X
  subst hnl
  intro H locs ls hP hS hl
  exact lv_if_ne hx hb hd ht (fun q => kt q H locs ls hP hS hl) (fun q => kf q H locs ls hP hS hl)
theorem w_if_lt {x : Int32} {off : Int} {tgt : Nat} (X : Cx φ ad cc ret own n fr lo) (hd : decode cc pc = .ok (.ifCond .lt off, 3)) (ht : (pc : Int) + off = (tgt : Int)) (kt : x < 0 → wpm φ ad tgt lv st σ) (kf : ¬ x < 0 → wpm φ ad (pc + 3) lv st σ) : wpm φ ad pc lv (.int x :: st) σ := by
  obtain ⟨⟨p, l, e, R, s, m, args, below⟩, ⟨meth, c, D, c3, A, H0⟩, ⟨nL, cells, slots, Q⟩⟩ := φ
  obtain ⟨hx, hb, hr, hml, hnl, hown, hts, hlk, hK, hD, hA, hfr, hlo, hce, hsl, hN⟩ := X
  subst hnl
  intro H locs ls hP hS hl
  exact lv_if_lt hx hb hd ht (fun q => kt q H locs ls hP hS hl) (fun q => kf q H locs ls hP hS hl)
theorem w_if_ge {x : Int32} {off : Int} {tgt : Nat} (X : Cx φ ad cc ret own n fr lo) (hd : decode cc pc = .ok (.ifCond .ge off, 3)) (ht : (pc : Int) + off = (tgt : Int)) (kt : 0 ≤ x → wpm φ ad tgt lv st σ) (kf : ¬ 0 ≤ x → wpm φ ad (pc + 3) lv st σ) : wpm φ ad pc lv (.int x :: st) σ := by
  obtain ⟨⟨p, l, e, R, s, m, args, below⟩, ⟨meth, c, D, c3, A, H0⟩, ⟨nL, cells, slots, Q⟩⟩ := φ
  obtain ⟨hx, hb, hr, hml, hnl, hown, hts, hlk, hK, hD, hA, hfr, hlo, hce, hsl, hN⟩ := X
  subst hnl
  intro H locs ls hP hS hl
  exact lv_if_ge hx hb hd ht (fun q => kt q H locs ls hP hS hl) (fun q => kf q H locs ls hP hS hl)
theorem w_if_gt {x : Int32} {off : Int} {tgt : Nat} (X : Cx φ ad cc ret own n fr lo) (hd : decode cc pc = .ok (.ifCond .gt off, 3)) (ht : (pc : Int) + off = (tgt : Int)) (kt : 0 < x → wpm φ ad tgt lv st σ) (kf : ¬ 0 < x → wpm φ ad (pc + 3) lv st σ) : wpm φ ad pc lv (.int x :: st) σ := by
  obtain ⟨⟨p, l, e, R, s, m, args, below⟩, ⟨meth, c, D, c3, A, H0⟩, ⟨nL, cells, slots, Q⟩⟩ := φ
  obtain ⟨hx, hb, hr, hml, hnl, hown, hts, hlk, hK, hD, hA, hfr, hlo, hce, hsl, hN⟩ := X
  subst hnl
  intro H locs ls hP hS hl
  exact lv_if_gt hx hb hd ht (fun q => kt q H locs ls hP hS hl) (fun q => kf q H locs ls hP hS hl)
theorem w_if_le {x : Int32} {off : Int} {tgt : Nat} (X : Cx φ ad cc ret own n fr lo) (hd : decode cc pc = .ok (.ifCond .le off, 3)) (ht : (pc : Int) + off = (tgt : Int)) (kt : x ≤ 0 → wpm φ ad tgt lv st σ) (kf : ¬ x ≤ 0 → wpm φ ad (pc + 3) lv st σ) : wpm φ ad pc lv (.int x :: st) σ := by
  obtain ⟨⟨p, l, e, R, s, m, args, below⟩, ⟨meth, c, D, c3, A, H0⟩, ⟨nL, cells, slots, Q⟩⟩ := φ
  obtain ⟨hx, hb, hr, hml, hnl, hown, hts, hlk, hK, hD, hA, hfr, hlo, hce, hsl, hN⟩ := X
  subst hnl
  intro H locs ls hP hS hl
  exact lv_if_le hx hb hd ht (fun q => kt q H locs ls hP hS hl) (fun q => kf q H locs ls hP hS hl)
theorem w_icmp_eq {x y : Int32} {off : Int} {tgt : Nat} (X : Cx φ ad cc ret own n fr lo) (hd : decode cc pc = .ok (.if_icmp .eq off, 3)) (ht : (pc : Int) + off = (tgt : Int)) (kt : x = y → wpm φ ad tgt lv st σ) (kf : ¬ x = y → wpm φ ad (pc + 3) lv st σ) : wpm φ ad pc lv (.int y :: .int x :: st) σ := by
  obtain ⟨⟨p, l, e, R, s, m, args, below⟩, ⟨meth, c, D, c3, A, H0⟩, ⟨nL, cells, slots, Q⟩⟩ := φ
  obtain ⟨hx, hb, hr, hml, hnl, hown, hts, hlk, hK, hD, hA, hfr, hlo, hce, hsl, hN⟩ := X
  subst hnl
  intro H locs ls hP hS hl
  exact lv_icmp_eq hx hb hd ht (fun q => kt q H locs ls hP hS hl) (fun q => kf q H locs ls hP hS hl)
theorem w_icmp_ne {x y : Int32} {off : Int} {tgt : Nat} (X : Cx φ ad cc ret own n fr lo) (hd : decode cc pc = .ok (.if_icmp .ne off, 3)) (ht : (pc : Int) + off = (tgt : Int)) (kt : ¬ x = y → wpm φ ad tgt lv st σ) (kf : x = y → wpm φ ad (pc + 3) lv st σ) : wpm φ ad pc lv (.int y :: .int x :: st) σ := by
  obtain ⟨⟨p, l, e, R, s, m, args, below⟩, ⟨meth, c, D, c3, A, H0⟩, ⟨nL, cells, slots, Q⟩⟩ := φ
  obtain ⟨hx, hb, hr, hml, hnl, hown, hts, hlk, hK, hD, hA, hfr, hlo, hce, hsl, hN⟩ := X
  subst hnl
  intro H locs ls hP hS hl
  exact lv_icmp_ne hx hb hd ht (fun q => kt q H locs ls hP hS hl) (fun q => kf q H locs ls hP hS hl)
theorem w_icmp_lt {x y : Int32} {off : Int} {tgt : Nat} (X : Cx φ ad cc ret own n fr lo) (hd : decode cc pc = .ok (.if_icmp .lt off, 3)) (ht : (pc : Int) + off = (tgt : Int)) (kt : x < y → wpm φ ad tgt lv st σ) (kf : ¬ x < y → wpm φ ad (pc + 3) lv st σ) : wpm φ ad pc lv (.int y :: .int x :: st) σ := by
  obtain ⟨⟨p, l, e, R, s, m, args, below⟩, ⟨meth, c, D, c3, A, H0⟩, ⟨nL, cells, slots, Q⟩⟩ := φ
  obtain ⟨hx, hb, hr, hml, hnl, hown, hts, hlk, hK, hD, hA, hfr, hlo, hce, hsl, hN⟩ := X
  subst hnl
  intro H locs ls hP hS hl
  exact lv_icmp_lt hx hb hd ht (fun q => kt q H locs ls hP hS hl) (fun q => kf q H locs ls hP hS hl)
theorem w_icmp_ge {x y : Int32} {off : Int} {tgt : Nat} (X : Cx φ ad cc ret own n fr lo) (hd : decode cc pc = .ok (.if_icmp .ge off, 3)) (ht : (pc : Int) + off = (tgt : Int)) (kt : y ≤ x → wpm φ ad tgt lv st σ) (kf : ¬ y ≤ x → wpm φ ad (pc + 3) lv st σ) : wpm φ ad pc lv (.int y :: .int x :: st) σ := by
  obtain ⟨⟨p, l, e, R, s, m, args, below⟩, ⟨meth, c, D, c3, A, H0⟩, ⟨nL, cells, slots, Q⟩⟩ := φ
  obtain ⟨hx, hb, hr, hml, hnl, hown, hts, hlk, hK, hD, hA, hfr, hlo, hce, hsl, hN⟩ := X
  subst hnl
  intro H locs ls hP hS hl
  exact lv_icmp_ge hx hb hd ht (fun q => kt q H locs ls hP hS hl) (fun q => kf q H locs ls hP hS hl)
theorem w_icmp_gt {x y : Int32} {off : Int} {tgt : Nat} (X : Cx φ ad cc ret own n fr lo) (hd : decode cc pc = .ok (.if_icmp .gt off, 3)) (ht : (pc : Int) + off = (tgt : Int)) (kt : y < x → wpm φ ad tgt lv st σ) (kf : ¬ y < x → wpm φ ad (pc + 3) lv st σ) : wpm φ ad pc lv (.int y :: .int x :: st) σ := by
  obtain ⟨⟨p, l, e, R, s, m, args, below⟩, ⟨meth, c, D, c3, A, H0⟩, ⟨nL, cells, slots, Q⟩⟩ := φ
  obtain ⟨hx, hb, hr, hml, hnl, hown, hts, hlk, hK, hD, hA, hfr, hlo, hce, hsl, hN⟩ := X
  subst hnl
  intro H locs ls hP hS hl
  exact lv_icmp_gt hx hb hd ht (fun q => kt q H locs ls hP hS hl) (fun q => kf q H locs ls hP hS hl)
theorem w_icmp_le {x y : Int32} {off : Int} {tgt : Nat} (X : Cx φ ad cc ret own n fr lo) (hd : decode cc pc = .ok (.if_icmp .le off, 3)) (ht : (pc : Int) + off = (tgt : Int)) (kt : x ≤ y → wpm φ ad tgt lv st σ) (kf : ¬ x ≤ y → wpm φ ad (pc + 3) lv st σ) : wpm φ ad pc lv (.int y :: .int x :: st) σ := by
  obtain ⟨⟨p, l, e, R, s, m, args, below⟩, ⟨meth, c, D, c3, A, H0⟩, ⟨nL, cells, slots, Q⟩⟩ := φ
  obtain ⟨hx, hb, hr, hml, hnl, hown, hts, hlk, hK, hD, hA, hfr, hlo, hce, hsl, hN⟩ := X
  subst hnl
  intro H locs ls hP hS hl
  exact lv_icmp_le hx hb hd ht (fun q => kt q H locs ls hP hS hl) (fun q => kf q H locs ls hP hS hl)
theorem w_tswIn {dflt lw hi : Int} {offs : Array Int} {len : Nat} {x v : Int32} {off : Int} {tgt : Nat} (X : Cx φ ad cc ret own n fr lo) (hd : decode cc pc = .ok (.tableswitch dflt lw hi offs, len)) (hv : x = v) (h1 : ¬ v.toInt < lw) (h2 : ¬ hi < v.toInt) (ho : offs[(v.toInt - lw).toNat]? = some off) (ht : (pc : Int) + off = (tgt : Int)) (K : wpm φ ad tgt lv st σ) : wpm φ ad pc lv (.int x :: st) σ := by
  obtain ⟨⟨p, l, e, R, s, m, args, below⟩, ⟨meth, c, D, c3, A, H0⟩, ⟨nL, cells, slots, Q⟩⟩ := φ
  obtain ⟨hx, hb, hr, hml, hnl, hown, hts, hlk, hK, hD, hA, hfr, hlo, hce, hsl, hN⟩ := X
  subst hnl
  intro H locs ls hP hS hl
  subst hv
  exact lv_tableIn hx hb hd h1 h2 ho ht (K H locs ls hP hS hl)
theorem w_tswOut {dflt lw hi : Int} {offs : Array Int} {len : Nat} {x : Int32} {tgt : Nat} (X : Cx φ ad cc ret own n fr lo) (hd : decode cc pc = .ok (.tableswitch dflt lw hi offs, len)) (h : ∀ i : Int, lw ≤ i → i ≤ hi → ¬ x = Int32.ofInt i) (ht : (pc : Int) + dflt = (tgt : Int)) (K : wpm φ ad tgt lv st σ) : wpm φ ad pc lv (.int x :: st) σ := by
  obtain ⟨⟨p, l, e, R, s, m, args, below⟩, ⟨meth, c, D, c3, A, H0⟩, ⟨nL, cells, slots, Q⟩⟩ := φ
  obtain ⟨hx, hb, hr, hml, hnl, hown, hts, hlk, hK, hD, hA, hfr, hlo, hce, hsl, hN⟩ := X
  subst hnl
  intro H locs ls hP hS hl
  refine lv_tableOut hx hb hd ?_ ht (K H locs ls hP hS hl)
  by_cases q : x.toInt < lw
  · exact Or.inl q
  · by_cases q2 : hi < x.toInt
    · exact Or.inr q2
    · exact absurd (Int32.ofInt_toInt x).symm (h x.toInt (by omega) (by omega))
theorem w_lsw {dflt : Int} {ps : Array (Int × Int)} {len : Nat} {x : Int32} {off : Int} {tgt : Nat} (X : Cx φ ad cc ret own n fr lo) (hd : decode cc pc = .ok (.lookupswitch dflt ps, len)) (hp : (ps.toList.zip (ps.toList.drop 1)).all (fun (a, next) => a.1 < next.1) = true) (ho : Op.lookupswitch.offset ps.toList dflt x.toInt = off) (ht : (pc : Int) + off = (tgt : Int)) (K : wpm φ ad tgt lv st σ) : wpm φ ad pc lv (.int x :: st) σ := by
  obtain ⟨⟨p, l, e, R, s, m, args, below⟩, ⟨meth, c, D, c3, A, H0⟩, ⟨nL, cells, slots, Q⟩⟩ := φ
  obtain ⟨hx, hb, hr, hml, hnl, hown, hts, hlk, hK, hD, hA, hfr, hlo, hce, hsl, hN⟩ := X
  subst hnl
  intro H locs ls hP hS hl
  exact lv_lookup hx hb hd hp ho ht (K H locs ls hP hS hl)
/-- a class of cls, its fields' names and types -/
def CO (ci : Nat) (C : String) (T : u_T) (N : Nat) (ty : Nat → FieldType) : Prop := cls[ci]? = some (C, T, N) ∧ ci ≤ 9 ∧ N = fn ci ∧ (∀ w ∈ u_ws C T N, w ∈ lw_gd) ∧ (∀ k, k < N → parseFieldDescriptor (T k).2.2.1 = some (ty k)) ∧ ∀ a, a < N → ∀ b, b < N → a ≠ b → (T a).2.1 ≠ (T b).2.1
theorem w_getI {ci idx N k : Nat} {C : String} {T : u_T} {ty : Nat → FieldType} (X : Cx φ ad cc ret own n fr lo) (hd : decode cc pc = .ok (.getfield idx, 3)) (hC : CO ci C T N ty) (hk : kd k = ci) (j : Nat) (hj : j < N) (hf : fo ci j = none) (hw : Cond.fieldLink own idx (T j).1 (T j).2.1 (T j).2.2.1 ∈ lw_gd) (K : wpm φ ad (pc + 3) lv (.int (σ.1 k j) :: st) σ) : wpm φ ad pc lv (.ref (ad k) :: st) σ := by
  obtain ⟨⟨p, l, e, R, s, m, args, below⟩, ⟨meth, c, D, c3, A, H0⟩, ⟨nL, cells, slots, Q⟩⟩ := φ
  obtain ⟨hx, hb, hr, hml, hnl, hown, hts, hlk, hK, hD, hA, hfr, hlo, hce, hsl, hN⟩ := X
  subst hnl
  intro H locs ls hP hS hl
  obtain ⟨h1, h9, h2, h3, h4, h5⟩ := hC
  refine va_get (D := D) (ci := ci) (v := .int (σ.1 k j)) (C := C) (T := T) (N := N) hx hb hts h3 hown hK hP k (wv_obj hk h9) h1 j hj (hts _ hw) (fun _ q => q) ?_ hd (K H locs ls hP hS hl)
  rw [List.getElem?_map, List.getElem?_range (by omega)]
  show some (fv ad σ k j) = _
  unfold fv
  rw [hk, hf]
theorem w_getR {ci idx N k d : Nat} {C : String} {T : u_T} {ty : Nat → FieldType} (X : Cx φ ad cc ret own n fr lo) (hd : decode cc pc = .ok (.getfield idx, 3)) (hC : CO ci C T N ty) (hk : kd k = ci) (j : Nat) (hj : j < N) (hf : fo ci j = some d) (hw : Cond.fieldLink own idx (T j).1 (T j).2.1 (T j).2.2.1 ∈ lw_gd) (K : wpm φ ad (pc + 3) lv (.ref (ad (k + d)) :: st) σ) : wpm φ ad pc lv (.ref (ad k) :: st) σ := by
  obtain ⟨⟨p, l, e, R, s, m, args, below⟩, ⟨meth, c, D, c3, A, H0⟩, ⟨nL, cells, slots, Q⟩⟩ := φ
  obtain ⟨hx, hb, hr, hml, hnl, hown, hts, hlk, hK, hD, hA, hfr, hlo, hce, hsl, hN⟩ := X
  subst hnl
  intro H locs ls hP hS hl
  obtain ⟨h1, h9, h2, h3, h4, h5⟩ := hC
  refine va_get (D := D) (ci := ci) (v := .ref (ad (k + d))) (C := C) (T := T) (N := N) hx hb hts h3 hown hK hP k (wv_obj hk h9) h1 j hj (hts _ hw) (fun _ q => q) ?_ hd (K H locs ls hP hS hl)
  rw [List.getElem?_map, List.getElem?_range (by omega)]
  show some (fv ad σ k j) = _
  unfold fv
  rw [hk, hf]
theorem w_putI {ci idx N k : Nat} {C : String} {T : u_T} {ty : Nat → FieldType} {v : Int32} (X : Cx φ ad cc ret own n fr lo) (hd : decode cc pc = .ok (.putfield idx, 3)) (hC : CO ci C T N ty) (hk : kd k = ci) (j : Nat) (hj : j < N) (hf : fo ci j = none) (hfi : (T j).2.2.2 = false) (hty : ty j = .int ∨ (ty j = .boolean ∧ (v = 0 ∨ v = 1))) (hw : Cond.fieldLink own idx (T j).1 (T j).2.1 (T j).2.2.1 ∈ lw_gd) (K : wpm φ ad (pc + 3) lv st (stI σ k j v)) : wpm φ ad pc lv (.int v :: .ref (ad k) :: st) σ := by
  obtain ⟨⟨p, l, e, R, s, m, args, below⟩, ⟨meth, c, D, c3, A, H0⟩, ⟨nL, cells, slots, Q⟩⟩ := φ
  obtain ⟨hx, hb, hr, hml, hnl, hown, hts, hlk, hK, hD, hA, hfr, hlo, hce, hsl, hN⟩ := X
  subst hnl
  intro H locs ls hP hS hl
  obtain ⟨h1, h9, h2, h3, h4, h5⟩ := hC
  have hn : narrow (ty j) (.int v) = .int v ∧ fits (ty j) (.int v) = true := by
    rcases hty with h | ⟨h, rfl | rfl⟩ <;> rw [h] <;> exact ⟨rfl, rfl⟩
  refine va_put (D := D) (ci := ci) (v := .int v) (C := C) (T := T) (N := N) hx hb hts h3 ty h4 h5 hown hK hP (hD σ) hS k (wv_obj hk h9) h1 j hj (hts _ hw) (fun _ q => q) hfi (h4 j hj) hn.1 hn.2 (by simp; omega) hd (fun H1 locs1 hP1 hD1 hS1 => ?_)
  rw [wv_stO hk h9 (by omega) hf] at hP1
  exact K H1 locs1 ls hP1 hS1 hl
def inb (i : Int32) (n : Nat) : Prop := 0 ≤ i.toInt ∧ i.toInt < (n : Int)
theorem inb_vp {i : Int32} {n : Nat} (h : inb i n) : vp_in i n := vp_in_iff.mpr h
theorem w_iald {k : Nat} {i : Int32} (X : Cx φ ad cc ret own n fr lo) (hd : decode cc pc = .ok (.iaload, 1)) (hk : kd k = 10) (hi : inb i (ln k)) (K : wpm φ ad (pc + 1) lv (.int (σ.1 k i.toNatClampNeg) :: st) σ) : wpm φ ad pc lv (.int i :: .ref (ad k) :: st) σ := by
  obtain ⟨⟨p, l, e, R, s, m, args, below⟩, ⟨meth, c, D, c3, A, H0⟩, ⟨nL, cells, slots, Q⟩⟩ := φ
  obtain ⟨hx, hb, hr, hml, hnl, hown, hts, hlk, hK, hD, hA, hfr, hlo, hce, hsl, hN⟩ := X
  subst hnl
  intro H locs ls hP hS hl
  exact va_iald (D := D) hx hb hK hP k 0 (wv_int hk) rfl (inb_vp hi) hd (K H locs ls hP hS hl)
theorem w_zald {k : Nat} {i : Int32} (X : Cx φ ad cc ret own n fr lo) (hd : decode cc pc = .ok (.baload, 1)) (hk : kd k = 12) (hi : inb i (ln k)) (K : wpm φ ad (pc + 1) lv (.int (σ.1 k i.toNatClampNeg) :: st) σ) : wpm φ ad pc lv (.int i :: .ref (ad k) :: st) σ := by
  obtain ⟨⟨p, l, e, R, s, m, args, below⟩, ⟨meth, c, D, c3, A, H0⟩, ⟨nL, cells, slots, Q⟩⟩ := φ
  obtain ⟨hx, hb, hr, hml, hnl, hown, hts, hlk, hK, hD, hA, hfr, hlo, hce, hsl, hN⟩ := X
  subst hnl
  intro H locs ls hP hS hl
  exact va_zald (D := D) hx hb hK hP k 2 (wv_boo hk) rfl (inb_vp hi) hd (K H locs ls hP hS hl)
theorem w_lald {k : Nat} {i : Int32} (X : Cx φ ad cc ret own n fr lo) (hd : decode cc pc = .ok (.laload, 1)) (hk : kd k = 11) (hi : inb i (ln k)) (K : wpm φ ad (pc + 1) lv (.long (σ.2 k i.toNatClampNeg) :: st) σ) : wpm φ ad pc lv (.int i :: .ref (ad k) :: st) σ := by
  obtain ⟨⟨p, l, e, R, s, m, args, below⟩, ⟨meth, c, D, c3, A, H0⟩, ⟨nL, cells, slots, Q⟩⟩ := φ
  obtain ⟨hx, hb, hr, hml, hnl, hown, hts, hlk, hK, hD, hA, hfr, hlo, hce, hsl, hN⟩ := X
  subst hnl
  intro H locs ls hP hS hl
  exact va_lald (D := D) hx hb hK hP k 1 (wv_lng hk) rfl (inb_vp hi) hd (K H locs ls hP hS hl)
theorem w_iast {k : Nat} {i v : Int32} (X : Cx φ ad cc ret own n fr lo) (hd : decode cc pc = .ok (.iastore, 1)) (hk : kd k = 10) (hi : inb i (ln k)) (K : wpm φ ad (pc + 1) lv st (stI σ k i.toNatClampNeg v)) : wpm φ ad pc lv (.int v :: .int i :: .ref (ad k) :: st) σ := by
  obtain ⟨⟨p, l, e, R, s, m, args, below⟩, ⟨meth, c, D, c3, A, H0⟩, ⟨nL, cells, slots, Q⟩⟩ := φ
  obtain ⟨hx, hb, hr, hml, hnl, hown, hts, hlk, hK, hD, hA, hfr, hlo, hce, hsl, hN⟩ := X
  subst hnl
  intro H locs ls hP hS hl
  refine va_iast (D := D) hx hb hK hP (hD σ) hS k 0 (wv_int hk) rfl (inb_vp hi) hd (fun H1 locs1 hP1 hD1 hS1 => ?_)
  rw [wv_stA hk] at hP1
  exact K H1 locs1 ls hP1 hS1 hl
theorem w_zast {k : Nat} {i v : Int32} (X : Cx φ ad cc ret own n fr lo) (hd : decode cc pc = .ok (.bastore, 1)) (hk : kd k = 12) (hi : inb i (ln k)) (hv : v = 0 ∨ v = 1) (K : wpm φ ad (pc + 1) lv st (stI σ k i.toNatClampNeg v)) : wpm φ ad pc lv (.int v :: .int i :: .ref (ad k) :: st) σ := by
  obtain ⟨⟨p, l, e, R, s, m, args, below⟩, ⟨meth, c, D, c3, A, H0⟩, ⟨nL, cells, slots, Q⟩⟩ := φ
  obtain ⟨hx, hb, hr, hml, hnl, hown, hts, hlk, hK, hD, hA, hfr, hlo, hce, hsl, hN⟩ := X
  subst hnl
  intro H locs ls hP hS hl
  refine va_zast (D := D) hx hb hK hP (hD σ) hS k 2 (wv_boo hk) rfl (inb_vp hi) hd (fun H1 locs1 hP1 hD1 hS1 => ?_)
  have hz : vp_nar .boolean v = v := by rcases hv with rfl | rfl <;> rfl
  rw [hz, wv_stZ hk] at hP1
  exact K H1 locs1 ls hP1 hS1 hl
theorem w_last {k : Nat} {i : Int32} {v : Int64} (X : Cx φ ad cc ret own n fr lo) (hd : decode cc pc = .ok (.lastore, 1)) (hk : kd k = 11) (hi : inb i (ln k)) (K : wpm φ ad (pc + 1) lv st (stL σ k i.toNatClampNeg v)) : wpm φ ad pc lv (.long v :: .int i :: .ref (ad k) :: st) σ := by
  obtain ⟨⟨p, l, e, R, s, m, args, below⟩, ⟨meth, c, D, c3, A, H0⟩, ⟨nL, cells, slots, Q⟩⟩ := φ
  obtain ⟨hx, hb, hr, hml, hnl, hown, hts, hlk, hK, hD, hA, hfr, hlo, hce, hsl, hN⟩ := X
  subst hnl
  intro H locs ls hP hS hl
  refine va_last (D := D) hx hb hK hP (hD σ) hS k 1 (wv_lng hk) rfl (inb_vp hi) hd (fun H1 locs1 hP1 hD1 hS1 => ?_)
  rw [wv_stL hk] at hP1
  exact K H1 locs1 ls hP1 hS1 hl
theorem w_alenI {k : Nat} (X : Cx φ ad cc ret own n fr lo) (hd : decode cc pc = .ok (.arraylength, 1)) (hk : kd k = 10) (K : wpm φ ad (pc + 1) lv (.int (nI (ln k)) :: st) σ) : wpm φ ad pc lv (.ref (ad k) :: st) σ := by
  obtain ⟨⟨p, l, e, R, s, m, args, below⟩, ⟨meth, c, D, c3, A, H0⟩, ⟨nL, cells, slots, Q⟩⟩ := φ
  obtain ⟨hx, hb, hr, hml, hnl, hown, hts, hlk, hK, hD, hA, hfr, hlo, hce, hsl, hN⟩ := X
  subst hnl
  intro H locs ls hP hS hl
  exact va_alen (D := D) hx hb hK hP k 0 (wv_int hk) (ty := .int) rfl rfl hd (K H locs ls hP hS hl)
theorem w_alenJ {k : Nat} (X : Cx φ ad cc ret own n fr lo) (hd : decode cc pc = .ok (.arraylength, 1)) (hk : kd k = 11) (K : wpm φ ad (pc + 1) lv (.int (nI (ln k)) :: st) σ) : wpm φ ad pc lv (.ref (ad k) :: st) σ := by
  obtain ⟨⟨p, l, e, R, s, m, args, below⟩, ⟨meth, c, D, c3, A, H0⟩, ⟨nL, cells, slots, Q⟩⟩ := φ
  obtain ⟨hx, hb, hr, hml, hnl, hown, hts, hlk, hK, hD, hA, hfr, hlo, hce, hsl, hN⟩ := X
  subst hnl
  intro H locs ls hP hS hl
  exact va_alen (D := D) hx hb hK hP k 1 (wv_lng hk) (ty := .long) rfl rfl hd (K H locs ls hP hS hl)
theorem w_alenZ {k : Nat} (X : Cx φ ad cc ret own n fr lo) (hd : decode cc pc = .ok (.arraylength, 1)) (hk : kd k = 12) (K : wpm φ ad (pc + 1) lv (.int (nI (ln k)) :: st) σ) : wpm φ ad pc lv (.ref (ad k) :: st) σ := by
  obtain ⟨⟨p, l, e, R, s, m, args, below⟩, ⟨meth, c, D, c3, A, H0⟩, ⟨nL, cells, slots, Q⟩⟩ := φ
  obtain ⟨hx, hb, hr, hml, hnl, hown, hts, hlk, hK, hD, hA, hfr, hlo, hce, hsl, hN⟩ := X
  subst hnl
  intro H locs ls hP hS hl
  exact va_alen (D := D) hx hb hK hP k 2 (wv_boo hk) (ty := .boolean) rfl rfl hd (K H locs ls hP hS hl)
theorem w_iret {r : Int32} (X : Cx φ ad cc (some .int) own n fr lo) (hQ : Fini φ ad (some (.int r)) σ) (hd : decode cc pc = .ok (.ireturn, 1)) : wpm φ ad pc lv [.int r] σ := by
  obtain ⟨⟨p, l, e, R, s, m, args, below⟩, ⟨meth, c, D, c3, A, H0⟩, ⟨nL, cells, slots, Q⟩⟩ := φ
  obtain ⟨hx, hb, hr, hml, hnl, hown, hts, hlk, hK, hD, hA, hfr, hlo, hce, hsl, hN⟩ := X
  subst hnl
  intro H locs ls hP hS hl
  obtain ⟨rfl, rfl⟩ := hQ
  exact W.iret (v := r) hx hb hr (fun t ht hW => ⟨⟨rfl, by rw [ht]; exact hP⟩, hS.F ht⟩) hS.2.2 hd hlk
theorem w_zret {r : Int32} (X : Cx φ ad cc (some .boolean) own n fr lo) (hQ : Fini φ ad (some (.int r)) σ) (hd : decode cc pc = .ok (.ireturn, 1)) (h01 : r = 0 ∨ r = 1) : wpm φ ad pc lv [.int r] σ := by
  obtain ⟨⟨p, l, e, R, s, m, args, below⟩, ⟨meth, c, D, c3, A, H0⟩, ⟨nL, cells, slots, Q⟩⟩ := φ
  obtain ⟨hx, hb, hr, hml, hnl, hown, hts, hlk, hK, hD, hA, hfr, hlo, hce, hsl, hN⟩ := X
  subst hnl
  intro H locs ls hP hS hl
  obtain ⟨rfl, rfl⟩ := hQ
  exact W.zret (v := r) hx hb hr (by rcases h01 with rfl | rfl <;> rfl) (fun t ht hW => ⟨⟨rfl, by rw [ht]; exact hP⟩, hS.F ht⟩) hS.2.2 hd hlk
theorem w_lret {r : Int64} (X : Cx φ ad cc (some .long) own n fr lo) (hQ : Fini φ ad (some (.long r)) σ) (hd : decode cc pc = .ok (.lreturn, 1)) : wpm φ ad pc lv [.long r] σ := by
  obtain ⟨⟨p, l, e, R, s, m, args, below⟩, ⟨meth, c, D, c3, A, H0⟩, ⟨nL, cells, slots, Q⟩⟩ := φ
  obtain ⟨hx, hb, hr, hml, hnl, hown, hts, hlk, hK, hD, hA, hfr, hlo, hce, hsl, hN⟩ := X
  subst hnl
  intro H locs ls hP hS hl
  obtain ⟨rfl, rfl⟩ := hQ
  exact W.lret (v := r) hx hb hr (fun t ht hW => ⟨⟨rfl, by rw [ht]; exact hP⟩, hS.F ht⟩) hS.2.2 hd hlk
theorem w_vret (X : Cx φ ad cc none own n fr lo) (hQ : Fini φ ad none σ) (hd : decode cc pc = .ok (.return_, 1)) : wpm φ ad pc lv [] σ := by
  obtain ⟨⟨p, l, e, R, s, m, args, below⟩, ⟨meth, c, D, c3, A, H0⟩, ⟨nL, cells, slots, Q⟩⟩ := φ
  obtain ⟨hx, hb, hr, hml, hnl, hown, hts, hlk, hK, hD, hA, hfr, hlo, hce, hsl, hN⟩ := X
  subst hnl
  intro H locs ls hP hS hl
  obtain ⟨rfl, rfl⟩ := hQ
  exact W.vret hx hb hr (fun t ht hW => ⟨⟨rfl, by rw [ht]; exact hP⟩, hS.F ht⟩) hS.2.2 hd hlk
theorem w_aret {k : Nat} {nm : String} (X : Cx φ ad cc (some (.object nm)) own n fr lo) (hQ : Fini φ ad (some (.ref (ad k))) σ) (hd : decode cc pc = .ok (.areturn, 1)) : wpm φ ad pc lv [.ref (ad k)] σ := by
  obtain ⟨⟨p, l, e, R, s, m, args, below⟩, ⟨meth, c, D, c3, A, H0⟩, ⟨nL, cells, slots, Q⟩⟩ := φ
  obtain ⟨hx, hb, hr, hml, hnl, hown, hts, hlk, hK, hD, hA, hfr, hlo, hce, hsl, hN⟩ := X
  subst hnl
  intro H locs ls hP hS hl
  obtain ⟨rfl, rfl⟩ := hQ
  exact W.aret (v := .ref (ad k)) hx hb hr (Or.inl ⟨nm, rfl⟩) (Or.inr ⟨_, rfl⟩) (fun t ht hW => ⟨⟨rfl, by rw [ht]; exact hP⟩, hS.F ht⟩) hS.2.2 hd hlk
end WP
end
section
section WC
theorem w_after {p : Program} {l : Launch} {e : Env} {R : Room} {s : State} {m : MethodId} {args : Array Value} {below : List Frame} {meth : Method} {c : Code} {H : Heap} {locs : List Loc} {cells slots : Nat} {Q : State → Prop} {pc : Nat} {ls : Array Slot} {rest st0 : List Value} {a : Array Value} {A0 A1 : Nat → Prop} {H0 : Heap} {free : Addr → Prop} {D : va_G} {ad : Nat → Nat} {c3 : C3} {r : Option Value} {σ' : Sto}
    (hr : va_Run p l e R s m args below meth c H locs cells slots 0 0 (F0 m pc ls st0) rest (Qm D ad c3 A1 r σ' a) free) (hS : va_S A0 H0 H locs) (hA : ∀ q, q < H.size → A1 q → A0 q) (hf : ∀ q, free q → A0 q)
    (kk : ∀ (H1 : Heap) (locs1 : List Loc), va_P D cls (wv ad c3 σ') H1 → va_S A0 H0 H1 locs1 → W p l e R s m args below meth c H1 locs1 cells slots Q (F0 m (pc + 3) ls (r.toList ++ rest))) : W p l e R s m args below meth c H locs cells slots Q (F0 m pc ls st0) := by
  intro T hT X
  obtain ⟨v, st₀, t, T', L, h0, X', hL, e1, e2, ⟨⟨hv, hb⟩, hz, hk⟩, st⟩ := hr T hT X
  cases hv
  rw [h0] at hz hk
  obtain ⟨t2, a1, b1⟩ := kk T'.heap (locs ++ L) (by rw [e1]; exact hb)
    ⟨Nat.le_trans hS.1 (by rw [e1]; exact hz), fun q h1 h2 => by rw [e1, hk q (Nat.lt_of_lt_of_le h1 hS.1) (fun z => h2 (hA q (Nat.lt_of_lt_of_le h1 hS.1) z))]; exact hS.2.1 q h1 h2, fun q hq => by
      rcases List.mem_append.mp hq with h | h
      · exact hS.2.2 q h
      · exact hf _ (hL q h)⟩ T' rfl X'
  exact ⟨t2, st t2 a1, b1⟩
theorem wv_free {A : Nat → Prop} {ad : Nat → Nat} {c3 : C3} {σ : Sto} {H0 H : Heap} {locs : List Loc} (hD : va_D A (wv ad c3 σ)) (hS : va_S A H0 H locs) (hA : ∀ q, H0.size ≤ q → A q) : ∀ q, va_A (wv ad c3 σ) H.size q → A q := by
  intro q h
  rcases h with ⟨k, e, h⟩ | h
  · exact hD.2 k _ h
  · exact hA q (Nat.le_trans hS.1 h)
variable {φ : Fr} {ad : Nat → Nat} {cc : ByteArray} {ret : Option FieldType} {own : String} {n fr lo pc : Nat} {lv lv' : List (Nat × Value)} {st rest : List Value} {σ σ' : Sto}
variable {y : MethodName} {cy : ByteArray} {ny fy ly idx np : Nat} {ry : Option FieldType} {av : (Nat → Nat) → List Value} {r : (Nat → Nat) → Option Value}
abbrev PcOf (D : va_G) (ad : Nat → Nat) (c3 : C3) (sz : Nat) (av : List Value) (σ : Sto) : Array Value → State → Prop := va_Pc av (fun U => U.heap.size = sz ∧ va_P D cls (wv ad c3 σ) U.heap ∧ va_K D cls (tysOf c3) U ∧ va_D (fun _ => True) (wv ad c3 σ) ∧ Nst U)
theorem PcOf_blind {D : va_G} {c3 : C3} {sz : Nat} {av : List Value} : FrameBlind (PcOf D ad c3 sz av σ) := by
  intro a U g mk q
  obtain ⟨q0, q1, qP, qK, qD, qN⟩ := q
  exact ⟨q0, q1, qP, va_K.moved (u := U) (U := U.calling g mk a) (Vm.Alike.refl U.vm) qK, qD, fun a i y h hm => va_Nw.same (u := U) rfl rfl (qN a i y h hm)⟩
theorem PcOf_here {D : va_G} {c3 : C3} {s : State} {H : Heap} {A : Nat → Prop} {av : List Value} (hK : va_K D cls (tysOf c3) s) (hP : va_P D cls (wv ad c3 σ) H) (hD : va_D A (wv ad c3 σ)) (hN : Nst s) : ∀ U : State, U.heap = H → s.WarmedH U.vm → PcOf D ad c3 H.size av σ av.toArray U :=
  fun U hU hW => ⟨rfl, by rw [hU], by rw [hU]; exact hP, va_K.moved hW.alike hK, hD.weaken (fun _ _ _ _ => trivial), fun a i y h hm => va_Nw.warmM hW (hN a i y h hm)⟩
def CW (ws : List Cond) (y : MethodName) (np : Nat) : Prop := (∀ w ∈ ws, w ∈ lw_gd) ∧ (y.cls ≠ "java/lang/invoke/MethodHandle" ∧ y.cls ≠ "java/lang/invoke/VarHandle" ∧ (parseMethodDescriptor y.desc).map (fun d => d.parameters.length) = some np)
theorem good_code {ws : List Cond} {y : MethodName} (h : ∀ w ∈ ws, w ∈ lw_gd) (hc : Cond.code y cy ny ry ∈ ws) : GoodIn lw_gd (.code y cy ny ry :: lw_gd) :=
  lw_goodIn (fun w hw => (List.mem_cons.mp hw).elim (fun e => e ▸ h _ hc) (fun h => h))
theorem w_callV {k ci : Nat} {As : (Nat → Nat) → List Value} {T : u_T} {N : Nat} (X : Cx φ ad cc ret own n fr lo) (hd : decode cc pc = .ok (.invokevirtual idx, 3))
    (hC : Ct y cy ny ry fy ly (fun ad => .ref (ad k) :: As ad) σ r σ') (hk : kd k = ci) (hci : ci ≤ 9) (hcl : cls[ci]? = some (y.cls, T, N)) (hw : CW [.methodLink own idx y, .instanceMethod y, .selects y.cls y y, .initialized y.cls, .code y cy ny ry] y np) (hR : fy + 1 ≤ fr ∧ 8 + (ny + 11) + ly ≤ lo)
    (hnp : (As ad).length = np) (hst : st = (As ad).reverse ++ .ref (ad k) :: rest) (hW : (rest.map fun v => v.category).sum ≤ 8)
    (K : wpm φ ad (pc + 3) lv ((r ad).toList ++ rest) σ') : wpm φ ad pc lv st σ := by
  obtain ⟨⟨p, l, e, R, s, m, args, below⟩, ⟨meth, c, D, c3, A, H0⟩, ⟨nL, cells, slots, Q⟩⟩ := φ
  obtain ⟨hx, hb, hr, hml, hnl, hown, hts, hlk, hK, hD, hA, hfr, hlo, hce, hsl, hN⟩ := X
  subst hnl
  intro H locs ls hP hS hl
  have hG : GoodIn lw_gd (wsV own idx y.cls y (.code y cy ny ry :: lw_gd)) := lw_goodIn (fun w hw1 => by
    rcases List.mem_append.mp hw1 with h | h
    · refine hw.1 w ?_
      simp only [List.mem_cons, List.not_mem_nil, or_false] at h ⊢
      rcases h with h | h | h | h <;> simp [h]
    · rcases List.mem_cons.mp h with h | h
      · exact hw.1 w (by simp [h])
      · exact h)
  have hfree := wv_free (hD σ) hS hA
  refine w_after (a := (Value.ref (ad k) :: As ad).toArray) (va_runV (As := As ad) (rest := rest) (n := np) ⟨hx, hb, hml, hown, hts⟩ (hC l D c3 ad H.size) (cwV np hts hG rfl rfl rfl ⟨rfl, hw.2⟩ ⟨by show fy + 1 ≤ R.frames; omega, by show 8 + (ny + 11) + ly ≤ R.locals; omega⟩) ⟨PcOf_blind, va_recv hK hP hcl (wv_obj hk hci), PcOf_here hK hP (hD σ) hN⟩ rfl hnp hl.1 hst (lv_room hW) hd ⟨hce, hsl⟩) hS (fun q _ h => hfree q h) hfree (fun H1 locs1 hP1 hS1 => ?_)
  exact K H1 locs1 ls hP1 hS1 hl
theorem w_callS (X : Cx φ ad cc ret own n fr lo) (hd : decode cc pc = .ok (.invokestatic idx, 3))
    (hC : Ct y cy ny ry fy ly av σ r σ') (hy : y.cls = own) (hw : CW [.methodLink own idx y, .static y, .initialized own, .code y cy ny ry] y np) (hR : fy + 1 ≤ fr ∧ 8 + (ny + 11) + ly ≤ lo)
    (hnp : (av ad).length = np) (hst : st = (av ad).reverse ++ rest) (hW : (rest.map fun v => v.category).sum ≤ 8)
    (K : wpm φ ad (pc + 3) lv ((r ad).toList ++ rest) σ') : wpm φ ad pc lv st σ := by
  obtain ⟨⟨p, l, e, R, s, m, args, below⟩, ⟨meth, c, D, c3, A, H0⟩, ⟨nL, cells, slots, Q⟩⟩ := φ
  obtain ⟨hx, hb, hr, hml, hnl, hown, hts, hlk, hK, hD, hA, hfr, hlo, hce, hsl, hN⟩ := X
  subst hnl
  intro H locs ls hP hS hl
  have hG : GoodIn lw_gd (wsS own idx y (.code y cy ny ry :: lw_gd)) := lw_goodIn (fun w hw1 => by
    rcases List.mem_append.mp hw1 with h | h
    · refine hw.1 w ?_
      simp only [List.mem_cons, List.not_mem_nil, or_false] at h ⊢
      rcases h with h | h | h <;> simp [h]
    · rcases List.mem_cons.mp h with h | h
      · exact hw.1 w (by simp [h])
      · exact h)
  have hfree := wv_free (hD σ) hS hA
  refine w_after (a := (av ad).toArray) (va_runS (As := av ad) (rest := rest) (n := np) ⟨hx, hb, hml, hown, hts⟩ (hC l D c3 ad H.size) (cwS np hts hG rfl rfl rfl ⟨hy, hw.2⟩ ⟨by show fy + 1 ≤ R.frames; omega, by show 8 + (ny + 11) + ly ≤ R.locals; omega⟩) ⟨PcOf_blind, PcOf_here hK hP (hD σ) hN⟩ rfl hnp hl.1 hst (lv_room hW) hd ⟨hce, hsl⟩) hS (fun q _ h => hfree q h) hfree (fun H1 locs1 hP1 hS1 => ?_)
  exact K H1 locs1 ls hP1 hS1 hl
theorem w_callSN {host : String} (X : Cx φ ad cc ret own n fr lo) (hd : decode cc pc = .ok (.invokestatic idx, 3))
    (hC : Ct y cy ny ry fy ly av σ r σ') (hl0 : Cond.methodLinkNest own idx y host ∈ lw_tbl) (hw : CW [.static y, .initialized y.cls, .code y cy ny ry] y np) (hR : fy + 1 ≤ fr ∧ 8 + (ny + 11) + ly ≤ lo)
    (hnp : (av ad).length = np) (hst : st = (av ad).reverse ++ rest) (hW : (rest.map fun v => v.category).sum ≤ 8)
    (K : wpm φ ad (pc + 3) lv ((r ad).toList ++ rest) σ') : wpm φ ad pc lv st σ := by
  obtain ⟨⟨p, l, e, R, s, m, args, below⟩, ⟨meth, c, D, c3, A, H0⟩, ⟨nL, cells, slots, Q⟩⟩ := φ
  obtain ⟨hx, hb, hr, hml, hnl, hown, hts, hlk, hK, hD, hA, hfr, hlo, hce, hsl, hN⟩ := X
  subst hnl
  intro H locs ls hP hS hl
  have hG : GoodIn lw_gd (.code y cy ny ry :: lw_gd) := good_code hw.1 (by simp)
  have hfree := wv_free (hD σ) hS hA
  refine w_after (a := (av ad).toArray) (va_runSN (As := av ad) (rest := rest) (n := np) ⟨hx, hb, hml, hown, hts⟩ (hC l D c3 ad H.size) ⟨va_cnB np hts hG rfl rfl rfl (hN own idx y host hl0) (hts _ (hw.1 _ (by simp))) hw.2 ⟨by show fy + 1 ≤ R.frames; omega, by show 8 + (ny + 11) + ly ≤ R.locals; omega⟩, hts _ (hw.1 _ (by simp)), trivial⟩ ⟨PcOf_blind, PcOf_here hK hP (hD σ) hN⟩ rfl hnp hl.1 hst (lv_room hW) hd ⟨hce, hsl⟩) hS (fun q _ h => hfree q h) hfree (fun H1 locs1 hP1 hS1 => ?_)
  exact K H1 locs1 ls hP1 hS1 hl
theorem w_mmax {x y : Int32} (X : Cx φ ad cc ret own n fr lo) (hd : decode cc pc = .ok (.invokestatic idx, 3)) (hw : ∀ w ∈ [Cond.methodLink own idx Lib.Math.max.name, .static Lib.Math.max.name, .initialized "java/lang/Math", .code Lib.Math.max.name Lib.Math.max.code 2 (some .int)], w ∈ lw_gd) (hR : 1 ≤ fr ∧ (rest.map fun v => v.category).sum + 13 ≤ lo)
    (K : wpm φ ad (pc + 3) lv (.int (if x < y then y else x) :: rest) σ) : wpm φ ad pc lv (.int y :: .int x :: rest) σ := by
  obtain ⟨⟨p, l, e, R, s, m, args, below⟩, ⟨meth, c, D, c3, A, H0⟩, ⟨nL, cells, slots, Q⟩⟩ := φ
  obtain ⟨hx, hb, hr, hml, hnl, hown, hts, hlk, hK, hD, hA, hfr, hlo, hce, hsl, hN⟩ := X
  subst hnl
  intro H locs ls hP hS hl
  exact va_mmax hx hb (hml.trans hl.1.symm) hown (hts _ (hw _ (by simp))) (hts _ (hw _ (by simp))) (hts _ (hw _ (by simp))) (hts _ (hw _ (by simp))) (by omega) (by omega) hce hsl hd (K H locs ls hP hS hl)
theorem w_mmin {x y : Int32} (X : Cx φ ad cc ret own n fr lo) (hd : decode cc pc = .ok (.invokestatic idx, 3)) (hw : ∀ w ∈ [Cond.methodLink own idx Lib.Math.min.name, .static Lib.Math.min.name, .initialized "java/lang/Math", .code Lib.Math.min.name Lib.Math.min.code 2 (some .int)], w ∈ lw_gd) (hR : 1 ≤ fr ∧ (rest.map fun v => v.category).sum + 13 ≤ lo)
    (K : wpm φ ad (pc + 3) lv (.int (if y < x then y else x) :: rest) σ) : wpm φ ad pc lv (.int y :: .int x :: rest) σ := by
  obtain ⟨⟨p, l, e, R, s, m, args, below⟩, ⟨meth, c, D, c3, A, H0⟩, ⟨nL, cells, slots, Q⟩⟩ := φ
  obtain ⟨hx, hb, hr, hml, hnl, hown, hts, hlk, hK, hD, hA, hfr, hlo, hce, hsl, hN⟩ := X
  subst hnl
  intro H locs ls hP hS hl
  exact va_mmin hx hb (hml.trans hl.1.symm) hown (hts _ (hw _ (by simp))) (hts _ (hw _ (by simp))) (hts _ (hw _ (by simp))) (hts _ (hw _ (by simp))) (by omega) (by omega) hce hsl hd (K H locs ls hP hS hl)
/-- System.arraycopy(a, 0, b, 0, k), of ints -/
theorem w_copy {a b : Nat} {k : Int32} (X : Cx φ ad cc ret own n fr lo) (hd : decode cc pc = .ok (.invokestatic idx, 3)) (hw : ∀ w ∈ [Cond.methodLink own idx arraycopyName, .native arraycopyName, .static arraycopyName, .initialized "java/lang/System"], w ∈ lw_gd) (hR : 1 ≤ fr ∧ (rest.map fun v => v.category).sum + (nativeFrameWords "java/lang/System" "arraycopy" 5 + 11) ≤ lo)
    (ha : kd a = 10) (hb0 : kd b = 10) (h0 : ¬ k < 0) (h4 : k.toNatClampNeg ≤ ln a) (h5 : k.toNatClampNeg ≤ ln b)
    (K : wpm φ ad (pc + 3) lv rest (stC σ a b k.toNatClampNeg)) : wpm φ ad pc lv (.int k :: .int 0 :: .ref (ad b) :: .int 0 :: .ref (ad a) :: rest) σ := by
  obtain ⟨⟨p, l, e, R, s, m, args, below⟩, ⟨meth, c, D, c3, A, H0⟩, ⟨nL, cells, slots, Q⟩⟩ := φ
  obtain ⟨hx, hb, hr, hml, hnl, hown, hts, hlk, hK, hD, hA, hfr, hlo, hce, hsl, hN⟩ := X
  subst hnl
  intro H locs ls hP hS hl
  have z0 : (0 : Int32).toNatClampNeg = 0 := by decide
  refine va_copyi (D := D) hx hb (hml.trans hl.1.symm) hown (hts _ (hw _ (by simp))) (hts _ (hw _ (by simp))) (hts _ (hw _ (by simp))) (hts _ (hw _ (by simp))) hK hP (hD σ) hS a b 0 0 (wv_int ha) (wv_int hb0) rfl rfl rfl (by decide) (by decide) h0 (by rw [z0]; omega) (by rw [z0]; omega) (fun i _ => rfl) (by omega) (by omega) hd (fun H1 locs1 hP1 hD1 hS1 => ?_)
  rw [z0, wv_stC hb0] at hP1
  exact K H1 locs1 ls hP1 hS1 hl
end WC
end
