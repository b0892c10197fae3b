section
-- ===== PART A: goes FIRST, ahead of the names: the tables' words, and 'selects' of the private methods out of them =====
/-- a private method of a class that the tables say can be made, by its rows of tables_1 -/
def lw_okq (q : MethodName × Nat) : Prop := (q.1.cls ≠ "java/lang/invoke/MethodHandle" ∧ q.1.cls ≠ "java/lang/invoke/VarHandle") ∧ Cond.instantiable q.1.cls q.2 ∈ tables_1 ∧ Cond.privateMethod q.1 ∈ tables_1 ∧ Cond.instanceMethod q.1 ∈ tables_1
theorem lw_p0 : lw_okq (⟨"RavelKnit$Evening", "add", "(I)V"⟩, 6) := ⟨⟨by decide +kernel, by decide +kernel⟩, List.mem_of_getElem? (i := 115) (by decide +kernel), List.mem_of_getElem? (i := 309) (by decide +kernel), List.mem_of_getElem? (i := 310) (by decide +kernel)⟩
theorem lw_p1 : lw_okq (⟨"RavelKnit$Pattern", "add", "(II)V"⟩, 3) := ⟨⟨by decide +kernel, by decide +kernel⟩, List.mem_of_getElem? (i := 148) (by decide +kernel), List.mem_of_getElem? (i := 324) (by decide +kernel), List.mem_of_getElem? (i := 325) (by decide +kernel)⟩
theorem lw_p2 : lw_okq (⟨"RavelKnit", "playPad", "()I"⟩, 9) := ⟨⟨by decide +kernel, by decide +kernel⟩, List.mem_of_getElem? (i := 14) (by decide +kernel), List.mem_of_getElem? (i := 333) (by decide +kernel), List.mem_of_getElem? (i := 334) (by decide +kernel)⟩
theorem lw_p3 : lw_okq (⟨"RavelKnit$Needles", "dropColour", "()V"⟩, 8) := ⟨⟨by decide +kernel, by decide +kernel⟩, List.mem_of_getElem? (i := 28) (by decide +kernel), List.mem_of_getElem? (i := 370) (by decide +kernel), List.mem_of_getElem? (i := 371) (by decide +kernel)⟩
theorem lw_p4 : lw_okq (⟨"RavelKnit$Needles", "dropTop", "()V"⟩, 8) := ⟨⟨by decide +kernel, by decide +kernel⟩, List.mem_of_getElem? (i := 28) (by decide +kernel), List.mem_of_getElem? (i := 379) (by decide +kernel), List.mem_of_getElem? (i := 380) (by decide +kernel)⟩
theorem lw_p5 : lw_okq (⟨"RavelKnit$Needles", "lay", "(II)V"⟩, 8) := ⟨⟨by decide +kernel, by decide +kernel⟩, List.mem_of_getElem? (i := 28) (by decide +kernel), List.mem_of_getElem? (i := 383) (by decide +kernel), List.mem_of_getElem? (i := 384) (by decide +kernel)⟩
theorem lw_p6 : lw_okq (⟨"RavelKnit", "readPattern", "()I"⟩, 9) := ⟨⟨by decide +kernel, by decide +kernel⟩, List.mem_of_getElem? (i := 14) (by decide +kernel), List.mem_of_getElem? (i := 443) (by decide +kernel), List.mem_of_getElem? (i := 444) (by decide +kernel)⟩
theorem lw_p7 : lw_okq (⟨"RavelKnit", "fewestRemarks", "(I)I"⟩, 9) := ⟨⟨by decide +kernel, by decide +kernel⟩, List.mem_of_getElem? (i := 14) (by decide +kernel), List.mem_of_getElem? (i := 447) (by decide +kernel), List.mem_of_getElem? (i := 448) (by decide +kernel)⟩
theorem lw_p8 : lw_okq (⟨"RavelKnit", "isThereAlready", "(I)Z"⟩, 9) := ⟨⟨by decide +kernel, by decide +kernel⟩, List.mem_of_getElem? (i := 14) (by decide +kernel), List.mem_of_getElem? (i := 451) (by decide +kernel), List.mem_of_getElem? (i := 452) (by decide +kernel)⟩
theorem lw_p9 : lw_okq (⟨"RavelKnit", "remarksDownTo", "(I)I"⟩, 9) := ⟨⟨by decide +kernel, by decide +kernel⟩, List.mem_of_getElem? (i := 14) (by decide +kernel), List.mem_of_getElem? (i := 458) (by decide +kernel), List.mem_of_getElem? (i := 459) (by decide +kernel)⟩
theorem lw_p10 : lw_okq (⟨"RavelKnit", "remarksUpTo", "(II)I"⟩, 9) := ⟨⟨by decide +kernel, by decide +kernel⟩, List.mem_of_getElem? (i := 14) (by decide +kernel), List.mem_of_getElem? (i := 467) (by decide +kernel), List.mem_of_getElem? (i := 468) (by decide +kernel)⟩
theorem lw_p11 : lw_okq (⟨"RavelKnit", "surveyWorlds", "()Z"⟩, 9) := ⟨⟨by decide +kernel, by decide +kernel⟩, List.mem_of_getElem? (i := 14) (by decide +kernel), List.mem_of_getElem? (i := 491) (by decide +kernel), List.mem_of_getElem? (i := 492) (by decide +kernel)⟩
theorem lw_p12 : lw_okq (⟨"RavelKnit$Orders", "raise", "(I)V"⟩, 1) := ⟨⟨by decide +kernel, by decide +kernel⟩, List.mem_of_getElem? (i := 193) (by decide +kernel), List.mem_of_getElem? (i := 549) (by decide +kernel), List.mem_of_getElem? (i := 550) (by decide +kernel)⟩
theorem lw_p13 : lw_okq (⟨"RavelKnit$Orders", "addDropped", "(II)V"⟩, 1) := ⟨⟨by decide +kernel, by decide +kernel⟩, List.mem_of_getElem? (i := 193) (by decide +kernel), List.mem_of_getElem? (i := 556) (by decide +kernel), List.mem_of_getElem? (i := 557) (by decide +kernel)⟩
theorem lw_p14 : lw_okq (⟨"RavelKnit$Odds", "step", "(I)V"⟩, 1) := ⟨⟨by decide +kernel, by decide +kernel⟩, List.mem_of_getElem? (i := 204) (by decide +kernel), List.mem_of_getElem? (i := 578) (by decide +kernel), List.mem_of_getElem? (i := 579) (by decide +kernel)⟩
theorem lw_p15 : lw_okq (⟨"RavelKnit", "imageAt", "(I)LRavelKnit$Company;"⟩, 9) := ⟨⟨by decide +kernel, by decide +kernel⟩, List.mem_of_getElem? (i := 14) (by decide +kernel), List.mem_of_getElem? (i := 622) (by decide +kernel), List.mem_of_getElem? (i := 623) (by decide +kernel)⟩
def lw_privs_1 : List (MethodName × Nat) := [(⟨"RavelKnit$Evening", "add", "(I)V"⟩, 6), (⟨"RavelKnit$Pattern", "add", "(II)V"⟩, 3), (⟨"RavelKnit", "playPad", "()I"⟩, 9), (⟨"RavelKnit$Needles", "dropColour", "()V"⟩, 8), (⟨"RavelKnit$Needles", "dropTop", "()V"⟩, 8), (⟨"RavelKnit$Needles", "lay", "(II)V"⟩, 8), (⟨"RavelKnit", "readPattern", "()I"⟩, 9), (⟨"RavelKnit", "fewestRemarks", "(I)I"⟩, 9), (⟨"RavelKnit", "isThereAlready", "(I)Z"⟩, 9), (⟨"RavelKnit", "remarksDownTo", "(I)I"⟩, 9), (⟨"RavelKnit", "remarksUpTo", "(II)I"⟩, 9), (⟨"RavelKnit", "surveyWorlds", "()Z"⟩, 9), (⟨"RavelKnit$Orders", "raise", "(I)V"⟩, 1), (⟨"RavelKnit$Orders", "addDropped", "(II)V"⟩, 1), (⟨"RavelKnit$Odds", "step", "(I)V"⟩, 1), (⟨"RavelKnit", "imageAt", "(I)LRavelKnit$Company;"⟩, 9)]
theorem lw_r1 : ∀ q ∈ lw_privs_1, lw_okq q := List.forall_mem_cons.mpr ⟨lw_p0, List.forall_mem_cons.mpr ⟨lw_p1, List.forall_mem_cons.mpr ⟨lw_p2, List.forall_mem_cons.mpr ⟨lw_p3, List.forall_mem_cons.mpr ⟨lw_p4, List.forall_mem_cons.mpr ⟨lw_p5, List.forall_mem_cons.mpr ⟨lw_p6, List.forall_mem_cons.mpr ⟨lw_p7, List.forall_mem_cons.mpr ⟨lw_p8, List.forall_mem_cons.mpr ⟨lw_p9, List.forall_mem_cons.mpr ⟨lw_p10, List.forall_mem_cons.mpr ⟨lw_p11, List.forall_mem_cons.mpr ⟨lw_p12, List.forall_mem_cons.mpr ⟨lw_p13, List.forall_mem_cons.mpr ⟨lw_p14, List.forall_mem_cons.mpr ⟨lw_p15, fun _ h => absurd h List.not_mem_nil⟩⟩⟩⟩⟩⟩⟩⟩⟩⟩⟩⟩⟩⟩⟩⟩
theorem lw_p16 : lw_okq (⟨"RavelKnitModel", "begin", "(I)V"⟩, 47) := ⟨⟨by decide +kernel, by decide +kernel⟩, List.mem_of_getElem? (i := 640) (by decide +kernel), List.mem_of_getElem? (i := 646) (by decide +kernel), List.mem_of_getElem? (i := 647) (by decide +kernel)⟩
theorem lw_p17 : lw_okq (⟨"RavelKnitModel", "isFact", "(I)Z"⟩, 47) := ⟨⟨by decide +kernel, by decide +kernel⟩, List.mem_of_getElem? (i := 640) (by decide +kernel), List.mem_of_getElem? (i := 805) (by decide +kernel), List.mem_of_getElem? (i := 806) (by decide +kernel)⟩
theorem lw_p18 : lw_okq (⟨"RavelKnitModel", "faultOfEvening", "()I"⟩, 47) := ⟨⟨by decide +kernel, by decide +kernel⟩, List.mem_of_getElem? (i := 640) (by decide +kernel), List.mem_of_getElem? (i := 837) (by decide +kernel), List.mem_of_getElem? (i := 838) (by decide +kernel)⟩
theorem lw_p19 : lw_okq (⟨"RavelKnitModel", "faultOfPattern", "()I"⟩, 47) := ⟨⟨by decide +kernel, by decide +kernel⟩, List.mem_of_getElem? (i := 640) (by decide +kernel), List.mem_of_getElem? (i := 844) (by decide +kernel), List.mem_of_getElem? (i := 845) (by decide +kernel)⟩
theorem lw_p20 : lw_okq (⟨"RavelKnitModel", "refusal", "()I"⟩, 47) := ⟨⟨by decide +kernel, by decide +kernel⟩, List.mem_of_getElem? (i := 640) (by decide +kernel), List.mem_of_getElem? (i := 853) (by decide +kernel), List.mem_of_getElem? (i := 854) (by decide +kernel)⟩
theorem lw_p21 : lw_okq (⟨"RavelKnitModel", "keepNow", "()V"⟩, 47) := ⟨⟨by decide +kernel, by decide +kernel⟩, List.mem_of_getElem? (i := 640) (by decide +kernel), List.mem_of_getElem? (i := 857) (by decide +kernel), List.mem_of_getElem? (i := 858) (by decide +kernel)⟩
theorem lw_p22 : lw_okq (⟨"RavelKnitModel", "goEvening", "(I)V"⟩, 47) := ⟨⟨by decide +kernel, by decide +kernel⟩, List.mem_of_getElem? (i := 640) (by decide +kernel), List.mem_of_getElem? (i := 861) (by decide +kernel), List.mem_of_getElem? (i := 862) (by decide +kernel)⟩
theorem lw_p23 : lw_okq (⟨"RavelKnitModel", "isSeenSo", "(I)Z"⟩, 47) := ⟨⟨by decide +kernel, by decide +kernel⟩, List.mem_of_getElem? (i := 640) (by decide +kernel), List.mem_of_getElem? (i := 865) (by decide +kernel), List.mem_of_getElem? (i := 866) (by decide +kernel)⟩
theorem lw_p24 : lw_okq (⟨"RavelKnitModel", "whyNot", "(II)I"⟩, 47) := ⟨⟨by decide +kernel, by decide +kernel⟩, List.mem_of_getElem? (i := 640) (by decide +kernel), List.mem_of_getElem? (i := 869) (by decide +kernel), List.mem_of_getElem? (i := 870) (by decide +kernel)⟩
theorem lw_p25 : lw_okq (⟨"RavelKnitModel", "isLie", "(II)Z"⟩, 47) := ⟨⟨by decide +kernel, by decide +kernel⟩, List.mem_of_getElem? (i := 640) (by decide +kernel), List.mem_of_getElem? (i := 873) (by decide +kernel), List.mem_of_getElem? (i := 874) (by decide +kernel)⟩
theorem lw_p26 : lw_okq (⟨"RavelKnitModel", "whyNotSay", "(IZ)I"⟩, 47) := ⟨⟨by decide +kernel, by decide +kernel⟩, List.mem_of_getElem? (i := 640) (by decide +kernel), List.mem_of_getElem? (i := 877) (by decide +kernel), List.mem_of_getElem? (i := 878) (by decide +kernel)⟩
theorem lw_p27 : lw_okq (⟨"RavelKnitModel", "whyNotKnit", "()I"⟩, 47) := ⟨⟨by decide +kernel, by decide +kernel⟩, List.mem_of_getElem? (i := 640) (by decide +kernel), List.mem_of_getElem? (i := 881) (by decide +kernel), List.mem_of_getElem? (i := 882) (by decide +kernel)⟩
theorem lw_p28 : lw_okq (⟨"RavelKnitModel", "happen", "(II)V"⟩, 47) := ⟨⟨by decide +kernel, by decide +kernel⟩, List.mem_of_getElem? (i := 640) (by decide +kernel), List.mem_of_getElem? (i := 885) (by decide +kernel), List.mem_of_getElem? (i := 886) (by decide +kernel)⟩
theorem lw_p29 : lw_okq (⟨"RavelKnitModel", "tells", "(IZ)V"⟩, 47) := ⟨⟨by decide +kernel, by decide +kernel⟩, List.mem_of_getElem? (i := 640) (by decide +kernel), List.mem_of_getElem? (i := 889) (by decide +kernel), List.mem_of_getElem? (i := 890) (by decide +kernel)⟩
theorem lw_p30 : lw_okq (⟨"RavelKnitModel", "knit", "(II)V"⟩, 47) := ⟨⟨by decide +kernel, by decide +kernel⟩, List.mem_of_getElem? (i := 640) (by decide +kernel), List.mem_of_getElem? (i := 893) (by decide +kernel), List.mem_of_getElem? (i := 894) (by decide +kernel)⟩
theorem lw_p31 : lw_okq (⟨"RavelKnitModel", "ravel", "()V"⟩, 47) := ⟨⟨by decide +kernel, by decide +kernel⟩, List.mem_of_getElem? (i := 640) (by decide +kernel), List.mem_of_getElem? (i := 897) (by decide +kernel), List.mem_of_getElem? (i := 898) (by decide +kernel)⟩
def lw_privs_2 : List (MethodName × Nat) := [(⟨"RavelKnitModel", "begin", "(I)V"⟩, 47), (⟨"RavelKnitModel", "isFact", "(I)Z"⟩, 47), (⟨"RavelKnitModel", "faultOfEvening", "()I"⟩, 47), (⟨"RavelKnitModel", "faultOfPattern", "()I"⟩, 47), (⟨"RavelKnitModel", "refusal", "()I"⟩, 47), (⟨"RavelKnitModel", "keepNow", "()V"⟩, 47), (⟨"RavelKnitModel", "goEvening", "(I)V"⟩, 47), (⟨"RavelKnitModel", "isSeenSo", "(I)Z"⟩, 47), (⟨"RavelKnitModel", "whyNot", "(II)I"⟩, 47), (⟨"RavelKnitModel", "isLie", "(II)Z"⟩, 47), (⟨"RavelKnitModel", "whyNotSay", "(IZ)I"⟩, 47), (⟨"RavelKnitModel", "whyNotKnit", "()I"⟩, 47), (⟨"RavelKnitModel", "happen", "(II)V"⟩, 47), (⟨"RavelKnitModel", "tells", "(IZ)V"⟩, 47), (⟨"RavelKnitModel", "knit", "(II)V"⟩, 47), (⟨"RavelKnitModel", "ravel", "()V"⟩, 47)]
theorem lw_r2 : ∀ q ∈ lw_privs_2, lw_okq q := List.forall_mem_cons.mpr ⟨lw_p16, List.forall_mem_cons.mpr ⟨lw_p17, List.forall_mem_cons.mpr ⟨lw_p18, List.forall_mem_cons.mpr ⟨lw_p19, List.forall_mem_cons.mpr ⟨lw_p20, List.forall_mem_cons.mpr ⟨lw_p21, List.forall_mem_cons.mpr ⟨lw_p22, List.forall_mem_cons.mpr ⟨lw_p23, List.forall_mem_cons.mpr ⟨lw_p24, List.forall_mem_cons.mpr ⟨lw_p25, List.forall_mem_cons.mpr ⟨lw_p26, List.forall_mem_cons.mpr ⟨lw_p27, List.forall_mem_cons.mpr ⟨lw_p28, List.forall_mem_cons.mpr ⟨lw_p29, List.forall_mem_cons.mpr ⟨lw_p30, List.forall_mem_cons.mpr ⟨lw_p31, fun _ h => absurd h List.not_mem_nil⟩⟩⟩⟩⟩⟩⟩⟩⟩⟩⟩⟩⟩⟩⟩⟩
theorem lw_p32 : lw_okq (⟨"RavelKnitModel", "undo", "()V"⟩, 47) := ⟨⟨by decide +kernel, by decide +kernel⟩, List.mem_of_getElem? (i := 640) (by decide +kernel), List.mem_of_getElem? (i := 901) (by decide +kernel), List.mem_of_getElem? (i := 902) (by decide +kernel)⟩
theorem lw_p33 : lw_okq (⟨"RavelKnitModel", "look", "(I)V"⟩, 47) := ⟨⟨by decide +kernel, by decide +kernel⟩, List.mem_of_getElem? (i := 640) (by decide +kernel), List.mem_of_getElem? (i := 905) (by decide +kernel), List.mem_of_getElem? (i := 906) (by decide +kernel)⟩
theorem lw_p34 : lw_okq (⟨"RavelKnitModel", "putBack", "()V"⟩, 47) := ⟨⟨by decide +kernel, by decide +kernel⟩, List.mem_of_getElem? (i := 640) (by decide +kernel), List.mem_of_getElem? (i := 909) (by decide +kernel), List.mem_of_getElem? (i := 910) (by decide +kernel)⟩
theorem lw_p35 : lw_okq (⟨"RavelKnitModel", "isRow", "(I)Z"⟩, 47) := ⟨⟨by decide +kernel, by decide +kernel⟩, List.mem_of_getElem? (i := 640) (by decide +kernel), List.mem_of_getElem? (i := 925) (by decide +kernel), List.mem_of_getElem? (i := 926) (by decide +kernel)⟩
theorem lw_p36 : lw_okq (⟨"RavelKnitModel", "madeOf", "(I)I"⟩, 47) := ⟨⟨by decide +kernel, by decide +kernel⟩, List.mem_of_getElem? (i := 640) (by decide +kernel), List.mem_of_getElem? (i := 941) (by decide +kernel), List.mem_of_getElem? (i := 942) (by decide +kernel)⟩
theorem lw_p37 : lw_okq (⟨"RavelKnitModel", "alikeUpTo", "(I)I"⟩, 47) := ⟨⟨by decide +kernel, by decide +kernel⟩, List.mem_of_getElem? (i := 640) (by decide +kernel), List.mem_of_getElem? (i := 945) (by decide +kernel), List.mem_of_getElem? (i := 946) (by decide +kernel)⟩
theorem lw_p38 : lw_okq (⟨"RavelKnitModel", "findDown", "()V"⟩, 47) := ⟨⟨by decide +kernel, by decide +kernel⟩, List.mem_of_getElem? (i := 640) (by decide +kernel), List.mem_of_getElem? (i := 949) (by decide +kernel), List.mem_of_getElem? (i := 950) (by decide +kernel)⟩
theorem lw_p39 : lw_okq (⟨"RavelKnitModel", "canTell", "()Z"⟩, 47) := ⟨⟨by decide +kernel, by decide +kernel⟩, List.mem_of_getElem? (i := 640) (by decide +kernel), List.mem_of_getElem? (i := 954) (by decide +kernel), List.mem_of_getElem? (i := 955) (by decide +kernel)⟩
theorem lw_p40 : lw_okq (⟨"RavelKnitModel", "building", "(II)I"⟩, 47) := ⟨⟨by decide +kernel, by decide +kernel⟩, List.mem_of_getElem? (i := 640) (by decide +kernel), List.mem_of_getElem? (i := 958) (by decide +kernel), List.mem_of_getElem? (i := 959) (by decide +kernel)⟩
theorem lw_p41 : lw_okq (⟨"RavelKnitModel", "findWorlds", "()V"⟩, 47) := ⟨⟨by decide +kernel, by decide +kernel⟩, List.mem_of_getElem? (i := 640) (by decide +kernel), List.mem_of_getElem? (i := 980) (by decide +kernel), List.mem_of_getElem? (i := 981) (by decide +kernel)⟩
theorem lw_p42 : lw_okq (⟨"RavelKnitModel", "isWorld", "(I)Z"⟩, 47) := ⟨⟨by decide +kernel, by decide +kernel⟩, List.mem_of_getElem? (i := 640) (by decide +kernel), List.mem_of_getElem? (i := 984) (by decide +kernel), List.mem_of_getElem? (i := 985) (by decide +kernel)⟩
theorem lw_p43 : lw_okq (⟨"RavelKnitModel", "mostLeft", "(I)I"⟩, 47) := ⟨⟨by decide +kernel, by decide +kernel⟩, List.mem_of_getElem? (i := 640) (by decide +kernel), List.mem_of_getElem? (i := 992) (by decide +kernel), List.mem_of_getElem? (i := 993) (by decide +kernel)⟩
theorem lw_p44 : lw_okq (⟨"RavelKnitModel", "raise", "(I)V"⟩, 47) := ⟨⟨by decide +kernel, by decide +kernel⟩, List.mem_of_getElem? (i := 640) (by decide +kernel), List.mem_of_getElem? (i := 1010) (by decide +kernel), List.mem_of_getElem? (i := 1011) (by decide +kernel)⟩
theorem lw_p45 : lw_okq (⟨"RavelKnitModel", "goChance", "(III)V"⟩, 47) := ⟨⟨by decide +kernel, by decide +kernel⟩, List.mem_of_getElem? (i := 640) (by decide +kernel), List.mem_of_getElem? (i := 1024) (by decide +kernel), List.mem_of_getElem? (i := 1025) (by decide +kernel)⟩
theorem lw_p46 : lw_okq (⟨"RavelKnitModel", "atLeast", "(I)J"⟩, 47) := ⟨⟨by decide +kernel, by decide +kernel⟩, List.mem_of_getElem? (i := 640) (by decide +kernel), List.mem_of_getElem? (i := 1028) (by decide +kernel), List.mem_of_getElem? (i := 1029) (by decide +kernel)⟩
theorem lw_p47 : lw_okq (⟨"RavelKnitModel", "drawn", "(I)V"⟩, 47) := ⟨⟨by decide +kernel, by decide +kernel⟩, List.mem_of_getElem? (i := 640) (by decide +kernel), List.mem_of_getElem? (i := 1056) (by decide +kernel), List.mem_of_getElem? (i := 1057) (by decide +kernel)⟩
def lw_privs_3 : List (MethodName × Nat) := [(⟨"RavelKnitModel", "undo", "()V"⟩, 47), (⟨"RavelKnitModel", "look", "(I)V"⟩, 47), (⟨"RavelKnitModel", "putBack", "()V"⟩, 47), (⟨"RavelKnitModel", "isRow", "(I)Z"⟩, 47), (⟨"RavelKnitModel", "madeOf", "(I)I"⟩, 47), (⟨"RavelKnitModel", "alikeUpTo", "(I)I"⟩, 47), (⟨"RavelKnitModel", "findDown", "()V"⟩, 47), (⟨"RavelKnitModel", "canTell", "()Z"⟩, 47), (⟨"RavelKnitModel", "building", "(II)I"⟩, 47), (⟨"RavelKnitModel", "findWorlds", "()V"⟩, 47), (⟨"RavelKnitModel", "isWorld", "(I)Z"⟩, 47), (⟨"RavelKnitModel", "mostLeft", "(I)I"⟩, 47), (⟨"RavelKnitModel", "raise", "(I)V"⟩, 47), (⟨"RavelKnitModel", "goChance", "(III)V"⟩, 47), (⟨"RavelKnitModel", "atLeast", "(I)J"⟩, 47), (⟨"RavelKnitModel", "drawn", "(I)V"⟩, 47)]
theorem lw_r3 : ∀ q ∈ lw_privs_3, lw_okq q := List.forall_mem_cons.mpr ⟨lw_p32, List.forall_mem_cons.mpr ⟨lw_p33, List.forall_mem_cons.mpr ⟨lw_p34, List.forall_mem_cons.mpr ⟨lw_p35, List.forall_mem_cons.mpr ⟨lw_p36, List.forall_mem_cons.mpr ⟨lw_p37, List.forall_mem_cons.mpr ⟨lw_p38, List.forall_mem_cons.mpr ⟨lw_p39, List.forall_mem_cons.mpr ⟨lw_p40, List.forall_mem_cons.mpr ⟨lw_p41, List.forall_mem_cons.mpr ⟨lw_p42, List.forall_mem_cons.mpr ⟨lw_p43, List.forall_mem_cons.mpr ⟨lw_p44, List.forall_mem_cons.mpr ⟨lw_p45, List.forall_mem_cons.mpr ⟨lw_p46, List.forall_mem_cons.mpr ⟨lw_p47, fun _ h => absurd h List.not_mem_nil⟩⟩⟩⟩⟩⟩⟩⟩⟩⟩⟩⟩⟩⟩⟩⟩
theorem lw_p48 : lw_okq (⟨"RavelKnitModel", "passAll", "()V"⟩, 47) := ⟨⟨by decide +kernel, by decide +kernel⟩, List.mem_of_getElem? (i := 640) (by decide +kernel), List.mem_of_getElem? (i := 1064) (by decide +kernel), List.mem_of_getElem? (i := 1065) (by decide +kernel)⟩
theorem lw_p49 : lw_okq (⟨"RavelKnitModel", "pass", "(I)I"⟩, 47) := ⟨⟨by decide +kernel, by decide +kernel⟩, List.mem_of_getElem? (i := 640) (by decide +kernel), List.mem_of_getElem? (i := 1068) (by decide +kernel), List.mem_of_getElem? (i := 1069) (by decide +kernel)⟩
def lw_privs_4 : List (MethodName × Nat) := [(⟨"RavelKnitModel", "passAll", "()V"⟩, 47), (⟨"RavelKnitModel", "pass", "(I)I"⟩, 47)]
theorem lw_r4 : ∀ q ∈ lw_privs_4, lw_okq q := List.forall_mem_cons.mpr ⟨lw_p48, List.forall_mem_cons.mpr ⟨lw_p49, fun _ h => absurd h List.not_mem_nil⟩⟩
def lw_privs : List (MethodName × Nat) := lw_privs_1 ++ (lw_privs_2 ++ (lw_privs_3 ++ (lw_privs_4)))
def lw_tbl : List Cond := k2_sels lw_privs ++ tables_1
theorem lw_privs_ok : ∀ q ∈ lw_privs, lw_okq q := by
  show ∀ q ∈ lw_privs_1 ++ (lw_privs_2 ++ (lw_privs_3 ++ (lw_privs_4))), lw_okq q
  exact List.forall_mem_append.mpr ⟨lw_r1, List.forall_mem_append.mpr ⟨lw_r2, List.forall_mem_append.mpr ⟨lw_r3, lw_r4⟩⟩⟩
end
section
def RX0 : String := "RavelKnit$Company"
def TX0 : u_T := fun k => match k with
  | 0 => ("RavelKnit$Company", "factCount", "I", false)
  | 1 => ("RavelKnit$Company", "soBits", "I", false)
  | 2 => ("RavelKnit$Company", "tempers", "[I", true)
  | 3 => ("RavelKnit$Company", "needles", "LRavelKnit$Needles;", true)
  | 4 => ("RavelKnit$Company", "sightCount", "I", false)
  | 5 => ("RavelKnit$Company", "sightRemarks", "[I", true)
  | 6 => ("RavelKnit$Company", "sightRows", "[I", true)
  | _ => ("RavelKnit$Company", "isKept", "Z", false)
def tyX0 : Nat → FieldType := fun k => match k with
  | 0 => .int
  | 1 => .int
  | 2 => .array .int
  | 3 => .object "RavelKnit$Needles"
  | 4 => .int
  | 5 => .array .int
  | 6 => .array .int
  | _ => .boolean
theorem nmX0 : ∀ a, a < 8 → ∀ b, b < 8 → a ≠ b → (TX0 a).2.1 ≠ (TX0 b).2.1 := by decide +kernel
theorem tyX0_ok : ∀ k, k < 8 → parseFieldDescriptor (TX0 k).2.2.1 = some (tyX0 k) := by decide +kernel
abbrev cX0_init : ByteArray := prog_2_method_1_code
def yX0_init : MethodName := ⟨RX0, "<init>", "()V"⟩
abbrev cX0_restart : ByteArray := prog_2_method_2_code
def yX0_restart : MethodName := ⟨RX0, "restart", "(I)V"⟩
abbrev cX0_copyFrom : ByteArray := prog_2_method_3_code
def yX0_copyFrom : MethodName := ⟨RX0, "copyFrom", "(LRavelKnit$Company;)V"⟩
abbrev cX0_temperOf : ByteArray := prog_2_method_4_code
def yX0_temperOf : MethodName := ⟨RX0, "temperOf", "(I)I"⟩
abbrev cX0_countWithout : ByteArray := prog_2_method_5_code
def yX0_countWithout : MethodName := ⟨RX0, "countWithout", "(I)I"⟩
abbrev cX0_addSight : ByteArray := prog_2_method_6_code
def yX0_addSight : MethodName := ⟨RX0, "addSight", "(II)I"⟩
abbrev cX0_sightsFit : ByteArray := prog_2_method_7_code
def yX0_sightsFit : MethodName := ⟨RX0, "sightsFit", "(LRavelKnit$Evening;)Z"⟩
def RX1 : String := "RavelKnit$Evening"
def TX1 : u_T := fun k => match k with
  | 0 => ("RavelKnit$Evening", "remarks", "[I", true)
  | 1 => ("RavelKnit$Evening", "count", "I", false)
  | 2 => ("RavelKnit$Evening", "heights", "[I", true)
  | 3 => ("RavelKnit$Evening", "needles", "LRavelKnit$Needles;", true)
  | 4 => ("RavelKnit$Evening", "stop", "I", false)
  | _ => ("RavelKnit$Evening", "why", "I", false)
def tyX1 : Nat → FieldType := fun k => match k with
  | 0 => .array .int
  | 1 => .int
  | 2 => .array .int
  | 3 => .object "RavelKnit$Needles"
  | 4 => .int
  | _ => .int
theorem nmX1 : ∀ a, a < 6 → ∀ b, b < 6 → a ≠ b → (TX1 a).2.1 ≠ (TX1 b).2.1 := by decide +kernel
theorem tyX1_ok : ∀ k, k < 6 → parseFieldDescriptor (TX1 k).2.2.1 = some (tyX1 k) := by decide +kernel
abbrev cX1_init : ByteArray := prog_3_method_1_code
def yX1_init : MethodName := ⟨RX1, "<init>", "()V"⟩
abbrev cX1_read : ByteArray := prog_3_method_2_code
def yX1_read : MethodName := ⟨RX1, "read", "(LRavelKnit$Pad;I)I"⟩
abbrev cX1_unspoken : ByteArray := prog_3_method_3_code
def yX1_unspoken : MethodName := ⟨RX1, "unspoken", "(I)I"⟩
abbrev cX1_add : ByteArray := prog_3_method_4_code
def yX1_add : MethodName := ⟨RX1, "add", "(I)V"⟩
abbrev cX1_play : ByteArray := prog_3_method_5_code
def yX1_play : MethodName := ⟨RX1, "play", "(LRavelKnit$Company;I)V"⟩
abbrev cX1_lowest : ByteArray := prog_3_method_6_code
def yX1_lowest : MethodName := ⟨RX1, "lowest", "()I"⟩
abbrev cX1_highest : ByteArray := prog_3_method_7_code
def yX1_highest : MethodName := ⟨RX1, "highest", "()I"⟩
abbrev cX1_remarkTaking : ByteArray := prog_3_method_8_code
def yX1_remarkTaking : MethodName := ⟨RX1, "remarkTaking", "(I)I"⟩
abbrev cX1_habitOf : ByteArray := prog_3_method_9_code
def yX1_habitOf : MethodName := ⟨RX1, "habitOf", "(II)I"⟩
def RX2 : String := "RavelKnit$Needles"
def TX2 : u_T := fun k => match k with
  | 0 => ("RavelKnit$Needles", "colours", "[I", true)
  | 1 => ("RavelKnit$Needles", "kinds", "[I", true)
  | 2 => ("RavelKnit$Needles", "widths", "[I", true)
  | 3 => ("RavelKnit$Needles", "count", "I", false)
  | 4 => ("RavelKnit$Needles", "width", "I", false)
  | 5 => ("RavelKnit$Needles", "came", "I", false)
  | 6 => ("RavelKnit$Needles", "went", "I", false)
  | _ => ("RavelKnit$Needles", "liar", "I", false)
def tyX2 : Nat → FieldType := fun k => match k with
  | 0 => .array .int
  | 1 => .array .int
  | 2 => .array .int
  | 3 => .int
  | 4 => .int
  | 5 => .int
  | 6 => .int
  | _ => .int
theorem nmX2 : ∀ a, a < 8 → ∀ b, b < 8 → a ≠ b → (TX2 a).2.1 ≠ (TX2 b).2.1 := by decide +kernel
theorem tyX2_ok : ∀ k, k < 8 → parseFieldDescriptor (TX2 k).2.2.1 = some (tyX2 k) := by decide +kernel
abbrev cX2_init : ByteArray := prog_4_method_1_code
def yX2_init : MethodName := ⟨RX2, "<init>", "()V"⟩
abbrev cX2_restart : ByteArray := prog_4_method_2_code
def yX2_restart : MethodName := ⟨RX2, "restart", "()V"⟩
abbrev cX2_copyFrom : ByteArray := prog_4_method_3_code
def yX2_copyFrom : MethodName := ⟨RX2, "copyFrom", "(LRavelKnit$Needles;)V"⟩
abbrev cX2_has : ByteArray := prog_4_method_4_code
def yX2_has : MethodName := ⟨RX2, "has", "(I)Z"⟩
abbrev cX2_colourAt : ByteArray := prog_4_method_5_code
def yX2_colourAt : MethodName := ⟨RX2, "colourAt", "(I)I"⟩
abbrev cX2_kindAt : ByteArray := prog_4_method_6_code
def yX2_kindAt : MethodName := ⟨RX2, "kindAt", "(I)I"⟩
abbrev cX2_tellRow : ByteArray := prog_4_method_7_code
def yX2_tellRow : MethodName := ⟨RX2, "tellRow", "(II)I"⟩
abbrev cX2_hear : ByteArray := prog_4_method_8_code
def yX2_hear : MethodName := ⟨RX2, "hear", "(II)V"⟩
abbrev cX2_lay : ByteArray := prog_4_method_9_code
def yX2_lay : MethodName := ⟨RX2, "lay", "(II)V"⟩
abbrev cX2_dropTop : ByteArray := prog_4_method_10_code
def yX2_dropTop : MethodName := ⟨RX2, "dropTop", "()V"⟩
abbrev cX2_dropColour : ByteArray := prog_4_method_11_code
def yX2_dropColour : MethodName := ⟨RX2, "dropColour", "()V"⟩
def RX3 : String := "RavelKnit$Odds"
def TX3 : u_T := fun k => match k with
  | _ => ("RavelKnit$Odds", "shares", "[J", true)
def tyX3 : Nat → FieldType := fun k => match k with
  | _ => .array .long
theorem nmX3 : ∀ a, a < 1 → ∀ b, b < 1 → a ≠ b → (TX3 a).2.1 ≠ (TX3 b).2.1 := by decide +kernel
theorem tyX3_ok : ∀ k, k < 1 → parseFieldDescriptor (TX3 k).2.2.1 = some (tyX3 k) := by decide +kernel
abbrev cX3_init : ByteArray := prog_5_method_1_code
def yX3_init : MethodName := ⟨RX3, "<init>", "()V"⟩
abbrev cX3_play : ByteArray := prog_5_method_2_code
def yX3_play : MethodName := ⟨RX3, "play", "(III)V"⟩
abbrev cX3_step : ByteArray := prog_5_method_3_code
def yX3_step : MethodName := ⟨RX3, "step", "(I)V"⟩
abbrev cX3_atLeast : ByteArray := prog_5_method_4_code
def yX3_atLeast : MethodName := ⟨RX3, "atLeast", "(I)J"⟩
abbrev cX3_sumOfRows : ByteArray := prog_5_method_5_code
def yX3_sumOfRows : MethodName := ⟨RX3, "sumOfRows", "()J"⟩
def RX4 : String := "RavelKnit$Orders"
def TX4 : u_T := fun k => match k with
  | _ => ("RavelKnit$Orders", "ways", "[J", true)
def tyX4 : Nat → FieldType := fun k => match k with
  | _ => .array .long
theorem nmX4 : ∀ a, a < 1 → ∀ b, b < 1 → a ≠ b → (TX4 a).2.1 ≠ (TX4 b).2.1 := by decide +kernel
theorem tyX4_ok : ∀ k, k < 1 → parseFieldDescriptor (TX4 k).2.2.1 = some (tyX4 k) := by decide +kernel
abbrev cX4_init : ByteArray := prog_6_method_1_code
def yX4_init : MethodName := ⟨RX4, "<init>", "()V"⟩
abbrev cX4_ending : ByteArray := prog_6_method_2_code
def yX4_ending : MethodName := ⟨RX4, "ending", "(IIII)J"⟩
abbrev cX4_raise : ByteArray := prog_6_method_3_code
def yX4_raise : MethodName := ⟨RX4, "raise", "(I)V"⟩
abbrev cX4_addDropped : ByteArray := prog_6_method_4_code
def yX4_addDropped : MethodName := ⟨RX4, "addDropped", "(II)V"⟩
def RX5 : String := "RavelKnit$Pad"
def TX5 : u_T := fun k => match k with
  | 0 => ("RavelKnit$Pad", "signs", "[I", true)
  | _ => ("RavelKnit$Pad", "count", "I", false)
def tyX5 : Nat → FieldType := fun k => match k with
  | 0 => .array .int
  | _ => .int
theorem nmX5 : ∀ a, a < 2 → ∀ b, b < 2 → a ≠ b → (TX5 a).2.1 ≠ (TX5 b).2.1 := by decide +kernel
theorem tyX5_ok : ∀ k, k < 2 → parseFieldDescriptor (TX5 k).2.2.1 = some (tyX5 k) := by decide +kernel
abbrev cX5_init : ByteArray := prog_7_method_1_code
def yX5_init : MethodName := ⟨RX5, "<init>", "()V"⟩
abbrev cX5_add : ByteArray := prog_7_method_2_code
def yX5_add : MethodName := ⟨RX5, "add", "(I)I"⟩
def RX6 : String := "RavelKnit$Pattern"
def TX6 : u_T := fun k => match k with
  | 0 => ("RavelKnit$Pattern", "colours", "[I", true)
  | 1 => ("RavelKnit$Pattern", "kinds", "[I", true)
  | _ => ("RavelKnit$Pattern", "count", "I", false)
def tyX6 : Nat → FieldType := fun k => match k with
  | 0 => .array .int
  | 1 => .array .int
  | _ => .int
theorem nmX6 : ∀ a, a < 3 → ∀ b, b < 3 → a ≠ b → (TX6 a).2.1 ≠ (TX6 b).2.1 := by decide +kernel
theorem tyX6_ok : ∀ k, k < 3 → parseFieldDescriptor (TX6 k).2.2.1 = some (tyX6 k) := by decide +kernel
abbrev cX6_init : ByteArray := prog_8_method_1_code
def yX6_init : MethodName := ⟨RX6, "<init>", "()V"⟩
abbrev cX6_read : ByteArray := prog_8_method_2_code
def yX6_read : MethodName := ⟨RX6, "read", "(LRavelKnit$Pad;)I"⟩
abbrev cX6_add : ByteArray := prog_8_method_3_code
def yX6_add : MethodName := ⟨RX6, "add", "(II)V"⟩
def RX7 : String := "RavelKnit$Survey"
def TX7 : u_T := fun k => match k with
  | 0 => ("RavelKnit$Survey", "count", "I", false)
  | 1 => ("RavelKnit$Survey", "least", "I", false)
  | 2 => ("RavelKnit$Survey", "inAll", "I", false)
  | 3 => ("RavelKnit$Survey", "inSome", "I", false)
  | _ => ("RavelKnit$Survey", "soIn", "[I", true)
def tyX7 : Nat → FieldType := fun k => match k with
  | 0 => .int
  | 1 => .int
  | 2 => .int
  | 3 => .int
  | _ => .array .int
theorem nmX7 : ∀ a, a < 5 → ∀ b, b < 5 → a ≠ b → (TX7 a).2.1 ≠ (TX7 b).2.1 := by decide +kernel
theorem tyX7_ok : ∀ k, k < 5 → parseFieldDescriptor (TX7 k).2.2.1 = some (tyX7 k) := by decide +kernel
abbrev cX7_init : ByteArray := prog_9_method_1_code
def yX7_init : MethodName := ⟨RX7, "<init>", "()V"⟩
abbrev cX7_clear : ByteArray := prog_9_method_2_code
def yX7_clear : MethodName := ⟨RX7, "clear", "()V"⟩
abbrev cX7_add : ByteArray := prog_9_method_3_code
def yX7_add : MethodName := ⟨RX7, "add", "(I)V"⟩
abbrev cX7_leftAtMost : ByteArray := prog_9_method_4_code
def yX7_leftAtMost : MethodName := ⟨RX7, "leftAtMost", "(I)I"⟩
abbrev cX7_bestFact : ByteArray := prog_9_method_5_code
def yX7_bestFact : MethodName := ⟨RX7, "bestFact", "(I)I"⟩
def RX8 : String := "RavelKnit"
def TX8 : u_T := fun k => match k with
  | 0 => ("RavelKnit", "now", "LRavelKnit$Company;", true)
  | 1 => ("RavelKnit", "imageZero", "LRavelKnit$Company;", true)
  | 2 => ("RavelKnit", "imageOne", "LRavelKnit$Company;", true)
  | 3 => ("RavelKnit", "pad", "LRavelKnit$Pad;", true)
  | 4 => ("RavelKnit", "evening", "LRavelKnit$Evening;", true)
  | 5 => ("RavelKnit", "pattern", "LRavelKnit$Pattern;", true)
  | 6 => ("RavelKnit", "survey", "LRavelKnit$Survey;", true)
  | 7 => ("RavelKnit", "orderTable", "LRavelKnit$Orders;", true)
  | _ => ("RavelKnit", "odds", "LRavelKnit$Odds;", true)
def tyX8 : Nat → FieldType := fun k => match k with
  | 0 => .object "RavelKnit$Company"
  | 1 => .object "RavelKnit$Company"
  | 2 => .object "RavelKnit$Company"
  | 3 => .object "RavelKnit$Pad"
  | 4 => .object "RavelKnit$Evening"
  | 5 => .object "RavelKnit$Pattern"
  | 6 => .object "RavelKnit$Survey"
  | 7 => .object "RavelKnit$Orders"
  | _ => .object "RavelKnit$Odds"
theorem nmX8 : ∀ a, a < 9 → ∀ b, b < 9 → a ≠ b → (TX8 a).2.1 ≠ (TX8 b).2.1 := by decide +kernel
theorem tyX8_ok : ∀ k, k < 9 → parseFieldDescriptor (TX8 k).2.2.1 = some (tyX8 k) := by decide +kernel
abbrev cX8_init : ByteArray := prog_1_method_1_code
def yX8_init : MethodName := ⟨RX8, "<init>", "()V"⟩
abbrev cX8_facts : ByteArray := prog_1_method_2_code
def yX8_facts : MethodName := ⟨RX8, "facts", "(I)I"⟩
abbrev cX8_fact : ByteArray := prog_1_method_3_code
def yX8_fact : MethodName := ⟨RX8, "fact", "(IZ)I"⟩
abbrev cX8_temper : ByteArray := prog_1_method_4_code
def yX8_temper : MethodName := ⟨RX8, "temper", "(II)I"⟩
abbrev cX8_width : ByteArray := prog_1_method_5_code
def yX8_width : MethodName := ⟨RX8, "width", "(I)I"⟩
abbrev cX8_say : ByteArray := prog_1_method_6_code
def yX8_say : MethodName := ⟨RX8, "say", "(I)I"⟩
abbrev cX8_wipe : ByteArray := prog_1_method_7_code
def yX8_wipe : MethodName := ⟨RX8, "wipe", "()I"⟩
abbrev cX8_fault : ByteArray := prog_1_method_8_code
def yX8_fault : MethodName := ⟨RX8, "fault", "(I)I"⟩
abbrev cX8_judge : ByteArray := prog_1_method_9_code
def yX8_judge : MethodName := ⟨RX8, "judge", "(I)I"⟩
abbrev cX8_behind : ByteArray := prog_1_method_10_code
def yX8_behind : MethodName := ⟨RX8, "behind", "(I)I"⟩
abbrev cX8_row : ByteArray := prog_1_method_11_code
def yX8_row : MethodName := ⟨RX8, "row", "(II)I"⟩
abbrev cX8_lost : ByteArray := prog_1_method_12_code
def yX8_lost : MethodName := ⟨RX8, "lost", "(I)I"⟩
abbrev cX8_done : ByteArray := prog_1_method_13_code
def yX8_done : MethodName := ⟨RX8, "done", "()I"⟩
abbrev cX8_state : ByteArray := prog_1_method_14_code
def yX8_state : MethodName := ⟨RX8, "state", "(II)I"⟩
abbrev cX8_made : ByteArray := prog_1_method_15_code
def yX8_made : MethodName := ⟨RX8, "made", "()I"⟩
abbrev cX8_bars : ByteArray := prog_1_method_16_code
def yX8_bars : MethodName := ⟨RX8, "bars", "()I"⟩
abbrev cX8_seen : ByteArray := prog_1_method_17_code
def yX8_seen : MethodName := ⟨RX8, "seen", "(II)I"⟩
abbrev cX8_forget : ByteArray := prog_1_method_18_code
def yX8_forget : MethodName := ⟨RX8, "forget", "()I"⟩
abbrev cX8_worlds : ByteArray := prog_1_method_19_code
def yX8_worlds : MethodName := ⟨RX8, "worlds", "(I)I"⟩
abbrev cX8_tell : ByteArray := prog_1_method_20_code
def yX8_tell : MethodName := ⟨RX8, "tell", "(I)I"⟩
abbrev cX8_says : ByteArray := prog_1_method_21_code
def yX8_says : MethodName := ⟨RX8, "says", "(I)I"⟩
abbrev cX8_orders : ByteArray := prog_1_method_22_code
def yX8_orders : MethodName := ⟨RX8, "orders", "(IIII)J"⟩
abbrev cX8_left : ByteArray := prog_1_method_23_code
def yX8_left : MethodName := ⟨RX8, "left", "(IIII)I"⟩
abbrev cX8_chance : ByteArray := prog_1_method_24_code
def yX8_chance : MethodName := ⟨RX8, "chance", "(IIII)J"⟩
abbrev cX8_over : ByteArray := prog_1_method_25_code
def yX8_over : MethodName := ⟨RX8, "over", "(IIIII)I"⟩
abbrev cX8_patterns : ByteArray := prog_1_method_26_code
def yX8_patterns : MethodName := ⟨RX8, "patterns", "(I)I"⟩
abbrev cX8_draws : ByteArray := prog_1_method_27_code
def yX8_draws : MethodName := ⟨RX8, "draws", "(III)I"⟩
abbrev cX8_image : ByteArray := prog_1_method_28_code
def yX8_image : MethodName := ⟨RX8, "image", "(I)I"⟩
abbrev cX8_restore : ByteArray := prog_1_method_29_code
def yX8_restore : MethodName := ⟨RX8, "restore", "(I)I"⟩
abbrev cX8_told : ByteArray := prog_1_method_30_code
def yX8_told : MethodName := ⟨RX8, "told", "(I)I"⟩
abbrev cX8_playPad : ByteArray := prog_1_method_31_code
def yX8_playPad : MethodName := ⟨RX8, "playPad", "()I"⟩
abbrev cX8_readPattern : ByteArray := prog_1_method_32_code
def yX8_readPattern : MethodName := ⟨RX8, "readPattern", "()I"⟩
abbrev cX8_imageAt : ByteArray := prog_1_method_33_code
def yX8_imageAt : MethodName := ⟨RX8, "imageAt", "(I)LRavelKnit$Company;"⟩
abbrev cX8_surveyWorlds : ByteArray := prog_1_method_34_code
def yX8_surveyWorlds : MethodName := ⟨RX8, "surveyWorlds", "()Z"⟩
abbrev cX8_fewestRemarks : ByteArray := prog_1_method_35_code
def yX8_fewestRemarks : MethodName := ⟨RX8, "fewestRemarks", "(I)I"⟩
abbrev cX8_isThereAlready : ByteArray := prog_1_method_36_code
def yX8_isThereAlready : MethodName := ⟨RX8, "isThereAlready", "(I)Z"⟩
abbrev cX8_remarksDownTo : ByteArray := prog_1_method_37_code
def yX8_remarksDownTo : MethodName := ⟨RX8, "remarksDownTo", "(I)I"⟩
abbrev cX8_remarksUpTo : ByteArray := prog_1_method_38_code
def yX8_remarksUpTo : MethodName := ⟨RX8, "remarksUpTo", "(II)I"⟩
abbrev cX8_spoken : ByteArray := prog_1_method_39_code
def yX8_spoken : MethodName := ⟨RX8, "spoken", "(IIZ)I"⟩
abbrev cX8_isSpoken : ByteArray := prog_1_method_40_code
def yX8_isSpoken : MethodName := ⟨RX8, "isSpoken", "(I)Z"⟩
abbrev cX8_guestOf : ByteArray := prog_1_method_41_code
def yX8_guestOf : MethodName := ⟨RX8, "guestOf", "(I)I"⟩
abbrev cX8_isTrue : ByteArray := prog_1_method_42_code
def yX8_isTrue : MethodName := ⟨RX8, "isTrue", "(II)Z"⟩
abbrev cX8_drawnRemark : ByteArray := prog_1_method_43_code
def yX8_drawnRemark : MethodName := ⟨RX8, "drawnRemark", "(II)I"⟩
abbrev cX8_whyNot : ByteArray := prog_1_method_44_code
def yX8_whyNot : MethodName := ⟨RX8, "whyNot", "(ILRavelKnit$Company;ILRavelKnit$Needles;)I"⟩
abbrev cX8_isWithin : ByteArray := prog_1_method_45_code
def yX8_isWithin : MethodName := ⟨RX8, "isWithin", "(III)Z"⟩
abbrev cX8_isGuest : ByteArray := prog_1_method_46_code
def yX8_isGuest : MethodName := ⟨RX8, "isGuest", "(I)Z"⟩
abbrev cX8_areOrders : ByteArray := prog_1_method_47_code
def yX8_areOrders : MethodName := ⟨RX8, "areOrders", "(III)Z"⟩
abbrev cX8_areChances : ByteArray := prog_1_method_48_code
def yX8_areChances : MethodName := ⟨RX8, "areChances", "(II)Z"⟩
abbrev cX8_powerOfTen : ByteArray := prog_1_method_49_code
def yX8_powerOfTen : MethodName := ⟨RX8, "powerOfTen", "(I)J"⟩
abbrev cX8_greatestDivisor : ByteArray := prog_1_method_50_code
def yX8_greatestDivisor : MethodName := ⟨RX8, "greatestDivisor", "(JJ)J"⟩
abbrev cX8_at : ByteArray := prog_1_method_51_code
def yX8_at : MethodName := ⟨RX8, "at", "([II)I"⟩
abbrev cX8_put : ByteArray := prog_1_method_52_code
def yX8_put : MethodName := ⟨RX8, "put", "([III)V"⟩
abbrev cX8_at_ : ByteArray := prog_1_method_53_code
def yX8_at_ : MethodName := ⟨RX8, "at", "([JI)J"⟩
abbrev cX8_put_ : ByteArray := prog_1_method_54_code
def yX8_put_ : MethodName := ⟨RX8, "put", "([JIJ)V"⟩
abbrev cX8_copyAll : ByteArray := prog_1_method_55_code
def yX8_copyAll : MethodName := ⟨RX8, "copyAll", "([I[I)V"⟩
def RX9 : String := "RavelKnitModel"
def TX9 : u_T := fun k => match k with
  | 0 => ("RavelKnitModel", "facts", "I", false)
  | 1 => ("RavelKnitModel", "so", "I", false)
  | 2 => ("RavelKnitModel", "temper", "[I", true)
  | 3 => ("RavelKnitModel", "rows", "I", false)
  | 4 => ("RavelKnitModel", "width", "I", false)
  | 5 => ("RavelKnitModel", "colour", "[I", true)
  | 6 => ("RavelKnitModel", "kind", "[I", true)
  | 7 => ("RavelKnitModel", "wide", "[I", true)
  | 8 => ("RavelKnitModel", "sightRemarks", "[I", true)
  | 9 => ("RavelKnitModel", "sightRows", "[I", true)
  | 10 => ("RavelKnitModel", "sights", "I", false)
  | 11 => ("RavelKnitModel", "pad", "[I", true)
  | 12 => ("RavelKnitModel", "padMany", "I", false)
  | 13 => ("RavelKnitModel", "remark", "[I", true)
  | 14 => ("RavelKnitModel", "whose", "[I", true)
  | 15 => ("RavelKnitModel", "about", "[I", true)
  | 16 => ("RavelKnitModel", "toldSo", "[I", true)
  | 17 => ("RavelKnitModel", "remarks", "I", false)
  | 18 => ("RavelKnitModel", "wantedColour", "[I", true)
  | 19 => ("RavelKnitModel", "wantedKind", "[I", true)
  | 20 => ("RavelKnitModel", "wanted", "I", false)
  | 21 => ("RavelKnitModel", "came", "I", false)
  | 22 => ("RavelKnitModel", "went", "I", false)
  | 23 => ("RavelKnitModel", "least", "I", false)
  | 24 => ("RavelKnitModel", "most", "I", false)
  | 25 => ("RavelKnitModel", "lastLiar", "I", false)
  | 26 => ("RavelKnitModel", "lostBy", "[I", true)
  | 27 => ("RavelKnitModel", "had", "[I", true)
  | 28 => ("RavelKnitModel", "badRemark", "I", false)
  | 29 => ("RavelKnitModel", "badWhy", "I", false)
  | 30 => ("RavelKnitModel", "seenSo", "Z", false)
  | 31 => ("RavelKnitModel", "leaves", "[I", true)
  | 32 => ("RavelKnitModel", "leavesRows", "I", false)
  | 33 => ("RavelKnitModel", "leavesWidth", "I", false)
  | 34 => ("RavelKnitModel", "down", "[I", true)
  | 35 => ("RavelKnitModel", "worldMany", "I", false)
  | 36 => ("RavelKnitModel", "worldLeast", "I", false)
  | 37 => ("RavelKnitModel", "inAll", "I", false)
  | 38 => ("RavelKnitModel", "inSome", "I", false)
  | 39 => ("RavelKnitModel", "soIn", "[I", true)
  | 40 => ("RavelKnitModel", "waysTo", "[J", true)
  | 41 => ("RavelKnitModel", "nextWays", "[J", true)
  | 42 => ("RavelKnitModel", "ordersTo", "[J", true)
  | 43 => ("RavelKnitModel", "kept", "[I", true)
  | 44 => ("RavelKnitModel", "isKept", "[Z", true)
  | 45 => ("RavelKnitModel", "keptAt", "I", false)
  | _ => ("RavelKnitModel", "isWriting", "Z", false)
def tyX9 : Nat → FieldType := fun k => match k with
  | 0 => .int
  | 1 => .int
  | 2 => .array .int
  | 3 => .int
  | 4 => .int
  | 5 => .array .int
  | 6 => .array .int
  | 7 => .array .int
  | 8 => .array .int
  | 9 => .array .int
  | 10 => .int
  | 11 => .array .int
  | 12 => .int
  | 13 => .array .int
  | 14 => .array .int
  | 15 => .array .int
  | 16 => .array .int
  | 17 => .int
  | 18 => .array .int
  | 19 => .array .int
  | 20 => .int
  | 21 => .int
  | 22 => .int
  | 23 => .int
  | 24 => .int
  | 25 => .int
  | 26 => .array .int
  | 27 => .array .int
  | 28 => .int
  | 29 => .int
  | 30 => .boolean
  | 31 => .array .int
  | 32 => .int
  | 33 => .int
  | 34 => .array .int
  | 35 => .int
  | 36 => .int
  | 37 => .int
  | 38 => .int
  | 39 => .array .int
  | 40 => .array .long
  | 41 => .array .long
  | 42 => .array .long
  | 43 => .array .int
  | 44 => .array .boolean
  | 45 => .int
  | _ => .boolean
theorem nmX9 : ∀ a, a < 47 → ∀ b, b < 47 → a ≠ b → (TX9 a).2.1 ≠ (TX9 b).2.1 := by decide +kernel
theorem tyX9_ok : ∀ k, k < 47 → parseFieldDescriptor (TX9 k).2.2.1 = some (tyX9 k) := by decide +kernel
abbrev cX9_init : ByteArray := prog_11_method_1_code
def yX9_init : MethodName := ⟨RX9, "<init>", "()V"⟩
abbrev cX9_in : ByteArray := prog_11_method_3_code
def yX9_in : MethodName := ⟨RX9, "in", "(JJJ)Z"⟩
abbrev cX9_begin : ByteArray := prog_11_method_4_code
def yX9_begin : MethodName := ⟨RX9, "begin", "(I)V"⟩
abbrev cX9_isFact : ByteArray := prog_11_method_5_code
def yX9_isFact : MethodName := ⟨RX9, "isFact", "(I)Z"⟩
abbrev cX9_isGuest : ByteArray := prog_11_method_6_code
def yX9_isGuest : MethodName := ⟨RX9, "isGuest", "(I)Z"⟩
abbrev cX9_isRow : ByteArray := prog_11_method_7_code
def yX9_isRow : MethodName := ⟨RX9, "isRow", "(I)Z"⟩
abbrev cX9_facts : ByteArray := prog_11_method_8_code
def yX9_facts : MethodName := ⟨RX9, "facts", "(I)I"⟩
abbrev cX9_fact : ByteArray := prog_11_method_9_code
def yX9_fact : MethodName := ⟨RX9, "fact", "(IZ)I"⟩
abbrev cX9_temper : ByteArray := prog_11_method_10_code
def yX9_temper : MethodName := ⟨RX9, "temper", "(II)I"⟩
abbrev cX9_width : ByteArray := prog_11_method_11_code
def yX9_width : MethodName := ⟨RX9, "width", "(I)I"⟩
abbrev cX9_say : ByteArray := prog_11_method_12_code
def yX9_say : MethodName := ⟨RX9, "say", "(I)I"⟩
abbrev cX9_wipe : ByteArray := prog_11_method_13_code
def yX9_wipe : MethodName := ⟨RX9, "wipe", "()I"⟩
abbrev cX9_shortRemark : ByteArray := prog_11_method_14_code
def yX9_shortRemark : MethodName := ⟨RX9, "shortRemark", "(I)I"⟩
abbrev cX9_faultOfEvening : ByteArray := prog_11_method_15_code
def yX9_faultOfEvening : MethodName := ⟨RX9, "faultOfEvening", "()I"⟩
abbrev cX9_faultOfPattern : ByteArray := prog_11_method_16_code
def yX9_faultOfPattern : MethodName := ⟨RX9, "faultOfPattern", "()I"⟩
abbrev cX9_fault : ByteArray := prog_11_method_17_code
def yX9_fault : MethodName := ⟨RX9, "fault", "(I)I"⟩
abbrev cX9_isLie : ByteArray := prog_11_method_18_code
def yX9_isLie : MethodName := ⟨RX9, "isLie", "(II)Z"⟩
abbrev cX9_whyNotKnit : ByteArray := prog_11_method_19_code
def yX9_whyNotKnit : MethodName := ⟨RX9, "whyNotKnit", "()I"⟩
abbrev cX9_whyNotSay : ByteArray := prog_11_method_20_code
def yX9_whyNotSay : MethodName := ⟨RX9, "whyNotSay", "(IZ)I"⟩
abbrev cX9_whyNot : ByteArray := prog_11_method_21_code
def yX9_whyNot : MethodName := ⟨RX9, "whyNot", "(II)I"⟩
abbrev cX9_knit : ByteArray := prog_11_method_22_code
def yX9_knit : MethodName := ⟨RX9, "knit", "(II)V"⟩
abbrev cX9_ravel : ByteArray := prog_11_method_23_code
def yX9_ravel : MethodName := ⟨RX9, "ravel", "()V"⟩
abbrev cX9_undo : ByteArray := prog_11_method_24_code
def yX9_undo : MethodName := ⟨RX9, "undo", "()V"⟩
abbrev cX9_tells : ByteArray := prog_11_method_25_code
def yX9_tells : MethodName := ⟨RX9, "tells", "(IZ)V"⟩
abbrev cX9_happen : ByteArray := prog_11_method_26_code
def yX9_happen : MethodName := ⟨RX9, "happen", "(II)V"⟩
abbrev cX9_keepNow : ByteArray := prog_11_method_27_code
def yX9_keepNow : MethodName := ⟨RX9, "keepNow", "()V"⟩
abbrev cX9_putBack : ByteArray := prog_11_method_28_code
def yX9_putBack : MethodName := ⟨RX9, "putBack", "()V"⟩
abbrev cX9_look : ByteArray := prog_11_method_29_code
def yX9_look : MethodName := ⟨RX9, "look", "(I)V"⟩
abbrev cX9_isSeenSo : ByteArray := prog_11_method_30_code
def yX9_isSeenSo : MethodName := ⟨RX9, "isSeenSo", "(I)Z"⟩
abbrev cX9_goEvening : ByteArray := prog_11_method_31_code
def yX9_goEvening : MethodName := ⟨RX9, "goEvening", "(I)V"⟩
abbrev cX9_refusal : ByteArray := prog_11_method_32_code
def yX9_refusal : MethodName := ⟨RX9, "refusal", "()I"⟩
abbrev cX9_judge : ByteArray := prog_11_method_33_code
def yX9_judge : MethodName := ⟨RX9, "judge", "(I)I"⟩
abbrev cX9_behind : ByteArray := prog_11_method_34_code
def yX9_behind : MethodName := ⟨RX9, "behind", "(I)I"⟩
abbrev cX9_row : ByteArray := prog_11_method_35_code
def yX9_row : MethodName := ⟨RX9, "row", "(II)I"⟩
abbrev cX9_lost : ByteArray := prog_11_method_36_code
def yX9_lost : MethodName := ⟨RX9, "lost", "(I)I"⟩
abbrev cX9_done : ByteArray := prog_11_method_37_code
def yX9_done : MethodName := ⟨RX9, "done", "()I"⟩
abbrev cX9_state : ByteArray := prog_11_method_38_code
def yX9_state : MethodName := ⟨RX9, "state", "(II)I"⟩
abbrev cX9_canTell : ByteArray := prog_11_method_39_code
def yX9_canTell : MethodName := ⟨RX9, "canTell", "()Z"⟩
abbrev cX9_alikeUpTo : ByteArray := prog_11_method_40_code
def yX9_alikeUpTo : MethodName := ⟨RX9, "alikeUpTo", "(I)I"⟩
abbrev cX9_findDown : ByteArray := prog_11_method_41_code
def yX9_findDown : MethodName := ⟨RX9, "findDown", "()V"⟩
abbrev cX9_building : ByteArray := prog_11_method_42_code
def yX9_building : MethodName := ⟨RX9, "building", "(II)I"⟩
abbrev cX9_madeOf : ByteArray := prog_11_method_43_code
def yX9_madeOf : MethodName := ⟨RX9, "madeOf", "(I)I"⟩
abbrev cX9_made : ByteArray := prog_11_method_44_code
def yX9_made : MethodName := ⟨RX9, "made", "()I"⟩
abbrev cX9_bars : ByteArray := prog_11_method_45_code
def yX9_bars : MethodName := ⟨RX9, "bars", "()I"⟩
abbrev cX9_seen : ByteArray := prog_11_method_46_code
def yX9_seen : MethodName := ⟨RX9, "seen", "(II)I"⟩
abbrev cX9_forget : ByteArray := prog_11_method_47_code
def yX9_forget : MethodName := ⟨RX9, "forget", "()I"⟩
abbrev cX9_isWorld : ByteArray := prog_11_method_48_code
def yX9_isWorld : MethodName := ⟨RX9, "isWorld", "(I)Z"⟩
abbrev cX9_findWorlds : ByteArray := prog_11_method_49_code
def yX9_findWorlds : MethodName := ⟨RX9, "findWorlds", "()V"⟩
abbrev cX9_worlds : ByteArray := prog_11_method_50_code
def yX9_worlds : MethodName := ⟨RX9, "worlds", "(I)I"⟩
abbrev cX9_mostLeft : ByteArray := prog_11_method_51_code
def yX9_mostLeft : MethodName := ⟨RX9, "mostLeft", "(I)I"⟩
abbrev cX9_tell : ByteArray := prog_11_method_52_code
def yX9_tell : MethodName := ⟨RX9, "tell", "(I)I"⟩
abbrev cX9_says : ByteArray := prog_11_method_53_code
def yX9_says : MethodName := ⟨RX9, "says", "(I)I"⟩
abbrev cX9_areRemarks : ByteArray := prog_11_method_54_code
def yX9_areRemarks : MethodName := ⟨RX9, "areRemarks", "(III)Z"⟩
abbrev cX9_orders : ByteArray := prog_11_method_55_code
def yX9_orders : MethodName := ⟨RX9, "orders", "(IIII)J"⟩
abbrev cX9_raise : ByteArray := prog_11_method_56_code
def yX9_raise : MethodName := ⟨RX9, "raise", "(I)V"⟩
abbrev cX9_left : ByteArray := prog_11_method_57_code
def yX9_left : MethodName := ⟨RX9, "left", "(IIII)I"⟩
abbrev cX9_goChance : ByteArray := prog_11_method_58_code
def yX9_goChance : MethodName := ⟨RX9, "goChance", "(III)V"⟩
abbrev cX9_tens : ByteArray := prog_11_method_59_code
def yX9_tens : MethodName := ⟨RX9, "tens", "(I)J"⟩
abbrev cX9_lowest : ByteArray := prog_11_method_60_code
def yX9_lowest : MethodName := ⟨RX9, "lowest", "(JJI)J"⟩
abbrev cX9_atLeast : ByteArray := prog_11_method_61_code
def yX9_atLeast : MethodName := ⟨RX9, "atLeast", "(I)J"⟩
abbrev cX9_chance : ByteArray := prog_11_method_62_code
def yX9_chance : MethodName := ⟨RX9, "chance", "(IIII)J"⟩
abbrev cX9_over : ByteArray := prog_11_method_63_code
def yX9_over : MethodName := ⟨RX9, "over", "(IIIII)I"⟩
abbrev cX9_patterns : ByteArray := prog_11_method_64_code
def yX9_patterns : MethodName := ⟨RX9, "patterns", "(I)I"⟩
abbrev cX9_draws : ByteArray := prog_11_method_65_code
def yX9_draws : MethodName := ⟨RX9, "draws", "(III)I"⟩
abbrev cX9_drawn : ByteArray := prog_11_method_66_code
def yX9_drawn : MethodName := ⟨RX9, "drawn", "(I)V"⟩
abbrev cX9_pass : ByteArray := prog_11_method_67_code
def yX9_pass : MethodName := ⟨RX9, "pass", "(I)I"⟩
abbrev cX9_passAll : ByteArray := prog_11_method_68_code
def yX9_passAll : MethodName := ⟨RX9, "passAll", "()V"⟩
abbrev cX9_image : ByteArray := prog_11_method_69_code
def yX9_image : MethodName := ⟨RX9, "image", "(I)I"⟩
abbrev cX9_restore : ByteArray := prog_11_method_70_code
def yX9_restore : MethodName := ⟨RX9, "restore", "(I)I"⟩
abbrev cX9_told : ByteArray := prog_11_method_71_code
def yX9_told : MethodName := ⟨RX9, "told", "(I)I"⟩
def RL : String := "RavelKnitLaw"
abbrev cL_law : ByteArray := code
def yL_law : MethodName := ⟨RL, "law", "([I)Z"⟩
end
section
-- the cells of the class and of its check: 67, numbered; what kind each is of (0 to 9 an object of that class of cls; 10 ints, 11 longs, 12 booleans) and how long
def layL : List (Nat × Nat) := [(8, 0), (0, 0), (10, 6), (2, 0), (10, 30), (10, 30), (10, 30), (10, 8), (10, 8), (0, 0), (10, 6), (2, 0), (10, 30), (10, 30), (10, 30), (10, 8), (10, 8), (0, 0), (10, 6), (2, 0), (10, 30), (10, 30), (10, 30), (10, 8), (10, 8), (5, 0), (10, 60), (1, 0), (10, 60), (10, 61), (2, 0), (10, 30), (10, 30), (10, 30), (6, 0), (10, 60), (10, 60), (7, 0), (10, 8), (4, 0), (11, 559), (3, 0), (11, 83), (9, 0), (10, 6), (10, 30), (10, 30), (10, 30), (10, 8), (10, 8), (10, 60), (10, 60), (10, 60), (10, 60), (10, 60), (10, 60), (10, 60), (10, 30), (10, 92), (10, 90), (10, 31), (10, 8), (11, 96), (11, 96), (11, 1248), (10, 260), (12, 2)]
def kd (k : Nat) : Nat := (layL.getD k (99, 0)).1
def ln (k : Nat) : Nat := (layL.getD k (99, 0)).2
-- a class's fields in the order of its slots: an int (none), or the cell so many places behind the object
def fldL : List (List (Option Nat)) := [[none, none, some 1, some 2, none, some 6, some 7, none], [some 1, none, some 2, some 3, none, none], [some 1, some 2, some 3, none, none, none, none, none], [some 1], [some 1], [some 1, none], [some 1, some 2, none], [none, none, none, none, some 1], [some 1, some 9, some 17, some 25, some 27, some 34, some 37, some 39, some 41], [none, none, some 1, none, none, some 2, some 3, some 4, some 5, some 6, none, some 7, none, some 8, some 9, some 10, some 11, none, some 12, some 13, none, none, none, none, none, none, some 14, some 15, none, none, none, some 16, none, none, some 17, none, none, none, none, some 18, some 19, some 20, some 21, some 22, some 23, none, none]]
def fo (c j : Nat) : Option Nat := (fldL.getD c []).getD j none
def fn (c : Nat) : Nat := (fldL.getD c []).length
abbrev cls : List vw_C := [(RX0, TX0, 8), (RX1, TX1, 6), (RX2, TX2, 8), (RX3, TX3, 1), (RX4, TX4, 1), (RX5, TX5, 2), (RX6, TX6, 3), (RX7, TX7, 5), (RX8, TX8, 9), (RX9, TX9, 47)]
-- what the cells hold: ints by cell and place, longs by cell and place
abbrev Sto : Type := (Nat → Nat → Int32) × (Nat → Nat → Int64)
def stI (σ : Sto) (k j : Nat) (v : Int32) : Sto := (fun a => if a = k then (fun b => if b = j then v else σ.1 k b) else σ.1 a, σ.2)
def stL (σ : Sto) (k j : Nat) (v : Int64) : Sto := (σ.1, fun a => if a = k then (fun b => if b = j then v else σ.2 k b) else σ.2 a)
def stC (σ : Sto) (a b n : Nat) : Sto := (fun q => if q = b then va_cpy (σ.1 a) (σ.1 b) 0 0 n else σ.1 q, σ.2)
def fv (ad : Nat → Nat) (σ : Sto) (k j : Nat) : Value := match fo (kd k) j with
  | none => .int (σ.1 k j)
  | some d => .ref (ad (k + d))
abbrev C3 : Type := ClassId × ClassId × ClassId
def Ec (ad : Nat → Nat) (cc : C3) (σ : Sto) (k : Nat) : va_E :=
  if kd k ≤ 9 then .inr (kd k, (List.range (fn (kd k))).map (fv ad σ k))
  else if kd k = 10 then .inl (cc.1, ln k, .inl (σ.1 k))
  else if kd k = 11 then .inl (cc.2.1, ln k, .inr (.inl (σ.2 k)))
  else .inl (cc.2.2, ln k, .inl (σ.1 k))
def wv (ad : Nat → Nat) (cc : C3) (σ : Sto) : va_W := (List.range 67).map (fun k => (ad k, Ec ad cc σ k))
theorem layL_len : layL.length = 67 := by decide +kernel
theorem kd_lt {k : Nat} (h : kd k ≤ 12) : k < 67 := by
  by_cases hk : k < 67
  · exact hk
  · exfalso
    unfold kd at h
    rw [List.getD_eq_getElem?_getD, List.getElem?_eq_none (by rw [layL_len]; omega)] at h
    exact absurd h (by decide)
theorem wv_get {ad : Nat → Nat} {cc : C3} {σ : Sto} {k : Nat} (h : k < 67) : (wv ad cc σ)[k]? = some (ad k, Ec ad cc σ k) := by
  unfold wv
  rw [List.getElem?_map, List.getElem?_range h]; rfl
theorem wv_obj {ad : Nat → Nat} {cc : C3} {σ : Sto} {k c : Nat} (h : kd k = c) (hc : c ≤ 9) : (wv ad cc σ)[k]? = some (ad k, .inr (c, (List.range (fn c)).map (fv ad σ k))) := by
  rw [wv_get (kd_lt (by omega))]
  subst h
  rw [Ec, if_pos hc]
theorem wv_int {ad : Nat → Nat} {cc : C3} {σ : Sto} {k : Nat} (h : kd k = 10) : (wv ad cc σ)[k]? = some (ad k, .inl (cc.1, ln k, .inl (σ.1 k))) := by
  rw [wv_get (kd_lt (by omega)), Ec, if_neg (by omega), if_pos h]
theorem wv_lng {ad : Nat → Nat} {cc : C3} {σ : Sto} {k : Nat} (h : kd k = 11) : (wv ad cc σ)[k]? = some (ad k, .inl (cc.2.1, ln k, .inr (.inl (σ.2 k)))) := by
  rw [wv_get (kd_lt (by omega)), Ec, if_neg (by omega), if_neg (by omega), if_pos h]
theorem wv_boo {ad : Nat → Nat} {cc : C3} {σ : Sto} {k : Nat} (h : kd k = 12) : (wv ad cc σ)[k]? = some (ad k, .inl (cc.2.2, ln k, .inl (σ.1 k))) := by
  rw [wv_get (kd_lt (by omega)), Ec, if_neg (by omega), if_neg (by omega), if_neg (by omega)]
theorem wv_set {ad : Nat → Nat} {cc : C3} {σ σ' : Sto} {k : Nat} {e : va_E} (hk : k < 67) (he : Ec ad cc σ' k = e) (ho : ∀ q, q ≠ k → Ec ad cc σ' q = Ec ad cc σ q) : (wv ad cc σ).set k (ad k, e) = wv ad cc σ' := by
  refine List.ext_getElem? fun i => ?_
  have hlen : (wv ad cc σ).length = 67 := by simp [wv]
  by_cases hi : i < 67
  · rw [wv_get hi]
    by_cases hik : i = k
    · subst hik
      rw [List.getElem?_set_self (by omega), he]
    · rw [List.getElem?_set_ne (Ne.symm hik), wv_get hi, ho i hik]
  · rw [List.getElem?_eq_none (by simp [wv]; omega), List.getElem?_eq_none (by simp [wv]; omega)]
theorem Ec_ne {ad : Nat → Nat} {cc : C3} {σ σ' : Sto} {q : Nat} (h1 : σ'.1 q = σ.1 q) (h2 : σ'.2 q = σ.2 q) : Ec ad cc σ' q = Ec ad cc σ q := by
  have hf : fv ad σ' q = fv ad σ q := by
    funext j
    unfold fv
    rw [h1]
  unfold Ec
  rw [h1, h2, hf]
theorem stI_ne {σ : Sto} {k j q : Nat} {v : Int32} (h : q ≠ k) : (stI σ k j v).1 q = σ.1 q := by simp [stI, h]
theorem stI_2 {σ : Sto} {k j q : Nat} {v : Int32} : (stI σ k j v).2 q = σ.2 q := rfl
theorem stI_self {σ : Sto} {k j : Nat} {v : Int32} : (stI σ k j v).1 k = fun b => if b = j then v else σ.1 k b := by simp [stI]
theorem stL_ne {σ : Sto} {k j q : Nat} {v : Int64} (h : q ≠ k) : (stL σ k j v).2 q = σ.2 q := by simp [stL, h]
theorem stL_1 {σ : Sto} {k j q : Nat} {v : Int64} : (stL σ k j v).1 q = σ.1 q := rfl
theorem stL_self {σ : Sto} {k j : Nat} {v : Int64} : (stL σ k j v).2 k = fun b => if b = j then v else σ.2 k b := by simp [stL]
theorem wv_stO {ad : Nat → Nat} {cc : C3} {σ : Sto} {k c j : Nat} {v : Int32} (h : kd k = c) (hc : c ≤ 9) (hj : j < fn c) (hf : fo c j = none) : (wv ad cc σ).set k (ad k, .inr (c, ((List.range (fn c)).map (fv ad σ k)).set j (.int v))) = wv ad cc (stI σ k j v) := by
  refine wv_set (kd_lt (by omega)) ?_ fun q hq => Ec_ne (stI_ne hq) stI_2
  subst h
  rw [Ec, if_pos hc]
  congr 2
  refine List.ext_getElem? fun i => ?_
  by_cases hi : i < fn (kd k)
  · rw [List.getElem?_map, List.getElem?_range hi]
    by_cases hij : i = j
    · subst hij
      rw [List.getElem?_set_self (by simpa using hi)]
      show some (fv ad (stI σ k i v) k i) = _
      unfold fv
      rw [hf, stI_self]
      simp
    · rw [List.getElem?_set_ne (Ne.symm hij), List.getElem?_map, List.getElem?_range hi]
      show some (fv ad (stI σ k j v) k i) = some (fv ad σ k i)
      unfold fv
      rw [stI_self]
      simp [hij]
  · rw [List.getElem?_eq_none (by simpa using hi), List.getElem?_eq_none (by simpa using hi)]
theorem wv_stA {ad : Nat → Nat} {cc : C3} {σ : Sto} {k j : Nat} {v : Int32} (h : kd k = 10) : (wv ad cc σ).set k (ad k, .inl (cc.1, ln k, .inl (upd (σ.1 k) j v))) = wv ad cc (stI σ k j v) := by
  refine wv_set (kd_lt (by omega)) ?_ fun q hq => Ec_ne (stI_ne hq) stI_2
  rw [Ec, if_neg (by omega), if_pos h, stI_self]
  rfl
theorem wv_stZ {ad : Nat → Nat} {cc : C3} {σ : Sto} {k j : Nat} {v : Int32} (h : kd k = 12) : (wv ad cc σ).set k (ad k, .inl (cc.2.2, ln k, .inl (upd (σ.1 k) j v))) = wv ad cc (stI σ k j v) := by
  refine wv_set (kd_lt (by omega)) ?_ fun q hq => Ec_ne (stI_ne hq) stI_2
  rw [Ec, if_neg (by omega), if_neg (by omega), if_neg (by omega), stI_self]
  rfl
theorem wv_stL {ad : Nat → Nat} {cc : C3} {σ : Sto} {k j : Nat} {v : Int64} (h : kd k = 11) : (wv ad cc σ).set k (ad k, .inl (cc.2.1, ln k, .inr (.inl (vp_updL (σ.2 k) j v)))) = wv ad cc (stL σ k j v) := by
  refine wv_set (kd_lt (by omega)) ?_ fun q hq => Ec_ne stL_1 (stL_ne hq)
  rw [Ec, if_neg (by omega), if_neg (by omega), if_pos h, stL_self]
  rfl
theorem wv_stC {ad : Nat → Nat} {cc : C3} {σ : Sto} {a k n : Nat} (h : kd k = 10) : (wv ad cc σ).set k (ad k, .inl (cc.1, ln k, .inl (va_cpy (σ.1 a) (σ.1 k) 0 0 n))) = wv ad cc (stC σ a k n) := by
  refine wv_set (kd_lt (by omega)) ?_ fun q hq => Ec_ne (by simp [stC, hq]) rfl
  rw [Ec, if_neg (by omega), if_pos h]
  simp [stC]
-- the tables' words that a call takes on
def lw_gd : List Cond := lw_tbl.filter goodWord
theorem lw_in {w : Cond} (i : Nat) (h : lw_tbl[i]? = some w) (hg : goodWord w = true) : w ∈ lw_gd := List.mem_filter.mpr ⟨List.mem_of_getElem? h, hg⟩
/-- the words of nest mates' calls: they go on by themselves -/
def Nst (U : State) : Prop := ∀ (a : String) (i : Nat) (y : MethodName) (h : String), Cond.methodLinkNest a i y h ∈ lw_tbl → va_Nw (.methodLinkNest a i y h) U
-- a frame of a walk: the machine's names, bundled
abbrev Fr : Type := (Program × Launch × Env × Room × State × MethodId × Array Value × List Frame) × (Method × Code × va_G × C3 × (Nat → Prop) × Heap) × (Nat × Nat × Nat × (State → Prop))
abbrev tysOf (c3 : C3) : List (ClassId × FieldType) := [(c3.1, .int), (c3.2.1, .long), (c3.2.2, .boolean)]
/-- the machine comes from this point, over these cells, to what the frame asks -/
def wpm (φ : Fr) (ad : Nat → Nat) (pc : Nat) (lv : List (Nat × Value)) (st : List Value) (σ : Sto) : Prop := match φ with
  | ((p, l, e, R, s, m, args, below), (meth, c, D, c3, A, H0), (nL, cells, slots, Q)) =>
    ∀ (H : Heap) (locs : List Loc) (ls : Array Slot), va_P D cls (wv ad c3 σ) H → va_S A H0 H locs → lv_has ls nL lv → W p l e R s m args below meth c H locs cells slots Q (F0 m pc ls st)
/-- what holds all the while in a frame -/
def Cx (φ : Fr) (ad : Nat → Nat) (cc : ByteArray) (ret : Option FieldType) (own : String) (n fr lo : Nat) : Prop := match φ with
  | ((p, l, e, R, s, m, args, below), (meth, c, D, c3, A, H0), (nL, cells, slots, Q)) =>
    p.tables.exec = Jvm.exec ∧ c.code = cc ∧ meth.sig.returnType = ret ∧ c.maxLocals = n ∧ nL = n ∧ s.vm.findClass own = some m.cls ∧ (∀ w ∈ lw_gd, w.before args s = true) ∧ meth.locks = false ∧ va_K D cls (tysOf c3) s ∧ (∀ σ, va_D A (wv ad c3 σ)) ∧ (∀ q, H0.size ≤ q → A q) ∧ fr ≤ R.frames ∧ lo ≤ R.locals ∧ cells ≤ R.cells ∧ slots ≤ R.slots ∧ Nst s
/-- a method's end -/
def Qm (D : va_G) (ad : Nat → Nat) (c3 : C3) (A : Nat → Prop) (r : Option Value) (σ' : Sto) : Array Value → State → Outcome → State → Prop := fun _ st oc t => (oc = .returned r ∧ va_P D cls (wv ad c3 σ') t.heap) ∧ va_F A st t
def Fini (φ : Fr) (ad : Nat → Nat) (r : Option Value) (σ' : Sto) : Prop := match φ with
  | ((p, l, e, R, s, m, args, below), (meth, c, D, c3, A, H0), (nL, cells, slots, Q)) => Q = MQ below (Qm D ad c3 A r σ') args s cells slots A ∧ H0 = s.heap
/-- a method's contract over the cells -/
def Ct (y : MethodName) (cc : ByteArray) (n : Nat) (ret : Option FieldType) (fr lo : Nat) (av : (Nat → Nat) → List Value) (σ : Sto) (r : (Nat → Nat) → Option Value) (σ' : Sto) : Prop :=
  ∀ (l : Launch) (D : va_G) (c3 : C3) (ad : Nat → Nat) (sz : Nat), Met l y (.code y cc n ret :: lw_gd) { frames := fr, cells := 0, slots := 0, locals := lo } (va_Pc (av ad) (fun U => U.heap.size = sz ∧ va_P D cls (wv ad c3 σ) U.heap ∧ va_K D cls (tysOf c3) U ∧ va_D (fun _ => True) (wv ad c3 σ) ∧ Nst U)) (Qm D ad c3 (va_A (wv ad c3 σ) sz) (r ad) σ') 0 0 (va_A (wv ad c3 σ) sz)
theorem wv_D {A : Nat → Prop} {ad : Nat → Nat} {c3 : C3} {σ : Sto} (h : va_D A (wv ad c3 σ)) (τ : Sto) : va_D A (wv ad c3 τ) := by
  have key : ∀ (k : Nat) (q : Nat × va_E), (wv ad c3 τ)[k]? = some q → ∃ q', (wv ad c3 σ)[k]? = some q' ∧ q'.1 = q.1 := by
    intro k q hq
    by_cases hk : k < 67
    · rw [wv_get hk] at hq
      cases hq
      exact ⟨_, wv_get hk, rfl⟩
    · rw [List.getElem?_eq_none (by simp [wv]; omega)] at hq
      cases hq
  refine ⟨fun i j p q hp hq hpq => ?_, fun k q hq => ?_⟩
  · obtain ⟨p', h1, h2⟩ := key i p hp
    obtain ⟨q', h3, h4⟩ := key j q hq
    exact h.1 i j p' q' h1 h3 (by rw [h2, h4, hpq])
  · obtain ⟨q', h1, h2⟩ := key k q hq
    rw [← h2]
    exact h.2 k q' h1
theorem wv_A {ad : Nat → Nat} {c3 : C3} {σ τ : Sto} {sz q : Nat} (h : va_A (wv ad c3 σ) sz q) : va_A (wv ad c3 τ) sz q := by
  rcases h with ⟨k, e, h⟩ | h
  · left
    by_cases hk : k < 67
    · rw [wv_get hk] at h
      cases h
      exact ⟨k, _, wv_get hk⟩
    · rw [List.getElem?_eq_none (by simp [wv]; omega)] at h
      cases h
  · exact Or.inr h
theorem lw_goodIn {ws : List Cond} (h : ∀ w ∈ ws, w ∈ lw_gd) : GoodIn lw_gd ws := fun w hw => ⟨h w hw, good_of_word (List.mem_filter.mp (h w hw)).2⟩
theorem Ct_of {y : MethodName} {cc : ByteArray} {n : Nat} {ret : Option FieldType} {fr lo : Nat} {av : (Nat → Nat) → List Value} {σ : Sto} {r : (Nat → Nat) → Option Value} {σ' : Sto}
    (hy : plainName y.cls = true) (hn : ∀ ad, (lg_sl (av ad)).length ≤ n)
    (body : ∀ (φ : Fr) (ad : Nat → Nat), Cx φ ad cc ret y.cls n fr lo → Fini φ ad (r ad) σ' → wpm φ ad 0 (lv_args 0 (av ad)) [] σ) : Ct y cc n ret fr lo av σ r σ' := by
  intro l D c3 ad sz
  refine Met.ofW (cc := cc) (maxL := n) (ret := ret) hy rfl ?_
  intro p e s m args below meth c s₁ B hml hv
  obtain ⟨rfl, hsz, hP, hK, hD0, hN⟩ := hv
  subst hsz
  have hts : ∀ w ∈ lw_gd, w.before (av ad).toArray s = true := fun w hw => atoms_spec (ws := .code y cc n ret :: lw_gd) B.pre w (List.mem_cons_of_mem _ hw)
  have hD : va_D (va_A (wv ad c3 σ) s.heap.size) (wv ad c3 σ) := hD0.self (sz := s.heap.size)
  have K := body ((p, l, e, (headSpec (.code y cc n ret :: lw_gd) { frames := fr, cells := 0, slots := 0, locals := lo }).room, s, m, (av ad).toArray, below), (meth, c, D, c3, va_A (wv ad c3 σ) s.heap.size, s.heap), (n, 0, 0, MQ below (Qm D ad c3 (va_A (wv ad c3 σ) s.heap.size) (r ad) σ') (av ad).toArray s 0 0 (va_A (wv ad c3 σ) s.heap.size))) ad
    ⟨B.exec, B.bytes, B.returns, hml, rfl, findClass_of_methodNamed B.named, hts, B.notSynchronized, hK, wv_D hD, fun q h => Or.inr h, Nat.le_refl _, Nat.le_refl _, Nat.zero_le _, Nat.zero_le _, hN⟩ ⟨rfl, rfl⟩
  rw [lg_entry_eq]
  exact K s.heap [] _ hP va_S.rf (lv_entry (av ad) (hn ad))
end
section
theorem dX0_init_0 : decode cX0_init 0 = .ok (.aload_n 0, 1) := by decide +kernel
theorem dX0_init_1 : decode cX0_init 1 = .ok (.invokespecial 3, 3) := by decide +kernel
theorem dX0_init_4 : decode cX0_init 4 = .ok (.aload_n 0, 1) := by decide +kernel
theorem dX0_init_5 : decode cX0_init 5 = .ok (.iconst 4, 1) := by decide +kernel
theorem dX0_init_6 : decode cX0_init 6 = .ok (.putfield 9, 3) := by decide +kernel
theorem dX0_init_9 : decode cX0_init 9 = .ok (.aload_n 0, 1) := by decide +kernel
theorem dX0_init_10 : decode cX0_init 10 = .ok (.iconst 0, 1) := by decide +kernel
theorem dX0_init_11 : decode cX0_init 11 = .ok (.putfield 15, 3) := by decide +kernel
theorem dX0_init_14 : decode cX0_init 14 = .ok (.aload_n 0, 1) := by decide +kernel
theorem dX0_init_15 : decode cX0_init 15 = .ok (.bipush 6, 2) := by decide +kernel
theorem dX0_init_17 : decode cX0_init 17 = .ok (.newarray .int, 2) := by decide +kernel
theorem dX0_init_19 : decode cX0_init 19 = .ok (.putfield 18, 3) := by decide +kernel
theorem dX0_init_22 : decode cX0_init 22 = .ok (.aload_n 0, 1) := by decide +kernel
theorem dX0_init_23 : decode cX0_init 23 = .ok (.new 22, 3) := by decide +kernel
theorem dX0_init_26 : decode cX0_init 26 = .ok (.dup, 1) := by decide +kernel
theorem dX0_init_27 : decode cX0_init 27 = .ok (.invokespecial 24, 3) := by decide +kernel
theorem dX0_init_30 : decode cX0_init 30 = .ok (.putfield 25, 3) := by decide +kernel
theorem dX0_init_33 : decode cX0_init 33 = .ok (.aload_n 0, 1) := by decide +kernel
theorem dX0_init_34 : decode cX0_init 34 = .ok (.iconst 0, 1) := by decide +kernel
theorem dX0_init_35 : decode cX0_init 35 = .ok (.putfield 29, 3) := by decide +kernel
theorem dX0_init_38 : decode cX0_init 38 = .ok (.aload_n 0, 1) := by decide +kernel
theorem dX0_init_39 : decode cX0_init 39 = .ok (.bipush 8, 2) := by decide +kernel
theorem dX0_init_41 : decode cX0_init 41 = .ok (.newarray .int, 2) := by decide +kernel
theorem dX0_init_43 : decode cX0_init 43 = .ok (.putfield 32, 3) := by decide +kernel
theorem dX0_init_46 : decode cX0_init 46 = .ok (.aload_n 0, 1) := by decide +kernel
theorem dX0_init_47 : decode cX0_init 47 = .ok (.bipush 8, 2) := by decide +kernel
theorem dX0_init_49 : decode cX0_init 49 = .ok (.newarray .int, 2) := by decide +kernel
theorem dX0_init_51 : decode cX0_init 51 = .ok (.putfield 35, 3) := by decide +kernel
theorem dX0_init_54 : decode cX0_init 54 = .ok (.aload_n 0, 1) := by decide +kernel
theorem dX0_init_55 : decode cX0_init 55 = .ok (.iconst 0, 1) := by decide +kernel
theorem dX0_init_56 : decode cX0_init 56 = .ok (.putfield 38, 3) := by decide +kernel
theorem dX0_init_59 : decode cX0_init 59 = .ok (.return_, 1) := by decide +kernel
theorem dX0_restart_0 : decode cX0_restart 0 = .ok (.aload_n 0, 1) := by decide +kernel
theorem dX0_restart_1 : decode cX0_restart 1 = .ok (.iload_n 1, 1) := by decide +kernel
theorem dX0_restart_2 : decode cX0_restart 2 = .ok (.putfield 9, 3) := by decide +kernel
theorem dX0_restart_5 : decode cX0_restart 5 = .ok (.aload_n 0, 1) := by decide +kernel
theorem dX0_restart_6 : decode cX0_restart 6 = .ok (.iconst 0, 1) := by decide +kernel
theorem dX0_restart_7 : decode cX0_restart 7 = .ok (.putfield 15, 3) := by decide +kernel
theorem dX0_restart_10 : decode cX0_restart 10 = .ok (.iconst 0, 1) := by decide +kernel
theorem dX0_restart_11 : decode cX0_restart 11 = .ok (.istore_n 2, 1) := by decide +kernel
theorem dX0_restart_12 : decode cX0_restart 12 = .ok (.iload_n 2, 1) := by decide +kernel
theorem dX0_restart_13 : decode cX0_restart 13 = .ok (.bipush 6, 2) := by decide +kernel
theorem dX0_restart_15 : decode cX0_restart 15 = .ok (.if_icmp .ge 18, 3) := by decide +kernel
theorem dX0_restart_18 : decode cX0_restart 18 = .ok (.aload_n 0, 1) := by decide +kernel
theorem dX0_restart_19 : decode cX0_restart 19 = .ok (.getfield 18, 3) := by decide +kernel
theorem dX0_restart_22 : decode cX0_restart 22 = .ok (.iload_n 2, 1) := by decide +kernel
theorem dX0_restart_23 : decode cX0_restart 23 = .ok (.iconst 0, 1) := by decide +kernel
theorem dX0_restart_24 : decode cX0_restart 24 = .ok (.invokestatic 42, 3) := by decide +kernel
theorem dX0_restart_27 : decode cX0_restart 27 = .ok (.iinc 2 1, 3) := by decide +kernel
theorem dX0_restart_30 : decode cX0_restart 30 = .ok (.goto (-18), 3) := by decide +kernel
theorem dX0_restart_33 : decode cX0_restart 33 = .ok (.aload_n 0, 1) := by decide +kernel
theorem dX0_restart_34 : decode cX0_restart 34 = .ok (.getfield 25, 3) := by decide +kernel
theorem dX0_restart_37 : decode cX0_restart 37 = .ok (.invokevirtual 46, 3) := by decide +kernel
theorem dX0_restart_40 : decode cX0_restart 40 = .ok (.aload_n 0, 1) := by decide +kernel
theorem dX0_restart_41 : decode cX0_restart 41 = .ok (.iconst 0, 1) := by decide +kernel
theorem dX0_restart_42 : decode cX0_restart 42 = .ok (.putfield 29, 3) := by decide +kernel
theorem dX0_restart_45 : decode cX0_restart 45 = .ok (.return_, 1) := by decide +kernel
theorem dX0_copyFrom_0 : decode cX0_copyFrom 0 = .ok (.aload_n 0, 1) := by decide +kernel
theorem dX0_copyFrom_1 : decode cX0_copyFrom 1 = .ok (.aload_n 1, 1) := by decide +kernel
theorem dX0_copyFrom_2 : decode cX0_copyFrom 2 = .ok (.getfield 9, 3) := by decide +kernel
theorem dX0_copyFrom_5 : decode cX0_copyFrom 5 = .ok (.putfield 9, 3) := by decide +kernel
theorem dX0_copyFrom_8 : decode cX0_copyFrom 8 = .ok (.aload_n 0, 1) := by decide +kernel
theorem dX0_copyFrom_9 : decode cX0_copyFrom 9 = .ok (.aload_n 1, 1) := by decide +kernel
theorem dX0_copyFrom_10 : decode cX0_copyFrom 10 = .ok (.getfield 15, 3) := by decide +kernel
theorem dX0_copyFrom_13 : decode cX0_copyFrom 13 = .ok (.putfield 15, 3) := by decide +kernel
theorem dX0_copyFrom_16 : decode cX0_copyFrom 16 = .ok (.aload_n 1, 1) := by decide +kernel
theorem dX0_copyFrom_17 : decode cX0_copyFrom 17 = .ok (.getfield 18, 3) := by decide +kernel
theorem dX0_copyFrom_20 : decode cX0_copyFrom 20 = .ok (.aload_n 0, 1) := by decide +kernel
theorem dX0_copyFrom_21 : decode cX0_copyFrom 21 = .ok (.getfield 18, 3) := by decide +kernel
theorem dX0_copyFrom_24 : decode cX0_copyFrom 24 = .ok (.invokestatic 49, 3) := by decide +kernel
theorem dX0_copyFrom_27 : decode cX0_copyFrom 27 = .ok (.aload_n 0, 1) := by decide +kernel
theorem dX0_copyFrom_28 : decode cX0_copyFrom 28 = .ok (.getfield 25, 3) := by decide +kernel
theorem dX0_copyFrom_31 : decode cX0_copyFrom 31 = .ok (.aload_n 1, 1) := by decide +kernel
theorem dX0_copyFrom_32 : decode cX0_copyFrom 32 = .ok (.getfield 25, 3) := by decide +kernel
theorem dX0_copyFrom_35 : decode cX0_copyFrom 35 = .ok (.invokevirtual 53, 3) := by decide +kernel
theorem dX0_copyFrom_38 : decode cX0_copyFrom 38 = .ok (.aload_n 0, 1) := by decide +kernel
theorem dX0_copyFrom_39 : decode cX0_copyFrom 39 = .ok (.aload_n 1, 1) := by decide +kernel
theorem dX0_copyFrom_40 : decode cX0_copyFrom 40 = .ok (.getfield 29, 3) := by decide +kernel
theorem dX0_copyFrom_43 : decode cX0_copyFrom 43 = .ok (.putfield 29, 3) := by decide +kernel
theorem dX0_copyFrom_46 : decode cX0_copyFrom 46 = .ok (.aload_n 1, 1) := by decide +kernel
theorem dX0_copyFrom_47 : decode cX0_copyFrom 47 = .ok (.getfield 32, 3) := by decide +kernel
theorem dX0_copyFrom_50 : decode cX0_copyFrom 50 = .ok (.aload_n 0, 1) := by decide +kernel
theorem dX0_copyFrom_51 : decode cX0_copyFrom 51 = .ok (.getfield 32, 3) := by decide +kernel
theorem dX0_copyFrom_54 : decode cX0_copyFrom 54 = .ok (.invokestatic 49, 3) := by decide +kernel
theorem dX0_copyFrom_57 : decode cX0_copyFrom 57 = .ok (.aload_n 1, 1) := by decide +kernel
theorem dX0_copyFrom_58 : decode cX0_copyFrom 58 = .ok (.getfield 35, 3) := by decide +kernel
theorem dX0_copyFrom_61 : decode cX0_copyFrom 61 = .ok (.aload_n 0, 1) := by decide +kernel
theorem dX0_copyFrom_62 : decode cX0_copyFrom 62 = .ok (.getfield 35, 3) := by decide +kernel
theorem dX0_copyFrom_65 : decode cX0_copyFrom 65 = .ok (.invokestatic 49, 3) := by decide +kernel
theorem dX0_copyFrom_68 : decode cX0_copyFrom 68 = .ok (.return_, 1) := by decide +kernel
theorem dX0_temperOf_0 : decode cX0_temperOf 0 = .ok (.aload_n 0, 1) := by decide +kernel
theorem dX0_temperOf_1 : decode cX0_temperOf 1 = .ok (.getfield 18, 3) := by decide +kernel
theorem dX0_temperOf_4 : decode cX0_temperOf 4 = .ok (.iload_n 1, 1) := by decide +kernel
theorem dX0_temperOf_5 : decode cX0_temperOf 5 = .ok (.invokestatic 57, 3) := by decide +kernel
theorem dX0_temperOf_8 : decode cX0_temperOf 8 = .ok (.ireturn, 1) := by decide +kernel
theorem dX0_countWithout_0 : decode cX0_countWithout 0 = .ok (.iconst 0, 1) := by decide +kernel
theorem dX0_countWithout_1 : decode cX0_countWithout 1 = .ok (.istore_n 2, 1) := by decide +kernel
theorem dX0_countWithout_2 : decode cX0_countWithout 2 = .ok (.iconst 0, 1) := by decide +kernel
theorem dX0_countWithout_3 : decode cX0_countWithout 3 = .ok (.istore_n 3, 1) := by decide +kernel
theorem dX0_countWithout_4 : decode cX0_countWithout 4 = .ok (.iload_n 3, 1) := by decide +kernel
theorem dX0_countWithout_5 : decode cX0_countWithout 5 = .ok (.bipush 6, 2) := by decide +kernel
theorem dX0_countWithout_7 : decode cX0_countWithout 7 = .ok (.if_icmp .ge 21, 3) := by decide +kernel
theorem dX0_countWithout_10 : decode cX0_countWithout 10 = .ok (.aload_n 0, 1) := by decide +kernel
theorem dX0_countWithout_11 : decode cX0_countWithout 11 = .ok (.iload_n 3, 1) := by decide +kernel
theorem dX0_countWithout_12 : decode cX0_countWithout 12 = .ok (.invokevirtual 61, 3) := by decide +kernel
theorem dX0_countWithout_15 : decode cX0_countWithout 15 = .ok (.iload_n 1, 1) := by decide +kernel
theorem dX0_countWithout_16 : decode cX0_countWithout 16 = .ok (.if_icmp .eq 6, 3) := by decide +kernel
theorem dX0_countWithout_19 : decode cX0_countWithout 19 = .ok (.iinc 2 1, 3) := by decide +kernel
theorem dX0_countWithout_22 : decode cX0_countWithout 22 = .ok (.iinc 3 1, 3) := by decide +kernel
theorem dX0_countWithout_25 : decode cX0_countWithout 25 = .ok (.goto (-21), 3) := by decide +kernel
theorem dX0_countWithout_28 : decode cX0_countWithout 28 = .ok (.iload_n 2, 1) := by decide +kernel
theorem dX0_countWithout_29 : decode cX0_countWithout 29 = .ok (.ireturn, 1) := by decide +kernel
theorem dX0_addSight_0 : decode cX0_addSight 0 = .ok (.aload_n 0, 1) := by decide +kernel
theorem dX0_addSight_1 : decode cX0_addSight 1 = .ok (.getfield 29, 3) := by decide +kernel
theorem dX0_addSight_4 : decode cX0_addSight 4 = .ok (.bipush 8, 2) := by decide +kernel
theorem dX0_addSight_6 : decode cX0_addSight 6 = .ok (.if_icmp .lt 6, 3) := by decide +kernel
theorem dX0_addSight_9 : decode cX0_addSight 9 = .ok (.bipush (-4), 2) := by decide +kernel
theorem dX0_addSight_11 : decode cX0_addSight 11 = .ok (.ireturn, 1) := by decide +kernel
theorem dX0_addSight_12 : decode cX0_addSight 12 = .ok (.aload_n 0, 1) := by decide +kernel
theorem dX0_addSight_13 : decode cX0_addSight 13 = .ok (.getfield 32, 3) := by decide +kernel
theorem dX0_addSight_16 : decode cX0_addSight 16 = .ok (.aload_n 0, 1) := by decide +kernel
theorem dX0_addSight_17 : decode cX0_addSight 17 = .ok (.getfield 29, 3) := by decide +kernel
theorem dX0_addSight_20 : decode cX0_addSight 20 = .ok (.iload_n 1, 1) := by decide +kernel
theorem dX0_addSight_21 : decode cX0_addSight 21 = .ok (.invokestatic 42, 3) := by decide +kernel
theorem dX0_addSight_24 : decode cX0_addSight 24 = .ok (.aload_n 0, 1) := by decide +kernel
theorem dX0_addSight_25 : decode cX0_addSight 25 = .ok (.getfield 35, 3) := by decide +kernel
theorem dX0_addSight_28 : decode cX0_addSight 28 = .ok (.aload_n 0, 1) := by decide +kernel
theorem dX0_addSight_29 : decode cX0_addSight 29 = .ok (.getfield 29, 3) := by decide +kernel
theorem dX0_addSight_32 : decode cX0_addSight 32 = .ok (.iload_n 2, 1) := by decide +kernel
theorem dX0_addSight_33 : decode cX0_addSight 33 = .ok (.invokestatic 42, 3) := by decide +kernel
theorem dX0_addSight_36 : decode cX0_addSight 36 = .ok (.aload_n 0, 1) := by decide +kernel
theorem dX0_addSight_37 : decode cX0_addSight 37 = .ok (.dup, 1) := by decide +kernel
theorem dX0_addSight_38 : decode cX0_addSight 38 = .ok (.getfield 29, 3) := by decide +kernel
theorem dX0_addSight_41 : decode cX0_addSight 41 = .ok (.iconst 1, 1) := by decide +kernel
theorem dX0_addSight_42 : decode cX0_addSight 42 = .ok (.iadd, 1) := by decide +kernel
theorem dX0_addSight_43 : decode cX0_addSight 43 = .ok (.putfield 29, 3) := by decide +kernel
theorem dX0_addSight_46 : decode cX0_addSight 46 = .ok (.aload_n 0, 1) := by decide +kernel
theorem dX0_addSight_47 : decode cX0_addSight 47 = .ok (.getfield 29, 3) := by decide +kernel
theorem dX0_addSight_50 : decode cX0_addSight 50 = .ok (.ireturn, 1) := by decide +kernel
theorem dX0_sightsFit_0 : decode cX0_sightsFit 0 = .ok (.iconst 0, 1) := by decide +kernel
theorem dX0_sightsFit_1 : decode cX0_sightsFit 1 = .ok (.istore_n 2, 1) := by decide +kernel
theorem dX0_sightsFit_2 : decode cX0_sightsFit 2 = .ok (.iload_n 2, 1) := by decide +kernel
theorem dX0_sightsFit_3 : decode cX0_sightsFit 3 = .ok (.aload_n 0, 1) := by decide +kernel
theorem dX0_sightsFit_4 : decode cX0_sightsFit 4 = .ok (.getfield 29, 3) := by decide +kernel
theorem dX0_sightsFit_7 : decode cX0_sightsFit 7 = .ok (.if_icmp .ge 47, 3) := by decide +kernel
theorem dX0_sightsFit_10 : decode cX0_sightsFit 10 = .ok (.aload_n 0, 1) := by decide +kernel
theorem dX0_sightsFit_11 : decode cX0_sightsFit 11 = .ok (.getfield 32, 3) := by decide +kernel
theorem dX0_sightsFit_14 : decode cX0_sightsFit 14 = .ok (.iload_n 2, 1) := by decide +kernel
theorem dX0_sightsFit_15 : decode cX0_sightsFit 15 = .ok (.invokestatic 57, 3) := by decide +kernel
theorem dX0_sightsFit_18 : decode cX0_sightsFit 18 = .ok (.istore_n 3, 1) := by decide +kernel
theorem dX0_sightsFit_19 : decode cX0_sightsFit 19 = .ok (.iload_n 3, 1) := by decide +kernel
theorem dX0_sightsFit_20 : decode cX0_sightsFit 20 = .ok (.aload_n 1, 1) := by decide +kernel
theorem dX0_sightsFit_21 : decode cX0_sightsFit 21 = .ok (.getfield 65, 3) := by decide +kernel
theorem dX0_sightsFit_24 : decode cX0_sightsFit 24 = .ok (.if_icmp .gt 22, 3) := by decide +kernel
theorem dX0_sightsFit_27 : decode cX0_sightsFit 27 = .ok (.aload_n 1, 1) := by decide +kernel
theorem dX0_sightsFit_28 : decode cX0_sightsFit 28 = .ok (.getfield 70, 3) := by decide +kernel
theorem dX0_sightsFit_31 : decode cX0_sightsFit 31 = .ok (.iload_n 3, 1) := by decide +kernel
theorem dX0_sightsFit_32 : decode cX0_sightsFit 32 = .ok (.invokestatic 57, 3) := by decide +kernel
theorem dX0_sightsFit_35 : decode cX0_sightsFit 35 = .ok (.aload_n 0, 1) := by decide +kernel
theorem dX0_sightsFit_36 : decode cX0_sightsFit 36 = .ok (.getfield 35, 3) := by decide +kernel
theorem dX0_sightsFit_39 : decode cX0_sightsFit 39 = .ok (.iload_n 2, 1) := by decide +kernel
theorem dX0_sightsFit_40 : decode cX0_sightsFit 40 = .ok (.invokestatic 57, 3) := by decide +kernel
theorem dX0_sightsFit_43 : decode cX0_sightsFit 43 = .ok (.if_icmp .eq 5, 3) := by decide +kernel
theorem dX0_sightsFit_46 : decode cX0_sightsFit 46 = .ok (.iconst 0, 1) := by decide +kernel
theorem dX0_sightsFit_47 : decode cX0_sightsFit 47 = .ok (.ireturn, 1) := by decide +kernel
theorem dX0_sightsFit_48 : decode cX0_sightsFit 48 = .ok (.iinc 2 1, 3) := by decide +kernel
theorem dX0_sightsFit_51 : decode cX0_sightsFit 51 = .ok (.goto (-49), 3) := by decide +kernel
theorem dX0_sightsFit_54 : decode cX0_sightsFit 54 = .ok (.iconst 1, 1) := by decide +kernel
theorem dX0_sightsFit_55 : decode cX0_sightsFit 55 = .ok (.ireturn, 1) := by decide +kernel
theorem dX1_init_0 : decode cX1_init 0 = .ok (.aload_n 0, 1) := by decide +kernel
theorem dX1_init_1 : decode cX1_init 1 = .ok (.invokespecial 3, 3) := by decide +kernel
theorem dX1_init_4 : decode cX1_init 4 = .ok (.aload_n 0, 1) := by decide +kernel
theorem dX1_init_5 : decode cX1_init 5 = .ok (.bipush 60, 2) := by decide +kernel
theorem dX1_init_7 : decode cX1_init 7 = .ok (.newarray .int, 2) := by decide +kernel
theorem dX1_init_9 : decode cX1_init 9 = .ok (.putfield 9, 3) := by decide +kernel
theorem dX1_init_12 : decode cX1_init 12 = .ok (.aload_n 0, 1) := by decide +kernel
theorem dX1_init_13 : decode cX1_init 13 = .ok (.iconst 0, 1) := by decide +kernel
theorem dX1_init_14 : decode cX1_init 14 = .ok (.putfield 15, 3) := by decide +kernel
theorem dX1_init_17 : decode cX1_init 17 = .ok (.aload_n 0, 1) := by decide +kernel
theorem dX1_init_18 : decode cX1_init 18 = .ok (.bipush 61, 2) := by decide +kernel
theorem dX1_init_20 : decode cX1_init 20 = .ok (.newarray .int, 2) := by decide +kernel
theorem dX1_init_22 : decode cX1_init 22 = .ok (.putfield 19, 3) := by decide +kernel
theorem dX1_init_25 : decode cX1_init 25 = .ok (.aload_n 0, 1) := by decide +kernel
theorem dX1_init_26 : decode cX1_init 26 = .ok (.new 22, 3) := by decide +kernel
theorem dX1_init_29 : decode cX1_init 29 = .ok (.dup, 1) := by decide +kernel
theorem dX1_init_30 : decode cX1_init 30 = .ok (.invokespecial 24, 3) := by decide +kernel
theorem dX1_init_33 : decode cX1_init 33 = .ok (.putfield 25, 3) := by decide +kernel
theorem dX1_init_36 : decode cX1_init 36 = .ok (.aload_n 0, 1) := by decide +kernel
theorem dX1_init_37 : decode cX1_init 37 = .ok (.bipush (-6), 2) := by decide +kernel
theorem dX1_init_39 : decode cX1_init 39 = .ok (.putfield 29, 3) := by decide +kernel
theorem dX1_init_42 : decode cX1_init 42 = .ok (.aload_n 0, 1) := by decide +kernel
theorem dX1_init_43 : decode cX1_init 43 = .ok (.bipush (-6), 2) := by decide +kernel
theorem dX1_init_45 : decode cX1_init 45 = .ok (.putfield 32, 3) := by decide +kernel
theorem dX1_init_48 : decode cX1_init 48 = .ok (.return_, 1) := by decide +kernel
theorem dX1_read_0 : decode cX1_read 0 = .ok (.aload_n 0, 1) := by decide +kernel
theorem dX1_read_1 : decode cX1_read 1 = .ok (.iconst 0, 1) := by decide +kernel
theorem dX1_read_2 : decode cX1_read 2 = .ok (.putfield 15, 3) := by decide +kernel
theorem dX1_read_5 : decode cX1_read 5 = .ok (.iconst 0, 1) := by decide +kernel
theorem dX1_read_6 : decode cX1_read 6 = .ok (.istore_n 3, 1) := by decide +kernel
theorem dX1_read_7 : decode cX1_read 7 = .ok (.iconst 0, 1) := by decide +kernel
theorem dX1_read_8 : decode cX1_read 8 = .ok (.istore 4, 2) := by decide +kernel
theorem dX1_read_10 : decode cX1_read 10 = .ok (.iconst 0, 1) := by decide +kernel
theorem dX1_read_11 : decode cX1_read 11 = .ok (.istore 5, 2) := by decide +kernel
theorem dX1_read_13 : decode cX1_read 13 = .ok (.iconst 0, 1) := by decide +kernel
theorem dX1_read_14 : decode cX1_read 14 = .ok (.istore 6, 2) := by decide +kernel
theorem dX1_read_16 : decode cX1_read 16 = .ok (.iload 6, 2) := by decide +kernel
theorem dX1_read_18 : decode cX1_read 18 = .ok (.aload_n 1, 1) := by decide +kernel
theorem dX1_read_19 : decode cX1_read 19 = .ok (.getfield 35, 3) := by decide +kernel
theorem dX1_read_22 : decode cX1_read 22 = .ok (.if_icmp .ge 155, 3) := by decide +kernel
theorem dX1_read_25 : decode cX1_read 25 = .ok (.aload_n 1, 1) := by decide +kernel
theorem dX1_read_26 : decode cX1_read 26 = .ok (.getfield 38, 3) := by decide +kernel
theorem dX1_read_29 : decode cX1_read 29 = .ok (.iload 6, 2) := by decide +kernel
theorem dX1_read_31 : decode cX1_read 31 = .ok (.invokestatic 41, 3) := by decide +kernel
theorem dX1_read_34 : decode cX1_read 34 = .ok (.istore 7, 2) := by decide +kernel
theorem dX1_read_36 : decode cX1_read 36 = .ok (.iload_n 3, 1) := by decide +kernel
theorem dX1_read_37 : decode cX1_read 37 = .ok (.ifCond .ne 26, 3) := by decide +kernel
theorem dX1_read_40 : decode cX1_read 40 = .ok (.iload 7, 2) := by decide +kernel
theorem dX1_read_42 : decode cX1_read 42 = .ok (.bipush 65, 2) := by decide +kernel
theorem dX1_read_44 : decode cX1_read 44 = .ok (.isub, 1) := by decide +kernel
theorem dX1_read_45 : decode cX1_read 45 = .ok (.invokestatic 45, 3) := by decide +kernel
theorem dX1_read_48 : decode cX1_read 48 = .ok (.ifCond .eq 15, 3) := by decide +kernel
theorem dX1_read_51 : decode cX1_read 51 = .ok (.iload 7, 2) := by decide +kernel
theorem dX1_read_53 : decode cX1_read 53 = .ok (.bipush 65, 2) := by decide +kernel
theorem dX1_read_55 : decode cX1_read 55 = .ok (.isub, 1) := by decide +kernel
theorem dX1_read_56 : decode cX1_read 56 = .ok (.istore 4, 2) := by decide +kernel
theorem dX1_read_58 : decode cX1_read 58 = .ok (.iconst 1, 1) := by decide +kernel
theorem dX1_read_59 : decode cX1_read 59 = .ok (.istore_n 3, 1) := by decide +kernel
theorem dX1_read_60 : decode cX1_read 60 = .ok (.goto 111, 3) := by decide +kernel
theorem dX1_read_63 : decode cX1_read 63 = .ok (.iload_n 3, 1) := by decide +kernel
theorem dX1_read_64 : decode cX1_read 64 = .ok (.ifCond .ne 25, 3) := by decide +kernel
theorem dX1_read_67 : decode cX1_read 67 = .ok (.iload 7, 2) := by decide +kernel
theorem dX1_read_69 : decode cX1_read 69 = .ok (.invokestatic 49, 3) := by decide +kernel
theorem dX1_read_72 : decode cX1_read 72 = .ok (.bipush (-6), 2) := by decide +kernel
theorem dX1_read_74 : decode cX1_read 74 = .ok (.if_icmp .eq 15, 3) := by decide +kernel
theorem dX1_read_77 : decode cX1_read 77 = .ok (.aload_n 0, 1) := by decide +kernel
theorem dX1_read_78 : decode cX1_read 78 = .ok (.iload 7, 2) := by decide +kernel
theorem dX1_read_80 : decode cX1_read 80 = .ok (.invokestatic 49, 3) := by decide +kernel
theorem dX1_read_83 : decode cX1_read 83 = .ok (.invokevirtual 53, 3) := by decide +kernel
theorem dX1_read_86 : decode cX1_read 86 = .ok (.goto 85, 3) := by decide +kernel
theorem dX1_read_89 : decode cX1_read 89 = .ok (.iload_n 3, 1) := by decide +kernel
theorem dX1_read_90 : decode cX1_read 90 = .ok (.iconst 1, 1) := by decide +kernel
theorem dX1_read_91 : decode cX1_read 91 = .ok (.if_icmp .ne 30, 3) := by decide +kernel
theorem dX1_read_94 : decode cX1_read 94 = .ok (.iload 7, 2) := by decide +kernel
theorem dX1_read_96 : decode cX1_read 96 = .ok (.bipush 97, 2) := by decide +kernel
theorem dX1_read_98 : decode cX1_read 98 = .ok (.isub, 1) := by decide +kernel
theorem dX1_read_99 : decode cX1_read 99 = .ok (.iconst 0, 1) := by decide +kernel
theorem dX1_read_100 : decode cX1_read 100 = .ok (.iload_n 2, 1) := by decide +kernel
theorem dX1_read_101 : decode cX1_read 101 = .ok (.iconst 1, 1) := by decide +kernel
theorem dX1_read_102 : decode cX1_read 102 = .ok (.isub, 1) := by decide +kernel
theorem dX1_read_103 : decode cX1_read 103 = .ok (.invokestatic 57, 3) := by decide +kernel
theorem dX1_read_106 : decode cX1_read 106 = .ok (.ifCond .eq 15, 3) := by decide +kernel
theorem dX1_read_109 : decode cX1_read 109 = .ok (.iload 7, 2) := by decide +kernel
theorem dX1_read_111 : decode cX1_read 111 = .ok (.bipush 97, 2) := by decide +kernel
theorem dX1_read_113 : decode cX1_read 113 = .ok (.isub, 1) := by decide +kernel
theorem dX1_read_114 : decode cX1_read 114 = .ok (.istore 5, 2) := by decide +kernel
theorem dX1_read_116 : decode cX1_read 116 = .ok (.iconst 2, 1) := by decide +kernel
theorem dX1_read_117 : decode cX1_read 117 = .ok (.istore_n 3, 1) := by decide +kernel
theorem dX1_read_118 : decode cX1_read 118 = .ok (.goto 53, 3) := by decide +kernel
theorem dX1_read_121 : decode cX1_read 121 = .ok (.iload_n 3, 1) := by decide +kernel
theorem dX1_read_122 : decode cX1_read 122 = .ok (.iconst 2, 1) := by decide +kernel
theorem dX1_read_123 : decode cX1_read 123 = .ok (.if_icmp .ne 45, 3) := by decide +kernel
theorem dX1_read_126 : decode cX1_read 126 = .ok (.iload 7, 2) := by decide +kernel
theorem dX1_read_128 : decode cX1_read 128 = .ok (.bipush 43, 2) := by decide +kernel
theorem dX1_read_130 : decode cX1_read 130 = .ok (.if_icmp .eq 10, 3) := by decide +kernel
theorem dX1_read_133 : decode cX1_read 133 = .ok (.iload 7, 2) := by decide +kernel
theorem dX1_read_135 : decode cX1_read 135 = .ok (.bipush 45, 2) := by decide +kernel
theorem dX1_read_137 : decode cX1_read 137 = .ok (.if_icmp .ne 31, 3) := by decide +kernel
theorem dX1_read_140 : decode cX1_read 140 = .ok (.aload_n 0, 1) := by decide +kernel
theorem dX1_read_141 : decode cX1_read 141 = .ok (.iload 4, 2) := by decide +kernel
theorem dX1_read_143 : decode cX1_read 143 = .ok (.iload 5, 2) := by decide +kernel
theorem dX1_read_145 : decode cX1_read 145 = .ok (.iload 7, 2) := by decide +kernel
theorem dX1_read_147 : decode cX1_read 147 = .ok (.bipush 43, 2) := by decide +kernel
theorem dX1_read_149 : decode cX1_read 149 = .ok (.if_icmp .ne 7, 3) := by decide +kernel
theorem dX1_read_152 : decode cX1_read 152 = .ok (.iconst 1, 1) := by decide +kernel
theorem dX1_read_153 : decode cX1_read 153 = .ok (.goto 4, 3) := by decide +kernel
theorem dX1_read_156 : decode cX1_read 156 = .ok (.iconst 0, 1) := by decide +kernel
theorem dX1_read_157 : decode cX1_read 157 = .ok (.invokestatic 61, 3) := by decide +kernel
theorem dX1_read_160 : decode cX1_read 160 = .ok (.invokevirtual 53, 3) := by decide +kernel
theorem dX1_read_163 : decode cX1_read 163 = .ok (.iconst 0, 1) := by decide +kernel
theorem dX1_read_164 : decode cX1_read 164 = .ok (.istore_n 3, 1) := by decide +kernel
theorem dX1_read_165 : decode cX1_read 165 = .ok (.goto 6, 3) := by decide +kernel
theorem dX1_read_168 : decode cX1_read 168 = .ok (.iload 6, 2) := by decide +kernel
theorem dX1_read_170 : decode cX1_read 170 = .ok (.ireturn, 1) := by decide +kernel
theorem dX1_read_171 : decode cX1_read 171 = .ok (.iinc 6 1, 3) := by decide +kernel
theorem dX1_read_174 : decode cX1_read 174 = .ok (.goto (-158), 3) := by decide +kernel
theorem dX1_read_177 : decode cX1_read 177 = .ok (.iload_n 3, 1) := by decide +kernel
theorem dX1_read_178 : decode cX1_read 178 = .ok (.ifCond .ne 8, 3) := by decide +kernel
theorem dX1_read_181 : decode cX1_read 181 = .ok (.bipush (-6), 2) := by decide +kernel
theorem dX1_read_183 : decode cX1_read 183 = .ok (.goto 7, 3) := by decide +kernel
theorem dX1_read_186 : decode cX1_read 186 = .ok (.aload_n 1, 1) := by decide +kernel
theorem dX1_read_187 : decode cX1_read 187 = .ok (.getfield 35, 3) := by decide +kernel
theorem dX1_read_190 : decode cX1_read 190 = .ok (.ireturn, 1) := by decide +kernel
theorem dX1_unspoken_0 : decode cX1_unspoken 0 = .ok (.iload_n 0, 1) := by decide +kernel
theorem dX1_unspoken_1 : decode cX1_unspoken 1 = .ok (.lookupswitch 44 #[(33, 41), (46, 35), (63, 38)], 35) := by decide +kernel
theorem dX1_unspoken_36 : decode cX1_unspoken 36 = .ok (.bipush 100, 2) := by decide +kernel
theorem dX1_unspoken_38 : decode cX1_unspoken 38 = .ok (.ireturn, 1) := by decide +kernel
theorem dX1_unspoken_39 : decode cX1_unspoken 39 = .ok (.bipush 101, 2) := by decide +kernel
theorem dX1_unspoken_41 : decode cX1_unspoken 41 = .ok (.ireturn, 1) := by decide +kernel
theorem dX1_unspoken_42 : decode cX1_unspoken 42 = .ok (.bipush 102, 2) := by decide +kernel
theorem dX1_unspoken_44 : decode cX1_unspoken 44 = .ok (.ireturn, 1) := by decide +kernel
theorem dX1_unspoken_45 : decode cX1_unspoken 45 = .ok (.bipush (-6), 2) := by decide +kernel
theorem dX1_unspoken_47 : decode cX1_unspoken 47 = .ok (.ireturn, 1) := by decide +kernel
theorem dX1_add_0 : decode cX1_add 0 = .ok (.aload_n 0, 1) := by decide +kernel
theorem dX1_add_1 : decode cX1_add 1 = .ok (.getfield 9, 3) := by decide +kernel
theorem dX1_add_4 : decode cX1_add 4 = .ok (.aload_n 0, 1) := by decide +kernel
theorem dX1_add_5 : decode cX1_add 5 = .ok (.getfield 15, 3) := by decide +kernel
theorem dX1_add_8 : decode cX1_add 8 = .ok (.iload_n 1, 1) := by decide +kernel
theorem dX1_add_9 : decode cX1_add 9 = .ok (.invokestatic 65, 3) := by decide +kernel
theorem dX1_add_12 : decode cX1_add 12 = .ok (.aload_n 0, 1) := by decide +kernel
theorem dX1_add_13 : decode cX1_add 13 = .ok (.dup, 1) := by decide +kernel
theorem dX1_add_14 : decode cX1_add 14 = .ok (.getfield 15, 3) := by decide +kernel
theorem dX1_add_17 : decode cX1_add 17 = .ok (.iconst 1, 1) := by decide +kernel
theorem dX1_add_18 : decode cX1_add 18 = .ok (.iadd, 1) := by decide +kernel
theorem dX1_add_19 : decode cX1_add 19 = .ok (.putfield 15, 3) := by decide +kernel
theorem dX1_add_22 : decode cX1_add 22 = .ok (.return_, 1) := by decide +kernel
theorem dX1_play_0 : decode cX1_play 0 = .ok (.aload_n 0, 1) := by decide +kernel
theorem dX1_play_1 : decode cX1_play 1 = .ok (.getfield 25, 3) := by decide +kernel
theorem dX1_play_4 : decode cX1_play 4 = .ok (.aload_n 1, 1) := by decide +kernel
theorem dX1_play_5 : decode cX1_play 5 = .ok (.getfield 69, 3) := by decide +kernel
theorem dX1_play_8 : decode cX1_play 8 = .ok (.invokevirtual 72, 3) := by decide +kernel
theorem dX1_play_11 : decode cX1_play 11 = .ok (.aload_n 0, 1) := by decide +kernel
theorem dX1_play_12 : decode cX1_play 12 = .ok (.bipush (-6), 2) := by decide +kernel
theorem dX1_play_14 : decode cX1_play 14 = .ok (.putfield 29, 3) := by decide +kernel
theorem dX1_play_17 : decode cX1_play 17 = .ok (.aload_n 0, 1) := by decide +kernel
theorem dX1_play_18 : decode cX1_play 18 = .ok (.bipush (-6), 2) := by decide +kernel
theorem dX1_play_20 : decode cX1_play 20 = .ok (.putfield 32, 3) := by decide +kernel
theorem dX1_play_23 : decode cX1_play 23 = .ok (.aload_n 0, 1) := by decide +kernel
theorem dX1_play_24 : decode cX1_play 24 = .ok (.getfield 19, 3) := by decide +kernel
theorem dX1_play_27 : decode cX1_play 27 = .ok (.iconst 0, 1) := by decide +kernel
theorem dX1_play_28 : decode cX1_play 28 = .ok (.aload_n 0, 1) := by decide +kernel
theorem dX1_play_29 : decode cX1_play 29 = .ok (.getfield 25, 3) := by decide +kernel
theorem dX1_play_32 : decode cX1_play 32 = .ok (.getfield 76, 3) := by decide +kernel
theorem dX1_play_35 : decode cX1_play 35 = .ok (.invokestatic 65, 3) := by decide +kernel
theorem dX1_play_38 : decode cX1_play 38 = .ok (.iconst 0, 1) := by decide +kernel
theorem dX1_play_39 : decode cX1_play 39 = .ok (.istore_n 3, 1) := by decide +kernel
theorem dX1_play_40 : decode cX1_play 40 = .ok (.iload_n 3, 1) := by decide +kernel
theorem dX1_play_41 : decode cX1_play 41 = .ok (.aload_n 0, 1) := by decide +kernel
theorem dX1_play_42 : decode cX1_play 42 = .ok (.getfield 15, 3) := by decide +kernel
theorem dX1_play_45 : decode cX1_play 45 = .ok (.if_icmp .ge 76, 3) := by decide +kernel
theorem dX1_play_48 : decode cX1_play 48 = .ok (.aload_n 0, 1) := by decide +kernel
theorem dX1_play_49 : decode cX1_play 49 = .ok (.getfield 9, 3) := by decide +kernel
theorem dX1_play_52 : decode cX1_play 52 = .ok (.iload_n 3, 1) := by decide +kernel
theorem dX1_play_53 : decode cX1_play 53 = .ok (.invokestatic 41, 3) := by decide +kernel
theorem dX1_play_56 : decode cX1_play 56 = .ok (.istore 4, 2) := by decide +kernel
theorem dX1_play_58 : decode cX1_play 58 = .ok (.iload 4, 2) := by decide +kernel
theorem dX1_play_60 : decode cX1_play 60 = .ok (.aload_n 1, 1) := by decide +kernel
theorem dX1_play_61 : decode cX1_play 61 = .ok (.iload_n 2, 1) := by decide +kernel
theorem dX1_play_62 : decode cX1_play 62 = .ok (.aload_n 0, 1) := by decide +kernel
theorem dX1_play_63 : decode cX1_play 63 = .ok (.getfield 25, 3) := by decide +kernel
theorem dX1_play_66 : decode cX1_play 66 = .ok (.invokestatic 77, 3) := by decide +kernel
theorem dX1_play_69 : decode cX1_play 69 = .ok (.istore 5, 2) := by decide +kernel
theorem dX1_play_71 : decode cX1_play 71 = .ok (.iload 5, 2) := by decide +kernel
theorem dX1_play_73 : decode cX1_play 73 = .ok (.ifCond .eq 15, 3) := by decide +kernel
theorem dX1_play_76 : decode cX1_play 76 = .ok (.aload_n 0, 1) := by decide +kernel
theorem dX1_play_77 : decode cX1_play 77 = .ok (.iload_n 3, 1) := by decide +kernel
theorem dX1_play_78 : decode cX1_play 78 = .ok (.putfield 29, 3) := by decide +kernel
theorem dX1_play_81 : decode cX1_play 81 = .ok (.aload_n 0, 1) := by decide +kernel
theorem dX1_play_82 : decode cX1_play 82 = .ok (.iload 5, 2) := by decide +kernel
theorem dX1_play_84 : decode cX1_play 84 = .ok (.putfield 32, 3) := by decide +kernel
theorem dX1_play_87 : decode cX1_play 87 = .ok (.return_, 1) := by decide +kernel
theorem dX1_play_88 : decode cX1_play 88 = .ok (.aload_n 0, 1) := by decide +kernel
theorem dX1_play_89 : decode cX1_play 89 = .ok (.getfield 25, 3) := by decide +kernel
theorem dX1_play_92 : decode cX1_play 92 = .ok (.iload 4, 2) := by decide +kernel
theorem dX1_play_94 : decode cX1_play 94 = .ok (.iload_n 2, 1) := by decide +kernel
theorem dX1_play_95 : decode cX1_play 95 = .ok (.invokevirtual 81, 3) := by decide +kernel
theorem dX1_play_98 : decode cX1_play 98 = .ok (.aload_n 0, 1) := by decide +kernel
theorem dX1_play_99 : decode cX1_play 99 = .ok (.getfield 19, 3) := by decide +kernel
theorem dX1_play_102 : decode cX1_play 102 = .ok (.iload_n 3, 1) := by decide +kernel
theorem dX1_play_103 : decode cX1_play 103 = .ok (.iconst 1, 1) := by decide +kernel
theorem dX1_play_104 : decode cX1_play 104 = .ok (.iadd, 1) := by decide +kernel
theorem dX1_play_105 : decode cX1_play 105 = .ok (.aload_n 0, 1) := by decide +kernel
theorem dX1_play_106 : decode cX1_play 106 = .ok (.getfield 25, 3) := by decide +kernel
theorem dX1_play_109 : decode cX1_play 109 = .ok (.getfield 76, 3) := by decide +kernel
theorem dX1_play_112 : decode cX1_play 112 = .ok (.invokestatic 65, 3) := by decide +kernel
theorem dX1_play_115 : decode cX1_play 115 = .ok (.iinc 3 1, 3) := by decide +kernel
theorem dX1_play_118 : decode cX1_play 118 = .ok (.goto (-78), 3) := by decide +kernel
theorem dX1_play_121 : decode cX1_play 121 = .ok (.return_, 1) := by decide +kernel
theorem dX1_lowest_0 : decode cX1_lowest 0 = .ok (.aload_n 0, 1) := by decide +kernel
theorem dX1_lowest_1 : decode cX1_lowest 1 = .ok (.getfield 19, 3) := by decide +kernel
theorem dX1_lowest_4 : decode cX1_lowest 4 = .ok (.iconst 0, 1) := by decide +kernel
theorem dX1_lowest_5 : decode cX1_lowest 5 = .ok (.invokestatic 41, 3) := by decide +kernel
theorem dX1_lowest_8 : decode cX1_lowest 8 = .ok (.istore_n 1, 1) := by decide +kernel
theorem dX1_lowest_9 : decode cX1_lowest 9 = .ok (.iconst 1, 1) := by decide +kernel
theorem dX1_lowest_10 : decode cX1_lowest 10 = .ok (.istore_n 2, 1) := by decide +kernel
theorem dX1_lowest_11 : decode cX1_lowest 11 = .ok (.iload_n 2, 1) := by decide +kernel
theorem dX1_lowest_12 : decode cX1_lowest 12 = .ok (.aload_n 0, 1) := by decide +kernel
theorem dX1_lowest_13 : decode cX1_lowest 13 = .ok (.getfield 15, 3) := by decide +kernel
theorem dX1_lowest_16 : decode cX1_lowest 16 = .ok (.if_icmp .gt 22, 3) := by decide +kernel
theorem dX1_lowest_19 : decode cX1_lowest 19 = .ok (.iload_n 1, 1) := by decide +kernel
theorem dX1_lowest_20 : decode cX1_lowest 20 = .ok (.aload_n 0, 1) := by decide +kernel
theorem dX1_lowest_21 : decode cX1_lowest 21 = .ok (.getfield 19, 3) := by decide +kernel
theorem dX1_lowest_24 : decode cX1_lowest 24 = .ok (.iload_n 2, 1) := by decide +kernel
theorem dX1_lowest_25 : decode cX1_lowest 25 = .ok (.invokestatic 41, 3) := by decide +kernel
theorem dX1_lowest_28 : decode cX1_lowest 28 = .ok (.invokestatic 85, 3) := by decide +kernel
theorem dX1_lowest_31 : decode cX1_lowest 31 = .ok (.istore_n 1, 1) := by decide +kernel
theorem dX1_lowest_32 : decode cX1_lowest 32 = .ok (.iinc 2 1, 3) := by decide +kernel
theorem dX1_lowest_35 : decode cX1_lowest 35 = .ok (.goto (-24), 3) := by decide +kernel
theorem dX1_lowest_38 : decode cX1_lowest 38 = .ok (.iload_n 1, 1) := by decide +kernel
theorem dX1_lowest_39 : decode cX1_lowest 39 = .ok (.ireturn, 1) := by decide +kernel
theorem dX1_highest_0 : decode cX1_highest 0 = .ok (.aload_n 0, 1) := by decide +kernel
theorem dX1_highest_1 : decode cX1_highest 1 = .ok (.getfield 19, 3) := by decide +kernel
theorem dX1_highest_4 : decode cX1_highest 4 = .ok (.iconst 0, 1) := by decide +kernel
theorem dX1_highest_5 : decode cX1_highest 5 = .ok (.invokestatic 41, 3) := by decide +kernel
theorem dX1_highest_8 : decode cX1_highest 8 = .ok (.istore_n 1, 1) := by decide +kernel
theorem dX1_highest_9 : decode cX1_highest 9 = .ok (.iconst 1, 1) := by decide +kernel
theorem dX1_highest_10 : decode cX1_highest 10 = .ok (.istore_n 2, 1) := by decide +kernel
theorem dX1_highest_11 : decode cX1_highest 11 = .ok (.iload_n 2, 1) := by decide +kernel
theorem dX1_highest_12 : decode cX1_highest 12 = .ok (.aload_n 0, 1) := by decide +kernel
theorem dX1_highest_13 : decode cX1_highest 13 = .ok (.getfield 15, 3) := by decide +kernel
theorem dX1_highest_16 : decode cX1_highest 16 = .ok (.if_icmp .gt 22, 3) := by decide +kernel
theorem dX1_highest_19 : decode cX1_highest 19 = .ok (.iload_n 1, 1) := by decide +kernel
theorem dX1_highest_20 : decode cX1_highest 20 = .ok (.aload_n 0, 1) := by decide +kernel
theorem dX1_highest_21 : decode cX1_highest 21 = .ok (.getfield 19, 3) := by decide +kernel
theorem dX1_highest_24 : decode cX1_highest 24 = .ok (.iload_n 2, 1) := by decide +kernel
theorem dX1_highest_25 : decode cX1_highest 25 = .ok (.invokestatic 41, 3) := by decide +kernel
theorem dX1_highest_28 : decode cX1_highest 28 = .ok (.invokestatic 91, 3) := by decide +kernel
theorem dX1_highest_31 : decode cX1_highest 31 = .ok (.istore_n 1, 1) := by decide +kernel
theorem dX1_highest_32 : decode cX1_highest 32 = .ok (.iinc 2 1, 3) := by decide +kernel
theorem dX1_highest_35 : decode cX1_highest 35 = .ok (.goto (-24), 3) := by decide +kernel
theorem dX1_highest_38 : decode cX1_highest 38 = .ok (.iload_n 1, 1) := by decide +kernel
theorem dX1_highest_39 : decode cX1_highest 39 = .ok (.ireturn, 1) := by decide +kernel
theorem dX1_remarkTaking_0 : decode cX1_remarkTaking 0 = .ok (.iconst 0, 1) := by decide +kernel
theorem dX1_remarkTaking_1 : decode cX1_remarkTaking 1 = .ok (.istore_n 2, 1) := by decide +kernel
theorem dX1_remarkTaking_2 : decode cX1_remarkTaking 2 = .ok (.iload_n 2, 1) := by decide +kernel
theorem dX1_remarkTaking_3 : decode cX1_remarkTaking 3 = .ok (.aload_n 0, 1) := by decide +kernel
theorem dX1_remarkTaking_4 : decode cX1_remarkTaking 4 = .ok (.getfield 15, 3) := by decide +kernel
theorem dX1_remarkTaking_7 : decode cX1_remarkTaking 7 = .ok (.if_icmp .ge 25, 3) := by decide +kernel
theorem dX1_remarkTaking_10 : decode cX1_remarkTaking 10 = .ok (.aload_n 0, 1) := by decide +kernel
theorem dX1_remarkTaking_11 : decode cX1_remarkTaking 11 = .ok (.getfield 19, 3) := by decide +kernel
theorem dX1_remarkTaking_14 : decode cX1_remarkTaking 14 = .ok (.iload_n 2, 1) := by decide +kernel
theorem dX1_remarkTaking_15 : decode cX1_remarkTaking 15 = .ok (.iconst 1, 1) := by decide +kernel
theorem dX1_remarkTaking_16 : decode cX1_remarkTaking 16 = .ok (.iadd, 1) := by decide +kernel
theorem dX1_remarkTaking_17 : decode cX1_remarkTaking 17 = .ok (.invokestatic 41, 3) := by decide +kernel
theorem dX1_remarkTaking_20 : decode cX1_remarkTaking 20 = .ok (.iload_n 1, 1) := by decide +kernel
theorem dX1_remarkTaking_21 : decode cX1_remarkTaking 21 = .ok (.if_icmp .gt 5, 3) := by decide +kernel
theorem dX1_remarkTaking_24 : decode cX1_remarkTaking 24 = .ok (.iload_n 2, 1) := by decide +kernel
theorem dX1_remarkTaking_25 : decode cX1_remarkTaking 25 = .ok (.ireturn, 1) := by decide +kernel
theorem dX1_remarkTaking_26 : decode cX1_remarkTaking 26 = .ok (.iinc 2 1, 3) := by decide +kernel
theorem dX1_remarkTaking_29 : decode cX1_remarkTaking 29 = .ok (.goto (-27), 3) := by decide +kernel
theorem dX1_remarkTaking_32 : decode cX1_remarkTaking 32 = .ok (.bipush (-6), 2) := by decide +kernel
theorem dX1_remarkTaking_34 : decode cX1_remarkTaking 34 = .ok (.ireturn, 1) := by decide +kernel
theorem dX1_habitOf_0 : decode cX1_habitOf 0 = .ok (.iconst 0, 1) := by decide +kernel
theorem dX1_habitOf_1 : decode cX1_habitOf 1 = .ok (.istore_n 3, 1) := by decide +kernel
theorem dX1_habitOf_2 : decode cX1_habitOf 2 = .ok (.iconst 0, 1) := by decide +kernel
theorem dX1_habitOf_3 : decode cX1_habitOf 3 = .ok (.istore 4, 2) := by decide +kernel
theorem dX1_habitOf_5 : decode cX1_habitOf 5 = .ok (.iload 4, 2) := by decide +kernel
theorem dX1_habitOf_7 : decode cX1_habitOf 7 = .ok (.aload_n 0, 1) := by decide +kernel
theorem dX1_habitOf_8 : decode cX1_habitOf 8 = .ok (.getfield 15, 3) := by decide +kernel
theorem dX1_habitOf_11 : decode cX1_habitOf 11 = .ok (.if_icmp .ge 54, 3) := by decide +kernel
theorem dX1_habitOf_14 : decode cX1_habitOf 14 = .ok (.aload_n 0, 1) := by decide +kernel
theorem dX1_habitOf_15 : decode cX1_habitOf 15 = .ok (.getfield 9, 3) := by decide +kernel
theorem dX1_habitOf_18 : decode cX1_habitOf 18 = .ok (.iload 4, 2) := by decide +kernel
theorem dX1_habitOf_20 : decode cX1_habitOf 20 = .ok (.invokestatic 41, 3) := by decide +kernel
theorem dX1_habitOf_23 : decode cX1_habitOf 23 = .ok (.istore 5, 2) := by decide +kernel
theorem dX1_habitOf_25 : decode cX1_habitOf 25 = .ok (.iload 5, 2) := by decide +kernel
theorem dX1_habitOf_27 : decode cX1_habitOf 27 = .ok (.invokestatic 94, 3) := by decide +kernel
theorem dX1_habitOf_30 : decode cX1_habitOf 30 = .ok (.ifCond .eq 29, 3) := by decide +kernel
theorem dX1_habitOf_33 : decode cX1_habitOf 33 = .ok (.iload 5, 2) := by decide +kernel
theorem dX1_habitOf_35 : decode cX1_habitOf 35 = .ok (.invokestatic 97, 3) := by decide +kernel
theorem dX1_habitOf_38 : decode cX1_habitOf 38 = .ok (.iload_n 1, 1) := by decide +kernel
theorem dX1_habitOf_39 : decode cX1_habitOf 39 = .ok (.if_icmp .ne 20, 3) := by decide +kernel
theorem dX1_habitOf_42 : decode cX1_habitOf 42 = .ok (.iload_n 3, 1) := by decide +kernel
theorem dX1_habitOf_43 : decode cX1_habitOf 43 = .ok (.iload 5, 2) := by decide +kernel
theorem dX1_habitOf_45 : decode cX1_habitOf 45 = .ok (.iload_n 2, 1) := by decide +kernel
theorem dX1_habitOf_46 : decode cX1_habitOf 46 = .ok (.invokestatic 100, 3) := by decide +kernel
theorem dX1_habitOf_49 : decode cX1_habitOf 49 = .ok (.ifCond .eq 7, 3) := by decide +kernel
theorem dX1_habitOf_52 : decode cX1_habitOf 52 = .ok (.iconst 1, 1) := by decide +kernel
theorem dX1_habitOf_53 : decode cX1_habitOf 53 = .ok (.goto 4, 3) := by decide +kernel
theorem dX1_habitOf_56 : decode cX1_habitOf 56 = .ok (.iconst 2, 1) := by decide +kernel
theorem dX1_habitOf_57 : decode cX1_habitOf 57 = .ok (.ior, 1) := by decide +kernel
theorem dX1_habitOf_58 : decode cX1_habitOf 58 = .ok (.istore_n 3, 1) := by decide +kernel
theorem dX1_habitOf_59 : decode cX1_habitOf 59 = .ok (.iinc 4 1, 3) := by decide +kernel
theorem dX1_habitOf_62 : decode cX1_habitOf 62 = .ok (.goto (-57), 3) := by decide +kernel
theorem dX1_habitOf_65 : decode cX1_habitOf 65 = .ok (.iload_n 3, 1) := by decide +kernel
theorem dX1_habitOf_66 : decode cX1_habitOf 66 = .ok (.ireturn, 1) := by decide +kernel
theorem dX2_init_0 : decode cX2_init 0 = .ok (.aload_n 0, 1) := by decide +kernel
theorem dX2_init_1 : decode cX2_init 1 = .ok (.invokespecial 3, 3) := by decide +kernel
theorem dX2_init_4 : decode cX2_init 4 = .ok (.aload_n 0, 1) := by decide +kernel
theorem dX2_init_5 : decode cX2_init 5 = .ok (.bipush 30, 2) := by decide +kernel
theorem dX2_init_7 : decode cX2_init 7 = .ok (.newarray .int, 2) := by decide +kernel
theorem dX2_init_9 : decode cX2_init 9 = .ok (.putfield 9, 3) := by decide +kernel
theorem dX2_init_12 : decode cX2_init 12 = .ok (.aload_n 0, 1) := by decide +kernel
theorem dX2_init_13 : decode cX2_init 13 = .ok (.bipush 30, 2) := by decide +kernel
theorem dX2_init_15 : decode cX2_init 15 = .ok (.newarray .int, 2) := by decide +kernel
theorem dX2_init_17 : decode cX2_init 17 = .ok (.putfield 15, 3) := by decide +kernel
theorem dX2_init_20 : decode cX2_init 20 = .ok (.aload_n 0, 1) := by decide +kernel
theorem dX2_init_21 : decode cX2_init 21 = .ok (.bipush 30, 2) := by decide +kernel
theorem dX2_init_23 : decode cX2_init 23 = .ok (.newarray .int, 2) := by decide +kernel
theorem dX2_init_25 : decode cX2_init 25 = .ok (.putfield 18, 3) := by decide +kernel
theorem dX2_init_28 : decode cX2_init 28 = .ok (.aload_n 0, 1) := by decide +kernel
theorem dX2_init_29 : decode cX2_init 29 = .ok (.iconst 0, 1) := by decide +kernel
theorem dX2_init_30 : decode cX2_init 30 = .ok (.putfield 21, 3) := by decide +kernel
theorem dX2_init_33 : decode cX2_init 33 = .ok (.aload_n 0, 1) := by decide +kernel
theorem dX2_init_34 : decode cX2_init 34 = .ok (.bipush 20, 2) := by decide +kernel
theorem dX2_init_36 : decode cX2_init 36 = .ok (.putfield 25, 3) := by decide +kernel
theorem dX2_init_39 : decode cX2_init 39 = .ok (.aload_n 0, 1) := by decide +kernel
theorem dX2_init_40 : decode cX2_init 40 = .ok (.iconst 0, 1) := by decide +kernel
theorem dX2_init_41 : decode cX2_init 41 = .ok (.putfield 28, 3) := by decide +kernel
theorem dX2_init_44 : decode cX2_init 44 = .ok (.aload_n 0, 1) := by decide +kernel
theorem dX2_init_45 : decode cX2_init 45 = .ok (.iconst 0, 1) := by decide +kernel
theorem dX2_init_46 : decode cX2_init 46 = .ok (.putfield 31, 3) := by decide +kernel
theorem dX2_init_49 : decode cX2_init 49 = .ok (.aload_n 0, 1) := by decide +kernel
theorem dX2_init_50 : decode cX2_init 50 = .ok (.iconst (-1), 1) := by decide +kernel
theorem dX2_init_51 : decode cX2_init 51 = .ok (.putfield 34, 3) := by decide +kernel
theorem dX2_init_54 : decode cX2_init 54 = .ok (.return_, 1) := by decide +kernel
theorem dX2_restart_0 : decode cX2_restart 0 = .ok (.aload_n 0, 1) := by decide +kernel
theorem dX2_restart_1 : decode cX2_restart 1 = .ok (.iconst 0, 1) := by decide +kernel
theorem dX2_restart_2 : decode cX2_restart 2 = .ok (.putfield 21, 3) := by decide +kernel
theorem dX2_restart_5 : decode cX2_restart 5 = .ok (.aload_n 0, 1) := by decide +kernel
theorem dX2_restart_6 : decode cX2_restart 6 = .ok (.bipush 20, 2) := by decide +kernel
theorem dX2_restart_8 : decode cX2_restart 8 = .ok (.putfield 25, 3) := by decide +kernel
theorem dX2_restart_11 : decode cX2_restart 11 = .ok (.return_, 1) := by decide +kernel
theorem dX2_copyFrom_0 : decode cX2_copyFrom 0 = .ok (.aload_n 1, 1) := by decide +kernel
theorem dX2_copyFrom_1 : decode cX2_copyFrom 1 = .ok (.getfield 9, 3) := by decide +kernel
theorem dX2_copyFrom_4 : decode cX2_copyFrom 4 = .ok (.aload_n 0, 1) := by decide +kernel
theorem dX2_copyFrom_5 : decode cX2_copyFrom 5 = .ok (.getfield 9, 3) := by decide +kernel
theorem dX2_copyFrom_8 : decode cX2_copyFrom 8 = .ok (.invokestatic 37, 3) := by decide +kernel
theorem dX2_copyFrom_11 : decode cX2_copyFrom 11 = .ok (.aload_n 1, 1) := by decide +kernel
theorem dX2_copyFrom_12 : decode cX2_copyFrom 12 = .ok (.getfield 15, 3) := by decide +kernel
theorem dX2_copyFrom_15 : decode cX2_copyFrom 15 = .ok (.aload_n 0, 1) := by decide +kernel
theorem dX2_copyFrom_16 : decode cX2_copyFrom 16 = .ok (.getfield 15, 3) := by decide +kernel
theorem dX2_copyFrom_19 : decode cX2_copyFrom 19 = .ok (.invokestatic 37, 3) := by decide +kernel
theorem dX2_copyFrom_22 : decode cX2_copyFrom 22 = .ok (.aload_n 1, 1) := by decide +kernel
theorem dX2_copyFrom_23 : decode cX2_copyFrom 23 = .ok (.getfield 18, 3) := by decide +kernel
theorem dX2_copyFrom_26 : decode cX2_copyFrom 26 = .ok (.aload_n 0, 1) := by decide +kernel
theorem dX2_copyFrom_27 : decode cX2_copyFrom 27 = .ok (.getfield 18, 3) := by decide +kernel
theorem dX2_copyFrom_30 : decode cX2_copyFrom 30 = .ok (.invokestatic 37, 3) := by decide +kernel
theorem dX2_copyFrom_33 : decode cX2_copyFrom 33 = .ok (.aload_n 0, 1) := by decide +kernel
theorem dX2_copyFrom_34 : decode cX2_copyFrom 34 = .ok (.aload_n 1, 1) := by decide +kernel
theorem dX2_copyFrom_35 : decode cX2_copyFrom 35 = .ok (.getfield 21, 3) := by decide +kernel
theorem dX2_copyFrom_38 : decode cX2_copyFrom 38 = .ok (.putfield 21, 3) := by decide +kernel
theorem dX2_copyFrom_41 : decode cX2_copyFrom 41 = .ok (.aload_n 0, 1) := by decide +kernel
theorem dX2_copyFrom_42 : decode cX2_copyFrom 42 = .ok (.aload_n 1, 1) := by decide +kernel
theorem dX2_copyFrom_43 : decode cX2_copyFrom 43 = .ok (.getfield 25, 3) := by decide +kernel
theorem dX2_copyFrom_46 : decode cX2_copyFrom 46 = .ok (.putfield 25, 3) := by decide +kernel
theorem dX2_copyFrom_49 : decode cX2_copyFrom 49 = .ok (.aload_n 0, 1) := by decide +kernel
theorem dX2_copyFrom_50 : decode cX2_copyFrom 50 = .ok (.iconst 0, 1) := by decide +kernel
theorem dX2_copyFrom_51 : decode cX2_copyFrom 51 = .ok (.putfield 28, 3) := by decide +kernel
theorem dX2_copyFrom_54 : decode cX2_copyFrom 54 = .ok (.aload_n 0, 1) := by decide +kernel
theorem dX2_copyFrom_55 : decode cX2_copyFrom 55 = .ok (.iconst 0, 1) := by decide +kernel
theorem dX2_copyFrom_56 : decode cX2_copyFrom 56 = .ok (.putfield 31, 3) := by decide +kernel
theorem dX2_copyFrom_59 : decode cX2_copyFrom 59 = .ok (.aload_n 0, 1) := by decide +kernel
theorem dX2_copyFrom_60 : decode cX2_copyFrom 60 = .ok (.iconst (-1), 1) := by decide +kernel
theorem dX2_copyFrom_61 : decode cX2_copyFrom 61 = .ok (.putfield 34, 3) := by decide +kernel
theorem dX2_copyFrom_64 : decode cX2_copyFrom 64 = .ok (.return_, 1) := by decide +kernel
theorem dX2_has_0 : decode cX2_has 0 = .ok (.iload_n 1, 1) := by decide +kernel
theorem dX2_has_1 : decode cX2_has 1 = .ok (.ifCond .lt 15, 3) := by decide +kernel
theorem dX2_has_4 : decode cX2_has 4 = .ok (.iload_n 1, 1) := by decide +kernel
theorem dX2_has_5 : decode cX2_has 5 = .ok (.aload_n 0, 1) := by decide +kernel
theorem dX2_has_6 : decode cX2_has 6 = .ok (.getfield 21, 3) := by decide +kernel
theorem dX2_has_9 : decode cX2_has 9 = .ok (.if_icmp .ge 7, 3) := by decide +kernel
theorem dX2_has_12 : decode cX2_has 12 = .ok (.iconst 1, 1) := by decide +kernel
theorem dX2_has_13 : decode cX2_has 13 = .ok (.goto 4, 3) := by decide +kernel
theorem dX2_has_16 : decode cX2_has 16 = .ok (.iconst 0, 1) := by decide +kernel
theorem dX2_has_17 : decode cX2_has 17 = .ok (.ireturn, 1) := by decide +kernel
theorem dX2_colourAt_0 : decode cX2_colourAt 0 = .ok (.aload_n 0, 1) := by decide +kernel
theorem dX2_colourAt_1 : decode cX2_colourAt 1 = .ok (.getfield 9, 3) := by decide +kernel
theorem dX2_colourAt_4 : decode cX2_colourAt 4 = .ok (.iload_n 1, 1) := by decide +kernel
theorem dX2_colourAt_5 : decode cX2_colourAt 5 = .ok (.invokestatic 41, 3) := by decide +kernel
theorem dX2_colourAt_8 : decode cX2_colourAt 8 = .ok (.ireturn, 1) := by decide +kernel
theorem dX2_kindAt_0 : decode cX2_kindAt 0 = .ok (.aload_n 0, 1) := by decide +kernel
theorem dX2_kindAt_1 : decode cX2_kindAt 1 = .ok (.getfield 15, 3) := by decide +kernel
theorem dX2_kindAt_4 : decode cX2_kindAt 4 = .ok (.iload_n 1, 1) := by decide +kernel
theorem dX2_kindAt_5 : decode cX2_kindAt 5 = .ok (.invokestatic 41, 3) := by decide +kernel
theorem dX2_kindAt_8 : decode cX2_kindAt 8 = .ok (.ireturn, 1) := by decide +kernel
theorem dX2_tellRow_0 : decode cX2_tellRow 0 = .ok (.iload_n 2, 1) := by decide +kernel
theorem dX2_tellRow_1 : decode cX2_tellRow 1 = .ok (.ifCond .ne 9, 3) := by decide +kernel
theorem dX2_tellRow_4 : decode cX2_tellRow 4 = .ok (.aload_n 0, 1) := by decide +kernel
theorem dX2_tellRow_5 : decode cX2_tellRow 5 = .ok (.iload_n 1, 1) := by decide +kernel
theorem dX2_tellRow_6 : decode cX2_tellRow 6 = .ok (.invokevirtual 45, 3) := by decide +kernel
theorem dX2_tellRow_9 : decode cX2_tellRow 9 = .ok (.ireturn, 1) := by decide +kernel
theorem dX2_tellRow_10 : decode cX2_tellRow 10 = .ok (.iload_n 2, 1) := by decide +kernel
theorem dX2_tellRow_11 : decode cX2_tellRow 11 = .ok (.iconst 1, 1) := by decide +kernel
theorem dX2_tellRow_12 : decode cX2_tellRow 12 = .ok (.if_icmp .ne 11, 3) := by decide +kernel
theorem dX2_tellRow_15 : decode cX2_tellRow 15 = .ok (.aload_n 0, 1) := by decide +kernel
theorem dX2_tellRow_16 : decode cX2_tellRow 16 = .ok (.iload_n 1, 1) := by decide +kernel
theorem dX2_tellRow_17 : decode cX2_tellRow 17 = .ok (.invokevirtual 49, 3) := by decide +kernel
theorem dX2_tellRow_20 : decode cX2_tellRow 20 = .ok (.goto 11, 3) := by decide +kernel
theorem dX2_tellRow_23 : decode cX2_tellRow 23 = .ok (.aload_n 0, 1) := by decide +kernel
theorem dX2_tellRow_24 : decode cX2_tellRow 24 = .ok (.getfield 18, 3) := by decide +kernel
theorem dX2_tellRow_27 : decode cX2_tellRow 27 = .ok (.iload_n 1, 1) := by decide +kernel
theorem dX2_tellRow_28 : decode cX2_tellRow 28 = .ok (.invokestatic 41, 3) := by decide +kernel
theorem dX2_tellRow_31 : decode cX2_tellRow 31 = .ok (.ireturn, 1) := by decide +kernel
theorem dX2_hear_0 : decode cX2_hear 0 = .ok (.aload_n 0, 1) := by decide +kernel
theorem dX2_hear_1 : decode cX2_hear 1 = .ok (.getfield 34, 3) := by decide +kernel
theorem dX2_hear_4 : decode cX2_hear 4 = .ok (.istore_n 3, 1) := by decide +kernel
theorem dX2_hear_5 : decode cX2_hear 5 = .ok (.aload_n 0, 1) := by decide +kernel
theorem dX2_hear_6 : decode cX2_hear 6 = .ok (.iconst (-1), 1) := by decide +kernel
theorem dX2_hear_7 : decode cX2_hear 7 = .ok (.putfield 34, 3) := by decide +kernel
theorem dX2_hear_10 : decode cX2_hear 10 = .ok (.iload_n 1, 1) := by decide +kernel
theorem dX2_hear_11 : decode cX2_hear 11 = .ok (.bipush 101, 2) := by decide +kernel
theorem dX2_hear_13 : decode cX2_hear 13 = .ok (.if_icmp .ne 16, 3) := by decide +kernel
theorem dX2_hear_16 : decode cX2_hear 16 = .ok (.aload_n 0, 1) := by decide +kernel
theorem dX2_hear_17 : decode cX2_hear 17 = .ok (.dup, 1) := by decide +kernel
theorem dX2_hear_18 : decode cX2_hear 18 = .ok (.getfield 25, 3) := by decide +kernel
theorem dX2_hear_21 : decode cX2_hear 21 = .ok (.iconst 1, 1) := by decide +kernel
theorem dX2_hear_22 : decode cX2_hear 22 = .ok (.isub, 1) := by decide +kernel
theorem dX2_hear_23 : decode cX2_hear 23 = .ok (.putfield 25, 3) := by decide +kernel
theorem dX2_hear_26 : decode cX2_hear 26 = .ok (.goto 76, 3) := by decide +kernel
theorem dX2_hear_29 : decode cX2_hear 29 = .ok (.iload_n 1, 1) := by decide +kernel
theorem dX2_hear_30 : decode cX2_hear 30 = .ok (.bipush 102, 2) := by decide +kernel
theorem dX2_hear_32 : decode cX2_hear 32 = .ok (.if_icmp .ne 10, 3) := by decide +kernel
theorem dX2_hear_35 : decode cX2_hear 35 = .ok (.aload_n 0, 1) := by decide +kernel
theorem dX2_hear_36 : decode cX2_hear 36 = .ok (.invokevirtual 52, 3) := by decide +kernel
theorem dX2_hear_39 : decode cX2_hear 39 = .ok (.goto 63, 3) := by decide +kernel
theorem dX2_hear_42 : decode cX2_hear 42 = .ok (.iload_n 1, 1) := by decide +kernel
theorem dX2_hear_43 : decode cX2_hear 43 = .ok (.bipush 100, 2) := by decide +kernel
theorem dX2_hear_45 : decode cX2_hear 45 = .ok (.if_icmp .ne 13, 3) := by decide +kernel
theorem dX2_hear_48 : decode cX2_hear 48 = .ok (.aload_n 0, 1) := by decide +kernel
theorem dX2_hear_49 : decode cX2_hear 49 = .ok (.bipush 6, 2) := by decide +kernel
theorem dX2_hear_51 : decode cX2_hear 51 = .ok (.iconst 2, 1) := by decide +kernel
theorem dX2_hear_52 : decode cX2_hear 52 = .ok (.invokevirtual 55, 3) := by decide +kernel
theorem dX2_hear_55 : decode cX2_hear 55 = .ok (.goto 47, 3) := by decide +kernel
theorem dX2_hear_58 : decode cX2_hear 58 = .ok (.iload_n 1, 1) := by decide +kernel
theorem dX2_hear_59 : decode cX2_hear 59 = .ok (.iload_n 2, 1) := by decide +kernel
theorem dX2_hear_60 : decode cX2_hear 60 = .ok (.invokestatic 59, 3) := by decide +kernel
theorem dX2_hear_63 : decode cX2_hear 63 = .ok (.ifCond .eq 10, 3) := by decide +kernel
theorem dX2_hear_66 : decode cX2_hear 66 = .ok (.aload_n 0, 1) := by decide +kernel
theorem dX2_hear_67 : decode cX2_hear 67 = .ok (.invokevirtual 63, 3) := by decide +kernel
theorem dX2_hear_70 : decode cX2_hear 70 = .ok (.goto 32, 3) := by decide +kernel
theorem dX2_hear_73 : decode cX2_hear 73 = .ok (.aload_n 0, 1) := by decide +kernel
theorem dX2_hear_74 : decode cX2_hear 74 = .ok (.iload_n 1, 1) := by decide +kernel
theorem dX2_hear_75 : decode cX2_hear 75 = .ok (.invokestatic 66, 3) := by decide +kernel
theorem dX2_hear_78 : decode cX2_hear 78 = .ok (.putfield 34, 3) := by decide +kernel
theorem dX2_hear_81 : decode cX2_hear 81 = .ok (.aload_n 0, 1) := by decide +kernel
theorem dX2_hear_82 : decode cX2_hear 82 = .ok (.aload_n 0, 1) := by decide +kernel
theorem dX2_hear_83 : decode cX2_hear 83 = .ok (.getfield 34, 3) := by decide +kernel
theorem dX2_hear_86 : decode cX2_hear 86 = .ok (.aload_n 0, 1) := by decide +kernel
theorem dX2_hear_87 : decode cX2_hear 87 = .ok (.getfield 34, 3) := by decide +kernel
theorem dX2_hear_90 : decode cX2_hear 90 = .ok (.iload_n 3, 1) := by decide +kernel
theorem dX2_hear_91 : decode cX2_hear 91 = .ok (.if_icmp .ne 7, 3) := by decide +kernel
theorem dX2_hear_94 : decode cX2_hear 94 = .ok (.iconst 1, 1) := by decide +kernel
theorem dX2_hear_95 : decode cX2_hear 95 = .ok (.goto 4, 3) := by decide +kernel
theorem dX2_hear_98 : decode cX2_hear 98 = .ok (.iconst 0, 1) := by decide +kernel
theorem dX2_hear_99 : decode cX2_hear 99 = .ok (.invokevirtual 55, 3) := by decide +kernel
theorem dX2_hear_102 : decode cX2_hear 102 = .ok (.return_, 1) := by decide +kernel
theorem dX2_lay_0 : decode cX2_lay 0 = .ok (.aload_n 0, 1) := by decide +kernel
theorem dX2_lay_1 : decode cX2_lay 1 = .ok (.getfield 9, 3) := by decide +kernel
theorem dX2_lay_4 : decode cX2_lay 4 = .ok (.aload_n 0, 1) := by decide +kernel
theorem dX2_lay_5 : decode cX2_lay 5 = .ok (.getfield 21, 3) := by decide +kernel
theorem dX2_lay_8 : decode cX2_lay 8 = .ok (.iload_n 1, 1) := by decide +kernel
theorem dX2_lay_9 : decode cX2_lay 9 = .ok (.invokestatic 69, 3) := by decide +kernel
theorem dX2_lay_12 : decode cX2_lay 12 = .ok (.aload_n 0, 1) := by decide +kernel
theorem dX2_lay_13 : decode cX2_lay 13 = .ok (.getfield 15, 3) := by decide +kernel
theorem dX2_lay_16 : decode cX2_lay 16 = .ok (.aload_n 0, 1) := by decide +kernel
theorem dX2_lay_17 : decode cX2_lay 17 = .ok (.getfield 21, 3) := by decide +kernel
theorem dX2_lay_20 : decode cX2_lay 20 = .ok (.iload_n 2, 1) := by decide +kernel
theorem dX2_lay_21 : decode cX2_lay 21 = .ok (.invokestatic 69, 3) := by decide +kernel
theorem dX2_lay_24 : decode cX2_lay 24 = .ok (.aload_n 0, 1) := by decide +kernel
theorem dX2_lay_25 : decode cX2_lay 25 = .ok (.getfield 18, 3) := by decide +kernel
theorem dX2_lay_28 : decode cX2_lay 28 = .ok (.aload_n 0, 1) := by decide +kernel
theorem dX2_lay_29 : decode cX2_lay 29 = .ok (.getfield 21, 3) := by decide +kernel
theorem dX2_lay_32 : decode cX2_lay 32 = .ok (.aload_n 0, 1) := by decide +kernel
theorem dX2_lay_33 : decode cX2_lay 33 = .ok (.getfield 25, 3) := by decide +kernel
theorem dX2_lay_36 : decode cX2_lay 36 = .ok (.invokestatic 69, 3) := by decide +kernel
theorem dX2_lay_39 : decode cX2_lay 39 = .ok (.aload_n 0, 1) := by decide +kernel
theorem dX2_lay_40 : decode cX2_lay 40 = .ok (.dup, 1) := by decide +kernel
theorem dX2_lay_41 : decode cX2_lay 41 = .ok (.getfield 21, 3) := by decide +kernel
theorem dX2_lay_44 : decode cX2_lay 44 = .ok (.iconst 1, 1) := by decide +kernel
theorem dX2_lay_45 : decode cX2_lay 45 = .ok (.iadd, 1) := by decide +kernel
theorem dX2_lay_46 : decode cX2_lay 46 = .ok (.putfield 21, 3) := by decide +kernel
theorem dX2_lay_49 : decode cX2_lay 49 = .ok (.aload_n 0, 1) := by decide +kernel
theorem dX2_lay_50 : decode cX2_lay 50 = .ok (.dup, 1) := by decide +kernel
theorem dX2_lay_51 : decode cX2_lay 51 = .ok (.getfield 28, 3) := by decide +kernel
theorem dX2_lay_54 : decode cX2_lay 54 = .ok (.iconst 1, 1) := by decide +kernel
theorem dX2_lay_55 : decode cX2_lay 55 = .ok (.iadd, 1) := by decide +kernel
theorem dX2_lay_56 : decode cX2_lay 56 = .ok (.putfield 28, 3) := by decide +kernel
theorem dX2_lay_59 : decode cX2_lay 59 = .ok (.return_, 1) := by decide +kernel
theorem dX2_dropTop_0 : decode cX2_dropTop 0 = .ok (.aload_n 0, 1) := by decide +kernel
theorem dX2_dropTop_1 : decode cX2_dropTop 1 = .ok (.getfield 21, 3) := by decide +kernel
theorem dX2_dropTop_4 : decode cX2_dropTop 4 = .ok (.ifCond .le 23, 3) := by decide +kernel
theorem dX2_dropTop_7 : decode cX2_dropTop 7 = .ok (.aload_n 0, 1) := by decide +kernel
theorem dX2_dropTop_8 : decode cX2_dropTop 8 = .ok (.dup, 1) := by decide +kernel
theorem dX2_dropTop_9 : decode cX2_dropTop 9 = .ok (.getfield 21, 3) := by decide +kernel
theorem dX2_dropTop_12 : decode cX2_dropTop 12 = .ok (.iconst 1, 1) := by decide +kernel
theorem dX2_dropTop_13 : decode cX2_dropTop 13 = .ok (.isub, 1) := by decide +kernel
theorem dX2_dropTop_14 : decode cX2_dropTop 14 = .ok (.putfield 21, 3) := by decide +kernel
theorem dX2_dropTop_17 : decode cX2_dropTop 17 = .ok (.aload_n 0, 1) := by decide +kernel
theorem dX2_dropTop_18 : decode cX2_dropTop 18 = .ok (.dup, 1) := by decide +kernel
theorem dX2_dropTop_19 : decode cX2_dropTop 19 = .ok (.getfield 31, 3) := by decide +kernel
theorem dX2_dropTop_22 : decode cX2_dropTop 22 = .ok (.iconst 1, 1) := by decide +kernel
theorem dX2_dropTop_23 : decode cX2_dropTop 23 = .ok (.iadd, 1) := by decide +kernel
theorem dX2_dropTop_24 : decode cX2_dropTop 24 = .ok (.putfield 31, 3) := by decide +kernel
theorem dX2_dropTop_27 : decode cX2_dropTop 27 = .ok (.return_, 1) := by decide +kernel
theorem dX2_dropColour_0 : decode cX2_dropColour 0 = .ok (.aload_n 0, 1) := by decide +kernel
theorem dX2_dropColour_1 : decode cX2_dropColour 1 = .ok (.aload_n 0, 1) := by decide +kernel
theorem dX2_dropColour_2 : decode cX2_dropColour 2 = .ok (.getfield 21, 3) := by decide +kernel
theorem dX2_dropColour_5 : decode cX2_dropColour 5 = .ok (.iconst 1, 1) := by decide +kernel
theorem dX2_dropColour_6 : decode cX2_dropColour 6 = .ok (.isub, 1) := by decide +kernel
theorem dX2_dropColour_7 : decode cX2_dropColour 7 = .ok (.invokevirtual 45, 3) := by decide +kernel
theorem dX2_dropColour_10 : decode cX2_dropColour 10 = .ok (.istore_n 1, 1) := by decide +kernel
theorem dX2_dropColour_11 : decode cX2_dropColour 11 = .ok (.aload_n 0, 1) := by decide +kernel
theorem dX2_dropColour_12 : decode cX2_dropColour 12 = .ok (.getfield 21, 3) := by decide +kernel
theorem dX2_dropColour_15 : decode cX2_dropColour 15 = .ok (.iconst 1, 1) := by decide +kernel
theorem dX2_dropColour_16 : decode cX2_dropColour 16 = .ok (.isub, 1) := by decide +kernel
theorem dX2_dropColour_17 : decode cX2_dropColour 17 = .ok (.istore_n 2, 1) := by decide +kernel
theorem dX2_dropColour_18 : decode cX2_dropColour 18 = .ok (.iload_n 2, 1) := by decide +kernel
theorem dX2_dropColour_19 : decode cX2_dropColour 19 = .ok (.ifCond .lt 22, 3) := by decide +kernel
theorem dX2_dropColour_22 : decode cX2_dropColour 22 = .ok (.aload_n 0, 1) := by decide +kernel
theorem dX2_dropColour_23 : decode cX2_dropColour 23 = .ok (.iload_n 2, 1) := by decide +kernel
theorem dX2_dropColour_24 : decode cX2_dropColour 24 = .ok (.invokevirtual 45, 3) := by decide +kernel
theorem dX2_dropColour_27 : decode cX2_dropColour 27 = .ok (.iload_n 1, 1) := by decide +kernel
theorem dX2_dropColour_28 : decode cX2_dropColour 28 = .ok (.if_icmp .ne 13, 3) := by decide +kernel
theorem dX2_dropColour_31 : decode cX2_dropColour 31 = .ok (.aload_n 0, 1) := by decide +kernel
theorem dX2_dropColour_32 : decode cX2_dropColour 32 = .ok (.invokevirtual 63, 3) := by decide +kernel
theorem dX2_dropColour_35 : decode cX2_dropColour 35 = .ok (.iinc 2 (-1), 3) := by decide +kernel
theorem dX2_dropColour_38 : decode cX2_dropColour 38 = .ok (.goto (-20), 3) := by decide +kernel
theorem dX2_dropColour_41 : decode cX2_dropColour 41 = .ok (.return_, 1) := by decide +kernel
theorem dX3_init_0 : decode cX3_init 0 = .ok (.aload_n 0, 1) := by decide +kernel
theorem dX3_init_1 : decode cX3_init 1 = .ok (.invokespecial 3, 3) := by decide +kernel
theorem dX3_init_4 : decode cX3_init 4 = .ok (.aload_n 0, 1) := by decide +kernel
theorem dX3_init_5 : decode cX3_init 5 = .ok (.bipush 83, 2) := by decide +kernel
theorem dX3_init_7 : decode cX3_init 7 = .ok (.newarray .long, 2) := by decide +kernel
theorem dX3_init_9 : decode cX3_init 9 = .ok (.putfield 11, 3) := by decide +kernel
theorem dX3_init_12 : decode cX3_init 12 = .ok (.return_, 1) := by decide +kernel
theorem dX3_play_0 : decode cX3_play 0 = .ok (.iconst 0, 1) := by decide +kernel
theorem dX3_play_1 : decode cX3_play 1 = .ok (.istore 4, 2) := by decide +kernel
theorem dX3_play_3 : decode cX3_play 3 = .ok (.iload 4, 2) := by decide +kernel
theorem dX3_play_5 : decode cX3_play 5 = .ok (.bipush 83, 2) := by decide +kernel
theorem dX3_play_7 : decode cX3_play 7 = .ok (.if_icmp .ge 19, 3) := by decide +kernel
theorem dX3_play_10 : decode cX3_play 10 = .ok (.aload_n 0, 1) := by decide +kernel
theorem dX3_play_11 : decode cX3_play 11 = .ok (.getfield 11, 3) := by decide +kernel
theorem dX3_play_14 : decode cX3_play 14 = .ok (.iload 4, 2) := by decide +kernel
theorem dX3_play_16 : decode cX3_play 16 = .ok (.lconst 0, 1) := by decide +kernel
theorem dX3_play_17 : decode cX3_play 17 = .ok (.invokestatic 15, 3) := by decide +kernel
theorem dX3_play_20 : decode cX3_play 20 = .ok (.iinc 4 1, 3) := by decide +kernel
theorem dX3_play_23 : decode cX3_play 23 = .ok (.goto (-20), 3) := by decide +kernel
theorem dX3_play_26 : decode cX3_play 26 = .ok (.aload_n 0, 1) := by decide +kernel
theorem dX3_play_27 : decode cX3_play 27 = .ok (.getfield 11, 3) := by decide +kernel
theorem dX3_play_30 : decode cX3_play 30 = .ok (.iload_n 1, 1) := by decide +kernel
theorem dX3_play_31 : decode cX3_play 31 = .ok (.lconst 1, 1) := by decide +kernel
theorem dX3_play_32 : decode cX3_play 32 = .ok (.invokestatic 15, 3) := by decide +kernel
theorem dX3_play_35 : decode cX3_play 35 = .ok (.iconst 0, 1) := by decide +kernel
theorem dX3_play_36 : decode cX3_play 36 = .ok (.istore 4, 2) := by decide +kernel
theorem dX3_play_38 : decode cX3_play 38 = .ok (.iload 4, 2) := by decide +kernel
theorem dX3_play_40 : decode cX3_play 40 = .ok (.iload_n 2, 1) := by decide +kernel
theorem dX3_play_41 : decode cX3_play 41 = .ok (.if_icmp .ge 14, 3) := by decide +kernel
theorem dX3_play_44 : decode cX3_play 44 = .ok (.aload_n 0, 1) := by decide +kernel
theorem dX3_play_45 : decode cX3_play 45 = .ok (.iload_n 3, 1) := by decide +kernel
theorem dX3_play_46 : decode cX3_play 46 = .ok (.invokevirtual 19, 3) := by decide +kernel
theorem dX3_play_49 : decode cX3_play 49 = .ok (.iinc 4 1, 3) := by decide +kernel
theorem dX3_play_52 : decode cX3_play 52 = .ok (.goto (-14), 3) := by decide +kernel
theorem dX3_play_55 : decode cX3_play 55 = .ok (.return_, 1) := by decide +kernel
theorem dX3_step_0 : decode cX3_step 0 = .ok (.lconst 0, 1) := by decide +kernel
theorem dX3_step_1 : decode cX3_step 1 = .ok (.lstore_n 2, 1) := by decide +kernel
theorem dX3_step_2 : decode cX3_step 2 = .ok (.iconst 0, 1) := by decide +kernel
theorem dX3_step_3 : decode cX3_step 3 = .ok (.istore 4, 2) := by decide +kernel
theorem dX3_step_5 : decode cX3_step 5 = .ok (.iload 4, 2) := by decide +kernel
theorem dX3_step_7 : decode cX3_step 7 = .ok (.bipush 83, 2) := by decide +kernel
theorem dX3_step_9 : decode cX3_step 9 = .ok (.if_icmp .ge 70, 3) := by decide +kernel
theorem dX3_step_12 : decode cX3_step 12 = .ok (.aload_n 0, 1) := by decide +kernel
theorem dX3_step_13 : decode cX3_step 13 = .ok (.getfield 11, 3) := by decide +kernel
theorem dX3_step_16 : decode cX3_step 16 = .ok (.iload 4, 2) := by decide +kernel
theorem dX3_step_18 : decode cX3_step 18 = .ok (.invokestatic 23, 3) := by decide +kernel
theorem dX3_step_21 : decode cX3_step 21 = .ok (.lstore 5, 2) := by decide +kernel
theorem dX3_step_23 : decode cX3_step 23 = .ok (.aload_n 0, 1) := by decide +kernel
theorem dX3_step_24 : decode cX3_step 24 = .ok (.getfield 11, 3) := by decide +kernel
theorem dX3_step_27 : decode cX3_step 27 = .ok (.iload 4, 2) := by decide +kernel
theorem dX3_step_29 : decode cX3_step 29 = .ok (.iconst 1, 1) := by decide +kernel
theorem dX3_step_30 : decode cX3_step 30 = .ok (.iadd, 1) := by decide +kernel
theorem dX3_step_31 : decode cX3_step 31 = .ok (.invokestatic 23, 3) := by decide +kernel
theorem dX3_step_34 : decode cX3_step 34 = .ok (.iload 4, 2) := by decide +kernel
theorem dX3_step_36 : decode cX3_step 36 = .ok (.ifCond .ne 8, 3) := by decide +kernel
theorem dX3_step_39 : decode cX3_step 39 = .ok (.lload 5, 2) := by decide +kernel
theorem dX3_step_41 : decode cX3_step 41 = .ok (.goto 4, 3) := by decide +kernel
theorem dX3_step_44 : decode cX3_step 44 = .ok (.lconst 0, 1) := by decide +kernel
theorem dX3_step_45 : decode cX3_step 45 = .ok (.ladd, 1) := by decide +kernel
theorem dX3_step_46 : decode cX3_step 46 = .ok (.lstore 7, 2) := by decide +kernel
theorem dX3_step_48 : decode cX3_step 48 = .ok (.aload_n 0, 1) := by decide +kernel
theorem dX3_step_49 : decode cX3_step 49 = .ok (.getfield 11, 3) := by decide +kernel
theorem dX3_step_52 : decode cX3_step 52 = .ok (.iload 4, 2) := by decide +kernel
theorem dX3_step_54 : decode cX3_step 54 = .ok (.lload_n 2, 1) := by decide +kernel
theorem dX3_step_55 : decode cX3_step 55 = .ok (.bipush 10, 2) := by decide +kernel
theorem dX3_step_57 : decode cX3_step 57 = .ok (.iload_n 1, 1) := by decide +kernel
theorem dX3_step_58 : decode cX3_step 58 = .ok (.isub, 1) := by decide +kernel
theorem dX3_step_59 : decode cX3_step 59 = .ok (.i2l, 1) := by decide +kernel
theorem dX3_step_60 : decode cX3_step 60 = .ok (.lmul, 1) := by decide +kernel
theorem dX3_step_61 : decode cX3_step 61 = .ok (.lload 7, 2) := by decide +kernel
theorem dX3_step_63 : decode cX3_step 63 = .ok (.iload_n 1, 1) := by decide +kernel
theorem dX3_step_64 : decode cX3_step 64 = .ok (.i2l, 1) := by decide +kernel
theorem dX3_step_65 : decode cX3_step 65 = .ok (.lmul, 1) := by decide +kernel
theorem dX3_step_66 : decode cX3_step 66 = .ok (.ladd, 1) := by decide +kernel
theorem dX3_step_67 : decode cX3_step 67 = .ok (.invokestatic 15, 3) := by decide +kernel
theorem dX3_step_70 : decode cX3_step 70 = .ok (.lload 5, 2) := by decide +kernel
theorem dX3_step_72 : decode cX3_step 72 = .ok (.lstore_n 2, 1) := by decide +kernel
theorem dX3_step_73 : decode cX3_step 73 = .ok (.iinc 4 1, 3) := by decide +kernel
theorem dX3_step_76 : decode cX3_step 76 = .ok (.goto (-71), 3) := by decide +kernel
theorem dX3_step_79 : decode cX3_step 79 = .ok (.return_, 1) := by decide +kernel
theorem dX3_atLeast_0 : decode cX3_atLeast 0 = .ok (.lconst 0, 1) := by decide +kernel
theorem dX3_atLeast_1 : decode cX3_atLeast 1 = .ok (.lstore_n 2, 1) := by decide +kernel
theorem dX3_atLeast_2 : decode cX3_atLeast 2 = .ok (.iconst 0, 1) := by decide +kernel
theorem dX3_atLeast_3 : decode cX3_atLeast 3 = .ok (.iload_n 1, 1) := by decide +kernel
theorem dX3_atLeast_4 : decode cX3_atLeast 4 = .ok (.invokestatic 27, 3) := by decide +kernel
theorem dX3_atLeast_7 : decode cX3_atLeast 7 = .ok (.istore 4, 2) := by decide +kernel
theorem dX3_atLeast_9 : decode cX3_atLeast 9 = .ok (.iload 4, 2) := by decide +kernel
theorem dX3_atLeast_11 : decode cX3_atLeast 11 = .ok (.bipush 83, 2) := by decide +kernel
theorem dX3_atLeast_13 : decode cX3_atLeast 13 = .ok (.if_icmp .ge 21, 3) := by decide +kernel
theorem dX3_atLeast_16 : decode cX3_atLeast 16 = .ok (.lload_n 2, 1) := by decide +kernel
theorem dX3_atLeast_17 : decode cX3_atLeast 17 = .ok (.aload_n 0, 1) := by decide +kernel
theorem dX3_atLeast_18 : decode cX3_atLeast 18 = .ok (.getfield 11, 3) := by decide +kernel
theorem dX3_atLeast_21 : decode cX3_atLeast 21 = .ok (.iload 4, 2) := by decide +kernel
theorem dX3_atLeast_23 : decode cX3_atLeast 23 = .ok (.invokestatic 23, 3) := by decide +kernel
theorem dX3_atLeast_26 : decode cX3_atLeast 26 = .ok (.ladd, 1) := by decide +kernel
theorem dX3_atLeast_27 : decode cX3_atLeast 27 = .ok (.lstore_n 2, 1) := by decide +kernel
theorem dX3_atLeast_28 : decode cX3_atLeast 28 = .ok (.iinc 4 1, 3) := by decide +kernel
theorem dX3_atLeast_31 : decode cX3_atLeast 31 = .ok (.goto (-22), 3) := by decide +kernel
theorem dX3_atLeast_34 : decode cX3_atLeast 34 = .ok (.lload_n 2, 1) := by decide +kernel
theorem dX3_atLeast_35 : decode cX3_atLeast 35 = .ok (.lreturn, 1) := by decide +kernel
theorem dX3_sumOfRows_0 : decode cX3_sumOfRows 0 = .ok (.lconst 0, 1) := by decide +kernel
theorem dX3_sumOfRows_1 : decode cX3_sumOfRows 1 = .ok (.lstore_n 1, 1) := by decide +kernel
theorem dX3_sumOfRows_2 : decode cX3_sumOfRows 2 = .ok (.iconst 0, 1) := by decide +kernel
theorem dX3_sumOfRows_3 : decode cX3_sumOfRows 3 = .ok (.istore_n 3, 1) := by decide +kernel
theorem dX3_sumOfRows_4 : decode cX3_sumOfRows 4 = .ok (.iload_n 3, 1) := by decide +kernel
theorem dX3_sumOfRows_5 : decode cX3_sumOfRows 5 = .ok (.bipush 83, 2) := by decide +kernel
theorem dX3_sumOfRows_7 : decode cX3_sumOfRows 7 = .ok (.if_icmp .ge 23, 3) := by decide +kernel
theorem dX3_sumOfRows_10 : decode cX3_sumOfRows 10 = .ok (.lload_n 1, 1) := by decide +kernel
theorem dX3_sumOfRows_11 : decode cX3_sumOfRows 11 = .ok (.iload_n 3, 1) := by decide +kernel
theorem dX3_sumOfRows_12 : decode cX3_sumOfRows 12 = .ok (.i2l, 1) := by decide +kernel
theorem dX3_sumOfRows_13 : decode cX3_sumOfRows 13 = .ok (.aload_n 0, 1) := by decide +kernel
theorem dX3_sumOfRows_14 : decode cX3_sumOfRows 14 = .ok (.getfield 11, 3) := by decide +kernel
theorem dX3_sumOfRows_17 : decode cX3_sumOfRows 17 = .ok (.iload_n 3, 1) := by decide +kernel
theorem dX3_sumOfRows_18 : decode cX3_sumOfRows 18 = .ok (.invokestatic 23, 3) := by decide +kernel
theorem dX3_sumOfRows_21 : decode cX3_sumOfRows 21 = .ok (.lmul, 1) := by decide +kernel
theorem dX3_sumOfRows_22 : decode cX3_sumOfRows 22 = .ok (.ladd, 1) := by decide +kernel
theorem dX3_sumOfRows_23 : decode cX3_sumOfRows 23 = .ok (.lstore_n 1, 1) := by decide +kernel
theorem dX3_sumOfRows_24 : decode cX3_sumOfRows 24 = .ok (.iinc 3 1, 3) := by decide +kernel
theorem dX3_sumOfRows_27 : decode cX3_sumOfRows 27 = .ok (.goto (-23), 3) := by decide +kernel
theorem dX3_sumOfRows_30 : decode cX3_sumOfRows 30 = .ok (.lload_n 1, 1) := by decide +kernel
theorem dX3_sumOfRows_31 : decode cX3_sumOfRows 31 = .ok (.lreturn, 1) := by decide +kernel
theorem dX4_init_0 : decode cX4_init 0 = .ok (.aload_n 0, 1) := by decide +kernel
theorem dX4_init_1 : decode cX4_init 1 = .ok (.invokespecial 3, 3) := by decide +kernel
theorem dX4_init_4 : decode cX4_init 4 = .ok (.aload_n 0, 1) := by decide +kernel
theorem dX4_init_5 : decode cX4_init 5 = .ok (.sipush 559, 3) := by decide +kernel
theorem dX4_init_8 : decode cX4_init 8 = .ok (.newarray .long, 2) := by decide +kernel
theorem dX4_init_10 : decode cX4_init 10 = .ok (.putfield 11, 3) := by decide +kernel
theorem dX4_init_13 : decode cX4_init 13 = .ok (.return_, 1) := by decide +kernel
theorem dX4_ending_0 : decode cX4_ending 0 = .ok (.iload 4, 2) := by decide +kernel
theorem dX4_ending_2 : decode cX4_ending 2 = .ok (.bipush 43, 2) := by decide +kernel
theorem dX4_ending_4 : decode cX4_ending 4 = .ok (.if_icmp .lt 5, 3) := by decide +kernel
theorem dX4_ending_7 : decode cX4_ending 7 = .ok (.lconst 0, 1) := by decide +kernel
theorem dX4_ending_8 : decode cX4_ending 8 = .ok (.lreturn, 1) := by decide +kernel
theorem dX4_ending_9 : decode cX4_ending 9 = .ok (.iconst 0, 1) := by decide +kernel
theorem dX4_ending_10 : decode cX4_ending 10 = .ok (.istore 5, 2) := by decide +kernel
theorem dX4_ending_12 : decode cX4_ending 12 = .ok (.iload 5, 2) := by decide +kernel
theorem dX4_ending_14 : decode cX4_ending 14 = .ok (.aload_n 0, 1) := by decide +kernel
theorem dX4_ending_15 : decode cX4_ending 15 = .ok (.getfield 11, 3) := by decide +kernel
theorem dX4_ending_18 : decode cX4_ending 18 = .ok (.arraylength, 1) := by decide +kernel
theorem dX4_ending_19 : decode cX4_ending 19 = .ok (.if_icmp .ge 19, 3) := by decide +kernel
theorem dX4_ending_22 : decode cX4_ending 22 = .ok (.aload_n 0, 1) := by decide +kernel
theorem dX4_ending_23 : decode cX4_ending 23 = .ok (.getfield 11, 3) := by decide +kernel
theorem dX4_ending_26 : decode cX4_ending 26 = .ok (.iload 5, 2) := by decide +kernel
theorem dX4_ending_28 : decode cX4_ending 28 = .ok (.lconst 0, 1) := by decide +kernel
theorem dX4_ending_29 : decode cX4_ending 29 = .ok (.invokestatic 15, 3) := by decide +kernel
theorem dX4_ending_32 : decode cX4_ending 32 = .ok (.iinc 5 1, 3) := by decide +kernel
theorem dX4_ending_35 : decode cX4_ending 35 = .ok (.goto (-23), 3) := by decide +kernel
theorem dX4_ending_38 : decode cX4_ending 38 = .ok (.aload_n 0, 1) := by decide +kernel
theorem dX4_ending_39 : decode cX4_ending 39 = .ok (.getfield 11, 3) := by decide +kernel
theorem dX4_ending_42 : decode cX4_ending 42 = .ok (.iload_n 3, 1) := by decide +kernel
theorem dX4_ending_43 : decode cX4_ending 43 = .ok (.lconst 1, 1) := by decide +kernel
theorem dX4_ending_44 : decode cX4_ending 44 = .ok (.invokestatic 15, 3) := by decide +kernel
theorem dX4_ending_47 : decode cX4_ending 47 = .ok (.iconst 0, 1) := by decide +kernel
theorem dX4_ending_48 : decode cX4_ending 48 = .ok (.istore 5, 2) := by decide +kernel
theorem dX4_ending_50 : decode cX4_ending 50 = .ok (.iload 5, 2) := by decide +kernel
theorem dX4_ending_52 : decode cX4_ending 52 = .ok (.iload_n 2, 1) := by decide +kernel
theorem dX4_ending_53 : decode cX4_ending 53 = .ok (.if_icmp .gt 59, 3) := by decide +kernel
theorem dX4_ending_56 : decode cX4_ending 56 = .ok (.iconst 0, 1) := by decide +kernel
theorem dX4_ending_57 : decode cX4_ending 57 = .ok (.istore 6, 2) := by decide +kernel
theorem dX4_ending_59 : decode cX4_ending 59 = .ok (.iload 6, 2) := by decide +kernel
theorem dX4_ending_61 : decode cX4_ending 61 = .ok (.iload_n 1, 1) := by decide +kernel
theorem dX4_ending_62 : decode cX4_ending 62 = .ok (.if_icmp .gt 44, 3) := by decide +kernel
theorem dX4_ending_65 : decode cX4_ending 65 = .ok (.iload 5, 2) := by decide +kernel
theorem dX4_ending_67 : decode cX4_ending 67 = .ok (.ifCond .le 12, 3) := by decide +kernel
theorem dX4_ending_70 : decode cX4_ending 70 = .ok (.aload_n 0, 1) := by decide +kernel
theorem dX4_ending_71 : decode cX4_ending 71 = .ok (.iload 6, 2) := by decide +kernel
theorem dX4_ending_73 : decode cX4_ending 73 = .ok (.bipush 43, 2) := by decide +kernel
theorem dX4_ending_75 : decode cX4_ending 75 = .ok (.imul, 1) := by decide +kernel
theorem dX4_ending_76 : decode cX4_ending 76 = .ok (.invokevirtual 19, 3) := by decide +kernel
theorem dX4_ending_79 : decode cX4_ending 79 = .ok (.iload 6, 2) := by decide +kernel
theorem dX4_ending_81 : decode cX4_ending 81 = .ok (.ifCond .le 19, 3) := by decide +kernel
theorem dX4_ending_84 : decode cX4_ending 84 = .ok (.aload_n 0, 1) := by decide +kernel
theorem dX4_ending_85 : decode cX4_ending 85 = .ok (.iload 6, 2) := by decide +kernel
theorem dX4_ending_87 : decode cX4_ending 87 = .ok (.iconst 1, 1) := by decide +kernel
theorem dX4_ending_88 : decode cX4_ending 88 = .ok (.isub, 1) := by decide +kernel
theorem dX4_ending_89 : decode cX4_ending 89 = .ok (.bipush 43, 2) := by decide +kernel
theorem dX4_ending_91 : decode cX4_ending 91 = .ok (.imul, 1) := by decide +kernel
theorem dX4_ending_92 : decode cX4_ending 92 = .ok (.iload 6, 2) := by decide +kernel
theorem dX4_ending_94 : decode cX4_ending 94 = .ok (.bipush 43, 2) := by decide +kernel
theorem dX4_ending_96 : decode cX4_ending 96 = .ok (.imul, 1) := by decide +kernel
theorem dX4_ending_97 : decode cX4_ending 97 = .ok (.invokevirtual 23, 3) := by decide +kernel
theorem dX4_ending_100 : decode cX4_ending 100 = .ok (.iinc 6 1, 3) := by decide +kernel
theorem dX4_ending_103 : decode cX4_ending 103 = .ok (.goto (-44), 3) := by decide +kernel
theorem dX4_ending_106 : decode cX4_ending 106 = .ok (.iinc 5 1, 3) := by decide +kernel
theorem dX4_ending_109 : decode cX4_ending 109 = .ok (.goto (-59), 3) := by decide +kernel
theorem dX4_ending_112 : decode cX4_ending 112 = .ok (.aload_n 0, 1) := by decide +kernel
theorem dX4_ending_113 : decode cX4_ending 113 = .ok (.getfield 11, 3) := by decide +kernel
theorem dX4_ending_116 : decode cX4_ending 116 = .ok (.iload_n 1, 1) := by decide +kernel
theorem dX4_ending_117 : decode cX4_ending 117 = .ok (.bipush 43, 2) := by decide +kernel
theorem dX4_ending_119 : decode cX4_ending 119 = .ok (.imul, 1) := by decide +kernel
theorem dX4_ending_120 : decode cX4_ending 120 = .ok (.iload 4, 2) := by decide +kernel
theorem dX4_ending_122 : decode cX4_ending 122 = .ok (.iadd, 1) := by decide +kernel
theorem dX4_ending_123 : decode cX4_ending 123 = .ok (.invokestatic 27, 3) := by decide +kernel
theorem dX4_ending_126 : decode cX4_ending 126 = .ok (.lreturn, 1) := by decide +kernel
theorem dX4_raise_0 : decode cX4_raise 0 = .ok (.bipush 42, 2) := by decide +kernel
theorem dX4_raise_2 : decode cX4_raise 2 = .ok (.istore_n 2, 1) := by decide +kernel
theorem dX4_raise_3 : decode cX4_raise 3 = .ok (.iload_n 2, 1) := by decide +kernel
theorem dX4_raise_4 : decode cX4_raise 4 = .ok (.ifCond .le 31, 3) := by decide +kernel
theorem dX4_raise_7 : decode cX4_raise 7 = .ok (.aload_n 0, 1) := by decide +kernel
theorem dX4_raise_8 : decode cX4_raise 8 = .ok (.getfield 11, 3) := by decide +kernel
theorem dX4_raise_11 : decode cX4_raise 11 = .ok (.iload_n 1, 1) := by decide +kernel
theorem dX4_raise_12 : decode cX4_raise 12 = .ok (.iload_n 2, 1) := by decide +kernel
theorem dX4_raise_13 : decode cX4_raise 13 = .ok (.iadd, 1) := by decide +kernel
theorem dX4_raise_14 : decode cX4_raise 14 = .ok (.aload_n 0, 1) := by decide +kernel
theorem dX4_raise_15 : decode cX4_raise 15 = .ok (.getfield 11, 3) := by decide +kernel
theorem dX4_raise_18 : decode cX4_raise 18 = .ok (.iload_n 1, 1) := by decide +kernel
theorem dX4_raise_19 : decode cX4_raise 19 = .ok (.iload_n 2, 1) := by decide +kernel
theorem dX4_raise_20 : decode cX4_raise 20 = .ok (.iadd, 1) := by decide +kernel
theorem dX4_raise_21 : decode cX4_raise 21 = .ok (.iconst 1, 1) := by decide +kernel
theorem dX4_raise_22 : decode cX4_raise 22 = .ok (.isub, 1) := by decide +kernel
theorem dX4_raise_23 : decode cX4_raise 23 = .ok (.invokestatic 27, 3) := by decide +kernel
theorem dX4_raise_26 : decode cX4_raise 26 = .ok (.invokestatic 15, 3) := by decide +kernel
theorem dX4_raise_29 : decode cX4_raise 29 = .ok (.iinc 2 (-1), 3) := by decide +kernel
theorem dX4_raise_32 : decode cX4_raise 32 = .ok (.goto (-29), 3) := by decide +kernel
theorem dX4_raise_35 : decode cX4_raise 35 = .ok (.aload_n 0, 1) := by decide +kernel
theorem dX4_raise_36 : decode cX4_raise 36 = .ok (.getfield 11, 3) := by decide +kernel
theorem dX4_raise_39 : decode cX4_raise 39 = .ok (.iload_n 1, 1) := by decide +kernel
theorem dX4_raise_40 : decode cX4_raise 40 = .ok (.lconst 0, 1) := by decide +kernel
theorem dX4_raise_41 : decode cX4_raise 41 = .ok (.invokestatic 15, 3) := by decide +kernel
theorem dX4_raise_44 : decode cX4_raise 44 = .ok (.return_, 1) := by decide +kernel
theorem dX4_addDropped_0 : decode cX4_addDropped 0 = .ok (.iconst 0, 1) := by decide +kernel
theorem dX4_addDropped_1 : decode cX4_addDropped 1 = .ok (.istore_n 3, 1) := by decide +kernel
theorem dX4_addDropped_2 : decode cX4_addDropped 2 = .ok (.iload_n 3, 1) := by decide +kernel
theorem dX4_addDropped_3 : decode cX4_addDropped 3 = .ok (.bipush 43, 2) := by decide +kernel
theorem dX4_addDropped_5 : decode cX4_addDropped 5 = .ok (.if_icmp .ge 49, 3) := by decide +kernel
theorem dX4_addDropped_8 : decode cX4_addDropped 8 = .ok (.iload_n 2, 1) := by decide +kernel
theorem dX4_addDropped_9 : decode cX4_addDropped 9 = .ok (.iconst 0, 1) := by decide +kernel
theorem dX4_addDropped_10 : decode cX4_addDropped 10 = .ok (.iload_n 3, 1) := by decide +kernel
theorem dX4_addDropped_11 : decode cX4_addDropped 11 = .ok (.iconst 1, 1) := by decide +kernel
theorem dX4_addDropped_12 : decode cX4_addDropped 12 = .ok (.isub, 1) := by decide +kernel
theorem dX4_addDropped_13 : decode cX4_addDropped 13 = .ok (.invokestatic 31, 3) := by decide +kernel
theorem dX4_addDropped_16 : decode cX4_addDropped 16 = .ok (.iadd, 1) := by decide +kernel
theorem dX4_addDropped_17 : decode cX4_addDropped 17 = .ok (.istore 4, 2) := by decide +kernel
theorem dX4_addDropped_19 : decode cX4_addDropped 19 = .ok (.aload_n 0, 1) := by decide +kernel
theorem dX4_addDropped_20 : decode cX4_addDropped 20 = .ok (.getfield 11, 3) := by decide +kernel
theorem dX4_addDropped_23 : decode cX4_addDropped 23 = .ok (.iload 4, 2) := by decide +kernel
theorem dX4_addDropped_25 : decode cX4_addDropped 25 = .ok (.aload_n 0, 1) := by decide +kernel
theorem dX4_addDropped_26 : decode cX4_addDropped 26 = .ok (.getfield 11, 3) := by decide +kernel
theorem dX4_addDropped_29 : decode cX4_addDropped 29 = .ok (.iload 4, 2) := by decide +kernel
theorem dX4_addDropped_31 : decode cX4_addDropped 31 = .ok (.invokestatic 27, 3) := by decide +kernel
theorem dX4_addDropped_34 : decode cX4_addDropped 34 = .ok (.aload_n 0, 1) := by decide +kernel
theorem dX4_addDropped_35 : decode cX4_addDropped 35 = .ok (.getfield 11, 3) := by decide +kernel
theorem dX4_addDropped_38 : decode cX4_addDropped 38 = .ok (.iload_n 1, 1) := by decide +kernel
theorem dX4_addDropped_39 : decode cX4_addDropped 39 = .ok (.iload_n 3, 1) := by decide +kernel
theorem dX4_addDropped_40 : decode cX4_addDropped 40 = .ok (.iadd, 1) := by decide +kernel
theorem dX4_addDropped_41 : decode cX4_addDropped 41 = .ok (.invokestatic 27, 3) := by decide +kernel
theorem dX4_addDropped_44 : decode cX4_addDropped 44 = .ok (.ladd, 1) := by decide +kernel
theorem dX4_addDropped_45 : decode cX4_addDropped 45 = .ok (.invokestatic 15, 3) := by decide +kernel
theorem dX4_addDropped_48 : decode cX4_addDropped 48 = .ok (.iinc 3 1, 3) := by decide +kernel
theorem dX4_addDropped_51 : decode cX4_addDropped 51 = .ok (.goto (-49), 3) := by decide +kernel
theorem dX4_addDropped_54 : decode cX4_addDropped 54 = .ok (.return_, 1) := by decide +kernel
theorem dX5_init_0 : decode cX5_init 0 = .ok (.aload_n 0, 1) := by decide +kernel
theorem dX5_init_1 : decode cX5_init 1 = .ok (.invokespecial 3, 3) := by decide +kernel
theorem dX5_init_4 : decode cX5_init 4 = .ok (.aload_n 0, 1) := by decide +kernel
theorem dX5_init_5 : decode cX5_init 5 = .ok (.bipush 60, 2) := by decide +kernel
theorem dX5_init_7 : decode cX5_init 7 = .ok (.newarray .int, 2) := by decide +kernel
theorem dX5_init_9 : decode cX5_init 9 = .ok (.putfield 9, 3) := by decide +kernel
theorem dX5_init_12 : decode cX5_init 12 = .ok (.aload_n 0, 1) := by decide +kernel
theorem dX5_init_13 : decode cX5_init 13 = .ok (.iconst 0, 1) := by decide +kernel
theorem dX5_init_14 : decode cX5_init 14 = .ok (.putfield 15, 3) := by decide +kernel
theorem dX5_init_17 : decode cX5_init 17 = .ok (.return_, 1) := by decide +kernel
theorem dX5_add_0 : decode cX5_add 0 = .ok (.aload_n 0, 1) := by decide +kernel
theorem dX5_add_1 : decode cX5_add 1 = .ok (.getfield 15, 3) := by decide +kernel
theorem dX5_add_4 : decode cX5_add 4 = .ok (.bipush 60, 2) := by decide +kernel
theorem dX5_add_6 : decode cX5_add 6 = .ok (.if_icmp .lt 6, 3) := by decide +kernel
theorem dX5_add_9 : decode cX5_add 9 = .ok (.bipush (-4), 2) := by decide +kernel
theorem dX5_add_11 : decode cX5_add 11 = .ok (.ireturn, 1) := by decide +kernel
theorem dX5_add_12 : decode cX5_add 12 = .ok (.aload_n 0, 1) := by decide +kernel
theorem dX5_add_13 : decode cX5_add 13 = .ok (.getfield 9, 3) := by decide +kernel
theorem dX5_add_16 : decode cX5_add 16 = .ok (.aload_n 0, 1) := by decide +kernel
theorem dX5_add_17 : decode cX5_add 17 = .ok (.getfield 15, 3) := by decide +kernel
theorem dX5_add_20 : decode cX5_add 20 = .ok (.iload_n 1, 1) := by decide +kernel
theorem dX5_add_21 : decode cX5_add 21 = .ok (.invokestatic 19, 3) := by decide +kernel
theorem dX5_add_24 : decode cX5_add 24 = .ok (.aload_n 0, 1) := by decide +kernel
theorem dX5_add_25 : decode cX5_add 25 = .ok (.dup, 1) := by decide +kernel
theorem dX5_add_26 : decode cX5_add 26 = .ok (.getfield 15, 3) := by decide +kernel
theorem dX5_add_29 : decode cX5_add 29 = .ok (.iconst 1, 1) := by decide +kernel
theorem dX5_add_30 : decode cX5_add 30 = .ok (.iadd, 1) := by decide +kernel
theorem dX5_add_31 : decode cX5_add 31 = .ok (.putfield 15, 3) := by decide +kernel
theorem dX5_add_34 : decode cX5_add 34 = .ok (.aload_n 0, 1) := by decide +kernel
theorem dX5_add_35 : decode cX5_add 35 = .ok (.getfield 15, 3) := by decide +kernel
theorem dX5_add_38 : decode cX5_add 38 = .ok (.ireturn, 1) := by decide +kernel
theorem dX6_init_0 : decode cX6_init 0 = .ok (.aload_n 0, 1) := by decide +kernel
theorem dX6_init_1 : decode cX6_init 1 = .ok (.invokespecial 3, 3) := by decide +kernel
theorem dX6_init_4 : decode cX6_init 4 = .ok (.aload_n 0, 1) := by decide +kernel
theorem dX6_init_5 : decode cX6_init 5 = .ok (.bipush 60, 2) := by decide +kernel
theorem dX6_init_7 : decode cX6_init 7 = .ok (.newarray .int, 2) := by decide +kernel
theorem dX6_init_9 : decode cX6_init 9 = .ok (.putfield 9, 3) := by decide +kernel
theorem dX6_init_12 : decode cX6_init 12 = .ok (.aload_n 0, 1) := by decide +kernel
theorem dX6_init_13 : decode cX6_init 13 = .ok (.bipush 60, 2) := by decide +kernel
theorem dX6_init_15 : decode cX6_init 15 = .ok (.newarray .int, 2) := by decide +kernel
theorem dX6_init_17 : decode cX6_init 17 = .ok (.putfield 15, 3) := by decide +kernel
theorem dX6_init_20 : decode cX6_init 20 = .ok (.aload_n 0, 1) := by decide +kernel
theorem dX6_init_21 : decode cX6_init 21 = .ok (.iconst 0, 1) := by decide +kernel
theorem dX6_init_22 : decode cX6_init 22 = .ok (.putfield 18, 3) := by decide +kernel
theorem dX6_init_25 : decode cX6_init 25 = .ok (.return_, 1) := by decide +kernel
theorem dX6_read_0 : decode cX6_read 0 = .ok (.aload_n 0, 1) := by decide +kernel
theorem dX6_read_1 : decode cX6_read 1 = .ok (.iconst 0, 1) := by decide +kernel
theorem dX6_read_2 : decode cX6_read 2 = .ok (.putfield 18, 3) := by decide +kernel
theorem dX6_read_5 : decode cX6_read 5 = .ok (.iconst 0, 1) := by decide +kernel
theorem dX6_read_6 : decode cX6_read 6 = .ok (.istore_n 2, 1) := by decide +kernel
theorem dX6_read_7 : decode cX6_read 7 = .ok (.iconst 0, 1) := by decide +kernel
theorem dX6_read_8 : decode cX6_read 8 = .ok (.istore_n 3, 1) := by decide +kernel
theorem dX6_read_9 : decode cX6_read 9 = .ok (.iload_n 3, 1) := by decide +kernel
theorem dX6_read_10 : decode cX6_read 10 = .ok (.aload_n 1, 1) := by decide +kernel
theorem dX6_read_11 : decode cX6_read 11 = .ok (.getfield 22, 3) := by decide +kernel
theorem dX6_read_14 : decode cX6_read 14 = .ok (.if_icmp .ge 96, 3) := by decide +kernel
theorem dX6_read_17 : decode cX6_read 17 = .ok (.aload_n 1, 1) := by decide +kernel
theorem dX6_read_18 : decode cX6_read 18 = .ok (.getfield 25, 3) := by decide +kernel
theorem dX6_read_21 : decode cX6_read 21 = .ok (.iload_n 3, 1) := by decide +kernel
theorem dX6_read_22 : decode cX6_read 22 = .ok (.invokestatic 28, 3) := by decide +kernel
theorem dX6_read_25 : decode cX6_read 25 = .ok (.istore 4, 2) := by decide +kernel
theorem dX6_read_27 : decode cX6_read 27 = .ok (.iload 4, 2) := by decide +kernel
theorem dX6_read_29 : decode cX6_read 29 = .ok (.bipush 42, 2) := by decide +kernel
theorem dX6_read_31 : decode cX6_read 31 = .ok (.if_icmp .ne 26, 3) := by decide +kernel
theorem dX6_read_34 : decode cX6_read 34 = .ok (.iload_n 2, 1) := by decide +kernel
theorem dX6_read_35 : decode cX6_read 35 = .ok (.ifCond .eq 22, 3) := by decide +kernel
theorem dX6_read_38 : decode cX6_read 38 = .ok (.aload_n 0, 1) := by decide +kernel
theorem dX6_read_39 : decode cX6_read 39 = .ok (.getfield 15, 3) := by decide +kernel
theorem dX6_read_42 : decode cX6_read 42 = .ok (.aload_n 0, 1) := by decide +kernel
theorem dX6_read_43 : decode cX6_read 43 = .ok (.getfield 18, 3) := by decide +kernel
theorem dX6_read_46 : decode cX6_read 46 = .ok (.iconst 1, 1) := by decide +kernel
theorem dX6_read_47 : decode cX6_read 47 = .ok (.isub, 1) := by decide +kernel
theorem dX6_read_48 : decode cX6_read 48 = .ok (.iconst 1, 1) := by decide +kernel
theorem dX6_read_49 : decode cX6_read 49 = .ok (.invokestatic 32, 3) := by decide +kernel
theorem dX6_read_52 : decode cX6_read 52 = .ok (.iconst 0, 1) := by decide +kernel
theorem dX6_read_53 : decode cX6_read 53 = .ok (.istore_n 2, 1) := by decide +kernel
theorem dX6_read_54 : decode cX6_read 54 = .ok (.goto 50, 3) := by decide +kernel
theorem dX6_read_57 : decode cX6_read 57 = .ok (.iload 4, 2) := by decide +kernel
theorem dX6_read_59 : decode cX6_read 59 = .ok (.bipush 109, 2) := by decide +kernel
theorem dX6_read_61 : decode cX6_read 61 = .ok (.if_icmp .ne 15, 3) := by decide +kernel
theorem dX6_read_64 : decode cX6_read 64 = .ok (.aload_n 0, 1) := by decide +kernel
theorem dX6_read_65 : decode cX6_read 65 = .ok (.bipush 6, 2) := by decide +kernel
theorem dX6_read_67 : decode cX6_read 67 = .ok (.iconst 2, 1) := by decide +kernel
theorem dX6_read_68 : decode cX6_read 68 = .ok (.invokevirtual 36, 3) := by decide +kernel
theorem dX6_read_71 : decode cX6_read 71 = .ok (.iconst 0, 1) := by decide +kernel
theorem dX6_read_72 : decode cX6_read 72 = .ok (.istore_n 2, 1) := by decide +kernel
theorem dX6_read_73 : decode cX6_read 73 = .ok (.goto 31, 3) := by decide +kernel
theorem dX6_read_76 : decode cX6_read 76 = .ok (.iload 4, 2) := by decide +kernel
theorem dX6_read_78 : decode cX6_read 78 = .ok (.bipush 65, 2) := by decide +kernel
theorem dX6_read_80 : decode cX6_read 80 = .ok (.isub, 1) := by decide +kernel
theorem dX6_read_81 : decode cX6_read 81 = .ok (.invokestatic 40, 3) := by decide +kernel
theorem dX6_read_84 : decode cX6_read 84 = .ok (.ifCond .eq 18, 3) := by decide +kernel
theorem dX6_read_87 : decode cX6_read 87 = .ok (.aload_n 0, 1) := by decide +kernel
theorem dX6_read_88 : decode cX6_read 88 = .ok (.iload 4, 2) := by decide +kernel
theorem dX6_read_90 : decode cX6_read 90 = .ok (.bipush 65, 2) := by decide +kernel
theorem dX6_read_92 : decode cX6_read 92 = .ok (.isub, 1) := by decide +kernel
theorem dX6_read_93 : decode cX6_read 93 = .ok (.iconst 0, 1) := by decide +kernel
theorem dX6_read_94 : decode cX6_read 94 = .ok (.invokevirtual 36, 3) := by decide +kernel
theorem dX6_read_97 : decode cX6_read 97 = .ok (.iconst 1, 1) := by decide +kernel
theorem dX6_read_98 : decode cX6_read 98 = .ok (.istore_n 2, 1) := by decide +kernel
theorem dX6_read_99 : decode cX6_read 99 = .ok (.goto 5, 3) := by decide +kernel
theorem dX6_read_102 : decode cX6_read 102 = .ok (.iload_n 3, 1) := by decide +kernel
theorem dX6_read_103 : decode cX6_read 103 = .ok (.ireturn, 1) := by decide +kernel
theorem dX6_read_104 : decode cX6_read 104 = .ok (.iinc 3 1, 3) := by decide +kernel
theorem dX6_read_107 : decode cX6_read 107 = .ok (.goto (-98), 3) := by decide +kernel
theorem dX6_read_110 : decode cX6_read 110 = .ok (.bipush (-6), 2) := by decide +kernel
theorem dX6_read_112 : decode cX6_read 112 = .ok (.ireturn, 1) := by decide +kernel
theorem dX6_add_0 : decode cX6_add 0 = .ok (.aload_n 0, 1) := by decide +kernel
theorem dX6_add_1 : decode cX6_add 1 = .ok (.getfield 9, 3) := by decide +kernel
theorem dX6_add_4 : decode cX6_add 4 = .ok (.aload_n 0, 1) := by decide +kernel
theorem dX6_add_5 : decode cX6_add 5 = .ok (.getfield 18, 3) := by decide +kernel
theorem dX6_add_8 : decode cX6_add 8 = .ok (.iload_n 1, 1) := by decide +kernel
theorem dX6_add_9 : decode cX6_add 9 = .ok (.invokestatic 32, 3) := by decide +kernel
theorem dX6_add_12 : decode cX6_add 12 = .ok (.aload_n 0, 1) := by decide +kernel
theorem dX6_add_13 : decode cX6_add 13 = .ok (.getfield 15, 3) := by decide +kernel
theorem dX6_add_16 : decode cX6_add 16 = .ok (.aload_n 0, 1) := by decide +kernel
theorem dX6_add_17 : decode cX6_add 17 = .ok (.getfield 18, 3) := by decide +kernel
theorem dX6_add_20 : decode cX6_add 20 = .ok (.iload_n 2, 1) := by decide +kernel
theorem dX6_add_21 : decode cX6_add 21 = .ok (.invokestatic 32, 3) := by decide +kernel
theorem dX6_add_24 : decode cX6_add 24 = .ok (.aload_n 0, 1) := by decide +kernel
theorem dX6_add_25 : decode cX6_add 25 = .ok (.dup, 1) := by decide +kernel
theorem dX6_add_26 : decode cX6_add 26 = .ok (.getfield 18, 3) := by decide +kernel
theorem dX6_add_29 : decode cX6_add 29 = .ok (.iconst 1, 1) := by decide +kernel
theorem dX6_add_30 : decode cX6_add 30 = .ok (.iadd, 1) := by decide +kernel
theorem dX6_add_31 : decode cX6_add 31 = .ok (.putfield 18, 3) := by decide +kernel
theorem dX6_add_34 : decode cX6_add 34 = .ok (.return_, 1) := by decide +kernel
theorem dX7_init_0 : decode cX7_init 0 = .ok (.aload_n 0, 1) := by decide +kernel
theorem dX7_init_1 : decode cX7_init 1 = .ok (.invokespecial 3, 3) := by decide +kernel
theorem dX7_init_4 : decode cX7_init 4 = .ok (.aload_n 0, 1) := by decide +kernel
theorem dX7_init_5 : decode cX7_init 5 = .ok (.iconst 0, 1) := by decide +kernel
theorem dX7_init_6 : decode cX7_init 6 = .ok (.putfield 9, 3) := by decide +kernel
theorem dX7_init_9 : decode cX7_init 9 = .ok (.aload_n 0, 1) := by decide +kernel
theorem dX7_init_10 : decode cX7_init 10 = .ok (.bipush (-6), 2) := by decide +kernel
theorem dX7_init_12 : decode cX7_init 12 = .ok (.putfield 15, 3) := by decide +kernel
theorem dX7_init_15 : decode cX7_init 15 = .ok (.aload_n 0, 1) := by decide +kernel
theorem dX7_init_16 : decode cX7_init 16 = .ok (.iconst 0, 1) := by decide +kernel
theorem dX7_init_17 : decode cX7_init 17 = .ok (.putfield 18, 3) := by decide +kernel
theorem dX7_init_20 : decode cX7_init 20 = .ok (.aload_n 0, 1) := by decide +kernel
theorem dX7_init_21 : decode cX7_init 21 = .ok (.iconst 0, 1) := by decide +kernel
theorem dX7_init_22 : decode cX7_init 22 = .ok (.putfield 21, 3) := by decide +kernel
theorem dX7_init_25 : decode cX7_init 25 = .ok (.aload_n 0, 1) := by decide +kernel
theorem dX7_init_26 : decode cX7_init 26 = .ok (.bipush 8, 2) := by decide +kernel
theorem dX7_init_28 : decode cX7_init 28 = .ok (.newarray .int, 2) := by decide +kernel
theorem dX7_init_30 : decode cX7_init 30 = .ok (.putfield 24, 3) := by decide +kernel
theorem dX7_init_33 : decode cX7_init 33 = .ok (.return_, 1) := by decide +kernel
theorem dX7_clear_0 : decode cX7_clear 0 = .ok (.aload_n 0, 1) := by decide +kernel
theorem dX7_clear_1 : decode cX7_clear 1 = .ok (.iconst 0, 1) := by decide +kernel
theorem dX7_clear_2 : decode cX7_clear 2 = .ok (.putfield 9, 3) := by decide +kernel
theorem dX7_clear_5 : decode cX7_clear 5 = .ok (.aload_n 0, 1) := by decide +kernel
theorem dX7_clear_6 : decode cX7_clear 6 = .ok (.bipush (-6), 2) := by decide +kernel
theorem dX7_clear_8 : decode cX7_clear 8 = .ok (.putfield 15, 3) := by decide +kernel
theorem dX7_clear_11 : decode cX7_clear 11 = .ok (.aload_n 0, 1) := by decide +kernel
theorem dX7_clear_12 : decode cX7_clear 12 = .ok (.iconst 0, 1) := by decide +kernel
theorem dX7_clear_13 : decode cX7_clear 13 = .ok (.putfield 18, 3) := by decide +kernel
theorem dX7_clear_16 : decode cX7_clear 16 = .ok (.aload_n 0, 1) := by decide +kernel
theorem dX7_clear_17 : decode cX7_clear 17 = .ok (.iconst 0, 1) := by decide +kernel
theorem dX7_clear_18 : decode cX7_clear 18 = .ok (.putfield 21, 3) := by decide +kernel
theorem dX7_clear_21 : decode cX7_clear 21 = .ok (.iconst 0, 1) := by decide +kernel
theorem dX7_clear_22 : decode cX7_clear 22 = .ok (.istore_n 1, 1) := by decide +kernel
theorem dX7_clear_23 : decode cX7_clear 23 = .ok (.iload_n 1, 1) := by decide +kernel
theorem dX7_clear_24 : decode cX7_clear 24 = .ok (.bipush 8, 2) := by decide +kernel
theorem dX7_clear_26 : decode cX7_clear 26 = .ok (.if_icmp .ge 18, 3) := by decide +kernel
theorem dX7_clear_29 : decode cX7_clear 29 = .ok (.aload_n 0, 1) := by decide +kernel
theorem dX7_clear_30 : decode cX7_clear 30 = .ok (.getfield 24, 3) := by decide +kernel
theorem dX7_clear_33 : decode cX7_clear 33 = .ok (.iload_n 1, 1) := by decide +kernel
theorem dX7_clear_34 : decode cX7_clear 34 = .ok (.iconst 0, 1) := by decide +kernel
theorem dX7_clear_35 : decode cX7_clear 35 = .ok (.invokestatic 28, 3) := by decide +kernel
theorem dX7_clear_38 : decode cX7_clear 38 = .ok (.iinc 1 1, 3) := by decide +kernel
theorem dX7_clear_41 : decode cX7_clear 41 = .ok (.goto (-18), 3) := by decide +kernel
theorem dX7_clear_44 : decode cX7_clear 44 = .ok (.return_, 1) := by decide +kernel
theorem dX7_add_0 : decode cX7_add 0 = .ok (.aload_n 0, 1) := by decide +kernel
theorem dX7_add_1 : decode cX7_add 1 = .ok (.getfield 9, 3) := by decide +kernel
theorem dX7_add_4 : decode cX7_add 4 = .ok (.ifCond .ne 13, 3) := by decide +kernel
theorem dX7_add_7 : decode cX7_add 7 = .ok (.aload_n 0, 1) := by decide +kernel
theorem dX7_add_8 : decode cX7_add 8 = .ok (.iload_n 1, 1) := by decide +kernel
theorem dX7_add_9 : decode cX7_add 9 = .ok (.putfield 15, 3) := by decide +kernel
theorem dX7_add_12 : decode cX7_add 12 = .ok (.aload_n 0, 1) := by decide +kernel
theorem dX7_add_13 : decode cX7_add 13 = .ok (.iload_n 1, 1) := by decide +kernel
theorem dX7_add_14 : decode cX7_add 14 = .ok (.putfield 18, 3) := by decide +kernel
theorem dX7_add_17 : decode cX7_add 17 = .ok (.aload_n 0, 1) := by decide +kernel
theorem dX7_add_18 : decode cX7_add 18 = .ok (.dup, 1) := by decide +kernel
theorem dX7_add_19 : decode cX7_add 19 = .ok (.getfield 9, 3) := by decide +kernel
theorem dX7_add_22 : decode cX7_add 22 = .ok (.iconst 1, 1) := by decide +kernel
theorem dX7_add_23 : decode cX7_add 23 = .ok (.iadd, 1) := by decide +kernel
theorem dX7_add_24 : decode cX7_add 24 = .ok (.putfield 9, 3) := by decide +kernel
theorem dX7_add_27 : decode cX7_add 27 = .ok (.aload_n 0, 1) := by decide +kernel
theorem dX7_add_28 : decode cX7_add 28 = .ok (.dup, 1) := by decide +kernel
theorem dX7_add_29 : decode cX7_add 29 = .ok (.getfield 18, 3) := by decide +kernel
theorem dX7_add_32 : decode cX7_add 32 = .ok (.iload_n 1, 1) := by decide +kernel
theorem dX7_add_33 : decode cX7_add 33 = .ok (.iand, 1) := by decide +kernel
theorem dX7_add_34 : decode cX7_add 34 = .ok (.putfield 18, 3) := by decide +kernel
theorem dX7_add_37 : decode cX7_add 37 = .ok (.aload_n 0, 1) := by decide +kernel
theorem dX7_add_38 : decode cX7_add 38 = .ok (.dup, 1) := by decide +kernel
theorem dX7_add_39 : decode cX7_add 39 = .ok (.getfield 21, 3) := by decide +kernel
theorem dX7_add_42 : decode cX7_add 42 = .ok (.iload_n 1, 1) := by decide +kernel
theorem dX7_add_43 : decode cX7_add 43 = .ok (.ior, 1) := by decide +kernel
theorem dX7_add_44 : decode cX7_add 44 = .ok (.putfield 21, 3) := by decide +kernel
theorem dX7_add_47 : decode cX7_add 47 = .ok (.iconst 0, 1) := by decide +kernel
theorem dX7_add_48 : decode cX7_add 48 = .ok (.istore_n 2, 1) := by decide +kernel
theorem dX7_add_49 : decode cX7_add 49 = .ok (.iload_n 2, 1) := by decide +kernel
theorem dX7_add_50 : decode cX7_add 50 = .ok (.bipush 8, 2) := by decide +kernel
theorem dX7_add_52 : decode cX7_add 52 = .ok (.if_icmp .ge 31, 3) := by decide +kernel
theorem dX7_add_55 : decode cX7_add 55 = .ok (.aload_n 0, 1) := by decide +kernel
theorem dX7_add_56 : decode cX7_add 56 = .ok (.getfield 24, 3) := by decide +kernel
theorem dX7_add_59 : decode cX7_add 59 = .ok (.iload_n 2, 1) := by decide +kernel
theorem dX7_add_60 : decode cX7_add 60 = .ok (.aload_n 0, 1) := by decide +kernel
theorem dX7_add_61 : decode cX7_add 61 = .ok (.getfield 24, 3) := by decide +kernel
theorem dX7_add_64 : decode cX7_add 64 = .ok (.iload_n 2, 1) := by decide +kernel
theorem dX7_add_65 : decode cX7_add 65 = .ok (.invokestatic 32, 3) := by decide +kernel
theorem dX7_add_68 : decode cX7_add 68 = .ok (.iload_n 1, 1) := by decide +kernel
theorem dX7_add_69 : decode cX7_add 69 = .ok (.iload_n 2, 1) := by decide +kernel
theorem dX7_add_70 : decode cX7_add 70 = .ok (.ishr, 1) := by decide +kernel
theorem dX7_add_71 : decode cX7_add 71 = .ok (.iconst 1, 1) := by decide +kernel
theorem dX7_add_72 : decode cX7_add 72 = .ok (.iand, 1) := by decide +kernel
theorem dX7_add_73 : decode cX7_add 73 = .ok (.iadd, 1) := by decide +kernel
theorem dX7_add_74 : decode cX7_add 74 = .ok (.invokestatic 28, 3) := by decide +kernel
theorem dX7_add_77 : decode cX7_add 77 = .ok (.iinc 2 1, 3) := by decide +kernel
theorem dX7_add_80 : decode cX7_add 80 = .ok (.goto (-31), 3) := by decide +kernel
theorem dX7_add_83 : decode cX7_add 83 = .ok (.return_, 1) := by decide +kernel
theorem dX7_leftAtMost_0 : decode cX7_leftAtMost 0 = .ok (.aload_n 0, 1) := by decide +kernel
theorem dX7_leftAtMost_1 : decode cX7_leftAtMost 1 = .ok (.getfield 24, 3) := by decide +kernel
theorem dX7_leftAtMost_4 : decode cX7_leftAtMost 4 = .ok (.iload_n 1, 1) := by decide +kernel
theorem dX7_leftAtMost_5 : decode cX7_leftAtMost 5 = .ok (.invokestatic 32, 3) := by decide +kernel
theorem dX7_leftAtMost_8 : decode cX7_leftAtMost 8 = .ok (.istore_n 2, 1) := by decide +kernel
theorem dX7_leftAtMost_9 : decode cX7_leftAtMost 9 = .ok (.iload_n 2, 1) := by decide +kernel
theorem dX7_leftAtMost_10 : decode cX7_leftAtMost 10 = .ok (.aload_n 0, 1) := by decide +kernel
theorem dX7_leftAtMost_11 : decode cX7_leftAtMost 11 = .ok (.getfield 9, 3) := by decide +kernel
theorem dX7_leftAtMost_14 : decode cX7_leftAtMost 14 = .ok (.iload_n 2, 1) := by decide +kernel
theorem dX7_leftAtMost_15 : decode cX7_leftAtMost 15 = .ok (.isub, 1) := by decide +kernel
theorem dX7_leftAtMost_16 : decode cX7_leftAtMost 16 = .ok (.invokestatic 36, 3) := by decide +kernel
theorem dX7_leftAtMost_19 : decode cX7_leftAtMost 19 = .ok (.ireturn, 1) := by decide +kernel
theorem dX7_bestFact_0 : decode cX7_bestFact 0 = .ok (.iconst 0, 1) := by decide +kernel
theorem dX7_bestFact_1 : decode cX7_bestFact 1 = .ok (.istore_n 2, 1) := by decide +kernel
theorem dX7_bestFact_2 : decode cX7_bestFact 2 = .ok (.iconst 1, 1) := by decide +kernel
theorem dX7_bestFact_3 : decode cX7_bestFact 3 = .ok (.istore_n 3, 1) := by decide +kernel
theorem dX7_bestFact_4 : decode cX7_bestFact 4 = .ok (.iload_n 3, 1) := by decide +kernel
theorem dX7_bestFact_5 : decode cX7_bestFact 5 = .ok (.iload_n 1, 1) := by decide +kernel
theorem dX7_bestFact_6 : decode cX7_bestFact 6 = .ok (.if_icmp .ge 24, 3) := by decide +kernel
theorem dX7_bestFact_9 : decode cX7_bestFact 9 = .ok (.aload_n 0, 1) := by decide +kernel
theorem dX7_bestFact_10 : decode cX7_bestFact 10 = .ok (.iload_n 3, 1) := by decide +kernel
theorem dX7_bestFact_11 : decode cX7_bestFact 11 = .ok (.invokevirtual 42, 3) := by decide +kernel
theorem dX7_bestFact_14 : decode cX7_bestFact 14 = .ok (.aload_n 0, 1) := by decide +kernel
theorem dX7_bestFact_15 : decode cX7_bestFact 15 = .ok (.iload_n 2, 1) := by decide +kernel
theorem dX7_bestFact_16 : decode cX7_bestFact 16 = .ok (.invokevirtual 42, 3) := by decide +kernel
theorem dX7_bestFact_19 : decode cX7_bestFact 19 = .ok (.if_icmp .ge 5, 3) := by decide +kernel
theorem dX7_bestFact_22 : decode cX7_bestFact 22 = .ok (.iload_n 3, 1) := by decide +kernel
theorem dX7_bestFact_23 : decode cX7_bestFact 23 = .ok (.istore_n 2, 1) := by decide +kernel
theorem dX7_bestFact_24 : decode cX7_bestFact 24 = .ok (.iinc 3 1, 3) := by decide +kernel
theorem dX7_bestFact_27 : decode cX7_bestFact 27 = .ok (.goto (-23), 3) := by decide +kernel
theorem dX7_bestFact_30 : decode cX7_bestFact 30 = .ok (.iload_n 2, 1) := by decide +kernel
theorem dX7_bestFact_31 : decode cX7_bestFact 31 = .ok (.ireturn, 1) := by decide +kernel
theorem dX8_init_0 : decode cX8_init 0 = .ok (.aload_n 0, 1) := by decide +kernel
theorem dX8_init_1 : decode cX8_init 1 = .ok (.invokespecial 1, 3) := by decide +kernel
theorem dX8_init_4 : decode cX8_init 4 = .ok (.aload_n 0, 1) := by decide +kernel
theorem dX8_init_5 : decode cX8_init 5 = .ok (.new 7, 3) := by decide +kernel
theorem dX8_init_8 : decode cX8_init 8 = .ok (.dup, 1) := by decide +kernel
theorem dX8_init_9 : decode cX8_init 9 = .ok (.invokespecial 9, 3) := by decide +kernel
theorem dX8_init_12 : decode cX8_init 12 = .ok (.putfield 10, 3) := by decide +kernel
theorem dX8_init_15 : decode cX8_init 15 = .ok (.aload_n 0, 1) := by decide +kernel
theorem dX8_init_16 : decode cX8_init 16 = .ok (.new 7, 3) := by decide +kernel
theorem dX8_init_19 : decode cX8_init 19 = .ok (.dup, 1) := by decide +kernel
theorem dX8_init_20 : decode cX8_init 20 = .ok (.invokespecial 9, 3) := by decide +kernel
theorem dX8_init_23 : decode cX8_init 23 = .ok (.putfield 16, 3) := by decide +kernel
theorem dX8_init_26 : decode cX8_init 26 = .ok (.aload_n 0, 1) := by decide +kernel
theorem dX8_init_27 : decode cX8_init 27 = .ok (.new 7, 3) := by decide +kernel
theorem dX8_init_30 : decode cX8_init 30 = .ok (.dup, 1) := by decide +kernel
theorem dX8_init_31 : decode cX8_init 31 = .ok (.invokespecial 9, 3) := by decide +kernel
theorem dX8_init_34 : decode cX8_init 34 = .ok (.putfield 19, 3) := by decide +kernel
theorem dX8_init_37 : decode cX8_init 37 = .ok (.aload_n 0, 1) := by decide +kernel
theorem dX8_init_38 : decode cX8_init 38 = .ok (.new 22, 3) := by decide +kernel
theorem dX8_init_41 : decode cX8_init 41 = .ok (.dup, 1) := by decide +kernel
theorem dX8_init_42 : decode cX8_init 42 = .ok (.invokespecial 24, 3) := by decide +kernel
theorem dX8_init_45 : decode cX8_init 45 = .ok (.putfield 25, 3) := by decide +kernel
theorem dX8_init_48 : decode cX8_init 48 = .ok (.aload_n 0, 1) := by decide +kernel
theorem dX8_init_49 : decode cX8_init 49 = .ok (.new 29, 3) := by decide +kernel
theorem dX8_init_52 : decode cX8_init 52 = .ok (.dup, 1) := by decide +kernel
theorem dX8_init_53 : decode cX8_init 53 = .ok (.invokespecial 31, 3) := by decide +kernel
theorem dX8_init_56 : decode cX8_init 56 = .ok (.putfield 32, 3) := by decide +kernel
theorem dX8_init_59 : decode cX8_init 59 = .ok (.aload_n 0, 1) := by decide +kernel
theorem dX8_init_60 : decode cX8_init 60 = .ok (.new 36, 3) := by decide +kernel
theorem dX8_init_63 : decode cX8_init 63 = .ok (.dup, 1) := by decide +kernel
theorem dX8_init_64 : decode cX8_init 64 = .ok (.invokespecial 38, 3) := by decide +kernel
theorem dX8_init_67 : decode cX8_init 67 = .ok (.putfield 39, 3) := by decide +kernel
theorem dX8_init_70 : decode cX8_init 70 = .ok (.aload_n 0, 1) := by decide +kernel
theorem dX8_init_71 : decode cX8_init 71 = .ok (.new 43, 3) := by decide +kernel
theorem dX8_init_74 : decode cX8_init 74 = .ok (.dup, 1) := by decide +kernel
theorem dX8_init_75 : decode cX8_init 75 = .ok (.invokespecial 45, 3) := by decide +kernel
theorem dX8_init_78 : decode cX8_init 78 = .ok (.putfield 46, 3) := by decide +kernel
theorem dX8_init_81 : decode cX8_init 81 = .ok (.aload_n 0, 1) := by decide +kernel
theorem dX8_init_82 : decode cX8_init 82 = .ok (.new 50, 3) := by decide +kernel
theorem dX8_init_85 : decode cX8_init 85 = .ok (.dup, 1) := by decide +kernel
theorem dX8_init_86 : decode cX8_init 86 = .ok (.invokespecial 52, 3) := by decide +kernel
theorem dX8_init_89 : decode cX8_init 89 = .ok (.putfield 53, 3) := by decide +kernel
theorem dX8_init_92 : decode cX8_init 92 = .ok (.aload_n 0, 1) := by decide +kernel
theorem dX8_init_93 : decode cX8_init 93 = .ok (.new 57, 3) := by decide +kernel
theorem dX8_init_96 : decode cX8_init 96 = .ok (.dup, 1) := by decide +kernel
theorem dX8_init_97 : decode cX8_init 97 = .ok (.invokespecial 59, 3) := by decide +kernel
theorem dX8_init_100 : decode cX8_init 100 = .ok (.putfield 60, 3) := by decide +kernel
theorem dX8_init_103 : decode cX8_init 103 = .ok (.return_, 1) := by decide +kernel
theorem dX8_facts_0 : decode cX8_facts 0 = .ok (.iload_n 1, 1) := by decide +kernel
theorem dX8_facts_1 : decode cX8_facts 1 = .ok (.iconst 1, 1) := by decide +kernel
theorem dX8_facts_2 : decode cX8_facts 2 = .ok (.bipush 8, 2) := by decide +kernel
theorem dX8_facts_4 : decode cX8_facts 4 = .ok (.invokestatic 64, 3) := by decide +kernel
theorem dX8_facts_7 : decode cX8_facts 7 = .ok (.ifCond .ne 6, 3) := by decide +kernel
theorem dX8_facts_10 : decode cX8_facts 10 = .ok (.bipush (-2), 2) := by decide +kernel
theorem dX8_facts_12 : decode cX8_facts 12 = .ok (.ireturn, 1) := by decide +kernel
theorem dX8_facts_13 : decode cX8_facts 13 = .ok (.aload_n 0, 1) := by decide +kernel
theorem dX8_facts_14 : decode cX8_facts 14 = .ok (.getfield 10, 3) := by decide +kernel
theorem dX8_facts_17 : decode cX8_facts 17 = .ok (.getfield 68, 3) := by decide +kernel
theorem dX8_facts_20 : decode cX8_facts 20 = .ok (.istore_n 2, 1) := by decide +kernel
theorem dX8_facts_21 : decode cX8_facts 21 = .ok (.aload_n 0, 1) := by decide +kernel
theorem dX8_facts_22 : decode cX8_facts 22 = .ok (.getfield 10, 3) := by decide +kernel
theorem dX8_facts_25 : decode cX8_facts 25 = .ok (.iload_n 1, 1) := by decide +kernel
theorem dX8_facts_26 : decode cX8_facts 26 = .ok (.invokevirtual 72, 3) := by decide +kernel
theorem dX8_facts_29 : decode cX8_facts 29 = .ok (.iload_n 2, 1) := by decide +kernel
theorem dX8_facts_30 : decode cX8_facts 30 = .ok (.ireturn, 1) := by decide +kernel
theorem dX8_fact_0 : decode cX8_fact 0 = .ok (.iload_n 1, 1) := by decide +kernel
theorem dX8_fact_1 : decode cX8_fact 1 = .ok (.iconst 0, 1) := by decide +kernel
theorem dX8_fact_2 : decode cX8_fact 2 = .ok (.aload_n 0, 1) := by decide +kernel
theorem dX8_fact_3 : decode cX8_fact 3 = .ok (.getfield 10, 3) := by decide +kernel
theorem dX8_fact_6 : decode cX8_fact 6 = .ok (.getfield 68, 3) := by decide +kernel
theorem dX8_fact_9 : decode cX8_fact 9 = .ok (.iconst 1, 1) := by decide +kernel
theorem dX8_fact_10 : decode cX8_fact 10 = .ok (.isub, 1) := by decide +kernel
theorem dX8_fact_11 : decode cX8_fact 11 = .ok (.invokestatic 64, 3) := by decide +kernel
theorem dX8_fact_14 : decode cX8_fact 14 = .ok (.ifCond .ne 5, 3) := by decide +kernel
theorem dX8_fact_17 : decode cX8_fact 17 = .ok (.iconst (-1), 1) := by decide +kernel
theorem dX8_fact_18 : decode cX8_fact 18 = .ok (.ireturn, 1) := by decide +kernel
theorem dX8_fact_19 : decode cX8_fact 19 = .ok (.iconst 1, 1) := by decide +kernel
theorem dX8_fact_20 : decode cX8_fact 20 = .ok (.iload_n 1, 1) := by decide +kernel
theorem dX8_fact_21 : decode cX8_fact 21 = .ok (.ishl, 1) := by decide +kernel
theorem dX8_fact_22 : decode cX8_fact 22 = .ok (.istore_n 3, 1) := by decide +kernel
theorem dX8_fact_23 : decode cX8_fact 23 = .ok (.aload_n 0, 1) := by decide +kernel
theorem dX8_fact_24 : decode cX8_fact 24 = .ok (.getfield 10, 3) := by decide +kernel
theorem dX8_fact_27 : decode cX8_fact 27 = .ok (.iload_n 2, 1) := by decide +kernel
theorem dX8_fact_28 : decode cX8_fact 28 = .ok (.ifCond .eq 15, 3) := by decide +kernel
theorem dX8_fact_31 : decode cX8_fact 31 = .ok (.aload_n 0, 1) := by decide +kernel
theorem dX8_fact_32 : decode cX8_fact 32 = .ok (.getfield 10, 3) := by decide +kernel
theorem dX8_fact_35 : decode cX8_fact 35 = .ok (.getfield 76, 3) := by decide +kernel
theorem dX8_fact_38 : decode cX8_fact 38 = .ok (.iload_n 3, 1) := by decide +kernel
theorem dX8_fact_39 : decode cX8_fact 39 = .ok (.ior, 1) := by decide +kernel
theorem dX8_fact_40 : decode cX8_fact 40 = .ok (.goto 14, 3) := by decide +kernel
theorem dX8_fact_43 : decode cX8_fact 43 = .ok (.aload_n 0, 1) := by decide +kernel
theorem dX8_fact_44 : decode cX8_fact 44 = .ok (.getfield 10, 3) := by decide +kernel
theorem dX8_fact_47 : decode cX8_fact 47 = .ok (.getfield 76, 3) := by decide +kernel
theorem dX8_fact_50 : decode cX8_fact 50 = .ok (.iload_n 3, 1) := by decide +kernel
theorem dX8_fact_51 : decode cX8_fact 51 = .ok (.iconst (-1), 1) := by decide +kernel
theorem dX8_fact_52 : decode cX8_fact 52 = .ok (.ixor, 1) := by decide +kernel
theorem dX8_fact_53 : decode cX8_fact 53 = .ok (.iand, 1) := by decide +kernel
theorem dX8_fact_54 : decode cX8_fact 54 = .ok (.putfield 76, 3) := by decide +kernel
theorem dX8_fact_57 : decode cX8_fact 57 = .ok (.aload_n 0, 1) := by decide +kernel
theorem dX8_fact_58 : decode cX8_fact 58 = .ok (.getfield 10, 3) := by decide +kernel
theorem dX8_fact_61 : decode cX8_fact 61 = .ok (.getfield 76, 3) := by decide +kernel
theorem dX8_fact_64 : decode cX8_fact 64 = .ok (.ireturn, 1) := by decide +kernel
theorem dX8_temper_0 : decode cX8_temper 0 = .ok (.iload_n 1, 1) := by decide +kernel
theorem dX8_temper_1 : decode cX8_temper 1 = .ok (.invokestatic 79, 3) := by decide +kernel
theorem dX8_temper_4 : decode cX8_temper 4 = .ok (.ifCond .ne 5, 3) := by decide +kernel
theorem dX8_temper_7 : decode cX8_temper 7 = .ok (.iconst (-1), 1) := by decide +kernel
theorem dX8_temper_8 : decode cX8_temper 8 = .ok (.ireturn, 1) := by decide +kernel
theorem dX8_temper_9 : decode cX8_temper 9 = .ok (.iload_n 2, 1) := by decide +kernel
theorem dX8_temper_10 : decode cX8_temper 10 = .ok (.iconst 0, 1) := by decide +kernel
theorem dX8_temper_11 : decode cX8_temper 11 = .ok (.iconst 2, 1) := by decide +kernel
theorem dX8_temper_12 : decode cX8_temper 12 = .ok (.invokestatic 64, 3) := by decide +kernel
theorem dX8_temper_15 : decode cX8_temper 15 = .ok (.ifCond .ne 6, 3) := by decide +kernel
theorem dX8_temper_18 : decode cX8_temper 18 = .ok (.bipush (-2), 2) := by decide +kernel
theorem dX8_temper_20 : decode cX8_temper 20 = .ok (.ireturn, 1) := by decide +kernel
theorem dX8_temper_21 : decode cX8_temper 21 = .ok (.aload_n 0, 1) := by decide +kernel
theorem dX8_temper_22 : decode cX8_temper 22 = .ok (.getfield 10, 3) := by decide +kernel
theorem dX8_temper_25 : decode cX8_temper 25 = .ok (.iload_n 1, 1) := by decide +kernel
theorem dX8_temper_26 : decode cX8_temper 26 = .ok (.invokevirtual 83, 3) := by decide +kernel
theorem dX8_temper_29 : decode cX8_temper 29 = .ok (.istore_n 3, 1) := by decide +kernel
theorem dX8_temper_30 : decode cX8_temper 30 = .ok (.aload_n 0, 1) := by decide +kernel
theorem dX8_temper_31 : decode cX8_temper 31 = .ok (.getfield 10, 3) := by decide +kernel
theorem dX8_temper_34 : decode cX8_temper 34 = .ok (.getfield 87, 3) := by decide +kernel
theorem dX8_temper_37 : decode cX8_temper 37 = .ok (.iload_n 1, 1) := by decide +kernel
theorem dX8_temper_38 : decode cX8_temper 38 = .ok (.iload_n 2, 1) := by decide +kernel
theorem dX8_temper_39 : decode cX8_temper 39 = .ok (.invokestatic 91, 3) := by decide +kernel
theorem dX8_temper_42 : decode cX8_temper 42 = .ok (.iload_n 3, 1) := by decide +kernel
theorem dX8_temper_43 : decode cX8_temper 43 = .ok (.ireturn, 1) := by decide +kernel
theorem dX8_width_0 : decode cX8_width 0 = .ok (.iload_n 1, 1) := by decide +kernel
theorem dX8_width_1 : decode cX8_width 1 = .ok (.iconst 0, 1) := by decide +kernel
theorem dX8_width_2 : decode cX8_width 2 = .ok (.bipush 40, 2) := by decide +kernel
theorem dX8_width_4 : decode cX8_width 4 = .ok (.invokestatic 64, 3) := by decide +kernel
theorem dX8_width_7 : decode cX8_width 7 = .ok (.ifCond .ne 6, 3) := by decide +kernel
theorem dX8_width_10 : decode cX8_width 10 = .ok (.bipush (-2), 2) := by decide +kernel
theorem dX8_width_12 : decode cX8_width 12 = .ok (.ireturn, 1) := by decide +kernel
theorem dX8_width_13 : decode cX8_width 13 = .ok (.aload_n 0, 1) := by decide +kernel
theorem dX8_width_14 : decode cX8_width 14 = .ok (.getfield 10, 3) := by decide +kernel
theorem dX8_width_17 : decode cX8_width 17 = .ok (.getfield 95, 3) := by decide +kernel
theorem dX8_width_20 : decode cX8_width 20 = .ok (.getfield 99, 3) := by decide +kernel
theorem dX8_width_23 : decode cX8_width 23 = .ok (.istore_n 2, 1) := by decide +kernel
theorem dX8_width_24 : decode cX8_width 24 = .ok (.aload_n 0, 1) := by decide +kernel
theorem dX8_width_25 : decode cX8_width 25 = .ok (.getfield 10, 3) := by decide +kernel
theorem dX8_width_28 : decode cX8_width 28 = .ok (.getfield 95, 3) := by decide +kernel
theorem dX8_width_31 : decode cX8_width 31 = .ok (.iload_n 1, 1) := by decide +kernel
theorem dX8_width_32 : decode cX8_width 32 = .ok (.putfield 99, 3) := by decide +kernel
theorem dX8_width_35 : decode cX8_width 35 = .ok (.iload_n 2, 1) := by decide +kernel
theorem dX8_width_36 : decode cX8_width 36 = .ok (.ireturn, 1) := by decide +kernel
theorem dX8_say_0 : decode cX8_say 0 = .ok (.iload_n 1, 1) := by decide +kernel
theorem dX8_say_1 : decode cX8_say 1 = .ok (.bipush 33, 2) := by decide +kernel
theorem dX8_say_3 : decode cX8_say 3 = .ok (.bipush 126, 2) := by decide +kernel
theorem dX8_say_5 : decode cX8_say 5 = .ok (.invokestatic 64, 3) := by decide +kernel
theorem dX8_say_8 : decode cX8_say 8 = .ok (.ifCond .ne 6, 3) := by decide +kernel
theorem dX8_say_11 : decode cX8_say 11 = .ok (.bipush (-2), 2) := by decide +kernel
theorem dX8_say_13 : decode cX8_say 13 = .ok (.ireturn, 1) := by decide +kernel
theorem dX8_say_14 : decode cX8_say 14 = .ok (.aload_n 0, 1) := by decide +kernel
theorem dX8_say_15 : decode cX8_say 15 = .ok (.getfield 25, 3) := by decide +kernel
theorem dX8_say_18 : decode cX8_say 18 = .ok (.iload_n 1, 1) := by decide +kernel
theorem dX8_say_19 : decode cX8_say 19 = .ok (.invokevirtual 104, 3) := by decide +kernel
theorem dX8_say_22 : decode cX8_say 22 = .ok (.ireturn, 1) := by decide +kernel
theorem dX8_wipe_0 : decode cX8_wipe 0 = .ok (.aload_n 0, 1) := by decide +kernel
theorem dX8_wipe_1 : decode cX8_wipe 1 = .ok (.getfield 25, 3) := by decide +kernel
theorem dX8_wipe_4 : decode cX8_wipe 4 = .ok (.getfield 107, 3) := by decide +kernel
theorem dX8_wipe_7 : decode cX8_wipe 7 = .ok (.istore_n 1, 1) := by decide +kernel
theorem dX8_wipe_8 : decode cX8_wipe 8 = .ok (.aload_n 0, 1) := by decide +kernel
theorem dX8_wipe_9 : decode cX8_wipe 9 = .ok (.getfield 25, 3) := by decide +kernel
theorem dX8_wipe_12 : decode cX8_wipe 12 = .ok (.iconst 0, 1) := by decide +kernel
theorem dX8_wipe_13 : decode cX8_wipe 13 = .ok (.putfield 107, 3) := by decide +kernel
theorem dX8_wipe_16 : decode cX8_wipe 16 = .ok (.iload_n 1, 1) := by decide +kernel
theorem dX8_wipe_17 : decode cX8_wipe 17 = .ok (.ireturn, 1) := by decide +kernel
theorem dX8_fault_0 : decode cX8_fault 0 = .ok (.iload_n 1, 1) := by decide +kernel
theorem dX8_fault_1 : decode cX8_fault 1 = .ok (.iconst 0, 1) := by decide +kernel
theorem dX8_fault_2 : decode cX8_fault 2 = .ok (.iconst 1, 1) := by decide +kernel
theorem dX8_fault_3 : decode cX8_fault 3 = .ok (.invokestatic 64, 3) := by decide +kernel
theorem dX8_fault_6 : decode cX8_fault 6 = .ok (.ifCond .ne 6, 3) := by decide +kernel
theorem dX8_fault_9 : decode cX8_fault 9 = .ok (.bipush (-2), 2) := by decide +kernel
theorem dX8_fault_11 : decode cX8_fault 11 = .ok (.ireturn, 1) := by decide +kernel
theorem dX8_fault_12 : decode cX8_fault 12 = .ok (.iload_n 1, 1) := by decide +kernel
theorem dX8_fault_13 : decode cX8_fault 13 = .ok (.ifCond .ne 24, 3) := by decide +kernel
theorem dX8_fault_16 : decode cX8_fault 16 = .ok (.aload_n 0, 1) := by decide +kernel
theorem dX8_fault_17 : decode cX8_fault 17 = .ok (.getfield 32, 3) := by decide +kernel
theorem dX8_fault_20 : decode cX8_fault 20 = .ok (.aload_n 0, 1) := by decide +kernel
theorem dX8_fault_21 : decode cX8_fault 21 = .ok (.getfield 25, 3) := by decide +kernel
theorem dX8_fault_24 : decode cX8_fault 24 = .ok (.aload_n 0, 1) := by decide +kernel
theorem dX8_fault_25 : decode cX8_fault 25 = .ok (.getfield 10, 3) := by decide +kernel
theorem dX8_fault_28 : decode cX8_fault 28 = .ok (.getfield 68, 3) := by decide +kernel
theorem dX8_fault_31 : decode cX8_fault 31 = .ok (.invokevirtual 110, 3) := by decide +kernel
theorem dX8_fault_34 : decode cX8_fault 34 = .ok (.goto 14, 3) := by decide +kernel
theorem dX8_fault_37 : decode cX8_fault 37 = .ok (.aload_n 0, 1) := by decide +kernel
theorem dX8_fault_38 : decode cX8_fault 38 = .ok (.getfield 39, 3) := by decide +kernel
theorem dX8_fault_41 : decode cX8_fault 41 = .ok (.aload_n 0, 1) := by decide +kernel
theorem dX8_fault_42 : decode cX8_fault 42 = .ok (.getfield 25, 3) := by decide +kernel
theorem dX8_fault_45 : decode cX8_fault 45 = .ok (.invokevirtual 114, 3) := by decide +kernel
theorem dX8_fault_48 : decode cX8_fault 48 = .ok (.ireturn, 1) := by decide +kernel
theorem dX8_judge_0 : decode cX8_judge 0 = .ok (.iload_n 1, 1) := by decide +kernel
theorem dX8_judge_1 : decode cX8_judge 1 = .ok (.iconst 0, 1) := by decide +kernel
theorem dX8_judge_2 : decode cX8_judge 2 = .ok (.iconst 3, 1) := by decide +kernel
theorem dX8_judge_3 : decode cX8_judge 3 = .ok (.invokestatic 64, 3) := by decide +kernel
theorem dX8_judge_6 : decode cX8_judge 6 = .ok (.ifCond .ne 6, 3) := by decide +kernel
theorem dX8_judge_9 : decode cX8_judge 9 = .ok (.bipush (-2), 2) := by decide +kernel
theorem dX8_judge_11 : decode cX8_judge 11 = .ok (.ireturn, 1) := by decide +kernel
theorem dX8_judge_12 : decode cX8_judge 12 = .ok (.aload_n 0, 1) := by decide +kernel
theorem dX8_judge_13 : decode cX8_judge 13 = .ok (.invokevirtual 117, 3) := by decide +kernel
theorem dX8_judge_16 : decode cX8_judge 16 = .ok (.istore_n 2, 1) := by decide +kernel
theorem dX8_judge_17 : decode cX8_judge 17 = .ok (.iload_n 2, 1) := by decide +kernel
theorem dX8_judge_18 : decode cX8_judge 18 = .ok (.bipush (-5), 2) := by decide +kernel
theorem dX8_judge_20 : decode cX8_judge 20 = .ok (.if_icmp .eq 14, 3) := by decide +kernel
theorem dX8_judge_23 : decode cX8_judge 23 = .ok (.iload_n 2, 1) := by decide +kernel
theorem dX8_judge_24 : decode cX8_judge 24 = .ok (.bipush (-3), 2) := by decide +kernel
theorem dX8_judge_26 : decode cX8_judge 26 = .ok (.if_icmp .ne 10, 3) := by decide +kernel
theorem dX8_judge_29 : decode cX8_judge 29 = .ok (.iload_n 1, 1) := by decide +kernel
theorem dX8_judge_30 : decode cX8_judge 30 = .ok (.iconst 2, 1) := by decide +kernel
theorem dX8_judge_31 : decode cX8_judge 31 = .ok (.if_icmp .lt 5, 3) := by decide +kernel
theorem dX8_judge_34 : decode cX8_judge 34 = .ok (.iload_n 2, 1) := by decide +kernel
theorem dX8_judge_35 : decode cX8_judge 35 = .ok (.ireturn, 1) := by decide +kernel
theorem dX8_judge_36 : decode cX8_judge 36 = .ok (.iload_n 1, 1) := by decide +kernel
theorem dX8_judge_37 : decode cX8_judge 37 = .ok (.tableswitch 54 0 2 #[27, 35, 43], 27) := by decide +kernel
theorem dX8_judge_64 : decode cX8_judge 64 = .ok (.aload_n 0, 1) := by decide +kernel
theorem dX8_judge_65 : decode cX8_judge 65 = .ok (.getfield 32, 3) := by decide +kernel
theorem dX8_judge_68 : decode cX8_judge 68 = .ok (.getfield 121, 3) := by decide +kernel
theorem dX8_judge_71 : decode cX8_judge 71 = .ok (.ireturn, 1) := by decide +kernel
theorem dX8_judge_72 : decode cX8_judge 72 = .ok (.aload_n 0, 1) := by decide +kernel
theorem dX8_judge_73 : decode cX8_judge 73 = .ok (.getfield 32, 3) := by decide +kernel
theorem dX8_judge_76 : decode cX8_judge 76 = .ok (.getfield 124, 3) := by decide +kernel
theorem dX8_judge_79 : decode cX8_judge 79 = .ok (.ireturn, 1) := by decide +kernel
theorem dX8_judge_80 : decode cX8_judge 80 = .ok (.aload_n 0, 1) := by decide +kernel
theorem dX8_judge_81 : decode cX8_judge 81 = .ok (.getfield 32, 3) := by decide +kernel
theorem dX8_judge_84 : decode cX8_judge 84 = .ok (.getfield 127, 3) := by decide +kernel
theorem dX8_judge_87 : decode cX8_judge 87 = .ok (.getfield 128, 3) := by decide +kernel
theorem dX8_judge_90 : decode cX8_judge 90 = .ok (.ireturn, 1) := by decide +kernel
theorem dX8_judge_91 : decode cX8_judge 91 = .ok (.aload_n 0, 1) := by decide +kernel
theorem dX8_judge_92 : decode cX8_judge 92 = .ok (.getfield 32, 3) := by decide +kernel
theorem dX8_judge_95 : decode cX8_judge 95 = .ok (.getfield 127, 3) := by decide +kernel
theorem dX8_judge_98 : decode cX8_judge 98 = .ok (.getfield 131, 3) := by decide +kernel
theorem dX8_judge_101 : decode cX8_judge 101 = .ok (.ireturn, 1) := by decide +kernel
theorem dX8_behind_0 : decode cX8_behind 0 = .ok (.iload_n 1, 1) := by decide +kernel
theorem dX8_behind_1 : decode cX8_behind 1 = .ok (.iconst 0, 1) := by decide +kernel
theorem dX8_behind_2 : decode cX8_behind 2 = .ok (.iconst 3, 1) := by decide +kernel
theorem dX8_behind_3 : decode cX8_behind 3 = .ok (.invokestatic 64, 3) := by decide +kernel
theorem dX8_behind_6 : decode cX8_behind 6 = .ok (.ifCond .ne 6, 3) := by decide +kernel
theorem dX8_behind_9 : decode cX8_behind 9 = .ok (.bipush (-2), 2) := by decide +kernel
theorem dX8_behind_11 : decode cX8_behind 11 = .ok (.ireturn, 1) := by decide +kernel
theorem dX8_behind_12 : decode cX8_behind 12 = .ok (.aload_n 0, 1) := by decide +kernel
theorem dX8_behind_13 : decode cX8_behind 13 = .ok (.invokevirtual 117, 3) := by decide +kernel
theorem dX8_behind_16 : decode cX8_behind 16 = .ok (.istore_n 2, 1) := by decide +kernel
theorem dX8_behind_17 : decode cX8_behind 17 = .ok (.iload_n 2, 1) := by decide +kernel
theorem dX8_behind_18 : decode cX8_behind 18 = .ok (.ifCond .eq 5, 3) := by decide +kernel
theorem dX8_behind_21 : decode cX8_behind 21 = .ok (.iload_n 2, 1) := by decide +kernel
theorem dX8_behind_22 : decode cX8_behind 22 = .ok (.ireturn, 1) := by decide +kernel
theorem dX8_behind_23 : decode cX8_behind 23 = .ok (.iload_n 1, 1) := by decide +kernel
theorem dX8_behind_24 : decode cX8_behind 24 = .ok (.tableswitch 58 0 2 #[28, 39, 50], 28) := by decide +kernel
theorem dX8_behind_52 : decode cX8_behind 52 = .ok (.aload_n 0, 1) := by decide +kernel
theorem dX8_behind_53 : decode cX8_behind 53 = .ok (.getfield 32, 3) := by decide +kernel
theorem dX8_behind_56 : decode cX8_behind 56 = .ok (.getfield 127, 3) := by decide +kernel
theorem dX8_behind_59 : decode cX8_behind 59 = .ok (.getfield 134, 3) := by decide +kernel
theorem dX8_behind_62 : decode cX8_behind 62 = .ok (.ireturn, 1) := by decide +kernel
theorem dX8_behind_63 : decode cX8_behind 63 = .ok (.aload_n 0, 1) := by decide +kernel
theorem dX8_behind_64 : decode cX8_behind 64 = .ok (.getfield 32, 3) := by decide +kernel
theorem dX8_behind_67 : decode cX8_behind 67 = .ok (.getfield 127, 3) := by decide +kernel
theorem dX8_behind_70 : decode cX8_behind 70 = .ok (.getfield 99, 3) := by decide +kernel
theorem dX8_behind_73 : decode cX8_behind 73 = .ok (.ireturn, 1) := by decide +kernel
theorem dX8_behind_74 : decode cX8_behind 74 = .ok (.aload_n 0, 1) := by decide +kernel
theorem dX8_behind_75 : decode cX8_behind 75 = .ok (.getfield 32, 3) := by decide +kernel
theorem dX8_behind_78 : decode cX8_behind 78 = .ok (.invokevirtual 135, 3) := by decide +kernel
theorem dX8_behind_81 : decode cX8_behind 81 = .ok (.ireturn, 1) := by decide +kernel
theorem dX8_behind_82 : decode cX8_behind 82 = .ok (.aload_n 0, 1) := by decide +kernel
theorem dX8_behind_83 : decode cX8_behind 83 = .ok (.getfield 32, 3) := by decide +kernel
theorem dX8_behind_86 : decode cX8_behind 86 = .ok (.invokevirtual 138, 3) := by decide +kernel
theorem dX8_behind_89 : decode cX8_behind 89 = .ok (.ireturn, 1) := by decide +kernel
theorem dX8_row_0 : decode cX8_row 0 = .ok (.iload_n 2, 1) := by decide +kernel
theorem dX8_row_1 : decode cX8_row 1 = .ok (.iconst 0, 1) := by decide +kernel
theorem dX8_row_2 : decode cX8_row 2 = .ok (.iconst 2, 1) := by decide +kernel
theorem dX8_row_3 : decode cX8_row 3 = .ok (.invokestatic 64, 3) := by decide +kernel
theorem dX8_row_6 : decode cX8_row 6 = .ok (.ifCond .ne 6, 3) := by decide +kernel
theorem dX8_row_9 : decode cX8_row 9 = .ok (.bipush (-2), 2) := by decide +kernel
theorem dX8_row_11 : decode cX8_row 11 = .ok (.ireturn, 1) := by decide +kernel
theorem dX8_row_12 : decode cX8_row 12 = .ok (.aload_n 0, 1) := by decide +kernel
theorem dX8_row_13 : decode cX8_row 13 = .ok (.invokevirtual 117, 3) := by decide +kernel
theorem dX8_row_16 : decode cX8_row 16 = .ok (.istore_n 3, 1) := by decide +kernel
theorem dX8_row_17 : decode cX8_row 17 = .ok (.iload_n 3, 1) := by decide +kernel
theorem dX8_row_18 : decode cX8_row 18 = .ok (.ifCond .eq 5, 3) := by decide +kernel
theorem dX8_row_21 : decode cX8_row 21 = .ok (.iload_n 3, 1) := by decide +kernel
theorem dX8_row_22 : decode cX8_row 22 = .ok (.ireturn, 1) := by decide +kernel
theorem dX8_row_23 : decode cX8_row 23 = .ok (.aload_n 0, 1) := by decide +kernel
theorem dX8_row_24 : decode cX8_row 24 = .ok (.getfield 32, 3) := by decide +kernel
theorem dX8_row_27 : decode cX8_row 27 = .ok (.getfield 127, 3) := by decide +kernel
theorem dX8_row_30 : decode cX8_row 30 = .ok (.iload_n 1, 1) := by decide +kernel
theorem dX8_row_31 : decode cX8_row 31 = .ok (.invokevirtual 141, 3) := by decide +kernel
theorem dX8_row_34 : decode cX8_row 34 = .ok (.ifCond .eq 18, 3) := by decide +kernel
theorem dX8_row_37 : decode cX8_row 37 = .ok (.aload_n 0, 1) := by decide +kernel
theorem dX8_row_38 : decode cX8_row 38 = .ok (.getfield 32, 3) := by decide +kernel
theorem dX8_row_41 : decode cX8_row 41 = .ok (.getfield 127, 3) := by decide +kernel
theorem dX8_row_44 : decode cX8_row 44 = .ok (.iload_n 1, 1) := by decide +kernel
theorem dX8_row_45 : decode cX8_row 45 = .ok (.iload_n 2, 1) := by decide +kernel
theorem dX8_row_46 : decode cX8_row 46 = .ok (.invokevirtual 144, 3) := by decide +kernel
theorem dX8_row_49 : decode cX8_row 49 = .ok (.goto 4, 3) := by decide +kernel
theorem dX8_row_52 : decode cX8_row 52 = .ok (.iconst (-1), 1) := by decide +kernel
theorem dX8_row_53 : decode cX8_row 53 = .ok (.ireturn, 1) := by decide +kernel
theorem dX8_lost_0 : decode cX8_lost 0 = .ok (.aload_n 0, 1) := by decide +kernel
theorem dX8_lost_1 : decode cX8_lost 1 = .ok (.getfield 10, 3) := by decide +kernel
theorem dX8_lost_4 : decode cX8_lost 4 = .ok (.getfield 95, 3) := by decide +kernel
theorem dX8_lost_7 : decode cX8_lost 7 = .ok (.iload_n 1, 1) := by decide +kernel
theorem dX8_lost_8 : decode cX8_lost 8 = .ok (.invokevirtual 141, 3) := by decide +kernel
theorem dX8_lost_11 : decode cX8_lost 11 = .ok (.ifCond .ne 5, 3) := by decide +kernel
theorem dX8_lost_14 : decode cX8_lost 14 = .ok (.iconst (-1), 1) := by decide +kernel
theorem dX8_lost_15 : decode cX8_lost 15 = .ok (.ireturn, 1) := by decide +kernel
theorem dX8_lost_16 : decode cX8_lost 16 = .ok (.aload_n 0, 1) := by decide +kernel
theorem dX8_lost_17 : decode cX8_lost 17 = .ok (.invokevirtual 117, 3) := by decide +kernel
theorem dX8_lost_20 : decode cX8_lost 20 = .ok (.istore_n 2, 1) := by decide +kernel
theorem dX8_lost_21 : decode cX8_lost 21 = .ok (.iload_n 2, 1) := by decide +kernel
theorem dX8_lost_22 : decode cX8_lost 22 = .ok (.ifCond .eq 7, 3) := by decide +kernel
theorem dX8_lost_25 : decode cX8_lost 25 = .ok (.iload_n 2, 1) := by decide +kernel
theorem dX8_lost_26 : decode cX8_lost 26 = .ok (.goto 11, 3) := by decide +kernel
theorem dX8_lost_29 : decode cX8_lost 29 = .ok (.aload_n 0, 1) := by decide +kernel
theorem dX8_lost_30 : decode cX8_lost 30 = .ok (.getfield 32, 3) := by decide +kernel
theorem dX8_lost_33 : decode cX8_lost 33 = .ok (.iload_n 1, 1) := by decide +kernel
theorem dX8_lost_34 : decode cX8_lost 34 = .ok (.invokevirtual 148, 3) := by decide +kernel
theorem dX8_lost_37 : decode cX8_lost 37 = .ok (.ireturn, 1) := by decide +kernel
theorem dX8_done_0 : decode cX8_done 0 = .ok (.aload_n 0, 1) := by decide +kernel
theorem dX8_done_1 : decode cX8_done 1 = .ok (.invokevirtual 117, 3) := by decide +kernel
theorem dX8_done_4 : decode cX8_done 4 = .ok (.istore_n 1, 1) := by decide +kernel
theorem dX8_done_5 : decode cX8_done 5 = .ok (.iload_n 1, 1) := by decide +kernel
theorem dX8_done_6 : decode cX8_done 6 = .ok (.ifCond .eq 5, 3) := by decide +kernel
theorem dX8_done_9 : decode cX8_done 9 = .ok (.iload_n 1, 1) := by decide +kernel
theorem dX8_done_10 : decode cX8_done 10 = .ok (.ireturn, 1) := by decide +kernel
theorem dX8_done_11 : decode cX8_done 11 = .ok (.aload_n 0, 1) := by decide +kernel
theorem dX8_done_12 : decode cX8_done 12 = .ok (.getfield 10, 3) := by decide +kernel
theorem dX8_done_15 : decode cX8_done 15 = .ok (.getfield 95, 3) := by decide +kernel
theorem dX8_done_18 : decode cX8_done 18 = .ok (.aload_n 0, 1) := by decide +kernel
theorem dX8_done_19 : decode cX8_done 19 = .ok (.getfield 32, 3) := by decide +kernel
theorem dX8_done_22 : decode cX8_done 22 = .ok (.getfield 127, 3) := by decide +kernel
theorem dX8_done_25 : decode cX8_done 25 = .ok (.invokevirtual 151, 3) := by decide +kernel
theorem dX8_done_28 : decode cX8_done 28 = .ok (.aload_n 0, 1) := by decide +kernel
theorem dX8_done_29 : decode cX8_done 29 = .ok (.getfield 25, 3) := by decide +kernel
theorem dX8_done_32 : decode cX8_done 32 = .ok (.iconst 0, 1) := by decide +kernel
theorem dX8_done_33 : decode cX8_done 33 = .ok (.putfield 107, 3) := by decide +kernel
theorem dX8_done_36 : decode cX8_done 36 = .ok (.aload_n 0, 1) := by decide +kernel
theorem dX8_done_37 : decode cX8_done 37 = .ok (.getfield 32, 3) := by decide +kernel
theorem dX8_done_40 : decode cX8_done 40 = .ok (.getfield 155, 3) := by decide +kernel
theorem dX8_done_43 : decode cX8_done 43 = .ok (.ireturn, 1) := by decide +kernel
theorem dX8_state_0 : decode cX8_state 0 = .ok (.aload_n 0, 1) := by decide +kernel
theorem dX8_state_1 : decode cX8_state 1 = .ok (.getfield 10, 3) := by decide +kernel
theorem dX8_state_4 : decode cX8_state 4 = .ok (.getfield 95, 3) := by decide +kernel
theorem dX8_state_7 : decode cX8_state 7 = .ok (.iload_n 1, 1) := by decide +kernel
theorem dX8_state_8 : decode cX8_state 8 = .ok (.invokevirtual 141, 3) := by decide +kernel
theorem dX8_state_11 : decode cX8_state 11 = .ok (.ifCond .ne 5, 3) := by decide +kernel
theorem dX8_state_14 : decode cX8_state 14 = .ok (.iconst (-1), 1) := by decide +kernel
theorem dX8_state_15 : decode cX8_state 15 = .ok (.ireturn, 1) := by decide +kernel
theorem dX8_state_16 : decode cX8_state 16 = .ok (.iload_n 2, 1) := by decide +kernel
theorem dX8_state_17 : decode cX8_state 17 = .ok (.iconst 0, 1) := by decide +kernel
theorem dX8_state_18 : decode cX8_state 18 = .ok (.iconst 2, 1) := by decide +kernel
theorem dX8_state_19 : decode cX8_state 19 = .ok (.invokestatic 64, 3) := by decide +kernel
theorem dX8_state_22 : decode cX8_state 22 = .ok (.ifCond .eq 18, 3) := by decide +kernel
theorem dX8_state_25 : decode cX8_state 25 = .ok (.aload_n 0, 1) := by decide +kernel
theorem dX8_state_26 : decode cX8_state 26 = .ok (.getfield 10, 3) := by decide +kernel
theorem dX8_state_29 : decode cX8_state 29 = .ok (.getfield 95, 3) := by decide +kernel
theorem dX8_state_32 : decode cX8_state 32 = .ok (.iload_n 1, 1) := by decide +kernel
theorem dX8_state_33 : decode cX8_state 33 = .ok (.iload_n 2, 1) := by decide +kernel
theorem dX8_state_34 : decode cX8_state 34 = .ok (.invokevirtual 144, 3) := by decide +kernel
theorem dX8_state_37 : decode cX8_state 37 = .ok (.goto 5, 3) := by decide +kernel
theorem dX8_state_40 : decode cX8_state 40 = .ok (.bipush (-2), 2) := by decide +kernel
theorem dX8_state_42 : decode cX8_state 42 = .ok (.ireturn, 1) := by decide +kernel
theorem dX8_made_0 : decode cX8_made 0 = .ok (.aload_n 0, 1) := by decide +kernel
theorem dX8_made_1 : decode cX8_made 1 = .ok (.invokevirtual 156, 3) := by decide +kernel
theorem dX8_made_4 : decode cX8_made 4 = .ok (.istore_n 1, 1) := by decide +kernel
theorem dX8_made_5 : decode cX8_made 5 = .ok (.iload_n 1, 1) := by decide +kernel
theorem dX8_made_6 : decode cX8_made 6 = .ok (.ifCond .eq 7, 3) := by decide +kernel
theorem dX8_made_9 : decode cX8_made 9 = .ok (.iload_n 1, 1) := by decide +kernel
theorem dX8_made_10 : decode cX8_made 10 = .ok (.goto 14, 3) := by decide +kernel
theorem dX8_made_13 : decode cX8_made 13 = .ok (.aload_n 0, 1) := by decide +kernel
theorem dX8_made_14 : decode cX8_made 14 = .ok (.aload_n 0, 1) := by decide +kernel
theorem dX8_made_15 : decode cX8_made 15 = .ok (.getfield 39, 3) := by decide +kernel
theorem dX8_made_18 : decode cX8_made 18 = .ok (.getfield 159, 3) := by decide +kernel
theorem dX8_made_21 : decode cX8_made 21 = .ok (.invokevirtual 160, 3) := by decide +kernel
theorem dX8_made_24 : decode cX8_made 24 = .ok (.ireturn, 1) := by decide +kernel
theorem dX8_bars_0 : decode cX8_bars 0 = .ok (.aload_n 0, 1) := by decide +kernel
theorem dX8_bars_1 : decode cX8_bars 1 = .ok (.invokevirtual 156, 3) := by decide +kernel
theorem dX8_bars_4 : decode cX8_bars 4 = .ok (.istore_n 1, 1) := by decide +kernel
theorem dX8_bars_5 : decode cX8_bars 5 = .ok (.iload_n 1, 1) := by decide +kernel
theorem dX8_bars_6 : decode cX8_bars 6 = .ok (.ifCond .eq 5, 3) := by decide +kernel
theorem dX8_bars_9 : decode cX8_bars 9 = .ok (.iload_n 1, 1) := by decide +kernel
theorem dX8_bars_10 : decode cX8_bars 10 = .ok (.ireturn, 1) := by decide +kernel
theorem dX8_bars_11 : decode cX8_bars 11 = .ok (.iconst 0, 1) := by decide +kernel
theorem dX8_bars_12 : decode cX8_bars 12 = .ok (.istore_n 2, 1) := by decide +kernel
theorem dX8_bars_13 : decode cX8_bars 13 = .ok (.iload_n 2, 1) := by decide +kernel
theorem dX8_bars_14 : decode cX8_bars 14 = .ok (.aload_n 0, 1) := by decide +kernel
theorem dX8_bars_15 : decode cX8_bars 15 = .ok (.getfield 39, 3) := by decide +kernel
theorem dX8_bars_18 : decode cX8_bars 18 = .ok (.getfield 159, 3) := by decide +kernel
theorem dX8_bars_21 : decode cX8_bars 21 = .ok (.if_icmp .ge 23, 3) := by decide +kernel
theorem dX8_bars_24 : decode cX8_bars 24 = .ok (.aload_n 0, 1) := by decide +kernel
theorem dX8_bars_25 : decode cX8_bars 25 = .ok (.iload_n 2, 1) := by decide +kernel
theorem dX8_bars_26 : decode cX8_bars 26 = .ok (.iconst 1, 1) := by decide +kernel
end
section
theorem dX8_bars_27 : decode cX8_bars 27 = .ok (.iadd, 1) := by decide +kernel
theorem dX8_bars_28 : decode cX8_bars 28 = .ok (.invokevirtual 160, 3) := by decide +kernel
theorem dX8_bars_31 : decode cX8_bars 31 = .ok (.bipush (-6), 2) := by decide +kernel
theorem dX8_bars_33 : decode cX8_bars 33 = .ok (.if_icmp .ne 5, 3) := by decide +kernel
theorem dX8_bars_36 : decode cX8_bars 36 = .ok (.iload_n 2, 1) := by decide +kernel
theorem dX8_bars_37 : decode cX8_bars 37 = .ok (.ireturn, 1) := by decide +kernel
theorem dX8_bars_38 : decode cX8_bars 38 = .ok (.iinc 2 1, 3) := by decide +kernel
theorem dX8_bars_41 : decode cX8_bars 41 = .ok (.goto (-28), 3) := by decide +kernel
theorem dX8_bars_44 : decode cX8_bars 44 = .ok (.bipush (-6), 2) := by decide +kernel
theorem dX8_bars_46 : decode cX8_bars 46 = .ok (.ireturn, 1) := by decide +kernel
theorem dX8_seen_0 : decode cX8_seen 0 = .ok (.iload_n 1, 1) := by decide +kernel
theorem dX8_seen_1 : decode cX8_seen 1 = .ok (.iconst 0, 1) := by decide +kernel
theorem dX8_seen_2 : decode cX8_seen 2 = .ok (.bipush 60, 2) := by decide +kernel
theorem dX8_seen_4 : decode cX8_seen 4 = .ok (.invokestatic 64, 3) := by decide +kernel
theorem dX8_seen_7 : decode cX8_seen 7 = .ok (.ifCond .eq 13, 3) := by decide +kernel
theorem dX8_seen_10 : decode cX8_seen 10 = .ok (.iload_n 2, 1) := by decide +kernel
theorem dX8_seen_11 : decode cX8_seen 11 = .ok (.iconst 0, 1) := by decide +kernel
theorem dX8_seen_12 : decode cX8_seen 12 = .ok (.bipush 30, 2) := by decide +kernel
theorem dX8_seen_14 : decode cX8_seen 14 = .ok (.invokestatic 64, 3) := by decide +kernel
theorem dX8_seen_17 : decode cX8_seen 17 = .ok (.ifCond .ne 6, 3) := by decide +kernel
theorem dX8_seen_20 : decode cX8_seen 20 = .ok (.bipush (-2), 2) := by decide +kernel
theorem dX8_seen_22 : decode cX8_seen 22 = .ok (.ireturn, 1) := by decide +kernel
theorem dX8_seen_23 : decode cX8_seen 23 = .ok (.aload_n 0, 1) := by decide +kernel
theorem dX8_seen_24 : decode cX8_seen 24 = .ok (.getfield 10, 3) := by decide +kernel
theorem dX8_seen_27 : decode cX8_seen 27 = .ok (.iload_n 1, 1) := by decide +kernel
theorem dX8_seen_28 : decode cX8_seen 28 = .ok (.iload_n 2, 1) := by decide +kernel
theorem dX8_seen_29 : decode cX8_seen 29 = .ok (.invokevirtual 163, 3) := by decide +kernel
theorem dX8_seen_32 : decode cX8_seen 32 = .ok (.ireturn, 1) := by decide +kernel
theorem dX8_forget_0 : decode cX8_forget 0 = .ok (.aload_n 0, 1) := by decide +kernel
theorem dX8_forget_1 : decode cX8_forget 1 = .ok (.getfield 10, 3) := by decide +kernel
theorem dX8_forget_4 : decode cX8_forget 4 = .ok (.getfield 166, 3) := by decide +kernel
theorem dX8_forget_7 : decode cX8_forget 7 = .ok (.istore_n 1, 1) := by decide +kernel
theorem dX8_forget_8 : decode cX8_forget 8 = .ok (.aload_n 0, 1) := by decide +kernel
theorem dX8_forget_9 : decode cX8_forget 9 = .ok (.getfield 10, 3) := by decide +kernel
theorem dX8_forget_12 : decode cX8_forget 12 = .ok (.iconst 0, 1) := by decide +kernel
theorem dX8_forget_13 : decode cX8_forget 13 = .ok (.putfield 166, 3) := by decide +kernel
theorem dX8_forget_16 : decode cX8_forget 16 = .ok (.iload_n 1, 1) := by decide +kernel
theorem dX8_forget_17 : decode cX8_forget 17 = .ok (.ireturn, 1) := by decide +kernel
theorem dX8_worlds_0 : decode cX8_worlds 0 = .ok (.iload_n 1, 1) := by decide +kernel
theorem dX8_worlds_1 : decode cX8_worlds 1 = .ok (.iconst 0, 1) := by decide +kernel
theorem dX8_worlds_2 : decode cX8_worlds 2 = .ok (.iconst 3, 1) := by decide +kernel
theorem dX8_worlds_3 : decode cX8_worlds 3 = .ok (.invokestatic 64, 3) := by decide +kernel
theorem dX8_worlds_6 : decode cX8_worlds 6 = .ok (.ifCond .ne 6, 3) := by decide +kernel
theorem dX8_worlds_9 : decode cX8_worlds 9 = .ok (.bipush (-2), 2) := by decide +kernel
theorem dX8_worlds_11 : decode cX8_worlds 11 = .ok (.ireturn, 1) := by decide +kernel
theorem dX8_worlds_12 : decode cX8_worlds 12 = .ok (.aload_n 0, 1) := by decide +kernel
theorem dX8_worlds_13 : decode cX8_worlds 13 = .ok (.invokevirtual 169, 3) := by decide +kernel
theorem dX8_worlds_16 : decode cX8_worlds 16 = .ok (.ifCond .ne 6, 3) := by decide +kernel
theorem dX8_worlds_19 : decode cX8_worlds 19 = .ok (.bipush (-5), 2) := by decide +kernel
theorem dX8_worlds_21 : decode cX8_worlds 21 = .ok (.ireturn, 1) := by decide +kernel
theorem dX8_worlds_22 : decode cX8_worlds 22 = .ok (.iload_n 1, 1) := by decide +kernel
theorem dX8_worlds_23 : decode cX8_worlds 23 = .ok (.tableswitch 49 0 2 #[25, 33, 41], 25) := by decide +kernel
theorem dX8_worlds_48 : decode cX8_worlds 48 = .ok (.aload_n 0, 1) := by decide +kernel
theorem dX8_worlds_49 : decode cX8_worlds 49 = .ok (.getfield 46, 3) := by decide +kernel
theorem dX8_worlds_52 : decode cX8_worlds 52 = .ok (.getfield 173, 3) := by decide +kernel
theorem dX8_worlds_55 : decode cX8_worlds 55 = .ok (.ireturn, 1) := by decide +kernel
theorem dX8_worlds_56 : decode cX8_worlds 56 = .ok (.aload_n 0, 1) := by decide +kernel
theorem dX8_worlds_57 : decode cX8_worlds 57 = .ok (.getfield 46, 3) := by decide +kernel
theorem dX8_worlds_60 : decode cX8_worlds 60 = .ok (.getfield 174, 3) := by decide +kernel
theorem dX8_worlds_63 : decode cX8_worlds 63 = .ok (.ireturn, 1) := by decide +kernel
theorem dX8_worlds_64 : decode cX8_worlds 64 = .ok (.aload_n 0, 1) := by decide +kernel
theorem dX8_worlds_65 : decode cX8_worlds 65 = .ok (.getfield 46, 3) := by decide +kernel
theorem dX8_worlds_68 : decode cX8_worlds 68 = .ok (.getfield 177, 3) := by decide +kernel
theorem dX8_worlds_71 : decode cX8_worlds 71 = .ok (.ireturn, 1) := by decide +kernel
theorem dX8_worlds_72 : decode cX8_worlds 72 = .ok (.aload_n 0, 1) := by decide +kernel
theorem dX8_worlds_73 : decode cX8_worlds 73 = .ok (.getfield 46, 3) := by decide +kernel
theorem dX8_worlds_76 : decode cX8_worlds 76 = .ok (.getfield 180, 3) := by decide +kernel
theorem dX8_worlds_79 : decode cX8_worlds 79 = .ok (.ireturn, 1) := by decide +kernel
theorem dX8_tell_0 : decode cX8_tell 0 = .ok (.iload_n 1, 1) := by decide +kernel
theorem dX8_tell_1 : decode cX8_tell 1 = .ok (.iconst 0, 1) := by decide +kernel
theorem dX8_tell_2 : decode cX8_tell 2 = .ok (.iconst 1, 1) := by decide +kernel
theorem dX8_tell_3 : decode cX8_tell 3 = .ok (.invokestatic 64, 3) := by decide +kernel
theorem dX8_tell_6 : decode cX8_tell 6 = .ok (.ifCond .ne 6, 3) := by decide +kernel
theorem dX8_tell_9 : decode cX8_tell 9 = .ok (.bipush (-2), 2) := by decide +kernel
theorem dX8_tell_11 : decode cX8_tell 11 = .ok (.ireturn, 1) := by decide +kernel
theorem dX8_tell_12 : decode cX8_tell 12 = .ok (.aload_n 0, 1) := by decide +kernel
theorem dX8_tell_13 : decode cX8_tell 13 = .ok (.invokevirtual 169, 3) := by decide +kernel
theorem dX8_tell_16 : decode cX8_tell 16 = .ok (.ifCond .ne 6, 3) := by decide +kernel
theorem dX8_tell_19 : decode cX8_tell 19 = .ok (.bipush (-5), 2) := by decide +kernel
theorem dX8_tell_21 : decode cX8_tell 21 = .ok (.ireturn, 1) := by decide +kernel
theorem dX8_tell_22 : decode cX8_tell 22 = .ok (.aload_n 0, 1) := by decide +kernel
theorem dX8_tell_23 : decode cX8_tell 23 = .ok (.getfield 46, 3) := by decide +kernel
theorem dX8_tell_26 : decode cX8_tell 26 = .ok (.getfield 173, 3) := by decide +kernel
theorem dX8_tell_29 : decode cX8_tell 29 = .ok (.ifCond .ne 6, 3) := by decide +kernel
theorem dX8_tell_32 : decode cX8_tell 32 = .ok (.bipush (-6), 2) := by decide +kernel
theorem dX8_tell_34 : decode cX8_tell 34 = .ok (.ireturn, 1) := by decide +kernel
theorem dX8_tell_35 : decode cX8_tell 35 = .ok (.aload_n 0, 1) := by decide +kernel
theorem dX8_tell_36 : decode cX8_tell 36 = .ok (.getfield 46, 3) := by decide +kernel
theorem dX8_tell_39 : decode cX8_tell 39 = .ok (.aload_n 0, 1) := by decide +kernel
theorem dX8_tell_40 : decode cX8_tell 40 = .ok (.getfield 10, 3) := by decide +kernel
theorem dX8_tell_43 : decode cX8_tell 43 = .ok (.getfield 68, 3) := by decide +kernel
theorem dX8_tell_46 : decode cX8_tell 46 = .ok (.invokevirtual 183, 3) := by decide +kernel
theorem dX8_tell_49 : decode cX8_tell 49 = .ok (.istore_n 2, 1) := by decide +kernel
theorem dX8_tell_50 : decode cX8_tell 50 = .ok (.iload_n 1, 1) := by decide +kernel
theorem dX8_tell_51 : decode cX8_tell 51 = .ok (.ifCond .ne 7, 3) := by decide +kernel
theorem dX8_tell_54 : decode cX8_tell 54 = .ok (.iload_n 2, 1) := by decide +kernel
theorem dX8_tell_55 : decode cX8_tell 55 = .ok (.goto 11, 3) := by decide +kernel
theorem dX8_tell_58 : decode cX8_tell 58 = .ok (.aload_n 0, 1) := by decide +kernel
theorem dX8_tell_59 : decode cX8_tell 59 = .ok (.getfield 46, 3) := by decide +kernel
theorem dX8_tell_62 : decode cX8_tell 62 = .ok (.iload_n 2, 1) := by decide +kernel
theorem dX8_tell_63 : decode cX8_tell 63 = .ok (.invokevirtual 186, 3) := by decide +kernel
theorem dX8_tell_66 : decode cX8_tell 66 = .ok (.ireturn, 1) := by decide +kernel
theorem dX8_says_0 : decode cX8_says 0 = .ok (.iload_n 1, 1) := by decide +kernel
theorem dX8_says_1 : decode cX8_says 1 = .ok (.invokestatic 79, 3) := by decide +kernel
theorem dX8_says_4 : decode cX8_says 4 = .ok (.ifCond .ne 5, 3) := by decide +kernel
theorem dX8_says_7 : decode cX8_says 7 = .ok (.iconst (-1), 1) := by decide +kernel
theorem dX8_says_8 : decode cX8_says 8 = .ok (.ireturn, 1) := by decide +kernel
theorem dX8_says_9 : decode cX8_says 9 = .ok (.aload_n 0, 1) := by decide +kernel
theorem dX8_says_10 : decode cX8_says 10 = .ok (.getfield 32, 3) := by decide +kernel
theorem dX8_says_13 : decode cX8_says 13 = .ok (.aload_n 0, 1) := by decide +kernel
theorem dX8_says_14 : decode cX8_says 14 = .ok (.getfield 25, 3) := by decide +kernel
theorem dX8_says_17 : decode cX8_says 17 = .ok (.aload_n 0, 1) := by decide +kernel
theorem dX8_says_18 : decode cX8_says 18 = .ok (.getfield 10, 3) := by decide +kernel
theorem dX8_says_21 : decode cX8_says 21 = .ok (.getfield 68, 3) := by decide +kernel
theorem dX8_says_24 : decode cX8_says 24 = .ok (.invokevirtual 110, 3) := by decide +kernel
theorem dX8_says_27 : decode cX8_says 27 = .ok (.bipush (-6), 2) := by decide +kernel
theorem dX8_says_29 : decode cX8_says 29 = .ok (.if_icmp .eq 6, 3) := by decide +kernel
theorem dX8_says_32 : decode cX8_says 32 = .ok (.bipush (-5), 2) := by decide +kernel
theorem dX8_says_34 : decode cX8_says 34 = .ok (.ireturn, 1) := by decide +kernel
theorem dX8_says_35 : decode cX8_says 35 = .ok (.aload_n 0, 1) := by decide +kernel
theorem dX8_says_36 : decode cX8_says 36 = .ok (.getfield 32, 3) := by decide +kernel
theorem dX8_says_39 : decode cX8_says 39 = .ok (.iload_n 1, 1) := by decide +kernel
theorem dX8_says_40 : decode cX8_says 40 = .ok (.aload_n 0, 1) := by decide +kernel
theorem dX8_says_41 : decode cX8_says 41 = .ok (.getfield 10, 3) := by decide +kernel
theorem dX8_says_44 : decode cX8_says 44 = .ok (.getfield 76, 3) := by decide +kernel
theorem dX8_says_47 : decode cX8_says 47 = .ok (.invokevirtual 189, 3) := by decide +kernel
theorem dX8_says_50 : decode cX8_says 50 = .ok (.ireturn, 1) := by decide +kernel
theorem dX8_orders_0 : decode cX8_orders 0 = .ok (.iload_n 1, 1) := by decide +kernel
theorem dX8_orders_1 : decode cX8_orders 1 = .ok (.iload_n 2, 1) := by decide +kernel
theorem dX8_orders_2 : decode cX8_orders 2 = .ok (.iload_n 3, 1) := by decide +kernel
theorem dX8_orders_3 : decode cX8_orders 3 = .ok (.invokestatic 192, 3) := by decide +kernel
theorem dX8_orders_6 : decode cX8_orders 6 = .ok (.ifCond .eq 14, 3) := by decide +kernel
theorem dX8_orders_9 : decode cX8_orders 9 = .ok (.iload 4, 2) := by decide +kernel
theorem dX8_orders_11 : decode cX8_orders 11 = .ok (.iconst 0, 1) := by decide +kernel
theorem dX8_orders_12 : decode cX8_orders 12 = .ok (.bipush 50, 2) := by decide +kernel
theorem dX8_orders_14 : decode cX8_orders 14 = .ok (.invokestatic 64, 3) := by decide +kernel
theorem dX8_orders_17 : decode cX8_orders 17 = .ok (.ifCond .ne 7, 3) := by decide +kernel
theorem dX8_orders_20 : decode cX8_orders 20 = .ok (.ldc2_w 195, 3) := by decide +kernel
theorem dX8_orders_23 : decode cX8_orders 23 = .ok (.lreturn, 1) := by decide +kernel
theorem dX8_orders_24 : decode cX8_orders 24 = .ok (.aload_n 0, 1) := by decide +kernel
theorem dX8_orders_25 : decode cX8_orders 25 = .ok (.getfield 53, 3) := by decide +kernel
theorem dX8_orders_28 : decode cX8_orders 28 = .ok (.iload_n 1, 1) := by decide +kernel
theorem dX8_orders_29 : decode cX8_orders 29 = .ok (.iload_n 2, 1) := by decide +kernel
theorem dX8_orders_30 : decode cX8_orders 30 = .ok (.iload_n 3, 1) := by decide +kernel
theorem dX8_orders_31 : decode cX8_orders 31 = .ok (.iload 4, 2) := by decide +kernel
theorem dX8_orders_33 : decode cX8_orders 33 = .ok (.invokevirtual 197, 3) := by decide +kernel
theorem dX8_orders_36 : decode cX8_orders 36 = .ok (.lreturn, 1) := by decide +kernel
theorem dX8_left_0 : decode cX8_left 0 = .ok (.iload_n 1, 1) := by decide +kernel
theorem dX8_left_1 : decode cX8_left 1 = .ok (.iload_n 2, 1) := by decide +kernel
theorem dX8_left_2 : decode cX8_left 2 = .ok (.iload_n 3, 1) := by decide +kernel
theorem dX8_left_3 : decode cX8_left 3 = .ok (.invokestatic 192, 3) := by decide +kernel
theorem dX8_left_6 : decode cX8_left 6 = .ok (.ifCond .eq 13, 3) := by decide +kernel
theorem dX8_left_9 : decode cX8_left 9 = .ok (.iload 4, 2) := by decide +kernel
theorem dX8_left_11 : decode cX8_left 11 = .ok (.iconst 0, 1) := by decide +kernel
theorem dX8_left_12 : decode cX8_left 12 = .ok (.iconst 1, 1) := by decide +kernel
theorem dX8_left_13 : decode cX8_left 13 = .ok (.invokestatic 64, 3) := by decide +kernel
theorem dX8_left_16 : decode cX8_left 16 = .ok (.ifCond .ne 6, 3) := by decide +kernel
theorem dX8_left_19 : decode cX8_left 19 = .ok (.bipush (-2), 2) := by decide +kernel
theorem dX8_left_21 : decode cX8_left 21 = .ok (.ireturn, 1) := by decide +kernel
theorem dX8_left_22 : decode cX8_left 22 = .ok (.iload 4, 2) := by decide +kernel
theorem dX8_left_24 : decode cX8_left 24 = .ok (.ifCond .ne 15, 3) := by decide +kernel
theorem dX8_left_27 : decode cX8_left 27 = .ok (.iconst 0, 1) := by decide +kernel
theorem dX8_left_28 : decode cX8_left 28 = .ok (.iload_n 3, 1) := by decide +kernel
theorem dX8_left_29 : decode cX8_left 29 = .ok (.iload_n 2, 1) := by decide +kernel
theorem dX8_left_30 : decode cX8_left 30 = .ok (.iadd, 1) := by decide +kernel
theorem dX8_left_31 : decode cX8_left 31 = .ok (.iload_n 1, 1) := by decide +kernel
theorem dX8_left_32 : decode cX8_left 32 = .ok (.isub, 1) := by decide +kernel
theorem dX8_left_33 : decode cX8_left 33 = .ok (.invokestatic 201, 3) := by decide +kernel
theorem dX8_left_36 : decode cX8_left 36 = .ok (.goto 12, 3) := by decide +kernel
theorem dX8_left_39 : decode cX8_left 39 = .ok (.iconst 0, 1) := by decide +kernel
theorem dX8_left_40 : decode cX8_left 40 = .ok (.iload_n 3, 1) := by decide +kernel
theorem dX8_left_41 : decode cX8_left 41 = .ok (.iload_n 1, 1) := by decide +kernel
theorem dX8_left_42 : decode cX8_left 42 = .ok (.isub, 1) := by decide +kernel
theorem dX8_left_43 : decode cX8_left 43 = .ok (.invokestatic 201, 3) := by decide +kernel
theorem dX8_left_46 : decode cX8_left 46 = .ok (.iload_n 2, 1) := by decide +kernel
theorem dX8_left_47 : decode cX8_left 47 = .ok (.iadd, 1) := by decide +kernel
theorem dX8_left_48 : decode cX8_left 48 = .ok (.ireturn, 1) := by decide +kernel
theorem dX8_chance_0 : decode cX8_chance 0 = .ok (.iload_n 1, 1) := by decide +kernel
theorem dX8_chance_1 : decode cX8_chance 1 = .ok (.iload_n 2, 1) := by decide +kernel
theorem dX8_chance_2 : decode cX8_chance 2 = .ok (.invokestatic 206, 3) := by decide +kernel
theorem dX8_chance_5 : decode cX8_chance 5 = .ok (.ifCond .eq 23, 3) := by decide +kernel
theorem dX8_chance_8 : decode cX8_chance 8 = .ok (.iload_n 3, 1) := by decide +kernel
theorem dX8_chance_9 : decode cX8_chance 9 = .ok (.iconst (-1), 1) := by decide +kernel
theorem dX8_chance_10 : decode cX8_chance 10 = .ok (.bipush 50, 2) := by decide +kernel
theorem dX8_chance_12 : decode cX8_chance 12 = .ok (.invokestatic 64, 3) := by decide +kernel
theorem dX8_chance_15 : decode cX8_chance 15 = .ok (.ifCond .eq 13, 3) := by decide +kernel
theorem dX8_chance_18 : decode cX8_chance 18 = .ok (.iload 4, 2) := by decide +kernel
theorem dX8_chance_20 : decode cX8_chance 20 = .ok (.iconst 0, 1) := by decide +kernel
theorem dX8_chance_21 : decode cX8_chance 21 = .ok (.iconst 1, 1) := by decide +kernel
theorem dX8_chance_22 : decode cX8_chance 22 = .ok (.invokestatic 64, 3) := by decide +kernel
theorem dX8_chance_25 : decode cX8_chance 25 = .ok (.ifCond .ne 7, 3) := by decide +kernel
theorem dX8_chance_28 : decode cX8_chance 28 = .ok (.ldc2_w 195, 3) := by decide +kernel
theorem dX8_chance_31 : decode cX8_chance 31 = .ok (.lreturn, 1) := by decide +kernel
theorem dX8_chance_32 : decode cX8_chance 32 = .ok (.aload_n 0, 1) := by decide +kernel
theorem dX8_chance_33 : decode cX8_chance 33 = .ok (.getfield 60, 3) := by decide +kernel
theorem dX8_chance_36 : decode cX8_chance 36 = .ok (.aload_n 0, 1) := by decide +kernel
theorem dX8_chance_37 : decode cX8_chance 37 = .ok (.getfield 10, 3) := by decide +kernel
theorem dX8_chance_40 : decode cX8_chance 40 = .ok (.getfield 95, 3) := by decide +kernel
theorem dX8_chance_43 : decode cX8_chance 43 = .ok (.getfield 134, 3) := by decide +kernel
theorem dX8_chance_46 : decode cX8_chance 46 = .ok (.iload_n 1, 1) := by decide +kernel
theorem dX8_chance_47 : decode cX8_chance 47 = .ok (.iload_n 2, 1) := by decide +kernel
theorem dX8_chance_48 : decode cX8_chance 48 = .ok (.invokevirtual 210, 3) := by decide +kernel
theorem dX8_chance_51 : decode cX8_chance 51 = .ok (.iload_n 3, 1) := by decide +kernel
theorem dX8_chance_52 : decode cX8_chance 52 = .ok (.ifCond .ge 13, 3) := by decide +kernel
theorem dX8_chance_55 : decode cX8_chance 55 = .ok (.aload_n 0, 1) := by decide +kernel
theorem dX8_chance_56 : decode cX8_chance 56 = .ok (.getfield 60, 3) := by decide +kernel
theorem dX8_chance_59 : decode cX8_chance 59 = .ok (.invokevirtual 214, 3) := by decide +kernel
theorem dX8_chance_62 : decode cX8_chance 62 = .ok (.goto 11, 3) := by decide +kernel
theorem dX8_chance_65 : decode cX8_chance 65 = .ok (.aload_n 0, 1) := by decide +kernel
theorem dX8_chance_66 : decode cX8_chance 66 = .ok (.getfield 60, 3) := by decide +kernel
theorem dX8_chance_69 : decode cX8_chance 69 = .ok (.iload_n 3, 1) := by decide +kernel
theorem dX8_chance_70 : decode cX8_chance 70 = .ok (.invokevirtual 218, 3) := by decide +kernel
theorem dX8_chance_73 : decode cX8_chance 73 = .ok (.lstore 5, 2) := by decide +kernel
theorem dX8_chance_75 : decode cX8_chance 75 = .ok (.iload_n 1, 1) := by decide +kernel
theorem dX8_chance_76 : decode cX8_chance 76 = .ok (.invokestatic 222, 3) := by decide +kernel
theorem dX8_chance_79 : decode cX8_chance 79 = .ok (.lstore 7, 2) := by decide +kernel
theorem dX8_chance_81 : decode cX8_chance 81 = .ok (.lload 5, 2) := by decide +kernel
theorem dX8_chance_83 : decode cX8_chance 83 = .ok (.lload 7, 2) := by decide +kernel
theorem dX8_chance_85 : decode cX8_chance 85 = .ok (.invokestatic 225, 3) := by decide +kernel
theorem dX8_chance_88 : decode cX8_chance 88 = .ok (.lstore 9, 2) := by decide +kernel
theorem dX8_chance_90 : decode cX8_chance 90 = .ok (.lload 9, 2) := by decide +kernel
theorem dX8_chance_92 : decode cX8_chance 92 = .ok (.lconst 1, 1) := by decide +kernel
theorem dX8_chance_93 : decode cX8_chance 93 = .ok (.lcmp, 1) := by decide +kernel
theorem dX8_chance_94 : decode cX8_chance 94 = .ok (.ifCond .ge 6, 3) := by decide +kernel
theorem dX8_chance_97 : decode cX8_chance 97 = .ok (.lconst 1, 1) := by decide +kernel
theorem dX8_chance_98 : decode cX8_chance 98 = .ok (.lstore 9, 2) := by decide +kernel
theorem dX8_chance_100 : decode cX8_chance 100 = .ok (.iload 4, 2) := by decide +kernel
theorem dX8_chance_102 : decode cX8_chance 102 = .ok (.ifCond .ne 8, 3) := by decide +kernel
theorem dX8_chance_105 : decode cX8_chance 105 = .ok (.lload 5, 2) := by decide +kernel
theorem dX8_chance_107 : decode cX8_chance 107 = .ok (.goto 5, 3) := by decide +kernel
theorem dX8_chance_110 : decode cX8_chance 110 = .ok (.lload 7, 2) := by decide +kernel
theorem dX8_chance_112 : decode cX8_chance 112 = .ok (.lload 9, 2) := by decide +kernel
theorem dX8_chance_114 : decode cX8_chance 114 = .ok (.ldiv, 1) := by decide +kernel
theorem dX8_chance_115 : decode cX8_chance 115 = .ok (.lreturn, 1) := by decide +kernel
theorem dX8_over_0 : decode cX8_over 0 = .ok (.iload_n 1, 1) := by decide +kernel
theorem dX8_over_1 : decode cX8_over 1 = .ok (.iload_n 2, 1) := by decide +kernel
theorem dX8_over_2 : decode cX8_over 2 = .ok (.invokestatic 206, 3) := by decide +kernel
theorem dX8_over_5 : decode cX8_over 5 = .ok (.ifCond .eq 13, 3) := by decide +kernel
theorem dX8_over_8 : decode cX8_over 8 = .ok (.iload_n 3, 1) := by decide +kernel
theorem dX8_over_9 : decode cX8_over 9 = .ok (.iconst 0, 1) := by decide +kernel
theorem dX8_over_10 : decode cX8_over 10 = .ok (.bipush 50, 2) := by decide +kernel
theorem dX8_over_12 : decode cX8_over 12 = .ok (.invokestatic 64, 3) := by decide +kernel
theorem dX8_over_15 : decode cX8_over 15 = .ok (.ifCond .ne 6, 3) := by decide +kernel
theorem dX8_over_18 : decode cX8_over 18 = .ok (.bipush (-2), 2) := by decide +kernel
theorem dX8_over_20 : decode cX8_over 20 = .ok (.ireturn, 1) := by decide +kernel
theorem dX8_over_21 : decode cX8_over 21 = .ok (.iload 5, 2) := by decide +kernel
theorem dX8_over_23 : decode cX8_over 23 = .ok (.iconst 1, 1) := by decide +kernel
theorem dX8_over_24 : decode cX8_over 24 = .ok (.bipush 100, 2) := by decide +kernel
theorem dX8_over_26 : decode cX8_over 26 = .ok (.invokestatic 64, 3) := by decide +kernel
theorem dX8_over_29 : decode cX8_over 29 = .ok (.ifCond .eq 14, 3) := by decide +kernel
theorem dX8_over_32 : decode cX8_over 32 = .ok (.iload 4, 2) := by decide +kernel
theorem dX8_over_34 : decode cX8_over 34 = .ok (.iconst 0, 1) := by decide +kernel
theorem dX8_over_35 : decode cX8_over 35 = .ok (.iload 5, 2) := by decide +kernel
theorem dX8_over_37 : decode cX8_over 37 = .ok (.invokestatic 64, 3) := by decide +kernel
theorem dX8_over_40 : decode cX8_over 40 = .ok (.ifCond .ne 6, 3) := by decide +kernel
theorem dX8_over_43 : decode cX8_over 43 = .ok (.bipush (-2), 2) := by decide +kernel
theorem dX8_over_45 : decode cX8_over 45 = .ok (.ireturn, 1) := by decide +kernel
theorem dX8_over_46 : decode cX8_over 46 = .ok (.iload 4, 2) := by decide +kernel
theorem dX8_over_48 : decode cX8_over 48 = .ok (.i2l, 1) := by decide +kernel
theorem dX8_over_49 : decode cX8_over 49 = .ok (.iload_n 1, 1) := by decide +kernel
theorem dX8_over_50 : decode cX8_over 50 = .ok (.invokestatic 222, 3) := by decide +kernel
theorem dX8_over_53 : decode cX8_over 53 = .ok (.lmul, 1) := by decide +kernel
theorem dX8_over_54 : decode cX8_over 54 = .ok (.lstore 6, 2) := by decide +kernel
theorem dX8_over_56 : decode cX8_over 56 = .ok (.iconst 0, 1) := by decide +kernel
theorem dX8_over_57 : decode cX8_over 57 = .ok (.istore 8, 2) := by decide +kernel
theorem dX8_over_59 : decode cX8_over 59 = .ok (.iload 8, 2) := by decide +kernel
theorem dX8_over_61 : decode cX8_over 61 = .ok (.bipush 40, 2) := by decide +kernel
theorem dX8_over_63 : decode cX8_over 63 = .ok (.if_icmp .gt 52, 3) := by decide +kernel
theorem dX8_over_66 : decode cX8_over 66 = .ok (.aload_n 0, 1) := by decide +kernel
theorem dX8_over_67 : decode cX8_over 67 = .ok (.getfield 60, 3) := by decide +kernel
theorem dX8_over_70 : decode cX8_over 70 = .ok (.aload_n 0, 1) := by decide +kernel
theorem dX8_over_71 : decode cX8_over 71 = .ok (.getfield 10, 3) := by decide +kernel
theorem dX8_over_74 : decode cX8_over 74 = .ok (.getfield 95, 3) := by decide +kernel
theorem dX8_over_77 : decode cX8_over 77 = .ok (.getfield 134, 3) := by decide +kernel
theorem dX8_over_80 : decode cX8_over 80 = .ok (.iload 8, 2) := by decide +kernel
theorem dX8_over_82 : decode cX8_over 82 = .ok (.iadd, 1) := by decide +kernel
theorem dX8_over_83 : decode cX8_over 83 = .ok (.iload_n 1, 1) := by decide +kernel
theorem dX8_over_84 : decode cX8_over 84 = .ok (.iload_n 2, 1) := by decide +kernel
theorem dX8_over_85 : decode cX8_over 85 = .ok (.invokevirtual 210, 3) := by decide +kernel
theorem dX8_over_88 : decode cX8_over 88 = .ok (.aload_n 0, 1) := by decide +kernel
theorem dX8_over_89 : decode cX8_over 89 = .ok (.getfield 60, 3) := by decide +kernel
theorem dX8_over_92 : decode cX8_over 92 = .ok (.iload_n 3, 1) := by decide +kernel
theorem dX8_over_93 : decode cX8_over 93 = .ok (.invokevirtual 218, 3) := by decide +kernel
theorem dX8_over_96 : decode cX8_over 96 = .ok (.iload 5, 2) := by decide +kernel
theorem dX8_over_98 : decode cX8_over 98 = .ok (.i2l, 1) := by decide +kernel
theorem dX8_over_99 : decode cX8_over 99 = .ok (.lmul, 1) := by decide +kernel
theorem dX8_over_100 : decode cX8_over 100 = .ok (.lload 6, 2) := by decide +kernel
theorem dX8_over_102 : decode cX8_over 102 = .ok (.lcmp, 1) := by decide +kernel
theorem dX8_over_103 : decode cX8_over 103 = .ok (.ifCond .lt 6, 3) := by decide +kernel
theorem dX8_over_106 : decode cX8_over 106 = .ok (.iload 8, 2) := by decide +kernel
theorem dX8_over_108 : decode cX8_over 108 = .ok (.ireturn, 1) := by decide +kernel
theorem dX8_over_109 : decode cX8_over 109 = .ok (.iinc 8 1, 3) := by decide +kernel
theorem dX8_over_112 : decode cX8_over 112 = .ok (.goto (-53), 3) := by decide +kernel
theorem dX8_over_115 : decode cX8_over 115 = .ok (.bipush (-6), 2) := by decide +kernel
theorem dX8_over_117 : decode cX8_over 117 = .ok (.ireturn, 1) := by decide +kernel
theorem dX8_patterns_0 : decode cX8_patterns 0 = .ok (.iload_n 1, 1) := by decide +kernel
theorem dX8_patterns_1 : decode cX8_patterns 1 = .ok (.iconst 0, 1) := by decide +kernel
theorem dX8_patterns_2 : decode cX8_patterns 2 = .ok (.bipush 8, 2) := by decide +kernel
theorem dX8_patterns_4 : decode cX8_patterns 4 = .ok (.invokestatic 64, 3) := by decide +kernel
theorem dX8_patterns_7 : decode cX8_patterns 7 = .ok (.ifCond .ne 6, 3) := by decide +kernel
theorem dX8_patterns_10 : decode cX8_patterns 10 = .ok (.bipush (-2), 2) := by decide +kernel
theorem dX8_patterns_12 : decode cX8_patterns 12 = .ok (.ireturn, 1) := by decide +kernel
theorem dX8_patterns_13 : decode cX8_patterns 13 = .ok (.aload_n 0, 1) := by decide +kernel
theorem dX8_patterns_14 : decode cX8_patterns 14 = .ok (.getfield 10, 3) := by decide +kernel
theorem dX8_patterns_17 : decode cX8_patterns 17 = .ok (.iconst 1, 1) := by decide +kernel
theorem dX8_patterns_18 : decode cX8_patterns 18 = .ok (.invokevirtual 229, 3) := by decide +kernel
theorem dX8_patterns_21 : decode cX8_patterns 21 = .ok (.istore_n 2, 1) := by decide +kernel
theorem dX8_patterns_22 : decode cX8_patterns 22 = .ok (.iconst 1, 1) := by decide +kernel
theorem dX8_patterns_23 : decode cX8_patterns 23 = .ok (.istore_n 3, 1) := by decide +kernel
theorem dX8_patterns_24 : decode cX8_patterns 24 = .ok (.iconst 0, 1) := by decide +kernel
theorem dX8_patterns_25 : decode cX8_patterns 25 = .ok (.istore 4, 2) := by decide +kernel
theorem dX8_patterns_27 : decode cX8_patterns 27 = .ok (.iconst 0, 1) := by decide +kernel
theorem dX8_patterns_28 : decode cX8_patterns 28 = .ok (.istore 5, 2) := by decide +kernel
theorem dX8_patterns_30 : decode cX8_patterns 30 = .ok (.iload 5, 2) := by decide +kernel
theorem dX8_patterns_32 : decode cX8_patterns 32 = .ok (.iload_n 1, 1) := by decide +kernel
theorem dX8_patterns_33 : decode cX8_patterns 33 = .ok (.if_icmp .ge 27, 3) := by decide +kernel
theorem dX8_patterns_36 : decode cX8_patterns 36 = .ok (.iload_n 3, 1) := by decide +kernel
theorem dX8_patterns_37 : decode cX8_patterns 37 = .ok (.iload 4, 2) := by decide +kernel
theorem dX8_patterns_39 : decode cX8_patterns 39 = .ok (.iadd, 1) := by decide +kernel
theorem dX8_patterns_40 : decode cX8_patterns 40 = .ok (.istore 6, 2) := by decide +kernel
theorem dX8_patterns_42 : decode cX8_patterns 42 = .ok (.iload 6, 2) := by decide +kernel
theorem dX8_patterns_44 : decode cX8_patterns 44 = .ok (.iload_n 2, 1) := by decide +kernel
theorem dX8_patterns_45 : decode cX8_patterns 45 = .ok (.imul, 1) := by decide +kernel
theorem dX8_patterns_46 : decode cX8_patterns 46 = .ok (.iload 4, 2) := by decide +kernel
theorem dX8_patterns_48 : decode cX8_patterns 48 = .ok (.iadd, 1) := by decide +kernel
theorem dX8_patterns_49 : decode cX8_patterns 49 = .ok (.istore 4, 2) := by decide +kernel
theorem dX8_patterns_51 : decode cX8_patterns 51 = .ok (.iload 6, 2) := by decide +kernel
theorem dX8_patterns_53 : decode cX8_patterns 53 = .ok (.istore_n 3, 1) := by decide +kernel
theorem dX8_patterns_54 : decode cX8_patterns 54 = .ok (.iinc 5 1, 3) := by decide +kernel
theorem dX8_patterns_57 : decode cX8_patterns 57 = .ok (.goto (-27), 3) := by decide +kernel
theorem dX8_patterns_60 : decode cX8_patterns 60 = .ok (.iload_n 3, 1) := by decide +kernel
theorem dX8_patterns_61 : decode cX8_patterns 61 = .ok (.iload 4, 2) := by decide +kernel
theorem dX8_patterns_63 : decode cX8_patterns 63 = .ok (.iadd, 1) := by decide +kernel
theorem dX8_patterns_64 : decode cX8_patterns 64 = .ok (.ireturn, 1) := by decide +kernel
theorem dX8_draws_0 : decode cX8_draws 0 = .ok (.iload_n 1, 1) := by decide +kernel
theorem dX8_draws_1 : decode cX8_draws 1 = .ok (.iconst 0, 1) := by decide +kernel
theorem dX8_draws_2 : decode cX8_draws 2 = .ok (.sipush 9999, 3) := by decide +kernel
theorem dX8_draws_5 : decode cX8_draws 5 = .ok (.invokestatic 64, 3) := by decide +kernel
theorem dX8_draws_8 : decode cX8_draws 8 = .ok (.ifCond .eq 22, 3) := by decide +kernel
theorem dX8_draws_11 : decode cX8_draws 11 = .ok (.iload_n 2, 1) := by decide +kernel
theorem dX8_draws_12 : decode cX8_draws 12 = .ok (.iconst 1, 1) := by decide +kernel
theorem dX8_draws_13 : decode cX8_draws 13 = .ok (.bipush 99, 2) := by decide +kernel
theorem dX8_draws_15 : decode cX8_draws 15 = .ok (.invokestatic 64, 3) := by decide +kernel
theorem dX8_draws_18 : decode cX8_draws 18 = .ok (.ifCond .eq 12, 3) := by decide +kernel
theorem dX8_draws_21 : decode cX8_draws 21 = .ok (.iload_n 3, 1) := by decide +kernel
theorem dX8_draws_22 : decode cX8_draws 22 = .ok (.iconst 0, 1) := by decide +kernel
theorem dX8_draws_23 : decode cX8_draws 23 = .ok (.iconst 2, 1) := by decide +kernel
theorem dX8_draws_24 : decode cX8_draws 24 = .ok (.invokestatic 64, 3) := by decide +kernel
theorem dX8_draws_27 : decode cX8_draws 27 = .ok (.ifCond .ne 6, 3) := by decide +kernel
theorem dX8_draws_30 : decode cX8_draws 30 = .ok (.bipush (-2), 2) := by decide +kernel
theorem dX8_draws_32 : decode cX8_draws 32 = .ok (.ireturn, 1) := by decide +kernel
theorem dX8_draws_33 : decode cX8_draws 33 = .ok (.aload_n 0, 1) := by decide +kernel
theorem dX8_draws_34 : decode cX8_draws 34 = .ok (.getfield 32, 3) := by decide +kernel
theorem dX8_draws_37 : decode cX8_draws 37 = .ok (.getfield 127, 3) := by decide +kernel
theorem dX8_draws_40 : decode cX8_draws 40 = .ok (.astore 4, 2) := by decide +kernel
theorem dX8_draws_42 : decode cX8_draws 42 = .ok (.aload 4, 2) := by decide +kernel
theorem dX8_draws_44 : decode cX8_draws 44 = .ok (.aload_n 0, 1) := by decide +kernel
theorem dX8_draws_45 : decode cX8_draws 45 = .ok (.getfield 10, 3) := by decide +kernel
theorem dX8_draws_48 : decode cX8_draws 48 = .ok (.getfield 95, 3) := by decide +kernel
theorem dX8_draws_51 : decode cX8_draws 51 = .ok (.invokevirtual 151, 3) := by decide +kernel
theorem dX8_draws_54 : decode cX8_draws 54 = .ok (.iload_n 1, 1) := by decide +kernel
theorem dX8_draws_55 : decode cX8_draws 55 = .ok (.istore 5, 2) := by decide +kernel
theorem dX8_draws_57 : decode cX8_draws 57 = .ok (.iconst 0, 1) := by decide +kernel
theorem dX8_draws_58 : decode cX8_draws 58 = .ok (.istore 6, 2) := by decide +kernel
theorem dX8_draws_60 : decode cX8_draws 60 = .ok (.iload 6, 2) := by decide +kernel
theorem dX8_draws_62 : decode cX8_draws 62 = .ok (.iload_n 2, 1) := by decide +kernel
theorem dX8_draws_63 : decode cX8_draws 63 = .ok (.if_icmp .ge 71, 3) := by decide +kernel
theorem dX8_draws_66 : decode cX8_draws 66 = .ok (.bipush 75, 2) := by decide +kernel
theorem dX8_draws_68 : decode cX8_draws 68 = .ok (.iload 5, 2) := by decide +kernel
theorem dX8_draws_70 : decode cX8_draws 70 = .ok (.imul, 1) := by decide +kernel
theorem dX8_draws_71 : decode cX8_draws 71 = .ok (.bipush 74, 2) := by decide +kernel
theorem dX8_draws_73 : decode cX8_draws 73 = .ok (.iadd, 1) := by decide +kernel
theorem dX8_draws_74 : decode cX8_draws 74 = .ok (.ldc 232, 2) := by decide +kernel
theorem dX8_draws_76 : decode cX8_draws 76 = .ok (.irem, 1) := by decide +kernel
theorem dX8_draws_77 : decode cX8_draws 77 = .ok (.istore 5, 2) := by decide +kernel
theorem dX8_draws_79 : decode cX8_draws 79 = .ok (.iload 5, 2) := by decide +kernel
theorem dX8_draws_81 : decode cX8_draws 81 = .ok (.aload_n 0, 1) := by decide +kernel
theorem dX8_draws_82 : decode cX8_draws 82 = .ok (.getfield 10, 3) := by decide +kernel
theorem dX8_draws_85 : decode cX8_draws 85 = .ok (.getfield 68, 3) := by decide +kernel
theorem dX8_draws_88 : decode cX8_draws 88 = .ok (.invokestatic 233, 3) := by decide +kernel
theorem dX8_draws_91 : decode cX8_draws 91 = .ok (.istore 7, 2) := by decide +kernel
theorem dX8_draws_93 : decode cX8_draws 93 = .ok (.iload 7, 2) := by decide +kernel
theorem dX8_draws_95 : decode cX8_draws 95 = .ok (.aload_n 0, 1) := by decide +kernel
theorem dX8_draws_96 : decode cX8_draws 96 = .ok (.getfield 10, 3) := by decide +kernel
theorem dX8_draws_99 : decode cX8_draws 99 = .ok (.aload_n 0, 1) := by decide +kernel
theorem dX8_draws_100 : decode cX8_draws 100 = .ok (.getfield 10, 3) := by decide +kernel
theorem dX8_draws_103 : decode cX8_draws 103 = .ok (.getfield 76, 3) := by decide +kernel
theorem dX8_draws_106 : decode cX8_draws 106 = .ok (.aload 4, 2) := by decide +kernel
theorem dX8_draws_108 : decode cX8_draws 108 = .ok (.invokestatic 236, 3) := by decide +kernel
theorem dX8_draws_111 : decode cX8_draws 111 = .ok (.ifCond .ne 17, 3) := by decide +kernel
theorem dX8_draws_114 : decode cX8_draws 114 = .ok (.aload 4, 2) := by decide +kernel
theorem dX8_draws_116 : decode cX8_draws 116 = .ok (.iload 7, 2) := by decide +kernel
theorem dX8_draws_118 : decode cX8_draws 118 = .ok (.aload_n 0, 1) := by decide +kernel
theorem dX8_draws_119 : decode cX8_draws 119 = .ok (.getfield 10, 3) := by decide +kernel
theorem dX8_draws_122 : decode cX8_draws 122 = .ok (.getfield 76, 3) := by decide +kernel
theorem dX8_draws_125 : decode cX8_draws 125 = .ok (.invokevirtual 240, 3) := by decide +kernel
theorem dX8_draws_128 : decode cX8_draws 128 = .ok (.iinc 6 1, 3) := by decide +kernel
theorem dX8_draws_131 : decode cX8_draws 131 = .ok (.goto (-71), 3) := by decide +kernel
theorem dX8_draws_134 : decode cX8_draws 134 = .ok (.iload_n 3, 1) := by decide +kernel
theorem dX8_draws_135 : decode cX8_draws 135 = .ok (.lookupswitch 37 #[(0, 25), (1, 31)], 25) := by decide +kernel
theorem dX8_draws_160 : decode cX8_draws 160 = .ok (.aload 4, 2) := by decide +kernel
theorem dX8_draws_162 : decode cX8_draws 162 = .ok (.getfield 134, 3) := by decide +kernel
theorem dX8_draws_165 : decode cX8_draws 165 = .ok (.ireturn, 1) := by decide +kernel
theorem dX8_draws_166 : decode cX8_draws 166 = .ok (.aload 4, 2) := by decide +kernel
theorem dX8_draws_168 : decode cX8_draws 168 = .ok (.getfield 128, 3) := by decide +kernel
theorem dX8_draws_171 : decode cX8_draws 171 = .ok (.ireturn, 1) := by decide +kernel
theorem dX8_draws_172 : decode cX8_draws 172 = .ok (.aload 4, 2) := by decide +kernel
theorem dX8_draws_174 : decode cX8_draws 174 = .ok (.getfield 99, 3) := by decide +kernel
theorem dX8_draws_177 : decode cX8_draws 177 = .ok (.ireturn, 1) := by decide +kernel
theorem dX8_image_0 : decode cX8_image 0 = .ok (.iload_n 1, 1) := by decide +kernel
theorem dX8_image_1 : decode cX8_image 1 = .ok (.iconst 0, 1) := by decide +kernel
theorem dX8_image_2 : decode cX8_image 2 = .ok (.iconst 1, 1) := by decide +kernel
theorem dX8_image_3 : decode cX8_image 3 = .ok (.invokestatic 64, 3) := by decide +kernel
theorem dX8_image_6 : decode cX8_image 6 = .ok (.ifCond .ne 6, 3) := by decide +kernel
theorem dX8_image_9 : decode cX8_image 9 = .ok (.bipush (-2), 2) := by decide +kernel
theorem dX8_image_11 : decode cX8_image 11 = .ok (.ireturn, 1) := by decide +kernel
theorem dX8_image_12 : decode cX8_image 12 = .ok (.aload_n 0, 1) := by decide +kernel
theorem dX8_image_13 : decode cX8_image 13 = .ok (.iload_n 1, 1) := by decide +kernel
theorem dX8_image_14 : decode cX8_image 14 = .ok (.invokevirtual 244, 3) := by decide +kernel
theorem dX8_image_17 : decode cX8_image 17 = .ok (.astore_n 2, 1) := by decide +kernel
theorem dX8_image_18 : decode cX8_image 18 = .ok (.aload_n 2, 1) := by decide +kernel
theorem dX8_image_19 : decode cX8_image 19 = .ok (.aload_n 0, 1) := by decide +kernel
theorem dX8_image_20 : decode cX8_image 20 = .ok (.getfield 10, 3) := by decide +kernel
theorem dX8_image_23 : decode cX8_image 23 = .ok (.invokevirtual 248, 3) := by decide +kernel
theorem dX8_image_26 : decode cX8_image 26 = .ok (.aload_n 2, 1) := by decide +kernel
theorem dX8_image_27 : decode cX8_image 27 = .ok (.iconst 1, 1) := by decide +kernel
theorem dX8_image_28 : decode cX8_image 28 = .ok (.putfield 251, 3) := by decide +kernel
theorem dX8_image_31 : decode cX8_image 31 = .ok (.iconst 1, 1) := by decide +kernel
theorem dX8_image_32 : decode cX8_image 32 = .ok (.ireturn, 1) := by decide +kernel
theorem dX8_restore_0 : decode cX8_restore 0 = .ok (.iload_n 1, 1) := by decide +kernel
theorem dX8_restore_1 : decode cX8_restore 1 = .ok (.iconst 0, 1) := by decide +kernel
theorem dX8_restore_2 : decode cX8_restore 2 = .ok (.iconst 1, 1) := by decide +kernel
theorem dX8_restore_3 : decode cX8_restore 3 = .ok (.invokestatic 64, 3) := by decide +kernel
theorem dX8_restore_6 : decode cX8_restore 6 = .ok (.ifCond .ne 6, 3) := by decide +kernel
theorem dX8_restore_9 : decode cX8_restore 9 = .ok (.bipush (-2), 2) := by decide +kernel
theorem dX8_restore_11 : decode cX8_restore 11 = .ok (.ireturn, 1) := by decide +kernel
theorem dX8_restore_12 : decode cX8_restore 12 = .ok (.aload_n 0, 1) := by decide +kernel
theorem dX8_restore_13 : decode cX8_restore 13 = .ok (.iload_n 1, 1) := by decide +kernel
theorem dX8_restore_14 : decode cX8_restore 14 = .ok (.invokevirtual 244, 3) := by decide +kernel
theorem dX8_restore_17 : decode cX8_restore 17 = .ok (.astore_n 2, 1) := by decide +kernel
theorem dX8_restore_18 : decode cX8_restore 18 = .ok (.aload_n 2, 1) := by decide +kernel
theorem dX8_restore_19 : decode cX8_restore 19 = .ok (.getfield 251, 3) := by decide +kernel
theorem dX8_restore_22 : decode cX8_restore 22 = .ok (.ifCond .ne 6, 3) := by decide +kernel
theorem dX8_restore_25 : decode cX8_restore 25 = .ok (.bipush (-3), 2) := by decide +kernel
theorem dX8_restore_27 : decode cX8_restore 27 = .ok (.ireturn, 1) := by decide +kernel
theorem dX8_restore_28 : decode cX8_restore 28 = .ok (.aload_n 0, 1) := by decide +kernel
theorem dX8_restore_29 : decode cX8_restore 29 = .ok (.getfield 10, 3) := by decide +kernel
theorem dX8_restore_32 : decode cX8_restore 32 = .ok (.aload_n 2, 1) := by decide +kernel
theorem dX8_restore_33 : decode cX8_restore 33 = .ok (.invokevirtual 248, 3) := by decide +kernel
theorem dX8_restore_36 : decode cX8_restore 36 = .ok (.iconst 1, 1) := by decide +kernel
theorem dX8_restore_37 : decode cX8_restore 37 = .ok (.ireturn, 1) := by decide +kernel
theorem dX8_told_0 : decode cX8_told 0 = .ok (.iload_n 1, 1) := by decide +kernel
theorem dX8_told_1 : decode cX8_told 1 = .ok (.tableswitch 93 0 5 #[39, 47, 55, 63, 74, 85], 39) := by decide +kernel
theorem dX8_told_40 : decode cX8_told 40 = .ok (.aload_n 0, 1) := by decide +kernel
theorem dX8_told_41 : decode cX8_told 41 = .ok (.getfield 25, 3) := by decide +kernel
theorem dX8_told_44 : decode cX8_told 44 = .ok (.getfield 107, 3) := by decide +kernel
theorem dX8_told_47 : decode cX8_told 47 = .ok (.ireturn, 1) := by decide +kernel
theorem dX8_told_48 : decode cX8_told 48 = .ok (.aload_n 0, 1) := by decide +kernel
theorem dX8_told_49 : decode cX8_told 49 = .ok (.getfield 10, 3) := by decide +kernel
theorem dX8_told_52 : decode cX8_told 52 = .ok (.getfield 68, 3) := by decide +kernel
theorem dX8_told_55 : decode cX8_told 55 = .ok (.ireturn, 1) := by decide +kernel
theorem dX8_told_56 : decode cX8_told 56 = .ok (.aload_n 0, 1) := by decide +kernel
theorem dX8_told_57 : decode cX8_told 57 = .ok (.getfield 10, 3) := by decide +kernel
theorem dX8_told_60 : decode cX8_told 60 = .ok (.getfield 76, 3) := by decide +kernel
theorem dX8_told_63 : decode cX8_told 63 = .ok (.ireturn, 1) := by decide +kernel
theorem dX8_told_64 : decode cX8_told 64 = .ok (.aload_n 0, 1) := by decide +kernel
theorem dX8_told_65 : decode cX8_told 65 = .ok (.getfield 10, 3) := by decide +kernel
theorem dX8_told_68 : decode cX8_told 68 = .ok (.getfield 95, 3) := by decide +kernel
theorem dX8_told_71 : decode cX8_told 71 = .ok (.getfield 134, 3) := by decide +kernel
theorem dX8_told_74 : decode cX8_told 74 = .ok (.ireturn, 1) := by decide +kernel
theorem dX8_told_75 : decode cX8_told 75 = .ok (.aload_n 0, 1) := by decide +kernel
theorem dX8_told_76 : decode cX8_told 76 = .ok (.getfield 10, 3) := by decide +kernel
theorem dX8_told_79 : decode cX8_told 79 = .ok (.getfield 95, 3) := by decide +kernel
theorem dX8_told_82 : decode cX8_told 82 = .ok (.getfield 99, 3) := by decide +kernel
theorem dX8_told_85 : decode cX8_told 85 = .ok (.ireturn, 1) := by decide +kernel
theorem dX8_told_86 : decode cX8_told 86 = .ok (.aload_n 0, 1) := by decide +kernel
theorem dX8_told_87 : decode cX8_told 87 = .ok (.getfield 10, 3) := by decide +kernel
theorem dX8_told_90 : decode cX8_told 90 = .ok (.getfield 166, 3) := by decide +kernel
theorem dX8_told_93 : decode cX8_told 93 = .ok (.ireturn, 1) := by decide +kernel
theorem dX8_told_94 : decode cX8_told 94 = .ok (.iload_n 1, 1) := by decide +kernel
theorem dX8_told_95 : decode cX8_told 95 = .ok (.bipush 10, 2) := by decide +kernel
theorem dX8_told_97 : decode cX8_told 97 = .ok (.bipush 15, 2) := by decide +kernel
theorem dX8_told_99 : decode cX8_told 99 = .ok (.invokestatic 64, 3) := by decide +kernel
theorem dX8_told_102 : decode cX8_told 102 = .ok (.ifCond .ne 6, 3) := by decide +kernel
theorem dX8_told_105 : decode cX8_told 105 = .ok (.bipush (-2), 2) := by decide +kernel
theorem dX8_told_107 : decode cX8_told 107 = .ok (.ireturn, 1) := by decide +kernel
theorem dX8_told_108 : decode cX8_told 108 = .ok (.aload_n 0, 1) := by decide +kernel
theorem dX8_told_109 : decode cX8_told 109 = .ok (.getfield 10, 3) := by decide +kernel
theorem dX8_told_112 : decode cX8_told 112 = .ok (.iload_n 1, 1) := by decide +kernel
theorem dX8_told_113 : decode cX8_told 113 = .ok (.bipush 10, 2) := by decide +kernel
theorem dX8_told_115 : decode cX8_told 115 = .ok (.isub, 1) := by decide +kernel
theorem dX8_told_116 : decode cX8_told 116 = .ok (.invokevirtual 83, 3) := by decide +kernel
theorem dX8_told_119 : decode cX8_told 119 = .ok (.ireturn, 1) := by decide +kernel
theorem dX8_playPad_0 : decode cX8_playPad 0 = .ok (.aload_n 0, 1) := by decide +kernel
theorem dX8_playPad_1 : decode cX8_playPad 1 = .ok (.getfield 32, 3) := by decide +kernel
theorem dX8_playPad_4 : decode cX8_playPad 4 = .ok (.aload_n 0, 1) := by decide +kernel
theorem dX8_playPad_5 : decode cX8_playPad 5 = .ok (.getfield 25, 3) := by decide +kernel
theorem dX8_playPad_8 : decode cX8_playPad 8 = .ok (.aload_n 0, 1) := by decide +kernel
theorem dX8_playPad_9 : decode cX8_playPad 9 = .ok (.getfield 10, 3) := by decide +kernel
theorem dX8_playPad_12 : decode cX8_playPad 12 = .ok (.getfield 68, 3) := by decide +kernel
theorem dX8_playPad_15 : decode cX8_playPad 15 = .ok (.invokevirtual 110, 3) := by decide +kernel
theorem dX8_playPad_18 : decode cX8_playPad 18 = .ok (.bipush (-6), 2) := by decide +kernel
theorem dX8_playPad_20 : decode cX8_playPad 20 = .ok (.if_icmp .eq 6, 3) := by decide +kernel
theorem dX8_playPad_23 : decode cX8_playPad 23 = .ok (.bipush (-5), 2) := by decide +kernel
theorem dX8_playPad_25 : decode cX8_playPad 25 = .ok (.ireturn, 1) := by decide +kernel
theorem dX8_playPad_26 : decode cX8_playPad 26 = .ok (.aload_n 0, 1) := by decide +kernel
theorem dX8_playPad_27 : decode cX8_playPad 27 = .ok (.getfield 32, 3) := by decide +kernel
theorem dX8_playPad_30 : decode cX8_playPad 30 = .ok (.aload_n 0, 1) := by decide +kernel
theorem dX8_playPad_31 : decode cX8_playPad 31 = .ok (.getfield 10, 3) := by decide +kernel
theorem dX8_playPad_34 : decode cX8_playPad 34 = .ok (.aload_n 0, 1) := by decide +kernel
theorem dX8_playPad_35 : decode cX8_playPad 35 = .ok (.getfield 10, 3) := by decide +kernel
theorem dX8_playPad_38 : decode cX8_playPad 38 = .ok (.getfield 76, 3) := by decide +kernel
theorem dX8_playPad_41 : decode cX8_playPad 41 = .ok (.invokevirtual 255, 3) := by decide +kernel
theorem dX8_playPad_44 : decode cX8_playPad 44 = .ok (.aload_n 0, 1) := by decide +kernel
theorem dX8_playPad_45 : decode cX8_playPad 45 = .ok (.getfield 32, 3) := by decide +kernel
theorem dX8_playPad_48 : decode cX8_playPad 48 = .ok (.getfield 121, 3) := by decide +kernel
theorem dX8_playPad_51 : decode cX8_playPad 51 = .ok (.bipush (-6), 2) := by decide +kernel
theorem dX8_playPad_53 : decode cX8_playPad 53 = .ok (.if_icmp .ne 7, 3) := by decide +kernel
theorem dX8_playPad_56 : decode cX8_playPad 56 = .ok (.iconst 0, 1) := by decide +kernel
theorem dX8_playPad_57 : decode cX8_playPad 57 = .ok (.goto 5, 3) := by decide +kernel
theorem dX8_playPad_60 : decode cX8_playPad 60 = .ok (.bipush (-3), 2) := by decide +kernel
theorem dX8_playPad_62 : decode cX8_playPad 62 = .ok (.ireturn, 1) := by decide +kernel
theorem dX8_readPattern_0 : decode cX8_readPattern 0 = .ok (.aload_n 0, 1) := by decide +kernel
theorem dX8_readPattern_1 : decode cX8_readPattern 1 = .ok (.getfield 39, 3) := by decide +kernel
theorem dX8_readPattern_4 : decode cX8_readPattern 4 = .ok (.aload_n 0, 1) := by decide +kernel
theorem dX8_readPattern_5 : decode cX8_readPattern 5 = .ok (.getfield 25, 3) := by decide +kernel
theorem dX8_readPattern_8 : decode cX8_readPattern 8 = .ok (.invokevirtual 114, 3) := by decide +kernel
theorem dX8_readPattern_11 : decode cX8_readPattern 11 = .ok (.bipush (-6), 2) := by decide +kernel
theorem dX8_readPattern_13 : decode cX8_readPattern 13 = .ok (.if_icmp .eq 6, 3) := by decide +kernel
theorem dX8_readPattern_16 : decode cX8_readPattern 16 = .ok (.bipush (-5), 2) := by decide +kernel
theorem dX8_readPattern_18 : decode cX8_readPattern 18 = .ok (.ireturn, 1) := by decide +kernel
theorem dX8_readPattern_19 : decode cX8_readPattern 19 = .ok (.aload_n 0, 1) := by decide +kernel
theorem dX8_readPattern_20 : decode cX8_readPattern 20 = .ok (.getfield 39, 3) := by decide +kernel
theorem dX8_readPattern_23 : decode cX8_readPattern 23 = .ok (.getfield 159, 3) := by decide +kernel
theorem dX8_readPattern_26 : decode cX8_readPattern 26 = .ok (.bipush 30, 2) := by decide +kernel
theorem dX8_readPattern_28 : decode cX8_readPattern 28 = .ok (.if_icmp .le 8, 3) := by decide +kernel
theorem dX8_readPattern_31 : decode cX8_readPattern 31 = .ok (.bipush (-4), 2) := by decide +kernel
theorem dX8_readPattern_33 : decode cX8_readPattern 33 = .ok (.goto 4, 3) := by decide +kernel
theorem dX8_readPattern_36 : decode cX8_readPattern 36 = .ok (.iconst 0, 1) := by decide +kernel
theorem dX8_readPattern_37 : decode cX8_readPattern 37 = .ok (.ireturn, 1) := by decide +kernel
theorem dX8_imageAt_0 : decode cX8_imageAt 0 = .ok (.iload_n 1, 1) := by decide +kernel
theorem dX8_imageAt_1 : decode cX8_imageAt 1 = .ok (.ifCond .ne 10, 3) := by decide +kernel
theorem dX8_imageAt_4 : decode cX8_imageAt 4 = .ok (.aload_n 0, 1) := by decide +kernel
theorem dX8_imageAt_5 : decode cX8_imageAt 5 = .ok (.getfield 16, 3) := by decide +kernel
theorem dX8_imageAt_8 : decode cX8_imageAt 8 = .ok (.goto 7, 3) := by decide +kernel
theorem dX8_imageAt_11 : decode cX8_imageAt 11 = .ok (.aload_n 0, 1) := by decide +kernel
theorem dX8_imageAt_12 : decode cX8_imageAt 12 = .ok (.getfield 19, 3) := by decide +kernel
theorem dX8_imageAt_15 : decode cX8_imageAt 15 = .ok (.areturn, 1) := by decide +kernel
theorem dX8_surveyWorlds_0 : decode cX8_surveyWorlds 0 = .ok (.aload_n 0, 1) := by decide +kernel
theorem dX8_surveyWorlds_1 : decode cX8_surveyWorlds 1 = .ok (.getfield 32, 3) := by decide +kernel
theorem dX8_surveyWorlds_4 : decode cX8_surveyWorlds 4 = .ok (.aload_n 0, 1) := by decide +kernel
theorem dX8_surveyWorlds_5 : decode cX8_surveyWorlds 5 = .ok (.getfield 25, 3) := by decide +kernel
theorem dX8_surveyWorlds_8 : decode cX8_surveyWorlds 8 = .ok (.aload_n 0, 1) := by decide +kernel
theorem dX8_surveyWorlds_9 : decode cX8_surveyWorlds 9 = .ok (.getfield 10, 3) := by decide +kernel
theorem dX8_surveyWorlds_12 : decode cX8_surveyWorlds 12 = .ok (.getfield 68, 3) := by decide +kernel
theorem dX8_surveyWorlds_15 : decode cX8_surveyWorlds 15 = .ok (.invokevirtual 110, 3) := by decide +kernel
theorem dX8_surveyWorlds_18 : decode cX8_surveyWorlds 18 = .ok (.bipush (-6), 2) := by decide +kernel
theorem dX8_surveyWorlds_20 : decode cX8_surveyWorlds 20 = .ok (.if_icmp .eq 5, 3) := by decide +kernel
theorem dX8_surveyWorlds_23 : decode cX8_surveyWorlds 23 = .ok (.iconst 0, 1) := by decide +kernel
theorem dX8_surveyWorlds_24 : decode cX8_surveyWorlds 24 = .ok (.ireturn, 1) := by decide +kernel
theorem dX8_surveyWorlds_25 : decode cX8_surveyWorlds 25 = .ok (.aload_n 0, 1) := by decide +kernel
theorem dX8_surveyWorlds_26 : decode cX8_surveyWorlds 26 = .ok (.getfield 46, 3) := by decide +kernel
theorem dX8_surveyWorlds_29 : decode cX8_surveyWorlds 29 = .ok (.invokevirtual 258, 3) := by decide +kernel
theorem dX8_surveyWorlds_32 : decode cX8_surveyWorlds 32 = .ok (.iconst 1, 1) := by decide +kernel
theorem dX8_surveyWorlds_33 : decode cX8_surveyWorlds 33 = .ok (.aload_n 0, 1) := by decide +kernel
theorem dX8_surveyWorlds_34 : decode cX8_surveyWorlds 34 = .ok (.getfield 10, 3) := by decide +kernel
theorem dX8_surveyWorlds_37 : decode cX8_surveyWorlds 37 = .ok (.getfield 68, 3) := by decide +kernel
theorem dX8_surveyWorlds_40 : decode cX8_surveyWorlds 40 = .ok (.ishl, 1) := by decide +kernel
theorem dX8_surveyWorlds_41 : decode cX8_surveyWorlds 41 = .ok (.istore_n 1, 1) := by decide +kernel
theorem dX8_surveyWorlds_42 : decode cX8_surveyWorlds 42 = .ok (.iconst 0, 1) := by decide +kernel
theorem dX8_surveyWorlds_43 : decode cX8_surveyWorlds 43 = .ok (.istore_n 2, 1) := by decide +kernel
theorem dX8_surveyWorlds_44 : decode cX8_surveyWorlds 44 = .ok (.iload_n 2, 1) := by decide +kernel
theorem dX8_surveyWorlds_45 : decode cX8_surveyWorlds 45 = .ok (.iload_n 1, 1) := by decide +kernel
theorem dX8_surveyWorlds_46 : decode cX8_surveyWorlds 46 = .ok (.if_icmp .ge 55, 3) := by decide +kernel
theorem dX8_surveyWorlds_49 : decode cX8_surveyWorlds 49 = .ok (.aload_n 0, 1) := by decide +kernel
theorem dX8_surveyWorlds_50 : decode cX8_surveyWorlds 50 = .ok (.getfield 32, 3) := by decide +kernel
theorem dX8_surveyWorlds_53 : decode cX8_surveyWorlds 53 = .ok (.aload_n 0, 1) := by decide +kernel
theorem dX8_surveyWorlds_54 : decode cX8_surveyWorlds 54 = .ok (.getfield 10, 3) := by decide +kernel
theorem dX8_surveyWorlds_57 : decode cX8_surveyWorlds 57 = .ok (.iload_n 2, 1) := by decide +kernel
theorem dX8_surveyWorlds_58 : decode cX8_surveyWorlds 58 = .ok (.invokevirtual 255, 3) := by decide +kernel
theorem dX8_surveyWorlds_61 : decode cX8_surveyWorlds 61 = .ok (.aload_n 0, 1) := by decide +kernel
theorem dX8_surveyWorlds_62 : decode cX8_surveyWorlds 62 = .ok (.getfield 32, 3) := by decide +kernel
theorem dX8_surveyWorlds_65 : decode cX8_surveyWorlds 65 = .ok (.getfield 121, 3) := by decide +kernel
theorem dX8_surveyWorlds_68 : decode cX8_surveyWorlds 68 = .ok (.bipush (-6), 2) := by decide +kernel
theorem dX8_surveyWorlds_70 : decode cX8_surveyWorlds 70 = .ok (.if_icmp .ne 25, 3) := by decide +kernel
theorem dX8_surveyWorlds_73 : decode cX8_surveyWorlds 73 = .ok (.aload_n 0, 1) := by decide +kernel
theorem dX8_surveyWorlds_74 : decode cX8_surveyWorlds 74 = .ok (.getfield 10, 3) := by decide +kernel
theorem dX8_surveyWorlds_77 : decode cX8_surveyWorlds 77 = .ok (.aload_n 0, 1) := by decide +kernel
theorem dX8_surveyWorlds_78 : decode cX8_surveyWorlds 78 = .ok (.getfield 32, 3) := by decide +kernel
theorem dX8_surveyWorlds_81 : decode cX8_surveyWorlds 81 = .ok (.invokevirtual 261, 3) := by decide +kernel
theorem dX8_surveyWorlds_84 : decode cX8_surveyWorlds 84 = .ok (.ifCond .eq 11, 3) := by decide +kernel
theorem dX8_surveyWorlds_87 : decode cX8_surveyWorlds 87 = .ok (.aload_n 0, 1) := by decide +kernel
theorem dX8_surveyWorlds_88 : decode cX8_surveyWorlds 88 = .ok (.getfield 46, 3) := by decide +kernel
theorem dX8_surveyWorlds_91 : decode cX8_surveyWorlds 91 = .ok (.iload_n 2, 1) := by decide +kernel
theorem dX8_surveyWorlds_92 : decode cX8_surveyWorlds 92 = .ok (.invokevirtual 265, 3) := by decide +kernel
theorem dX8_surveyWorlds_95 : decode cX8_surveyWorlds 95 = .ok (.iinc 2 1, 3) := by decide +kernel
theorem dX8_surveyWorlds_98 : decode cX8_surveyWorlds 98 = .ok (.goto (-54), 3) := by decide +kernel
theorem dX8_surveyWorlds_101 : decode cX8_surveyWorlds 101 = .ok (.iconst 1, 1) := by decide +kernel
theorem dX8_surveyWorlds_102 : decode cX8_surveyWorlds 102 = .ok (.ireturn, 1) := by decide +kernel
theorem dX8_fewestRemarks_0 : decode cX8_fewestRemarks 0 = .ok (.bipush (-6), 2) := by decide +kernel
theorem dX8_fewestRemarks_2 : decode cX8_fewestRemarks 2 = .ok (.istore_n 2, 1) := by decide +kernel
theorem dX8_fewestRemarks_3 : decode cX8_fewestRemarks 3 = .ok (.iconst 0, 1) := by decide +kernel
theorem dX8_fewestRemarks_4 : decode cX8_fewestRemarks 4 = .ok (.istore_n 3, 1) := by decide +kernel
theorem dX8_fewestRemarks_5 : decode cX8_fewestRemarks 5 = .ok (.iload_n 3, 1) := by decide +kernel
theorem dX8_fewestRemarks_6 : decode cX8_fewestRemarks 6 = .ok (.iload_n 1, 1) := by decide +kernel
theorem dX8_fewestRemarks_7 : decode cX8_fewestRemarks 7 = .ok (.if_icmp .gt 90, 3) := by decide +kernel
theorem dX8_fewestRemarks_10 : decode cX8_fewestRemarks 10 = .ok (.iload_n 3, 1) := by decide +kernel
theorem dX8_fewestRemarks_11 : decode cX8_fewestRemarks 11 = .ok (.aload_n 0, 1) := by decide +kernel
theorem dX8_fewestRemarks_12 : decode cX8_fewestRemarks 12 = .ok (.getfield 10, 3) := by decide +kernel
theorem dX8_fewestRemarks_15 : decode cX8_fewestRemarks 15 = .ok (.getfield 95, 3) := by decide +kernel
theorem dX8_fewestRemarks_18 : decode cX8_fewestRemarks 18 = .ok (.getfield 134, 3) := by decide +kernel
theorem dX8_fewestRemarks_21 : decode cX8_fewestRemarks 21 = .ok (.if_icmp .gt 76, 3) := by decide +kernel
theorem dX8_fewestRemarks_24 : decode cX8_fewestRemarks 24 = .ok (.iload_n 3, 1) := by decide +kernel
theorem dX8_fewestRemarks_25 : decode cX8_fewestRemarks 25 = .ok (.ifCond .le 16, 3) := by decide +kernel
theorem dX8_fewestRemarks_28 : decode cX8_fewestRemarks 28 = .ok (.aload_n 0, 1) := by decide +kernel
theorem dX8_fewestRemarks_29 : decode cX8_fewestRemarks 29 = .ok (.iload_n 3, 1) := by decide +kernel
theorem dX8_fewestRemarks_30 : decode cX8_fewestRemarks 30 = .ok (.iconst 1, 1) := by decide +kernel
theorem dX8_fewestRemarks_31 : decode cX8_fewestRemarks 31 = .ok (.isub, 1) := by decide +kernel
theorem dX8_fewestRemarks_32 : decode cX8_fewestRemarks 32 = .ok (.invokevirtual 267, 3) := by decide +kernel
theorem dX8_fewestRemarks_35 : decode cX8_fewestRemarks 35 = .ok (.ifCond .ne 6, 3) := by decide +kernel
theorem dX8_fewestRemarks_38 : decode cX8_fewestRemarks 38 = .ok (.goto 59, 3) := by decide +kernel
theorem dX8_fewestRemarks_41 : decode cX8_fewestRemarks 41 = .ok (.aload_n 0, 1) := by decide +kernel
theorem dX8_fewestRemarks_42 : decode cX8_fewestRemarks 42 = .ok (.iload_n 3, 1) := by decide +kernel
theorem dX8_fewestRemarks_43 : decode cX8_fewestRemarks 43 = .ok (.invokevirtual 270, 3) := by decide +kernel
theorem dX8_fewestRemarks_46 : decode cX8_fewestRemarks 46 = .ok (.istore 4, 2) := by decide +kernel
theorem dX8_fewestRemarks_48 : decode cX8_fewestRemarks 48 = .ok (.aload_n 0, 1) := by decide +kernel
theorem dX8_fewestRemarks_49 : decode cX8_fewestRemarks 49 = .ok (.iload_n 1, 1) := by decide +kernel
theorem dX8_fewestRemarks_50 : decode cX8_fewestRemarks 50 = .ok (.iload_n 3, 1) := by decide +kernel
theorem dX8_fewestRemarks_51 : decode cX8_fewestRemarks 51 = .ok (.invokevirtual 273, 3) := by decide +kernel
theorem dX8_fewestRemarks_54 : decode cX8_fewestRemarks 54 = .ok (.istore 5, 2) := by decide +kernel
theorem dX8_fewestRemarks_56 : decode cX8_fewestRemarks 56 = .ok (.iload 4, 2) := by decide +kernel
theorem dX8_fewestRemarks_58 : decode cX8_fewestRemarks 58 = .ok (.bipush (-6), 2) := by decide +kernel
theorem dX8_fewestRemarks_60 : decode cX8_fewestRemarks 60 = .ok (.if_icmp .eq 31, 3) := by decide +kernel
theorem dX8_fewestRemarks_63 : decode cX8_fewestRemarks 63 = .ok (.iload 5, 2) := by decide +kernel
theorem dX8_fewestRemarks_65 : decode cX8_fewestRemarks 65 = .ok (.bipush (-6), 2) := by decide +kernel
theorem dX8_fewestRemarks_67 : decode cX8_fewestRemarks 67 = .ok (.if_icmp .eq 24, 3) := by decide +kernel
theorem dX8_fewestRemarks_70 : decode cX8_fewestRemarks 70 = .ok (.iload_n 2, 1) := by decide +kernel
theorem dX8_fewestRemarks_71 : decode cX8_fewestRemarks 71 = .ok (.bipush (-6), 2) := by decide +kernel
theorem dX8_fewestRemarks_73 : decode cX8_fewestRemarks 73 = .ok (.if_icmp .eq 12, 3) := by decide +kernel
theorem dX8_fewestRemarks_76 : decode cX8_fewestRemarks 76 = .ok (.iload 4, 2) := by decide +kernel
theorem dX8_fewestRemarks_78 : decode cX8_fewestRemarks 78 = .ok (.iload 5, 2) := by decide +kernel
theorem dX8_fewestRemarks_80 : decode cX8_fewestRemarks 80 = .ok (.iadd, 1) := by decide +kernel
theorem dX8_fewestRemarks_81 : decode cX8_fewestRemarks 81 = .ok (.iload_n 2, 1) := by decide +kernel
theorem dX8_fewestRemarks_82 : decode cX8_fewestRemarks 82 = .ok (.if_icmp .ge 9, 3) := by decide +kernel
theorem dX8_fewestRemarks_85 : decode cX8_fewestRemarks 85 = .ok (.iload 4, 2) := by decide +kernel
theorem dX8_fewestRemarks_87 : decode cX8_fewestRemarks 87 = .ok (.iload 5, 2) := by decide +kernel
theorem dX8_fewestRemarks_89 : decode cX8_fewestRemarks 89 = .ok (.iadd, 1) := by decide +kernel
theorem dX8_fewestRemarks_90 : decode cX8_fewestRemarks 90 = .ok (.istore_n 2, 1) := by decide +kernel
theorem dX8_fewestRemarks_91 : decode cX8_fewestRemarks 91 = .ok (.iinc 3 1, 3) := by decide +kernel
theorem dX8_fewestRemarks_94 : decode cX8_fewestRemarks 94 = .ok (.goto (-89), 3) := by decide +kernel
theorem dX8_fewestRemarks_97 : decode cX8_fewestRemarks 97 = .ok (.iload_n 2, 1) := by decide +kernel
theorem dX8_fewestRemarks_98 : decode cX8_fewestRemarks 98 = .ok (.ireturn, 1) := by decide +kernel
theorem dX8_isThereAlready_0 : decode cX8_isThereAlready 0 = .ok (.aload_n 0, 1) := by decide +kernel
theorem dX8_isThereAlready_1 : decode cX8_isThereAlready 1 = .ok (.getfield 10, 3) := by decide +kernel
theorem dX8_isThereAlready_4 : decode cX8_isThereAlready 4 = .ok (.getfield 95, 3) := by decide +kernel
theorem dX8_isThereAlready_7 : decode cX8_isThereAlready 7 = .ok (.iload_n 1, 1) := by decide +kernel
theorem dX8_isThereAlready_8 : decode cX8_isThereAlready 8 = .ok (.invokevirtual 276, 3) := by decide +kernel
theorem dX8_isThereAlready_11 : decode cX8_isThereAlready 11 = .ok (.aload_n 0, 1) := by decide +kernel
theorem dX8_isThereAlready_12 : decode cX8_isThereAlready 12 = .ok (.getfield 39, 3) := by decide +kernel
theorem dX8_isThereAlready_15 : decode cX8_isThereAlready 15 = .ok (.getfield 279, 3) := by decide +kernel
theorem dX8_isThereAlready_18 : decode cX8_isThereAlready 18 = .ok (.iload_n 1, 1) := by decide +kernel
theorem dX8_isThereAlready_19 : decode cX8_isThereAlready 19 = .ok (.invokestatic 282, 3) := by decide +kernel
theorem dX8_isThereAlready_22 : decode cX8_isThereAlready 22 = .ok (.if_icmp .ne 32, 3) := by decide +kernel
theorem dX8_isThereAlready_25 : decode cX8_isThereAlready 25 = .ok (.aload_n 0, 1) := by decide +kernel
theorem dX8_isThereAlready_26 : decode cX8_isThereAlready 26 = .ok (.getfield 10, 3) := by decide +kernel
theorem dX8_isThereAlready_29 : decode cX8_isThereAlready 29 = .ok (.getfield 95, 3) := by decide +kernel
theorem dX8_isThereAlready_32 : decode cX8_isThereAlready 32 = .ok (.iload_n 1, 1) := by decide +kernel
theorem dX8_isThereAlready_33 : decode cX8_isThereAlready 33 = .ok (.invokevirtual 286, 3) := by decide +kernel
theorem dX8_isThereAlready_36 : decode cX8_isThereAlready 36 = .ok (.aload_n 0, 1) := by decide +kernel
theorem dX8_isThereAlready_37 : decode cX8_isThereAlready 37 = .ok (.getfield 39, 3) := by decide +kernel
theorem dX8_isThereAlready_40 : decode cX8_isThereAlready 40 = .ok (.getfield 289, 3) := by decide +kernel
theorem dX8_isThereAlready_43 : decode cX8_isThereAlready 43 = .ok (.iload_n 1, 1) := by decide +kernel
theorem dX8_isThereAlready_44 : decode cX8_isThereAlready 44 = .ok (.invokestatic 282, 3) := by decide +kernel
theorem dX8_isThereAlready_47 : decode cX8_isThereAlready 47 = .ok (.if_icmp .ne 7, 3) := by decide +kernel
theorem dX8_isThereAlready_50 : decode cX8_isThereAlready 50 = .ok (.iconst 1, 1) := by decide +kernel
theorem dX8_isThereAlready_51 : decode cX8_isThereAlready 51 = .ok (.goto 4, 3) := by decide +kernel
theorem dX8_isThereAlready_54 : decode cX8_isThereAlready 54 = .ok (.iconst 0, 1) := by decide +kernel
theorem dX8_isThereAlready_55 : decode cX8_isThereAlready 55 = .ok (.ireturn, 1) := by decide +kernel
theorem dX8_remarksDownTo_0 : decode cX8_remarksDownTo 0 = .ok (.iload_n 1, 1) := by decide +kernel
theorem dX8_remarksDownTo_1 : decode cX8_remarksDownTo 1 = .ok (.ifCond .le 7, 3) := by decide +kernel
theorem dX8_remarksDownTo_4 : decode cX8_remarksDownTo 4 = .ok (.iconst 1, 1) := by decide +kernel
theorem dX8_remarksDownTo_5 : decode cX8_remarksDownTo 5 = .ok (.goto 4, 3) := by decide +kernel
theorem dX8_remarksDownTo_8 : decode cX8_remarksDownTo 8 = .ok (.iconst 0, 1) := by decide +kernel
theorem dX8_remarksDownTo_9 : decode cX8_remarksDownTo 9 = .ok (.istore_n 2, 1) := by decide +kernel
theorem dX8_remarksDownTo_10 : decode cX8_remarksDownTo 10 = .ok (.iconst 0, 1) := by decide +kernel
theorem dX8_remarksDownTo_11 : decode cX8_remarksDownTo 11 = .ok (.istore_n 3, 1) := by decide +kernel
theorem dX8_remarksDownTo_12 : decode cX8_remarksDownTo 12 = .ok (.iconst 0, 1) := by decide +kernel
theorem dX8_remarksDownTo_13 : decode cX8_remarksDownTo 13 = .ok (.istore 4, 2) := by decide +kernel
theorem dX8_remarksDownTo_15 : decode cX8_remarksDownTo 15 = .ok (.iload_n 1, 1) := by decide +kernel
theorem dX8_remarksDownTo_16 : decode cX8_remarksDownTo 16 = .ok (.istore 5, 2) := by decide +kernel
theorem dX8_remarksDownTo_18 : decode cX8_remarksDownTo 18 = .ok (.iload 5, 2) := by decide +kernel
theorem dX8_remarksDownTo_20 : decode cX8_remarksDownTo 20 = .ok (.aload_n 0, 1) := by decide +kernel
theorem dX8_remarksDownTo_21 : decode cX8_remarksDownTo 21 = .ok (.getfield 10, 3) := by decide +kernel
theorem dX8_remarksDownTo_24 : decode cX8_remarksDownTo 24 = .ok (.getfield 95, 3) := by decide +kernel
theorem dX8_remarksDownTo_27 : decode cX8_remarksDownTo 27 = .ok (.getfield 134, 3) := by decide +kernel
theorem dX8_remarksDownTo_30 : decode cX8_remarksDownTo 30 = .ok (.if_icmp .ge 58, 3) := by decide +kernel
theorem dX8_remarksDownTo_33 : decode cX8_remarksDownTo 33 = .ok (.iload 5, 2) := by decide +kernel
theorem dX8_remarksDownTo_35 : decode cX8_remarksDownTo 35 = .ok (.ifCond .eq 32, 3) := by decide +kernel
theorem dX8_remarksDownTo_38 : decode cX8_remarksDownTo 38 = .ok (.aload_n 0, 1) := by decide +kernel
theorem dX8_remarksDownTo_39 : decode cX8_remarksDownTo 39 = .ok (.getfield 10, 3) := by decide +kernel
theorem dX8_remarksDownTo_42 : decode cX8_remarksDownTo 42 = .ok (.getfield 95, 3) := by decide +kernel
theorem dX8_remarksDownTo_45 : decode cX8_remarksDownTo 45 = .ok (.iload 5, 2) := by decide +kernel
theorem dX8_remarksDownTo_47 : decode cX8_remarksDownTo 47 = .ok (.invokevirtual 276, 3) := by decide +kernel
theorem dX8_remarksDownTo_50 : decode cX8_remarksDownTo 50 = .ok (.aload_n 0, 1) := by decide +kernel
theorem dX8_remarksDownTo_51 : decode cX8_remarksDownTo 51 = .ok (.getfield 10, 3) := by decide +kernel
theorem dX8_remarksDownTo_54 : decode cX8_remarksDownTo 54 = .ok (.getfield 95, 3) := by decide +kernel
theorem dX8_remarksDownTo_57 : decode cX8_remarksDownTo 57 = .ok (.iload 5, 2) := by decide +kernel
theorem dX8_remarksDownTo_59 : decode cX8_remarksDownTo 59 = .ok (.iconst 1, 1) := by decide +kernel
theorem dX8_remarksDownTo_60 : decode cX8_remarksDownTo 60 = .ok (.isub, 1) := by decide +kernel
theorem dX8_remarksDownTo_61 : decode cX8_remarksDownTo 61 = .ok (.invokevirtual 276, 3) := by decide +kernel
theorem dX8_remarksDownTo_64 : decode cX8_remarksDownTo 64 = .ok (.if_icmp .eq 11, 3) := by decide +kernel
theorem dX8_remarksDownTo_67 : decode cX8_remarksDownTo 67 = .ok (.iconst 0, 1) := by decide +kernel
theorem dX8_remarksDownTo_68 : decode cX8_remarksDownTo 68 = .ok (.istore_n 2, 1) := by decide +kernel
theorem dX8_remarksDownTo_69 : decode cX8_remarksDownTo 69 = .ok (.iinc 4 1, 3) := by decide +kernel
theorem dX8_remarksDownTo_72 : decode cX8_remarksDownTo 72 = .ok (.goto 10, 3) := by decide +kernel
theorem dX8_remarksDownTo_75 : decode cX8_remarksDownTo 75 = .ok (.iload_n 2, 1) := by decide +kernel
theorem dX8_remarksDownTo_76 : decode cX8_remarksDownTo 76 = .ok (.ifCond .eq 6, 3) := by decide +kernel
theorem dX8_remarksDownTo_79 : decode cX8_remarksDownTo 79 = .ok (.iinc 3 1, 3) := by decide +kernel
theorem dX8_remarksDownTo_82 : decode cX8_remarksDownTo 82 = .ok (.iinc 5 1, 3) := by decide +kernel
theorem dX8_remarksDownTo_85 : decode cX8_remarksDownTo 85 = .ok (.goto (-67), 3) := by decide +kernel
theorem dX8_remarksDownTo_88 : decode cX8_remarksDownTo 88 = .ok (.iload_n 3, 1) := by decide +kernel
theorem dX8_remarksDownTo_89 : decode cX8_remarksDownTo 89 = .ok (.ifCond .le 17, 3) := by decide +kernel
theorem dX8_remarksDownTo_92 : decode cX8_remarksDownTo 92 = .ok (.aload_n 0, 1) := by decide +kernel
theorem dX8_remarksDownTo_93 : decode cX8_remarksDownTo 93 = .ok (.getfield 10, 3) := by decide +kernel
theorem dX8_remarksDownTo_96 : decode cX8_remarksDownTo 96 = .ok (.iconst 2, 1) := by decide +kernel
theorem dX8_remarksDownTo_97 : decode cX8_remarksDownTo 97 = .ok (.invokevirtual 229, 3) := by decide +kernel
theorem dX8_remarksDownTo_100 : decode cX8_remarksDownTo 100 = .ok (.ifCond .ne 6, 3) := by decide +kernel
theorem dX8_remarksDownTo_103 : decode cX8_remarksDownTo 103 = .ok (.bipush (-6), 2) := by decide +kernel
theorem dX8_remarksDownTo_105 : decode cX8_remarksDownTo 105 = .ok (.ireturn, 1) := by decide +kernel
theorem dX8_remarksDownTo_106 : decode cX8_remarksDownTo 106 = .ok (.iload_n 3, 1) := by decide +kernel
theorem dX8_remarksDownTo_107 : decode cX8_remarksDownTo 107 = .ok (.iload 4, 2) := by decide +kernel
theorem dX8_remarksDownTo_109 : decode cX8_remarksDownTo 109 = .ok (.iadd, 1) := by decide +kernel
theorem dX8_remarksDownTo_110 : decode cX8_remarksDownTo 110 = .ok (.ireturn, 1) := by decide +kernel
theorem dX8_remarksUpTo_0 : decode cX8_remarksUpTo 0 = .ok (.iload_n 2, 1) := by decide +kernel
theorem dX8_remarksUpTo_1 : decode cX8_remarksUpTo 1 = .ok (.iload_n 1, 1) := by decide +kernel
theorem dX8_remarksUpTo_2 : decode cX8_remarksUpTo 2 = .ok (.if_icmp .lt 5, 3) := by decide +kernel
theorem dX8_remarksUpTo_5 : decode cX8_remarksUpTo 5 = .ok (.iconst 0, 1) := by decide +kernel
theorem dX8_remarksUpTo_6 : decode cX8_remarksUpTo 6 = .ok (.ireturn, 1) := by decide +kernel
theorem dX8_remarksUpTo_7 : decode cX8_remarksUpTo 7 = .ok (.aload_n 0, 1) := by decide +kernel
theorem dX8_remarksUpTo_8 : decode cX8_remarksUpTo 8 = .ok (.getfield 10, 3) := by decide +kernel
theorem dX8_remarksUpTo_11 : decode cX8_remarksUpTo 11 = .ok (.getfield 95, 3) := by decide +kernel
theorem dX8_remarksUpTo_14 : decode cX8_remarksUpTo 14 = .ok (.getfield 99, 3) := by decide +kernel
theorem dX8_remarksUpTo_17 : decode cX8_remarksUpTo 17 = .ok (.iconst 1, 1) := by decide +kernel
theorem dX8_remarksUpTo_18 : decode cX8_remarksUpTo 18 = .ok (.if_icmp .ge 6, 3) := by decide +kernel
theorem dX8_remarksUpTo_21 : decode cX8_remarksUpTo 21 = .ok (.bipush (-6), 2) := by decide +kernel
theorem dX8_remarksUpTo_23 : decode cX8_remarksUpTo 23 = .ok (.ireturn, 1) := by decide +kernel
theorem dX8_remarksUpTo_24 : decode cX8_remarksUpTo 24 = .ok (.iconst 0, 1) := by decide +kernel
theorem dX8_remarksUpTo_25 : decode cX8_remarksUpTo 25 = .ok (.istore_n 3, 1) := by decide +kernel
theorem dX8_remarksUpTo_26 : decode cX8_remarksUpTo 26 = .ok (.iload_n 2, 1) := by decide +kernel
theorem dX8_remarksUpTo_27 : decode cX8_remarksUpTo 27 = .ok (.istore 4, 2) := by decide +kernel
theorem dX8_remarksUpTo_29 : decode cX8_remarksUpTo 29 = .ok (.iload 4, 2) := by decide +kernel
theorem dX8_remarksUpTo_31 : decode cX8_remarksUpTo 31 = .ok (.iload_n 1, 1) := by decide +kernel
theorem dX8_remarksUpTo_32 : decode cX8_remarksUpTo 32 = .ok (.if_icmp .ge 126, 3) := by decide +kernel
theorem dX8_remarksUpTo_35 : decode cX8_remarksUpTo 35 = .ok (.aload_n 0, 1) := by decide +kernel
theorem dX8_remarksUpTo_36 : decode cX8_remarksUpTo 36 = .ok (.getfield 39, 3) := by decide +kernel
theorem dX8_remarksUpTo_39 : decode cX8_remarksUpTo 39 = .ok (.getfield 279, 3) := by decide +kernel
theorem dX8_remarksUpTo_42 : decode cX8_remarksUpTo 42 = .ok (.iload 4, 2) := by decide +kernel
theorem dX8_remarksUpTo_44 : decode cX8_remarksUpTo 44 = .ok (.invokestatic 282, 3) := by decide +kernel
theorem dX8_remarksUpTo_47 : decode cX8_remarksUpTo 47 = .ok (.istore 5, 2) := by decide +kernel
theorem dX8_remarksUpTo_49 : decode cX8_remarksUpTo 49 = .ok (.iload 4, 2) := by decide +kernel
theorem dX8_remarksUpTo_51 : decode cX8_remarksUpTo 51 = .ok (.iload_n 2, 1) := by decide +kernel
theorem dX8_remarksUpTo_52 : decode cX8_remarksUpTo 52 = .ok (.if_icmp .le 26, 3) := by decide +kernel
theorem dX8_remarksUpTo_55 : decode cX8_remarksUpTo 55 = .ok (.aload_n 0, 1) := by decide +kernel
theorem dX8_remarksUpTo_56 : decode cX8_remarksUpTo 56 = .ok (.getfield 39, 3) := by decide +kernel
theorem dX8_remarksUpTo_59 : decode cX8_remarksUpTo 59 = .ok (.getfield 279, 3) := by decide +kernel
theorem dX8_remarksUpTo_62 : decode cX8_remarksUpTo 62 = .ok (.iload 4, 2) := by decide +kernel
theorem dX8_remarksUpTo_64 : decode cX8_remarksUpTo 64 = .ok (.iconst 1, 1) := by decide +kernel
theorem dX8_remarksUpTo_65 : decode cX8_remarksUpTo 65 = .ok (.isub, 1) := by decide +kernel
theorem dX8_remarksUpTo_66 : decode cX8_remarksUpTo 66 = .ok (.invokestatic 282, 3) := by decide +kernel
theorem dX8_remarksUpTo_69 : decode cX8_remarksUpTo 69 = .ok (.iload 5, 2) := by decide +kernel
theorem dX8_remarksUpTo_71 : decode cX8_remarksUpTo 71 = .ok (.if_icmp .ne 7, 3) := by decide +kernel
theorem dX8_remarksUpTo_74 : decode cX8_remarksUpTo 74 = .ok (.iconst 1, 1) := by decide +kernel
theorem dX8_remarksUpTo_75 : decode cX8_remarksUpTo 75 = .ok (.goto 4, 3) := by decide +kernel
theorem dX8_remarksUpTo_78 : decode cX8_remarksUpTo 78 = .ok (.iconst 0, 1) := by decide +kernel
theorem dX8_remarksUpTo_79 : decode cX8_remarksUpTo 79 = .ok (.istore 6, 2) := by decide +kernel
theorem dX8_remarksUpTo_81 : decode cX8_remarksUpTo 81 = .ok (.iload 5, 2) := by decide +kernel
theorem dX8_remarksUpTo_83 : decode cX8_remarksUpTo 83 = .ok (.invokestatic 79, 3) := by decide +kernel
theorem dX8_remarksUpTo_86 : decode cX8_remarksUpTo 86 = .ok (.ifCond .eq 19, 3) := by decide +kernel
theorem dX8_remarksUpTo_89 : decode cX8_remarksUpTo 89 = .ok (.aload_n 0, 1) := by decide +kernel
theorem dX8_remarksUpTo_90 : decode cX8_remarksUpTo 90 = .ok (.getfield 10, 3) := by decide +kernel
theorem dX8_remarksUpTo_93 : decode cX8_remarksUpTo 93 = .ok (.iload 5, 2) := by decide +kernel
theorem dX8_remarksUpTo_95 : decode cX8_remarksUpTo 95 = .ok (.invokevirtual 83, 3) := by decide +kernel
theorem dX8_remarksUpTo_98 : decode cX8_remarksUpTo 98 = .ok (.iconst 1, 1) := by decide +kernel
theorem dX8_remarksUpTo_99 : decode cX8_remarksUpTo 99 = .ok (.if_icmp .ne 6, 3) := by decide +kernel
theorem dX8_remarksUpTo_102 : decode cX8_remarksUpTo 102 = .ok (.bipush (-6), 2) := by decide +kernel
theorem dX8_remarksUpTo_104 : decode cX8_remarksUpTo 104 = .ok (.ireturn, 1) := by decide +kernel
theorem dX8_remarksUpTo_105 : decode cX8_remarksUpTo 105 = .ok (.aload_n 0, 1) := by decide +kernel
theorem dX8_remarksUpTo_106 : decode cX8_remarksUpTo 106 = .ok (.getfield 39, 3) := by decide +kernel
theorem dX8_remarksUpTo_109 : decode cX8_remarksUpTo 109 = .ok (.getfield 289, 3) := by decide +kernel
theorem dX8_remarksUpTo_112 : decode cX8_remarksUpTo 112 = .ok (.iload 4, 2) := by decide +kernel
theorem dX8_remarksUpTo_114 : decode cX8_remarksUpTo 114 = .ok (.invokestatic 282, 3) := by decide +kernel
theorem dX8_remarksUpTo_117 : decode cX8_remarksUpTo 117 = .ok (.iconst 1, 1) := by decide +kernel
theorem dX8_remarksUpTo_118 : decode cX8_remarksUpTo 118 = .ok (.if_icmp .ne 11, 3) := by decide +kernel
theorem dX8_remarksUpTo_121 : decode cX8_remarksUpTo 121 = .ok (.iload 6, 2) := by decide +kernel
theorem dX8_remarksUpTo_123 : decode cX8_remarksUpTo 123 = .ok (.ifCond .ne 6, 3) := by decide +kernel
theorem dX8_remarksUpTo_126 : decode cX8_remarksUpTo 126 = .ok (.bipush (-6), 2) := by decide +kernel
theorem dX8_remarksUpTo_128 : decode cX8_remarksUpTo 128 = .ok (.ireturn, 1) := by decide +kernel
theorem dX8_remarksUpTo_129 : decode cX8_remarksUpTo 129 = .ok (.aload_n 0, 1) := by decide +kernel
theorem dX8_remarksUpTo_130 : decode cX8_remarksUpTo 130 = .ok (.getfield 39, 3) := by decide +kernel
theorem dX8_remarksUpTo_133 : decode cX8_remarksUpTo 133 = .ok (.getfield 289, 3) := by decide +kernel
theorem dX8_remarksUpTo_136 : decode cX8_remarksUpTo 136 = .ok (.iload 4, 2) := by decide +kernel
theorem dX8_remarksUpTo_138 : decode cX8_remarksUpTo 138 = .ok (.invokestatic 282, 3) := by decide +kernel
theorem dX8_remarksUpTo_141 : decode cX8_remarksUpTo 141 = .ok (.ifCond .ne 11, 3) := by decide +kernel
theorem dX8_remarksUpTo_144 : decode cX8_remarksUpTo 144 = .ok (.iload 6, 2) := by decide +kernel
theorem dX8_remarksUpTo_146 : decode cX8_remarksUpTo 146 = .ok (.ifCond .eq 6, 3) := by decide +kernel
theorem dX8_remarksUpTo_149 : decode cX8_remarksUpTo 149 = .ok (.iinc 3 1, 3) := by decide +kernel
theorem dX8_remarksUpTo_152 : decode cX8_remarksUpTo 152 = .ok (.iinc 4 1, 3) := by decide +kernel
theorem dX8_remarksUpTo_155 : decode cX8_remarksUpTo 155 = .ok (.goto (-126), 3) := by decide +kernel
theorem dX8_remarksUpTo_158 : decode cX8_remarksUpTo 158 = .ok (.iload_n 3, 1) := by decide +kernel
theorem dX8_remarksUpTo_159 : decode cX8_remarksUpTo 159 = .ok (.aload_n 0, 1) := by decide +kernel
theorem dX8_remarksUpTo_160 : decode cX8_remarksUpTo 160 = .ok (.getfield 10, 3) := by decide +kernel
theorem dX8_remarksUpTo_163 : decode cX8_remarksUpTo 163 = .ok (.getfield 95, 3) := by decide +kernel
theorem dX8_remarksUpTo_166 : decode cX8_remarksUpTo 166 = .ok (.getfield 99, 3) := by decide +kernel
theorem dX8_remarksUpTo_169 : decode cX8_remarksUpTo 169 = .ok (.iconst 1, 1) := by decide +kernel
theorem dX8_remarksUpTo_170 : decode cX8_remarksUpTo 170 = .ok (.isub, 1) := by decide +kernel
theorem dX8_remarksUpTo_171 : decode cX8_remarksUpTo 171 = .ok (.invokestatic 292, 3) := by decide +kernel
theorem dX8_remarksUpTo_174 : decode cX8_remarksUpTo 174 = .ok (.istore 4, 2) := by decide +kernel
theorem dX8_remarksUpTo_176 : decode cX8_remarksUpTo 176 = .ok (.iload_n 1, 1) := by decide +kernel
theorem dX8_remarksUpTo_177 : decode cX8_remarksUpTo 177 = .ok (.iload_n 2, 1) := by decide +kernel
theorem dX8_remarksUpTo_178 : decode cX8_remarksUpTo 178 = .ok (.isub, 1) := by decide +kernel
theorem dX8_remarksUpTo_179 : decode cX8_remarksUpTo 179 = .ok (.iload 4, 2) := by decide +kernel
theorem dX8_remarksUpTo_181 : decode cX8_remarksUpTo 181 = .ok (.iadd, 1) := by decide +kernel
theorem dX8_remarksUpTo_182 : decode cX8_remarksUpTo 182 = .ok (.iconst 2, 1) := by decide +kernel
theorem dX8_remarksUpTo_183 : decode cX8_remarksUpTo 183 = .ok (.iload_n 3, 1) := by decide +kernel
theorem dX8_remarksUpTo_184 : decode cX8_remarksUpTo 184 = .ok (.iload 4, 2) := by decide +kernel
theorem dX8_remarksUpTo_186 : decode cX8_remarksUpTo 186 = .ok (.isub, 1) := by decide +kernel
theorem dX8_remarksUpTo_187 : decode cX8_remarksUpTo 187 = .ok (.imul, 1) := by decide +kernel
theorem dX8_remarksUpTo_188 : decode cX8_remarksUpTo 188 = .ok (.iadd, 1) := by decide +kernel
theorem dX8_remarksUpTo_189 : decode cX8_remarksUpTo 189 = .ok (.ireturn, 1) := by decide +kernel
theorem dX8_spoken_0 : decode cX8_spoken 0 = .ok (.iload_n 0, 1) := by decide +kernel
theorem dX8_spoken_1 : decode cX8_spoken 1 = .ok (.bipush 16, 2) := by decide +kernel
theorem dX8_spoken_3 : decode cX8_spoken 3 = .ok (.imul, 1) := by decide +kernel
theorem dX8_spoken_4 : decode cX8_spoken 4 = .ok (.iload_n 1, 1) := by decide +kernel
theorem dX8_spoken_5 : decode cX8_spoken 5 = .ok (.iconst 2, 1) := by decide +kernel
theorem dX8_spoken_6 : decode cX8_spoken 6 = .ok (.imul, 1) := by decide +kernel
theorem dX8_spoken_7 : decode cX8_spoken 7 = .ok (.iadd, 1) := by decide +kernel
theorem dX8_spoken_8 : decode cX8_spoken 8 = .ok (.iload_n 2, 1) := by decide +kernel
theorem dX8_spoken_9 : decode cX8_spoken 9 = .ok (.ifCond .eq 7, 3) := by decide +kernel
theorem dX8_spoken_12 : decode cX8_spoken 12 = .ok (.iconst 1, 1) := by decide +kernel
theorem dX8_spoken_13 : decode cX8_spoken 13 = .ok (.goto 4, 3) := by decide +kernel
theorem dX8_spoken_16 : decode cX8_spoken 16 = .ok (.iconst 0, 1) := by decide +kernel
theorem dX8_spoken_17 : decode cX8_spoken 17 = .ok (.iadd, 1) := by decide +kernel
theorem dX8_spoken_18 : decode cX8_spoken 18 = .ok (.ireturn, 1) := by decide +kernel
theorem dX8_isSpoken_0 : decode cX8_isSpoken 0 = .ok (.iload_n 0, 1) := by decide +kernel
theorem dX8_isSpoken_1 : decode cX8_isSpoken 1 = .ok (.ifCond .lt 13, 3) := by decide +kernel
theorem dX8_isSpoken_4 : decode cX8_isSpoken 4 = .ok (.iload_n 0, 1) := by decide +kernel
theorem dX8_isSpoken_5 : decode cX8_isSpoken 5 = .ok (.bipush 100, 2) := by decide +kernel
theorem dX8_isSpoken_7 : decode cX8_isSpoken 7 = .ok (.if_icmp .ge 7, 3) := by decide +kernel
theorem dX8_isSpoken_10 : decode cX8_isSpoken 10 = .ok (.iconst 1, 1) := by decide +kernel
theorem dX8_isSpoken_11 : decode cX8_isSpoken 11 = .ok (.goto 4, 3) := by decide +kernel
theorem dX8_isSpoken_14 : decode cX8_isSpoken 14 = .ok (.iconst 0, 1) := by decide +kernel
theorem dX8_isSpoken_15 : decode cX8_isSpoken 15 = .ok (.ireturn, 1) := by decide +kernel
theorem dX8_guestOf_0 : decode cX8_guestOf 0 = .ok (.iload_n 0, 1) := by decide +kernel
theorem dX8_guestOf_1 : decode cX8_guestOf 1 = .ok (.bipush 16, 2) := by decide +kernel
theorem dX8_guestOf_3 : decode cX8_guestOf 3 = .ok (.idiv, 1) := by decide +kernel
theorem dX8_guestOf_4 : decode cX8_guestOf 4 = .ok (.ireturn, 1) := by decide +kernel
theorem dX8_isTrue_0 : decode cX8_isTrue 0 = .ok (.iload_n 0, 1) := by decide +kernel
theorem dX8_isTrue_1 : decode cX8_isTrue 1 = .ok (.iconst 2, 1) := by decide +kernel
theorem dX8_isTrue_2 : decode cX8_isTrue 2 = .ok (.idiv, 1) := by decide +kernel
theorem dX8_isTrue_3 : decode cX8_isTrue 3 = .ok (.bipush 8, 2) := by decide +kernel
theorem dX8_isTrue_5 : decode cX8_isTrue 5 = .ok (.irem, 1) := by decide +kernel
theorem dX8_isTrue_6 : decode cX8_isTrue 6 = .ok (.istore_n 2, 1) := by decide +kernel
theorem dX8_isTrue_7 : decode cX8_isTrue 7 = .ok (.iload_n 1, 1) := by decide +kernel
theorem dX8_isTrue_8 : decode cX8_isTrue 8 = .ok (.iload_n 2, 1) := by decide +kernel
theorem dX8_isTrue_9 : decode cX8_isTrue 9 = .ok (.ishr, 1) := by decide +kernel
theorem dX8_isTrue_10 : decode cX8_isTrue 10 = .ok (.iconst 1, 1) := by decide +kernel
theorem dX8_isTrue_11 : decode cX8_isTrue 11 = .ok (.iand, 1) := by decide +kernel
theorem dX8_isTrue_12 : decode cX8_isTrue 12 = .ok (.iload_n 0, 1) := by decide +kernel
theorem dX8_isTrue_13 : decode cX8_isTrue 13 = .ok (.iconst 2, 1) := by decide +kernel
theorem dX8_isTrue_14 : decode cX8_isTrue 14 = .ok (.irem, 1) := by decide +kernel
theorem dX8_isTrue_15 : decode cX8_isTrue 15 = .ok (.if_icmp .ne 7, 3) := by decide +kernel
theorem dX8_isTrue_18 : decode cX8_isTrue 18 = .ok (.iconst 1, 1) := by decide +kernel
theorem dX8_isTrue_19 : decode cX8_isTrue 19 = .ok (.goto 4, 3) := by decide +kernel
theorem dX8_isTrue_22 : decode cX8_isTrue 22 = .ok (.iconst 0, 1) := by decide +kernel
theorem dX8_isTrue_23 : decode cX8_isTrue 23 = .ok (.ireturn, 1) := by decide +kernel
theorem dX8_drawnRemark_0 : decode cX8_drawnRemark 0 = .ok (.iload_n 0, 1) := by decide +kernel
theorem dX8_drawnRemark_1 : decode cX8_drawnRemark 1 = .ok (.bipush 8, 2) := by decide +kernel
theorem dX8_drawnRemark_3 : decode cX8_drawnRemark 3 = .ok (.irem, 1) := by decide +kernel
theorem dX8_drawnRemark_4 : decode cX8_drawnRemark 4 = .ok (.tableswitch 37 0 2 #[28, 31, 34], 28) := by decide +kernel
theorem dX8_drawnRemark_32 : decode cX8_drawnRemark 32 = .ok (.bipush 100, 2) := by decide +kernel
theorem dX8_drawnRemark_34 : decode cX8_drawnRemark 34 = .ok (.ireturn, 1) := by decide +kernel
theorem dX8_drawnRemark_35 : decode cX8_drawnRemark 35 = .ok (.bipush 101, 2) := by decide +kernel
theorem dX8_drawnRemark_37 : decode cX8_drawnRemark 37 = .ok (.ireturn, 1) := by decide +kernel
theorem dX8_drawnRemark_38 : decode cX8_drawnRemark 38 = .ok (.bipush 102, 2) := by decide +kernel
theorem dX8_drawnRemark_40 : decode cX8_drawnRemark 40 = .ok (.ireturn, 1) := by decide +kernel
theorem dX8_drawnRemark_41 : decode cX8_drawnRemark 41 = .ok (.iload_n 1, 1) := by decide +kernel
theorem dX8_drawnRemark_42 : decode cX8_drawnRemark 42 = .ok (.ifCond .le 12, 3) := by decide +kernel
theorem dX8_drawnRemark_45 : decode cX8_drawnRemark 45 = .ok (.iload_n 0, 1) := by decide +kernel
theorem dX8_drawnRemark_46 : decode cX8_drawnRemark 46 = .ok (.bipush 48, 2) := by decide +kernel
theorem dX8_drawnRemark_48 : decode cX8_drawnRemark 48 = .ok (.idiv, 1) := by decide +kernel
theorem dX8_drawnRemark_49 : decode cX8_drawnRemark 49 = .ok (.iload_n 1, 1) := by decide +kernel
theorem dX8_drawnRemark_50 : decode cX8_drawnRemark 50 = .ok (.irem, 1) := by decide +kernel
theorem dX8_drawnRemark_51 : decode cX8_drawnRemark 51 = .ok (.goto 4, 3) := by decide +kernel
theorem dX8_drawnRemark_54 : decode cX8_drawnRemark 54 = .ok (.iconst 0, 1) := by decide +kernel
theorem dX8_drawnRemark_55 : decode cX8_drawnRemark 55 = .ok (.istore_n 2, 1) := by decide +kernel
theorem dX8_drawnRemark_56 : decode cX8_drawnRemark 56 = .ok (.iload_n 0, 1) := by decide +kernel
theorem dX8_drawnRemark_57 : decode cX8_drawnRemark 57 = .ok (.bipush 8, 2) := by decide +kernel
theorem dX8_drawnRemark_59 : decode cX8_drawnRemark 59 = .ok (.idiv, 1) := by decide +kernel
theorem dX8_drawnRemark_60 : decode cX8_drawnRemark 60 = .ok (.bipush 6, 2) := by decide +kernel
theorem dX8_drawnRemark_62 : decode cX8_drawnRemark 62 = .ok (.irem, 1) := by decide +kernel
theorem dX8_drawnRemark_63 : decode cX8_drawnRemark 63 = .ok (.iload_n 2, 1) := by decide +kernel
theorem dX8_drawnRemark_64 : decode cX8_drawnRemark 64 = .ok (.iload_n 0, 1) := by decide +kernel
theorem dX8_drawnRemark_65 : decode cX8_drawnRemark 65 = .ok (.sipush 480, 3) := by decide +kernel
theorem dX8_drawnRemark_68 : decode cX8_drawnRemark 68 = .ok (.idiv, 1) := by decide +kernel
theorem dX8_drawnRemark_69 : decode cX8_drawnRemark 69 = .ok (.iconst 2, 1) := by decide +kernel
theorem dX8_drawnRemark_70 : decode cX8_drawnRemark 70 = .ok (.irem, 1) := by decide +kernel
theorem dX8_drawnRemark_71 : decode cX8_drawnRemark 71 = .ok (.iconst 1, 1) := by decide +kernel
theorem dX8_drawnRemark_72 : decode cX8_drawnRemark 72 = .ok (.if_icmp .ne 7, 3) := by decide +kernel
theorem dX8_drawnRemark_75 : decode cX8_drawnRemark 75 = .ok (.iconst 1, 1) := by decide +kernel
theorem dX8_drawnRemark_76 : decode cX8_drawnRemark 76 = .ok (.goto 4, 3) := by decide +kernel
theorem dX8_drawnRemark_79 : decode cX8_drawnRemark 79 = .ok (.iconst 0, 1) := by decide +kernel
theorem dX8_drawnRemark_80 : decode cX8_drawnRemark 80 = .ok (.invokestatic 295, 3) := by decide +kernel
theorem dX8_drawnRemark_83 : decode cX8_drawnRemark 83 = .ok (.ireturn, 1) := by decide +kernel
theorem dX8_whyNot_0 : decode cX8_whyNot 0 = .ok (.iconst 0, 1) := by decide +kernel
theorem dX8_whyNot_1 : decode cX8_whyNot 1 = .ok (.istore 4, 2) := by decide +kernel
theorem dX8_whyNot_3 : decode cX8_whyNot 3 = .ok (.iload_n 0, 1) := by decide +kernel
theorem dX8_whyNot_4 : decode cX8_whyNot 4 = .ok (.invokestatic 299, 3) := by decide +kernel
theorem dX8_whyNot_7 : decode cX8_whyNot 7 = .ok (.ifCond .eq 41, 3) := by decide +kernel
theorem dX8_whyNot_10 : decode cX8_whyNot 10 = .ok (.iload_n 0, 1) := by decide +kernel
theorem dX8_whyNot_11 : decode cX8_whyNot 11 = .ok (.iload_n 2, 1) := by decide +kernel
theorem dX8_whyNot_12 : decode cX8_whyNot 12 = .ok (.invokestatic 302, 3) := by decide +kernel
theorem dX8_whyNot_15 : decode cX8_whyNot 15 = .ok (.ifCond .ne 7, 3) := by decide +kernel
theorem dX8_whyNot_18 : decode cX8_whyNot 18 = .ok (.iconst 1, 1) := by decide +kernel
theorem dX8_whyNot_19 : decode cX8_whyNot 19 = .ok (.goto 4, 3) := by decide +kernel
theorem dX8_whyNot_22 : decode cX8_whyNot 22 = .ok (.iconst 0, 1) := by decide +kernel
theorem dX8_whyNot_23 : decode cX8_whyNot 23 = .ok (.istore 4, 2) := by decide +kernel
theorem dX8_whyNot_25 : decode cX8_whyNot 25 = .ok (.aload_n 1, 1) := by decide +kernel
theorem dX8_whyNot_26 : decode cX8_whyNot 26 = .ok (.iload_n 0, 1) := by decide +kernel
theorem dX8_whyNot_27 : decode cX8_whyNot 27 = .ok (.invokestatic 305, 3) := by decide +kernel
theorem dX8_whyNot_30 : decode cX8_whyNot 30 = .ok (.invokevirtual 83, 3) := by decide +kernel
theorem dX8_whyNot_33 : decode cX8_whyNot 33 = .ok (.iload 4, 2) := by decide +kernel
theorem dX8_whyNot_35 : decode cX8_whyNot 35 = .ok (.ifCond .eq 7, 3) := by decide +kernel
theorem dX8_whyNot_38 : decode cX8_whyNot 38 = .ok (.iconst 1, 1) := by decide +kernel
theorem dX8_whyNot_39 : decode cX8_whyNot 39 = .ok (.goto 4, 3) := by decide +kernel
theorem dX8_whyNot_42 : decode cX8_whyNot 42 = .ok (.iconst 2, 1) := by decide +kernel
theorem dX8_whyNot_43 : decode cX8_whyNot 43 = .ok (.if_icmp .ne 5, 3) := by decide +kernel
theorem dX8_whyNot_46 : decode cX8_whyNot 46 = .ok (.iconst 1, 1) := by decide +kernel
theorem dX8_whyNot_47 : decode cX8_whyNot 47 = .ok (.ireturn, 1) := by decide +kernel
theorem dX8_whyNot_48 : decode cX8_whyNot 48 = .ok (.iload 4, 2) := by decide +kernel
theorem dX8_whyNot_50 : decode cX8_whyNot 50 = .ok (.ifCond .ne 9, 3) := by decide +kernel
theorem dX8_whyNot_53 : decode cX8_whyNot 53 = .ok (.iload_n 0, 1) := by decide +kernel
theorem dX8_whyNot_54 : decode cX8_whyNot 54 = .ok (.bipush 100, 2) := by decide +kernel
theorem dX8_whyNot_56 : decode cX8_whyNot 56 = .ok (.if_icmp .ne 7, 3) := by decide +kernel
theorem dX8_whyNot_59 : decode cX8_whyNot 59 = .ok (.iconst 1, 1) := by decide +kernel
theorem dX8_whyNot_60 : decode cX8_whyNot 60 = .ok (.goto 4, 3) := by decide +kernel
theorem dX8_whyNot_63 : decode cX8_whyNot 63 = .ok (.iconst 0, 1) := by decide +kernel
theorem dX8_whyNot_64 : decode cX8_whyNot 64 = .ok (.istore 5, 2) := by decide +kernel
theorem dX8_whyNot_66 : decode cX8_whyNot 66 = .ok (.iload 5, 2) := by decide +kernel
theorem dX8_whyNot_68 : decode cX8_whyNot 68 = .ok (.ifCond .eq 14, 3) := by decide +kernel
theorem dX8_whyNot_71 : decode cX8_whyNot 71 = .ok (.aload_n 3, 1) := by decide +kernel
theorem dX8_whyNot_72 : decode cX8_whyNot 72 = .ok (.getfield 134, 3) := by decide +kernel
theorem dX8_whyNot_75 : decode cX8_whyNot 75 = .ok (.bipush 30, 2) := by decide +kernel
theorem dX8_whyNot_77 : decode cX8_whyNot 77 = .ok (.if_icmp .lt 5, 3) := by decide +kernel
theorem dX8_whyNot_80 : decode cX8_whyNot 80 = .ok (.iconst 2, 1) := by decide +kernel
theorem dX8_whyNot_81 : decode cX8_whyNot 81 = .ok (.ireturn, 1) := by decide +kernel
theorem dX8_whyNot_82 : decode cX8_whyNot 82 = .ok (.iload 5, 2) := by decide +kernel
theorem dX8_whyNot_84 : decode cX8_whyNot 84 = .ok (.ifCond .ne 9, 3) := by decide +kernel
theorem dX8_whyNot_87 : decode cX8_whyNot 87 = .ok (.iload_n 0, 1) := by decide +kernel
theorem dX8_whyNot_88 : decode cX8_whyNot 88 = .ok (.bipush 101, 2) := by decide +kernel
theorem dX8_whyNot_90 : decode cX8_whyNot 90 = .ok (.if_icmp .ne 13, 3) := by decide +kernel
theorem dX8_whyNot_93 : decode cX8_whyNot 93 = .ok (.aload_n 3, 1) := by decide +kernel
theorem dX8_whyNot_94 : decode cX8_whyNot 94 = .ok (.getfield 99, 3) := by decide +kernel
theorem dX8_whyNot_97 : decode cX8_whyNot 97 = .ok (.iconst 1, 1) := by decide +kernel
theorem dX8_whyNot_98 : decode cX8_whyNot 98 = .ok (.if_icmp .ge 5, 3) := by decide +kernel
theorem dX8_whyNot_101 : decode cX8_whyNot 101 = .ok (.iconst 3, 1) := by decide +kernel
theorem dX8_whyNot_102 : decode cX8_whyNot 102 = .ok (.ireturn, 1) := by decide +kernel
theorem dX8_whyNot_103 : decode cX8_whyNot 103 = .ok (.iconst 0, 1) := by decide +kernel
theorem dX8_whyNot_104 : decode cX8_whyNot 104 = .ok (.ireturn, 1) := by decide +kernel
theorem dX8_isWithin_0 : decode cX8_isWithin 0 = .ok (.iload_n 0, 1) := by decide +kernel
theorem dX8_isWithin_1 : decode cX8_isWithin 1 = .ok (.iload_n 1, 1) := by decide +kernel
theorem dX8_isWithin_2 : decode cX8_isWithin 2 = .ok (.if_icmp .lt 12, 3) := by decide +kernel
theorem dX8_isWithin_5 : decode cX8_isWithin 5 = .ok (.iload_n 0, 1) := by decide +kernel
theorem dX8_isWithin_6 : decode cX8_isWithin 6 = .ok (.iload_n 2, 1) := by decide +kernel
theorem dX8_isWithin_7 : decode cX8_isWithin 7 = .ok (.if_icmp .gt 7, 3) := by decide +kernel
theorem dX8_isWithin_10 : decode cX8_isWithin 10 = .ok (.iconst 1, 1) := by decide +kernel
theorem dX8_isWithin_11 : decode cX8_isWithin 11 = .ok (.goto 4, 3) := by decide +kernel
theorem dX8_isWithin_14 : decode cX8_isWithin 14 = .ok (.iconst 0, 1) := by decide +kernel
theorem dX8_isWithin_15 : decode cX8_isWithin 15 = .ok (.ireturn, 1) := by decide +kernel
theorem dX8_isGuest_0 : decode cX8_isGuest 0 = .ok (.iload_n 0, 1) := by decide +kernel
theorem dX8_isGuest_1 : decode cX8_isGuest 1 = .ok (.iconst 0, 1) := by decide +kernel
theorem dX8_isGuest_2 : decode cX8_isGuest 2 = .ok (.iconst 5, 1) := by decide +kernel
theorem dX8_isGuest_3 : decode cX8_isGuest 3 = .ok (.invokestatic 64, 3) := by decide +kernel
theorem dX8_isGuest_6 : decode cX8_isGuest 6 = .ok (.ireturn, 1) := by decide +kernel
theorem dX8_areOrders_0 : decode cX8_areOrders 0 = .ok (.iload_n 0, 1) := by decide +kernel
theorem dX8_areOrders_1 : decode cX8_areOrders 1 = .ok (.iconst 0, 1) := by decide +kernel
theorem dX8_areOrders_2 : decode cX8_areOrders 2 = .ok (.bipush 12, 2) := by decide +kernel
theorem dX8_areOrders_4 : decode cX8_areOrders 4 = .ok (.invokestatic 64, 3) := by decide +kernel
theorem dX8_areOrders_7 : decode cX8_areOrders 7 = .ok (.ifCond .eq 27, 3) := by decide +kernel
theorem dX8_areOrders_10 : decode cX8_areOrders 10 = .ok (.iload_n 1, 1) := by decide +kernel
theorem dX8_areOrders_11 : decode cX8_areOrders 11 = .ok (.iconst 0, 1) := by decide +kernel
theorem dX8_areOrders_12 : decode cX8_areOrders 12 = .ok (.bipush 12, 2) := by decide +kernel
theorem dX8_areOrders_14 : decode cX8_areOrders 14 = .ok (.invokestatic 64, 3) := by decide +kernel
theorem dX8_areOrders_17 : decode cX8_areOrders 17 = .ok (.ifCond .eq 17, 3) := by decide +kernel
theorem dX8_areOrders_20 : decode cX8_areOrders 20 = .ok (.iload_n 2, 1) := by decide +kernel
theorem dX8_areOrders_21 : decode cX8_areOrders 21 = .ok (.iconst 0, 1) := by decide +kernel
theorem dX8_areOrders_22 : decode cX8_areOrders 22 = .ok (.bipush 30, 2) := by decide +kernel
theorem dX8_areOrders_24 : decode cX8_areOrders 24 = .ok (.invokestatic 64, 3) := by decide +kernel
theorem dX8_areOrders_27 : decode cX8_areOrders 27 = .ok (.ifCond .eq 7, 3) := by decide +kernel
theorem dX8_areOrders_30 : decode cX8_areOrders 30 = .ok (.iconst 1, 1) := by decide +kernel
theorem dX8_areOrders_31 : decode cX8_areOrders 31 = .ok (.goto 4, 3) := by decide +kernel
theorem dX8_areOrders_34 : decode cX8_areOrders 34 = .ok (.iconst 0, 1) := by decide +kernel
theorem dX8_areOrders_35 : decode cX8_areOrders 35 = .ok (.ireturn, 1) := by decide +kernel
theorem dX8_areChances_0 : decode cX8_areChances 0 = .ok (.iload_n 0, 1) := by decide +kernel
theorem dX8_areChances_1 : decode cX8_areChances 1 = .ok (.iconst 0, 1) := by decide +kernel
theorem dX8_areChances_2 : decode cX8_areChances 2 = .ok (.bipush 12, 2) := by decide +kernel
theorem dX8_areChances_4 : decode cX8_areChances 4 = .ok (.invokestatic 64, 3) := by decide +kernel
theorem dX8_areChances_7 : decode cX8_areChances 7 = .ok (.ifCond .eq 17, 3) := by decide +kernel
theorem dX8_areChances_10 : decode cX8_areChances 10 = .ok (.iload_n 1, 1) := by decide +kernel
theorem dX8_areChances_11 : decode cX8_areChances 11 = .ok (.iconst 0, 1) := by decide +kernel
theorem dX8_areChances_12 : decode cX8_areChances 12 = .ok (.bipush 10, 2) := by decide +kernel
theorem dX8_areChances_14 : decode cX8_areChances 14 = .ok (.invokestatic 64, 3) := by decide +kernel
theorem dX8_areChances_17 : decode cX8_areChances 17 = .ok (.ifCond .eq 7, 3) := by decide +kernel
theorem dX8_areChances_20 : decode cX8_areChances 20 = .ok (.iconst 1, 1) := by decide +kernel
theorem dX8_areChances_21 : decode cX8_areChances 21 = .ok (.goto 4, 3) := by decide +kernel
theorem dX8_areChances_24 : decode cX8_areChances 24 = .ok (.iconst 0, 1) := by decide +kernel
theorem dX8_areChances_25 : decode cX8_areChances 25 = .ok (.ireturn, 1) := by decide +kernel
theorem dX8_powerOfTen_0 : decode cX8_powerOfTen 0 = .ok (.lconst 1, 1) := by decide +kernel
theorem dX8_powerOfTen_1 : decode cX8_powerOfTen 1 = .ok (.lstore_n 1, 1) := by decide +kernel
theorem dX8_powerOfTen_2 : decode cX8_powerOfTen 2 = .ok (.iconst 0, 1) := by decide +kernel
theorem dX8_powerOfTen_3 : decode cX8_powerOfTen 3 = .ok (.istore_n 3, 1) := by decide +kernel
theorem dX8_powerOfTen_4 : decode cX8_powerOfTen 4 = .ok (.iload_n 3, 1) := by decide +kernel
theorem dX8_powerOfTen_5 : decode cX8_powerOfTen 5 = .ok (.iload_n 0, 1) := by decide +kernel
theorem dX8_powerOfTen_6 : decode cX8_powerOfTen 6 = .ok (.if_icmp .ge 21, 3) := by decide +kernel
theorem dX8_powerOfTen_9 : decode cX8_powerOfTen 9 = .ok (.iload_n 3, 1) := by decide +kernel
theorem dX8_powerOfTen_10 : decode cX8_powerOfTen 10 = .ok (.bipush 12, 2) := by decide +kernel
theorem dX8_powerOfTen_12 : decode cX8_powerOfTen 12 = .ok (.if_icmp .ge 15, 3) := by decide +kernel
theorem dX8_powerOfTen_15 : decode cX8_powerOfTen 15 = .ok (.lload_n 1, 1) := by decide +kernel
theorem dX8_powerOfTen_16 : decode cX8_powerOfTen 16 = .ok (.ldc2_w 308, 3) := by decide +kernel
theorem dX8_powerOfTen_19 : decode cX8_powerOfTen 19 = .ok (.lmul, 1) := by decide +kernel
theorem dX8_powerOfTen_20 : decode cX8_powerOfTen 20 = .ok (.lstore_n 1, 1) := by decide +kernel
theorem dX8_powerOfTen_21 : decode cX8_powerOfTen 21 = .ok (.iinc 3 1, 3) := by decide +kernel
theorem dX8_powerOfTen_24 : decode cX8_powerOfTen 24 = .ok (.goto (-20), 3) := by decide +kernel
theorem dX8_powerOfTen_27 : decode cX8_powerOfTen 27 = .ok (.lload_n 1, 1) := by decide +kernel
theorem dX8_powerOfTen_28 : decode cX8_powerOfTen 28 = .ok (.lreturn, 1) := by decide +kernel
theorem dX8_greatestDivisor_0 : decode cX8_greatestDivisor 0 = .ok (.lload_n 0, 1) := by decide +kernel
theorem dX8_greatestDivisor_1 : decode cX8_greatestDivisor 1 = .ok (.lstore 4, 2) := by decide +kernel
theorem dX8_greatestDivisor_3 : decode cX8_greatestDivisor 3 = .ok (.lload_n 2, 1) := by decide +kernel
theorem dX8_greatestDivisor_4 : decode cX8_greatestDivisor 4 = .ok (.lstore 6, 2) := by decide +kernel
theorem dX8_greatestDivisor_6 : decode cX8_greatestDivisor 6 = .ok (.iconst 0, 1) := by decide +kernel
theorem dX8_greatestDivisor_7 : decode cX8_greatestDivisor 7 = .ok (.istore 8, 2) := by decide +kernel
theorem dX8_greatestDivisor_9 : decode cX8_greatestDivisor 9 = .ok (.iload 8, 2) := by decide +kernel
theorem dX8_greatestDivisor_11 : decode cX8_greatestDivisor 11 = .ok (.sipush 200, 3) := by decide +kernel
theorem dX8_greatestDivisor_14 : decode cX8_greatestDivisor 14 = .ok (.if_icmp .ge 31, 3) := by decide +kernel
theorem dX8_greatestDivisor_17 : decode cX8_greatestDivisor 17 = .ok (.lload 6, 2) := by decide +kernel
theorem dX8_greatestDivisor_19 : decode cX8_greatestDivisor 19 = .ok (.lconst 0, 1) := by decide +kernel
theorem dX8_greatestDivisor_20 : decode cX8_greatestDivisor 20 = .ok (.lcmp, 1) := by decide +kernel
theorem dX8_greatestDivisor_21 : decode cX8_greatestDivisor 21 = .ok (.ifCond .eq 24, 3) := by decide +kernel
theorem dX8_greatestDivisor_24 : decode cX8_greatestDivisor 24 = .ok (.lload 4, 2) := by decide +kernel
theorem dX8_greatestDivisor_26 : decode cX8_greatestDivisor 26 = .ok (.lload 6, 2) := by decide +kernel
theorem dX8_greatestDivisor_28 : decode cX8_greatestDivisor 28 = .ok (.lrem, 1) := by decide +kernel
theorem dX8_greatestDivisor_29 : decode cX8_greatestDivisor 29 = .ok (.lstore 9, 2) := by decide +kernel
theorem dX8_greatestDivisor_31 : decode cX8_greatestDivisor 31 = .ok (.lload 6, 2) := by decide +kernel
theorem dX8_greatestDivisor_33 : decode cX8_greatestDivisor 33 = .ok (.lstore 4, 2) := by decide +kernel
theorem dX8_greatestDivisor_35 : decode cX8_greatestDivisor 35 = .ok (.lload 9, 2) := by decide +kernel
theorem dX8_greatestDivisor_37 : decode cX8_greatestDivisor 37 = .ok (.lstore 6, 2) := by decide +kernel
theorem dX8_greatestDivisor_39 : decode cX8_greatestDivisor 39 = .ok (.iinc 8 1, 3) := by decide +kernel
theorem dX8_greatestDivisor_42 : decode cX8_greatestDivisor 42 = .ok (.goto (-33), 3) := by decide +kernel
theorem dX8_greatestDivisor_45 : decode cX8_greatestDivisor 45 = .ok (.lload 4, 2) := by decide +kernel
theorem dX8_greatestDivisor_47 : decode cX8_greatestDivisor 47 = .ok (.lreturn, 1) := by decide +kernel
theorem dX8_at_0 : decode cX8_at 0 = .ok (.iload_n 1, 1) := by decide +kernel
theorem dX8_at_1 : decode cX8_at 1 = .ok (.ifCond .lt 15, 3) := by decide +kernel
theorem dX8_at_4 : decode cX8_at 4 = .ok (.iload_n 1, 1) := by decide +kernel
theorem dX8_at_5 : decode cX8_at 5 = .ok (.aload_n 0, 1) := by decide +kernel
theorem dX8_at_6 : decode cX8_at 6 = .ok (.arraylength, 1) := by decide +kernel
theorem dX8_at_7 : decode cX8_at 7 = .ok (.if_icmp .ge 9, 3) := by decide +kernel
theorem dX8_at_10 : decode cX8_at 10 = .ok (.aload_n 0, 1) := by decide +kernel
theorem dX8_at_11 : decode cX8_at 11 = .ok (.iload_n 1, 1) := by decide +kernel
theorem dX8_at_12 : decode cX8_at 12 = .ok (.iaload, 1) := by decide +kernel
theorem dX8_at_13 : decode cX8_at 13 = .ok (.goto 5, 3) := by decide +kernel
theorem dX8_at_16 : decode cX8_at 16 = .ok (.bipush (-6), 2) := by decide +kernel
theorem dX8_at_18 : decode cX8_at 18 = .ok (.ireturn, 1) := by decide +kernel
theorem dX8_put_0 : decode cX8_put 0 = .ok (.iload_n 1, 1) := by decide +kernel
theorem dX8_put_1 : decode cX8_put 1 = .ok (.ifCond .lt 13, 3) := by decide +kernel
theorem dX8_put_4 : decode cX8_put 4 = .ok (.iload_n 1, 1) := by decide +kernel
theorem dX8_put_5 : decode cX8_put 5 = .ok (.aload_n 0, 1) := by decide +kernel
theorem dX8_put_6 : decode cX8_put 6 = .ok (.arraylength, 1) := by decide +kernel
theorem dX8_put_7 : decode cX8_put 7 = .ok (.if_icmp .ge 7, 3) := by decide +kernel
theorem dX8_put_10 : decode cX8_put 10 = .ok (.aload_n 0, 1) := by decide +kernel
theorem dX8_put_11 : decode cX8_put 11 = .ok (.iload_n 1, 1) := by decide +kernel
theorem dX8_put_12 : decode cX8_put 12 = .ok (.iload_n 2, 1) := by decide +kernel
theorem dX8_put_13 : decode cX8_put 13 = .ok (.iastore, 1) := by decide +kernel
theorem dX8_put_14 : decode cX8_put 14 = .ok (.return_, 1) := by decide +kernel
theorem dX8_at__0 : decode cX8_at_ 0 = .ok (.iload_n 1, 1) := by decide +kernel
theorem dX8_at__1 : decode cX8_at_ 1 = .ok (.ifCond .lt 15, 3) := by decide +kernel
theorem dX8_at__4 : decode cX8_at_ 4 = .ok (.iload_n 1, 1) := by decide +kernel
theorem dX8_at__5 : decode cX8_at_ 5 = .ok (.aload_n 0, 1) := by decide +kernel
theorem dX8_at__6 : decode cX8_at_ 6 = .ok (.arraylength, 1) := by decide +kernel
theorem dX8_at__7 : decode cX8_at_ 7 = .ok (.if_icmp .ge 9, 3) := by decide +kernel
theorem dX8_at__10 : decode cX8_at_ 10 = .ok (.aload_n 0, 1) := by decide +kernel
theorem dX8_at__11 : decode cX8_at_ 11 = .ok (.iload_n 1, 1) := by decide +kernel
theorem dX8_at__12 : decode cX8_at_ 12 = .ok (.laload, 1) := by decide +kernel
theorem dX8_at__13 : decode cX8_at_ 13 = .ok (.goto 4, 3) := by decide +kernel
theorem dX8_at__16 : decode cX8_at_ 16 = .ok (.lconst 0, 1) := by decide +kernel
theorem dX8_at__17 : decode cX8_at_ 17 = .ok (.lreturn, 1) := by decide +kernel
theorem dX8_put__0 : decode cX8_put_ 0 = .ok (.iload_n 1, 1) := by decide +kernel
theorem dX8_put__1 : decode cX8_put_ 1 = .ok (.ifCond .lt 13, 3) := by decide +kernel
theorem dX8_put__4 : decode cX8_put_ 4 = .ok (.iload_n 1, 1) := by decide +kernel
theorem dX8_put__5 : decode cX8_put_ 5 = .ok (.aload_n 0, 1) := by decide +kernel
theorem dX8_put__6 : decode cX8_put_ 6 = .ok (.arraylength, 1) := by decide +kernel
theorem dX8_put__7 : decode cX8_put_ 7 = .ok (.if_icmp .ge 7, 3) := by decide +kernel
theorem dX8_put__10 : decode cX8_put_ 10 = .ok (.aload_n 0, 1) := by decide +kernel
theorem dX8_put__11 : decode cX8_put_ 11 = .ok (.iload_n 1, 1) := by decide +kernel
theorem dX8_put__12 : decode cX8_put_ 12 = .ok (.lload_n 2, 1) := by decide +kernel
theorem dX8_put__13 : decode cX8_put_ 13 = .ok (.lastore, 1) := by decide +kernel
theorem dX8_put__14 : decode cX8_put_ 14 = .ok (.return_, 1) := by decide +kernel
theorem dX8_copyAll_0 : decode cX8_copyAll 0 = .ok (.aload_n 0, 1) := by decide +kernel
theorem dX8_copyAll_1 : decode cX8_copyAll 1 = .ok (.iconst 0, 1) := by decide +kernel
theorem dX8_copyAll_2 : decode cX8_copyAll 2 = .ok (.aload_n 1, 1) := by decide +kernel
theorem dX8_copyAll_3 : decode cX8_copyAll 3 = .ok (.iconst 0, 1) := by decide +kernel
theorem dX8_copyAll_4 : decode cX8_copyAll 4 = .ok (.aload_n 0, 1) := by decide +kernel
theorem dX8_copyAll_5 : decode cX8_copyAll 5 = .ok (.arraylength, 1) := by decide +kernel
theorem dX8_copyAll_6 : decode cX8_copyAll 6 = .ok (.aload_n 1, 1) := by decide +kernel
theorem dX8_copyAll_7 : decode cX8_copyAll 7 = .ok (.arraylength, 1) := by decide +kernel
theorem dX8_copyAll_8 : decode cX8_copyAll 8 = .ok (.invokestatic 292, 3) := by decide +kernel
theorem dX8_copyAll_11 : decode cX8_copyAll 11 = .ok (.invokestatic 310, 3) := by decide +kernel
theorem dX8_copyAll_14 : decode cX8_copyAll 14 = .ok (.return_, 1) := by decide +kernel
theorem dX9_init_0 : decode cX9_init 0 = .ok (.aload_n 0, 1) := by decide +kernel
theorem dX9_init_1 : decode cX9_init 1 = .ok (.invokespecial 1, 3) := by decide +kernel
theorem dX9_init_4 : decode cX9_init 4 = .ok (.aload_n 0, 1) := by decide +kernel
theorem dX9_init_5 : decode cX9_init 5 = .ok (.bipush 6, 2) := by decide +kernel
theorem dX9_init_7 : decode cX9_init 7 = .ok (.newarray .int, 2) := by decide +kernel
theorem dX9_init_9 : decode cX9_init 9 = .ok (.putfield 7, 3) := by decide +kernel
theorem dX9_init_12 : decode cX9_init 12 = .ok (.aload_n 0, 1) := by decide +kernel
theorem dX9_init_13 : decode cX9_init 13 = .ok (.bipush 30, 2) := by decide +kernel
theorem dX9_init_15 : decode cX9_init 15 = .ok (.newarray .int, 2) := by decide +kernel
theorem dX9_init_17 : decode cX9_init 17 = .ok (.putfield 13, 3) := by decide +kernel
theorem dX9_init_20 : decode cX9_init 20 = .ok (.aload_n 0, 1) := by decide +kernel
theorem dX9_init_21 : decode cX9_init 21 = .ok (.bipush 30, 2) := by decide +kernel
theorem dX9_init_23 : decode cX9_init 23 = .ok (.newarray .int, 2) := by decide +kernel
theorem dX9_init_25 : decode cX9_init 25 = .ok (.putfield 16, 3) := by decide +kernel
theorem dX9_init_28 : decode cX9_init 28 = .ok (.aload_n 0, 1) := by decide +kernel
theorem dX9_init_29 : decode cX9_init 29 = .ok (.bipush 30, 2) := by decide +kernel
theorem dX9_init_31 : decode cX9_init 31 = .ok (.newarray .int, 2) := by decide +kernel
theorem dX9_init_33 : decode cX9_init 33 = .ok (.putfield 19, 3) := by decide +kernel
theorem dX9_init_36 : decode cX9_init 36 = .ok (.aload_n 0, 1) := by decide +kernel
theorem dX9_init_37 : decode cX9_init 37 = .ok (.bipush 8, 2) := by decide +kernel
theorem dX9_init_39 : decode cX9_init 39 = .ok (.newarray .int, 2) := by decide +kernel
theorem dX9_init_41 : decode cX9_init 41 = .ok (.putfield 22, 3) := by decide +kernel
theorem dX9_init_44 : decode cX9_init 44 = .ok (.aload_n 0, 1) := by decide +kernel
theorem dX9_init_45 : decode cX9_init 45 = .ok (.bipush 8, 2) := by decide +kernel
theorem dX9_init_47 : decode cX9_init 47 = .ok (.newarray .int, 2) := by decide +kernel
theorem dX9_init_49 : decode cX9_init 49 = .ok (.putfield 25, 3) := by decide +kernel
theorem dX9_init_52 : decode cX9_init 52 = .ok (.aload_n 0, 1) := by decide +kernel
theorem dX9_init_53 : decode cX9_init 53 = .ok (.bipush 60, 2) := by decide +kernel
theorem dX9_init_55 : decode cX9_init 55 = .ok (.newarray .int, 2) := by decide +kernel
theorem dX9_init_57 : decode cX9_init 57 = .ok (.putfield 28, 3) := by decide +kernel
theorem dX9_init_60 : decode cX9_init 60 = .ok (.aload_n 0, 1) := by decide +kernel
theorem dX9_init_61 : decode cX9_init 61 = .ok (.bipush 60, 2) := by decide +kernel
theorem dX9_init_63 : decode cX9_init 63 = .ok (.newarray .int, 2) := by decide +kernel
theorem dX9_init_65 : decode cX9_init 65 = .ok (.putfield 31, 3) := by decide +kernel
theorem dX9_init_68 : decode cX9_init 68 = .ok (.aload_n 0, 1) := by decide +kernel
theorem dX9_init_69 : decode cX9_init 69 = .ok (.bipush 60, 2) := by decide +kernel
theorem dX9_init_71 : decode cX9_init 71 = .ok (.newarray .int, 2) := by decide +kernel
theorem dX9_init_73 : decode cX9_init 73 = .ok (.putfield 34, 3) := by decide +kernel
theorem dX9_init_76 : decode cX9_init 76 = .ok (.aload_n 0, 1) := by decide +kernel
theorem dX9_init_77 : decode cX9_init 77 = .ok (.bipush 60, 2) := by decide +kernel
theorem dX9_init_79 : decode cX9_init 79 = .ok (.newarray .int, 2) := by decide +kernel
theorem dX9_init_81 : decode cX9_init 81 = .ok (.putfield 37, 3) := by decide +kernel
theorem dX9_init_84 : decode cX9_init 84 = .ok (.aload_n 0, 1) := by decide +kernel
theorem dX9_init_85 : decode cX9_init 85 = .ok (.bipush 60, 2) := by decide +kernel
theorem dX9_init_87 : decode cX9_init 87 = .ok (.newarray .int, 2) := by decide +kernel
theorem dX9_init_89 : decode cX9_init 89 = .ok (.putfield 40, 3) := by decide +kernel
theorem dX9_init_92 : decode cX9_init 92 = .ok (.aload_n 0, 1) := by decide +kernel
theorem dX9_init_93 : decode cX9_init 93 = .ok (.bipush 60, 2) := by decide +kernel
theorem dX9_init_95 : decode cX9_init 95 = .ok (.newarray .int, 2) := by decide +kernel
theorem dX9_init_97 : decode cX9_init 97 = .ok (.putfield 43, 3) := by decide +kernel
theorem dX9_init_100 : decode cX9_init 100 = .ok (.aload_n 0, 1) := by decide +kernel
theorem dX9_init_101 : decode cX9_init 101 = .ok (.bipush 60, 2) := by decide +kernel
theorem dX9_init_103 : decode cX9_init 103 = .ok (.newarray .int, 2) := by decide +kernel
theorem dX9_init_105 : decode cX9_init 105 = .ok (.putfield 46, 3) := by decide +kernel
theorem dX9_init_108 : decode cX9_init 108 = .ok (.aload_n 0, 1) := by decide +kernel
theorem dX9_init_109 : decode cX9_init 109 = .ok (.bipush 30, 2) := by decide +kernel
theorem dX9_init_111 : decode cX9_init 111 = .ok (.newarray .int, 2) := by decide +kernel
theorem dX9_init_113 : decode cX9_init 113 = .ok (.putfield 49, 3) := by decide +kernel
theorem dX9_init_116 : decode cX9_init 116 = .ok (.aload_n 0, 1) := by decide +kernel
theorem dX9_init_117 : decode cX9_init 117 = .ok (.bipush 92, 2) := by decide +kernel
theorem dX9_init_119 : decode cX9_init 119 = .ok (.newarray .int, 2) := by decide +kernel
theorem dX9_init_121 : decode cX9_init 121 = .ok (.putfield 52, 3) := by decide +kernel
theorem dX9_init_124 : decode cX9_init 124 = .ok (.aload_n 0, 1) := by decide +kernel
theorem dX9_init_125 : decode cX9_init 125 = .ok (.bipush 90, 2) := by decide +kernel
theorem dX9_init_127 : decode cX9_init 127 = .ok (.newarray .int, 2) := by decide +kernel
theorem dX9_init_129 : decode cX9_init 129 = .ok (.putfield 55, 3) := by decide +kernel
theorem dX9_init_132 : decode cX9_init 132 = .ok (.aload_n 0, 1) := by decide +kernel
theorem dX9_init_133 : decode cX9_init 133 = .ok (.bipush 31, 2) := by decide +kernel
theorem dX9_init_135 : decode cX9_init 135 = .ok (.newarray .int, 2) := by decide +kernel
theorem dX9_init_137 : decode cX9_init 137 = .ok (.putfield 58, 3) := by decide +kernel
theorem dX9_init_140 : decode cX9_init 140 = .ok (.aload_n 0, 1) := by decide +kernel
theorem dX9_init_141 : decode cX9_init 141 = .ok (.bipush 8, 2) := by decide +kernel
theorem dX9_init_143 : decode cX9_init 143 = .ok (.newarray .int, 2) := by decide +kernel
theorem dX9_init_145 : decode cX9_init 145 = .ok (.putfield 61, 3) := by decide +kernel
theorem dX9_init_148 : decode cX9_init 148 = .ok (.aload_n 0, 1) := by decide +kernel
theorem dX9_init_149 : decode cX9_init 149 = .ok (.bipush 96, 2) := by decide +kernel
theorem dX9_init_151 : decode cX9_init 151 = .ok (.newarray .long, 2) := by decide +kernel
theorem dX9_init_153 : decode cX9_init 153 = .ok (.putfield 64, 3) := by decide +kernel
theorem dX9_init_156 : decode cX9_init 156 = .ok (.aload_n 0, 1) := by decide +kernel
theorem dX9_init_157 : decode cX9_init 157 = .ok (.bipush 96, 2) := by decide +kernel
theorem dX9_init_159 : decode cX9_init 159 = .ok (.newarray .long, 2) := by decide +kernel
theorem dX9_init_161 : decode cX9_init 161 = .ok (.putfield 68, 3) := by decide +kernel
theorem dX9_init_164 : decode cX9_init 164 = .ok (.aload_n 0, 1) := by decide +kernel
theorem dX9_init_165 : decode cX9_init 165 = .ok (.sipush 1248, 3) := by decide +kernel
theorem dX9_init_168 : decode cX9_init 168 = .ok (.newarray .long, 2) := by decide +kernel
theorem dX9_init_170 : decode cX9_init 170 = .ok (.putfield 71, 3) := by decide +kernel
theorem dX9_init_173 : decode cX9_init 173 = .ok (.aload_n 0, 1) := by decide +kernel
theorem dX9_init_174 : decode cX9_init 174 = .ok (.sipush 260, 3) := by decide +kernel
theorem dX9_init_177 : decode cX9_init 177 = .ok (.newarray .int, 2) := by decide +kernel
theorem dX9_init_179 : decode cX9_init 179 = .ok (.putfield 74, 3) := by decide +kernel
theorem dX9_init_182 : decode cX9_init 182 = .ok (.aload_n 0, 1) := by decide +kernel
theorem dX9_init_183 : decode cX9_init 183 = .ok (.iconst 2, 1) := by decide +kernel
theorem dX9_init_184 : decode cX9_init 184 = .ok (.newarray .boolean, 2) := by decide +kernel
theorem dX9_init_186 : decode cX9_init 186 = .ok (.putfield 77, 3) := by decide +kernel
theorem dX9_init_189 : decode cX9_init 189 = .ok (.aload_n 0, 1) := by decide +kernel
theorem dX9_init_190 : decode cX9_init 190 = .ok (.iconst 4, 1) := by decide +kernel
theorem dX9_init_191 : decode cX9_init 191 = .ok (.invokevirtual 81, 3) := by decide +kernel
theorem dX9_init_194 : decode cX9_init 194 = .ok (.return_, 1) := by decide +kernel
theorem dX9_in_0 : decode cX9_in 0 = .ok (.lload_n 0, 1) := by decide +kernel
theorem dX9_in_1 : decode cX9_in 1 = .ok (.lload_n 2, 1) := by decide +kernel
theorem dX9_in_2 : decode cX9_in 2 = .ok (.lcmp, 1) := by decide +kernel
theorem dX9_in_3 : decode cX9_in 3 = .ok (.ifCond .lt 14, 3) := by decide +kernel
theorem dX9_in_6 : decode cX9_in 6 = .ok (.lload_n 0, 1) := by decide +kernel
theorem dX9_in_7 : decode cX9_in 7 = .ok (.lload 4, 2) := by decide +kernel
theorem dX9_in_9 : decode cX9_in 9 = .ok (.lcmp, 1) := by decide +kernel
theorem dX9_in_10 : decode cX9_in 10 = .ok (.ifCond .gt 7, 3) := by decide +kernel
theorem dX9_in_13 : decode cX9_in 13 = .ok (.iconst 1, 1) := by decide +kernel
theorem dX9_in_14 : decode cX9_in 14 = .ok (.goto 4, 3) := by decide +kernel
theorem dX9_in_17 : decode cX9_in 17 = .ok (.iconst 0, 1) := by decide +kernel
theorem dX9_in_18 : decode cX9_in 18 = .ok (.ireturn, 1) := by decide +kernel
theorem dX9_begin_0 : decode cX9_begin 0 = .ok (.aload_n 0, 1) := by decide +kernel
theorem dX9_begin_1 : decode cX9_begin 1 = .ok (.iload_n 1, 1) := by decide +kernel
theorem dX9_begin_2 : decode cX9_begin 2 = .ok (.putfield 85, 3) := by decide +kernel
theorem dX9_begin_5 : decode cX9_begin 5 = .ok (.aload_n 0, 1) := by decide +kernel
theorem dX9_begin_6 : decode cX9_begin 6 = .ok (.iconst 0, 1) := by decide +kernel
theorem dX9_begin_7 : decode cX9_begin 7 = .ok (.putfield 89, 3) := by decide +kernel
theorem dX9_begin_10 : decode cX9_begin 10 = .ok (.aload_n 0, 1) := by decide +kernel
theorem dX9_begin_11 : decode cX9_begin 11 = .ok (.iconst 0, 1) := by decide +kernel
theorem dX9_begin_12 : decode cX9_begin 12 = .ok (.putfield 92, 3) := by decide +kernel
theorem dX9_begin_15 : decode cX9_begin 15 = .ok (.aload_n 0, 1) := by decide +kernel
theorem dX9_begin_16 : decode cX9_begin 16 = .ok (.bipush 20, 2) := by decide +kernel
theorem dX9_begin_18 : decode cX9_begin 18 = .ok (.putfield 95, 3) := by decide +kernel
theorem dX9_begin_21 : decode cX9_begin 21 = .ok (.aload_n 0, 1) := by decide +kernel
theorem dX9_begin_22 : decode cX9_begin 22 = .ok (.iconst 0, 1) := by decide +kernel
theorem dX9_begin_23 : decode cX9_begin 23 = .ok (.putfield 98, 3) := by decide +kernel
theorem dX9_begin_26 : decode cX9_begin 26 = .ok (.iconst 0, 1) := by decide +kernel
theorem dX9_begin_27 : decode cX9_begin 27 = .ok (.istore_n 2, 1) := by decide +kernel
theorem dX9_begin_28 : decode cX9_begin 28 = .ok (.iload_n 2, 1) := by decide +kernel
theorem dX9_begin_29 : decode cX9_begin 29 = .ok (.bipush 6, 2) := by decide +kernel
theorem dX9_begin_31 : decode cX9_begin 31 = .ok (.if_icmp .ge 16, 3) := by decide +kernel
theorem dX9_begin_34 : decode cX9_begin 34 = .ok (.aload_n 0, 1) := by decide +kernel
theorem dX9_begin_35 : decode cX9_begin 35 = .ok (.getfield 7, 3) := by decide +kernel
theorem dX9_begin_38 : decode cX9_begin 38 = .ok (.iload_n 2, 1) := by decide +kernel
theorem dX9_begin_39 : decode cX9_begin 39 = .ok (.iconst 0, 1) := by decide +kernel
theorem dX9_begin_40 : decode cX9_begin 40 = .ok (.iastore, 1) := by decide +kernel
theorem dX9_begin_41 : decode cX9_begin 41 = .ok (.iinc 2 1, 3) := by decide +kernel
theorem dX9_begin_44 : decode cX9_begin 44 = .ok (.goto (-16), 3) := by decide +kernel
theorem dX9_begin_47 : decode cX9_begin 47 = .ok (.return_, 1) := by decide +kernel
theorem dX9_isFact_0 : decode cX9_isFact 0 = .ok (.iload_n 1, 1) := by decide +kernel
theorem dX9_isFact_1 : decode cX9_isFact 1 = .ok (.i2l, 1) := by decide +kernel
theorem dX9_isFact_2 : decode cX9_isFact 2 = .ok (.lconst 0, 1) := by decide +kernel
theorem dX9_isFact_3 : decode cX9_isFact 3 = .ok (.aload_n 0, 1) := by decide +kernel
theorem dX9_isFact_4 : decode cX9_isFact 4 = .ok (.getfield 85, 3) := by decide +kernel
theorem dX9_isFact_7 : decode cX9_isFact 7 = .ok (.iconst 1, 1) := by decide +kernel
theorem dX9_isFact_8 : decode cX9_isFact 8 = .ok (.isub, 1) := by decide +kernel
theorem dX9_isFact_9 : decode cX9_isFact 9 = .ok (.i2l, 1) := by decide +kernel
theorem dX9_isFact_10 : decode cX9_isFact 10 = .ok (.invokestatic 101, 3) := by decide +kernel
theorem dX9_isFact_13 : decode cX9_isFact 13 = .ok (.ireturn, 1) := by decide +kernel
theorem dX9_isGuest_0 : decode cX9_isGuest 0 = .ok (.iload_n 0, 1) := by decide +kernel
theorem dX9_isGuest_1 : decode cX9_isGuest 1 = .ok (.i2l, 1) := by decide +kernel
theorem dX9_isGuest_2 : decode cX9_isGuest 2 = .ok (.lconst 0, 1) := by decide +kernel
theorem dX9_isGuest_3 : decode cX9_isGuest 3 = .ok (.ldc2_w 105, 3) := by decide +kernel
theorem dX9_isGuest_6 : decode cX9_isGuest 6 = .ok (.invokestatic 101, 3) := by decide +kernel
theorem dX9_isGuest_9 : decode cX9_isGuest 9 = .ok (.ireturn, 1) := by decide +kernel
theorem dX9_isRow_0 : decode cX9_isRow 0 = .ok (.iload_n 1, 1) := by decide +kernel
theorem dX9_isRow_1 : decode cX9_isRow 1 = .ok (.i2l, 1) := by decide +kernel
theorem dX9_isRow_2 : decode cX9_isRow 2 = .ok (.lconst 0, 1) := by decide +kernel
theorem dX9_isRow_3 : decode cX9_isRow 3 = .ok (.aload_n 0, 1) := by decide +kernel
theorem dX9_isRow_4 : decode cX9_isRow 4 = .ok (.getfield 92, 3) := by decide +kernel
theorem dX9_isRow_7 : decode cX9_isRow 7 = .ok (.iconst 1, 1) := by decide +kernel
theorem dX9_isRow_8 : decode cX9_isRow 8 = .ok (.isub, 1) := by decide +kernel
theorem dX9_isRow_9 : decode cX9_isRow 9 = .ok (.i2l, 1) := by decide +kernel
theorem dX9_isRow_10 : decode cX9_isRow 10 = .ok (.invokestatic 101, 3) := by decide +kernel
theorem dX9_isRow_13 : decode cX9_isRow 13 = .ok (.ireturn, 1) := by decide +kernel
theorem dX9_facts_0 : decode cX9_facts 0 = .ok (.iload_n 1, 1) := by decide +kernel
theorem dX9_facts_1 : decode cX9_facts 1 = .ok (.i2l, 1) := by decide +kernel
theorem dX9_facts_2 : decode cX9_facts 2 = .ok (.lconst 1, 1) := by decide +kernel
theorem dX9_facts_3 : decode cX9_facts 3 = .ok (.ldc2_w 107, 3) := by decide +kernel
theorem dX9_facts_6 : decode cX9_facts 6 = .ok (.invokestatic 101, 3) := by decide +kernel
theorem dX9_facts_9 : decode cX9_facts 9 = .ok (.ifCond .ne 6, 3) := by decide +kernel
theorem dX9_facts_12 : decode cX9_facts 12 = .ok (.bipush (-2), 2) := by decide +kernel
theorem dX9_facts_14 : decode cX9_facts 14 = .ok (.ireturn, 1) := by decide +kernel
theorem dX9_facts_15 : decode cX9_facts 15 = .ok (.aload_n 0, 1) := by decide +kernel
theorem dX9_facts_16 : decode cX9_facts 16 = .ok (.getfield 85, 3) := by decide +kernel
theorem dX9_facts_19 : decode cX9_facts 19 = .ok (.istore_n 2, 1) := by decide +kernel
theorem dX9_facts_20 : decode cX9_facts 20 = .ok (.aload_n 0, 1) := by decide +kernel
theorem dX9_facts_21 : decode cX9_facts 21 = .ok (.iload_n 1, 1) := by decide +kernel
theorem dX9_facts_22 : decode cX9_facts 22 = .ok (.invokevirtual 81, 3) := by decide +kernel
theorem dX9_facts_25 : decode cX9_facts 25 = .ok (.iload_n 2, 1) := by decide +kernel
theorem dX9_facts_26 : decode cX9_facts 26 = .ok (.ireturn, 1) := by decide +kernel
theorem dX9_fact_0 : decode cX9_fact 0 = .ok (.aload_n 0, 1) := by decide +kernel
theorem dX9_fact_1 : decode cX9_fact 1 = .ok (.iload_n 1, 1) := by decide +kernel
theorem dX9_fact_2 : decode cX9_fact 2 = .ok (.invokevirtual 109, 3) := by decide +kernel
theorem dX9_fact_5 : decode cX9_fact 5 = .ok (.ifCond .ne 5, 3) := by decide +kernel
theorem dX9_fact_8 : decode cX9_fact 8 = .ok (.iconst (-1), 1) := by decide +kernel
theorem dX9_fact_9 : decode cX9_fact 9 = .ok (.ireturn, 1) := by decide +kernel
theorem dX9_fact_10 : decode cX9_fact 10 = .ok (.aload_n 0, 1) := by decide +kernel
theorem dX9_fact_11 : decode cX9_fact 11 = .ok (.iload_n 2, 1) := by decide +kernel
theorem dX9_fact_12 : decode cX9_fact 12 = .ok (.ifCond .eq 14, 3) := by decide +kernel
theorem dX9_fact_15 : decode cX9_fact 15 = .ok (.aload_n 0, 1) := by decide +kernel
theorem dX9_fact_16 : decode cX9_fact 16 = .ok (.getfield 89, 3) := by decide +kernel
theorem dX9_fact_19 : decode cX9_fact 19 = .ok (.iconst 1, 1) := by decide +kernel
theorem dX9_fact_20 : decode cX9_fact 20 = .ok (.iload_n 1, 1) := by decide +kernel
theorem dX9_fact_21 : decode cX9_fact 21 = .ok (.ishl, 1) := by decide +kernel
theorem dX9_fact_22 : decode cX9_fact 22 = .ok (.ior, 1) := by decide +kernel
theorem dX9_fact_23 : decode cX9_fact 23 = .ok (.goto 13, 3) := by decide +kernel
theorem dX9_fact_26 : decode cX9_fact 26 = .ok (.aload_n 0, 1) := by decide +kernel
theorem dX9_fact_27 : decode cX9_fact 27 = .ok (.getfield 89, 3) := by decide +kernel
theorem dX9_fact_30 : decode cX9_fact 30 = .ok (.iconst 1, 1) := by decide +kernel
theorem dX9_fact_31 : decode cX9_fact 31 = .ok (.iload_n 1, 1) := by decide +kernel
theorem dX9_fact_32 : decode cX9_fact 32 = .ok (.ishl, 1) := by decide +kernel
theorem dX9_fact_33 : decode cX9_fact 33 = .ok (.iconst (-1), 1) := by decide +kernel
theorem dX9_fact_34 : decode cX9_fact 34 = .ok (.ixor, 1) := by decide +kernel
theorem dX9_fact_35 : decode cX9_fact 35 = .ok (.iand, 1) := by decide +kernel
theorem dX9_fact_36 : decode cX9_fact 36 = .ok (.putfield 89, 3) := by decide +kernel
theorem dX9_fact_39 : decode cX9_fact 39 = .ok (.aload_n 0, 1) := by decide +kernel
theorem dX9_fact_40 : decode cX9_fact 40 = .ok (.getfield 89, 3) := by decide +kernel
theorem dX9_fact_43 : decode cX9_fact 43 = .ok (.ireturn, 1) := by decide +kernel
theorem dX9_temper_0 : decode cX9_temper 0 = .ok (.iload_n 1, 1) := by decide +kernel
theorem dX9_temper_1 : decode cX9_temper 1 = .ok (.invokestatic 113, 3) := by decide +kernel
theorem dX9_temper_4 : decode cX9_temper 4 = .ok (.ifCond .ne 5, 3) := by decide +kernel
theorem dX9_temper_7 : decode cX9_temper 7 = .ok (.iconst (-1), 1) := by decide +kernel
theorem dX9_temper_8 : decode cX9_temper 8 = .ok (.ireturn, 1) := by decide +kernel
theorem dX9_temper_9 : decode cX9_temper 9 = .ok (.iload_n 2, 1) := by decide +kernel
theorem dX9_temper_10 : decode cX9_temper 10 = .ok (.i2l, 1) := by decide +kernel
theorem dX9_temper_11 : decode cX9_temper 11 = .ok (.lconst 0, 1) := by decide +kernel
theorem dX9_temper_12 : decode cX9_temper 12 = .ok (.ldc2_w 116, 3) := by decide +kernel
theorem dX9_temper_15 : decode cX9_temper 15 = .ok (.invokestatic 101, 3) := by decide +kernel
theorem dX9_temper_18 : decode cX9_temper 18 = .ok (.ifCond .ne 6, 3) := by decide +kernel
theorem dX9_temper_21 : decode cX9_temper 21 = .ok (.bipush (-2), 2) := by decide +kernel
theorem dX9_temper_23 : decode cX9_temper 23 = .ok (.ireturn, 1) := by decide +kernel
theorem dX9_temper_24 : decode cX9_temper 24 = .ok (.aload_n 0, 1) := by decide +kernel
theorem dX9_temper_25 : decode cX9_temper 25 = .ok (.getfield 7, 3) := by decide +kernel
theorem dX9_temper_28 : decode cX9_temper 28 = .ok (.iload_n 1, 1) := by decide +kernel
theorem dX9_temper_29 : decode cX9_temper 29 = .ok (.iaload, 1) := by decide +kernel
theorem dX9_temper_30 : decode cX9_temper 30 = .ok (.istore_n 3, 1) := by decide +kernel
theorem dX9_temper_31 : decode cX9_temper 31 = .ok (.aload_n 0, 1) := by decide +kernel
theorem dX9_temper_32 : decode cX9_temper 32 = .ok (.getfield 7, 3) := by decide +kernel
theorem dX9_temper_35 : decode cX9_temper 35 = .ok (.iload_n 1, 1) := by decide +kernel
theorem dX9_temper_36 : decode cX9_temper 36 = .ok (.iload_n 2, 1) := by decide +kernel
theorem dX9_temper_37 : decode cX9_temper 37 = .ok (.iastore, 1) := by decide +kernel
theorem dX9_temper_38 : decode cX9_temper 38 = .ok (.iload_n 3, 1) := by decide +kernel
theorem dX9_temper_39 : decode cX9_temper 39 = .ok (.ireturn, 1) := by decide +kernel
theorem dX9_width_0 : decode cX9_width 0 = .ok (.iload_n 1, 1) := by decide +kernel
theorem dX9_width_1 : decode cX9_width 1 = .ok (.i2l, 1) := by decide +kernel
theorem dX9_width_2 : decode cX9_width 2 = .ok (.lconst 0, 1) := by decide +kernel
theorem dX9_width_3 : decode cX9_width 3 = .ok (.ldc2_w 118, 3) := by decide +kernel
theorem dX9_width_6 : decode cX9_width 6 = .ok (.invokestatic 101, 3) := by decide +kernel
theorem dX9_width_9 : decode cX9_width 9 = .ok (.ifCond .ne 6, 3) := by decide +kernel
theorem dX9_width_12 : decode cX9_width 12 = .ok (.bipush (-2), 2) := by decide +kernel
theorem dX9_width_14 : decode cX9_width 14 = .ok (.ireturn, 1) := by decide +kernel
theorem dX9_width_15 : decode cX9_width 15 = .ok (.aload_n 0, 1) := by decide +kernel
theorem dX9_width_16 : decode cX9_width 16 = .ok (.getfield 95, 3) := by decide +kernel
theorem dX9_width_19 : decode cX9_width 19 = .ok (.istore_n 2, 1) := by decide +kernel
theorem dX9_width_20 : decode cX9_width 20 = .ok (.aload_n 0, 1) := by decide +kernel
theorem dX9_width_21 : decode cX9_width 21 = .ok (.iload_n 1, 1) := by decide +kernel
theorem dX9_width_22 : decode cX9_width 22 = .ok (.putfield 95, 3) := by decide +kernel
theorem dX9_width_25 : decode cX9_width 25 = .ok (.iload_n 2, 1) := by decide +kernel
theorem dX9_width_26 : decode cX9_width 26 = .ok (.ireturn, 1) := by decide +kernel
theorem dX9_say_0 : decode cX9_say 0 = .ok (.iload_n 1, 1) := by decide +kernel
theorem dX9_say_1 : decode cX9_say 1 = .ok (.i2l, 1) := by decide +kernel
theorem dX9_say_2 : decode cX9_say 2 = .ok (.ldc2_w 120, 3) := by decide +kernel
theorem dX9_say_5 : decode cX9_say 5 = .ok (.ldc2_w 122, 3) := by decide +kernel
theorem dX9_say_8 : decode cX9_say 8 = .ok (.invokestatic 101, 3) := by decide +kernel
theorem dX9_say_11 : decode cX9_say 11 = .ok (.ifCond .ne 6, 3) := by decide +kernel
theorem dX9_say_14 : decode cX9_say 14 = .ok (.bipush (-2), 2) := by decide +kernel
theorem dX9_say_16 : decode cX9_say 16 = .ok (.ireturn, 1) := by decide +kernel
theorem dX9_say_17 : decode cX9_say 17 = .ok (.aload_n 0, 1) := by decide +kernel
theorem dX9_say_18 : decode cX9_say 18 = .ok (.getfield 124, 3) := by decide +kernel
theorem dX9_say_21 : decode cX9_say 21 = .ok (.bipush 60, 2) := by decide +kernel
theorem dX9_say_23 : decode cX9_say 23 = .ok (.if_icmp .ne 6, 3) := by decide +kernel
theorem dX9_say_26 : decode cX9_say 26 = .ok (.bipush (-4), 2) := by decide +kernel
theorem dX9_say_28 : decode cX9_say 28 = .ok (.ireturn, 1) := by decide +kernel
theorem dX9_say_29 : decode cX9_say 29 = .ok (.aload_n 0, 1) := by decide +kernel
theorem dX9_say_30 : decode cX9_say 30 = .ok (.getfield 28, 3) := by decide +kernel
theorem dX9_say_33 : decode cX9_say 33 = .ok (.aload_n 0, 1) := by decide +kernel
theorem dX9_say_34 : decode cX9_say 34 = .ok (.getfield 124, 3) := by decide +kernel
theorem dX9_say_37 : decode cX9_say 37 = .ok (.iload_n 1, 1) := by decide +kernel
theorem dX9_say_38 : decode cX9_say 38 = .ok (.iastore, 1) := by decide +kernel
theorem dX9_say_39 : decode cX9_say 39 = .ok (.aload_n 0, 1) := by decide +kernel
theorem dX9_say_40 : decode cX9_say 40 = .ok (.dup, 1) := by decide +kernel
theorem dX9_say_41 : decode cX9_say 41 = .ok (.getfield 124, 3) := by decide +kernel
theorem dX9_say_44 : decode cX9_say 44 = .ok (.iconst 1, 1) := by decide +kernel
theorem dX9_say_45 : decode cX9_say 45 = .ok (.iadd, 1) := by decide +kernel
theorem dX9_say_46 : decode cX9_say 46 = .ok (.putfield 124, 3) := by decide +kernel
theorem dX9_say_49 : decode cX9_say 49 = .ok (.aload_n 0, 1) := by decide +kernel
theorem dX9_say_50 : decode cX9_say 50 = .ok (.getfield 124, 3) := by decide +kernel
theorem dX9_say_53 : decode cX9_say 53 = .ok (.ireturn, 1) := by decide +kernel
theorem dX9_wipe_0 : decode cX9_wipe 0 = .ok (.aload_n 0, 1) := by decide +kernel
theorem dX9_wipe_1 : decode cX9_wipe 1 = .ok (.getfield 124, 3) := by decide +kernel
theorem dX9_wipe_4 : decode cX9_wipe 4 = .ok (.istore_n 1, 1) := by decide +kernel
theorem dX9_wipe_5 : decode cX9_wipe 5 = .ok (.aload_n 0, 1) := by decide +kernel
theorem dX9_wipe_6 : decode cX9_wipe 6 = .ok (.iconst 0, 1) := by decide +kernel
theorem dX9_wipe_7 : decode cX9_wipe 7 = .ok (.putfield 124, 3) := by decide +kernel
theorem dX9_wipe_10 : decode cX9_wipe 10 = .ok (.iload_n 1, 1) := by decide +kernel
theorem dX9_wipe_11 : decode cX9_wipe 11 = .ok (.ireturn, 1) := by decide +kernel
theorem dX9_shortRemark_0 : decode cX9_shortRemark 0 = .ok (.iload_n 0, 1) := by decide +kernel
theorem dX9_shortRemark_1 : decode cX9_shortRemark 1 = .ok (.bipush 46, 2) := by decide +kernel
theorem dX9_shortRemark_3 : decode cX9_shortRemark 3 = .ok (.if_icmp .ne 7, 3) := by decide +kernel
theorem dX9_shortRemark_6 : decode cX9_shortRemark 6 = .ok (.iconst 1, 1) := by decide +kernel
theorem dX9_shortRemark_7 : decode cX9_shortRemark 7 = .ok (.goto 25, 3) := by decide +kernel
theorem dX9_shortRemark_10 : decode cX9_shortRemark 10 = .ok (.iload_n 0, 1) := by decide +kernel
theorem dX9_shortRemark_11 : decode cX9_shortRemark 11 = .ok (.bipush 63, 2) := by decide +kernel
theorem dX9_shortRemark_13 : decode cX9_shortRemark 13 = .ok (.if_icmp .ne 7, 3) := by decide +kernel
theorem dX9_shortRemark_16 : decode cX9_shortRemark 16 = .ok (.iconst 2, 1) := by decide +kernel
theorem dX9_shortRemark_17 : decode cX9_shortRemark 17 = .ok (.goto 15, 3) := by decide +kernel
theorem dX9_shortRemark_20 : decode cX9_shortRemark 20 = .ok (.iload_n 0, 1) := by decide +kernel
theorem dX9_shortRemark_21 : decode cX9_shortRemark 21 = .ok (.bipush 33, 2) := by decide +kernel
theorem dX9_shortRemark_23 : decode cX9_shortRemark 23 = .ok (.if_icmp .ne 7, 3) := by decide +kernel
theorem dX9_shortRemark_26 : decode cX9_shortRemark 26 = .ok (.iconst 3, 1) := by decide +kernel
theorem dX9_shortRemark_27 : decode cX9_shortRemark 27 = .ok (.goto 5, 3) := by decide +kernel
theorem dX9_shortRemark_30 : decode cX9_shortRemark 30 = .ok (.bipush (-6), 2) := by decide +kernel
theorem dX9_shortRemark_32 : decode cX9_shortRemark 32 = .ok (.ireturn, 1) := by decide +kernel
theorem dX9_faultOfEvening_0 : decode cX9_faultOfEvening 0 = .ok (.aload_n 0, 1) := by decide +kernel
theorem dX9_faultOfEvening_1 : decode cX9_faultOfEvening 1 = .ok (.iconst 0, 1) := by decide +kernel
theorem dX9_faultOfEvening_2 : decode cX9_faultOfEvening 2 = .ok (.putfield 127, 3) := by decide +kernel
theorem dX9_faultOfEvening_5 : decode cX9_faultOfEvening 5 = .ok (.iconst 0, 1) := by decide +kernel
theorem dX9_faultOfEvening_6 : decode cX9_faultOfEvening 6 = .ok (.istore_n 1, 1) := by decide +kernel
theorem dX9_faultOfEvening_7 : decode cX9_faultOfEvening 7 = .ok (.iconst 0, 1) := by decide +kernel
theorem dX9_faultOfEvening_8 : decode cX9_faultOfEvening 8 = .ok (.istore_n 2, 1) := by decide +kernel
theorem dX9_faultOfEvening_9 : decode cX9_faultOfEvening 9 = .ok (.iload_n 2, 1) := by decide +kernel
theorem dX9_faultOfEvening_10 : decode cX9_faultOfEvening 10 = .ok (.aload_n 0, 1) := by decide +kernel
theorem dX9_faultOfEvening_11 : decode cX9_faultOfEvening 11 = .ok (.getfield 124, 3) := by decide +kernel
theorem dX9_faultOfEvening_14 : decode cX9_faultOfEvening 14 = .ok (.if_icmp .ge 235, 3) := by decide +kernel
theorem dX9_faultOfEvening_17 : decode cX9_faultOfEvening 17 = .ok (.aload_n 0, 1) := by decide +kernel
theorem dX9_faultOfEvening_18 : decode cX9_faultOfEvening 18 = .ok (.getfield 28, 3) := by decide +kernel
theorem dX9_faultOfEvening_21 : decode cX9_faultOfEvening 21 = .ok (.iload_n 2, 1) := by decide +kernel
theorem dX9_faultOfEvening_22 : decode cX9_faultOfEvening 22 = .ok (.iaload, 1) := by decide +kernel
theorem dX9_faultOfEvening_23 : decode cX9_faultOfEvening 23 = .ok (.istore_n 3, 1) := by decide +kernel
theorem dX9_faultOfEvening_24 : decode cX9_faultOfEvening 24 = .ok (.iload_n 1, 1) := by decide +kernel
theorem dX9_faultOfEvening_25 : decode cX9_faultOfEvening 25 = .ok (.ifCond .ne 14, 3) := by decide +kernel
theorem dX9_faultOfEvening_28 : decode cX9_faultOfEvening 28 = .ok (.iload_n 3, 1) := by decide +kernel
theorem dX9_faultOfEvening_29 : decode cX9_faultOfEvening 29 = .ok (.invokestatic 130, 3) := by decide +kernel
theorem dX9_faultOfEvening_32 : decode cX9_faultOfEvening 32 = .ok (.ifCond .le 7, 3) := by decide +kernel
theorem dX9_faultOfEvening_35 : decode cX9_faultOfEvening 35 = .ok (.iconst 1, 1) := by decide +kernel
theorem dX9_faultOfEvening_36 : decode cX9_faultOfEvening 36 = .ok (.goto 4, 3) := by decide +kernel
theorem dX9_faultOfEvening_39 : decode cX9_faultOfEvening 39 = .ok (.iconst 0, 1) := by decide +kernel
theorem dX9_faultOfEvening_40 : decode cX9_faultOfEvening 40 = .ok (.istore 4, 2) := by decide +kernel
theorem dX9_faultOfEvening_42 : decode cX9_faultOfEvening 42 = .ok (.iload 4, 2) := by decide +kernel
theorem dX9_faultOfEvening_44 : decode cX9_faultOfEvening 44 = .ok (.ifCond .ne 51, 3) := by decide +kernel
theorem dX9_faultOfEvening_47 : decode cX9_faultOfEvening 47 = .ok (.iload_n 1, 1) := by decide +kernel
theorem dX9_faultOfEvening_48 : decode cX9_faultOfEvening 48 = .ok (.ifCond .ne 16, 3) := by decide +kernel
theorem dX9_faultOfEvening_51 : decode cX9_faultOfEvening 51 = .ok (.iload_n 3, 1) := by decide +kernel
theorem dX9_faultOfEvening_52 : decode cX9_faultOfEvening 52 = .ok (.bipush 65, 2) := by decide +kernel
theorem dX9_faultOfEvening_54 : decode cX9_faultOfEvening 54 = .ok (.isub, 1) := by decide +kernel
theorem dX9_faultOfEvening_55 : decode cX9_faultOfEvening 55 = .ok (.invokestatic 113, 3) := by decide +kernel
theorem dX9_faultOfEvening_58 : decode cX9_faultOfEvening 58 = .ok (.ifCond .eq 41, 3) := by decide +kernel
theorem dX9_faultOfEvening_61 : decode cX9_faultOfEvening 61 = .ok (.goto 34, 3) := by decide +kernel
theorem dX9_faultOfEvening_64 : decode cX9_faultOfEvening 64 = .ok (.iload_n 1, 1) := by decide +kernel
theorem dX9_faultOfEvening_65 : decode cX9_faultOfEvening 65 = .ok (.iconst 1, 1) := by decide +kernel
theorem dX9_faultOfEvening_66 : decode cX9_faultOfEvening 66 = .ok (.if_icmp .ne 17, 3) := by decide +kernel
theorem dX9_faultOfEvening_69 : decode cX9_faultOfEvening 69 = .ok (.aload_n 0, 1) := by decide +kernel
theorem dX9_faultOfEvening_70 : decode cX9_faultOfEvening 70 = .ok (.iload_n 3, 1) := by decide +kernel
theorem dX9_faultOfEvening_71 : decode cX9_faultOfEvening 71 = .ok (.bipush 97, 2) := by decide +kernel
theorem dX9_faultOfEvening_73 : decode cX9_faultOfEvening 73 = .ok (.isub, 1) := by decide +kernel
theorem dX9_faultOfEvening_74 : decode cX9_faultOfEvening 74 = .ok (.invokevirtual 109, 3) := by decide +kernel
theorem dX9_faultOfEvening_77 : decode cX9_faultOfEvening 77 = .ok (.ifCond .eq 22, 3) := by decide +kernel
theorem dX9_faultOfEvening_80 : decode cX9_faultOfEvening 80 = .ok (.goto 15, 3) := by decide +kernel
theorem dX9_faultOfEvening_83 : decode cX9_faultOfEvening 83 = .ok (.iload_n 3, 1) := by decide +kernel
theorem dX9_faultOfEvening_84 : decode cX9_faultOfEvening 84 = .ok (.bipush 43, 2) := by decide +kernel
theorem dX9_faultOfEvening_86 : decode cX9_faultOfEvening 86 = .ok (.if_icmp .eq 9, 3) := by decide +kernel
theorem dX9_faultOfEvening_89 : decode cX9_faultOfEvening 89 = .ok (.iload_n 3, 1) := by decide +kernel
theorem dX9_faultOfEvening_90 : decode cX9_faultOfEvening 90 = .ok (.bipush 45, 2) := by decide +kernel
theorem dX9_faultOfEvening_92 : decode cX9_faultOfEvening 92 = .ok (.if_icmp .ne 7, 3) := by decide +kernel
theorem dX9_faultOfEvening_95 : decode cX9_faultOfEvening 95 = .ok (.iconst 1, 1) := by decide +kernel
theorem dX9_faultOfEvening_96 : decode cX9_faultOfEvening 96 = .ok (.goto 4, 3) := by decide +kernel
theorem dX9_faultOfEvening_99 : decode cX9_faultOfEvening 99 = .ok (.iconst 0, 1) := by decide +kernel
theorem dX9_faultOfEvening_100 : decode cX9_faultOfEvening 100 = .ok (.istore 5, 2) := by decide +kernel
theorem dX9_faultOfEvening_102 : decode cX9_faultOfEvening 102 = .ok (.iload 5, 2) := by decide +kernel
theorem dX9_faultOfEvening_104 : decode cX9_faultOfEvening 104 = .ok (.ifCond .ne 5, 3) := by decide +kernel
theorem dX9_faultOfEvening_107 : decode cX9_faultOfEvening 107 = .ok (.iload_n 2, 1) := by decide +kernel
theorem dX9_faultOfEvening_108 : decode cX9_faultOfEvening 108 = .ok (.ireturn, 1) := by decide +kernel
theorem dX9_faultOfEvening_109 : decode cX9_faultOfEvening 109 = .ok (.iload 4, 2) := by decide +kernel
theorem dX9_faultOfEvening_111 : decode cX9_faultOfEvening 111 = .ok (.ifCond .eq 19, 3) := by decide +kernel
theorem dX9_faultOfEvening_114 : decode cX9_faultOfEvening 114 = .ok (.aload_n 0, 1) := by decide +kernel
theorem dX9_faultOfEvening_115 : decode cX9_faultOfEvening 115 = .ok (.getfield 31, 3) := by decide +kernel
theorem dX9_faultOfEvening_118 : decode cX9_faultOfEvening 118 = .ok (.aload_n 0, 1) := by decide +kernel
theorem dX9_faultOfEvening_119 : decode cX9_faultOfEvening 119 = .ok (.getfield 127, 3) := by decide +kernel
theorem dX9_faultOfEvening_122 : decode cX9_faultOfEvening 122 = .ok (.iload_n 3, 1) := by decide +kernel
theorem dX9_faultOfEvening_123 : decode cX9_faultOfEvening 123 = .ok (.invokestatic 130, 3) := by decide +kernel
theorem dX9_faultOfEvening_126 : decode cX9_faultOfEvening 126 = .ok (.iastore, 1) := by decide +kernel
theorem dX9_faultOfEvening_127 : decode cX9_faultOfEvening 127 = .ok (.goto 74, 3) := by decide +kernel
theorem dX9_faultOfEvening_130 : decode cX9_faultOfEvening 130 = .ok (.iload_n 1, 1) := by decide +kernel
theorem dX9_faultOfEvening_131 : decode cX9_faultOfEvening 131 = .ok (.ifCond .ne 19, 3) := by decide +kernel
theorem dX9_faultOfEvening_134 : decode cX9_faultOfEvening 134 = .ok (.aload_n 0, 1) := by decide +kernel
theorem dX9_faultOfEvening_135 : decode cX9_faultOfEvening 135 = .ok (.getfield 34, 3) := by decide +kernel
theorem dX9_faultOfEvening_138 : decode cX9_faultOfEvening 138 = .ok (.aload_n 0, 1) := by decide +kernel
theorem dX9_faultOfEvening_139 : decode cX9_faultOfEvening 139 = .ok (.getfield 127, 3) := by decide +kernel
theorem dX9_faultOfEvening_142 : decode cX9_faultOfEvening 142 = .ok (.iload_n 3, 1) := by decide +kernel
theorem dX9_faultOfEvening_143 : decode cX9_faultOfEvening 143 = .ok (.bipush 65, 2) := by decide +kernel
theorem dX9_faultOfEvening_145 : decode cX9_faultOfEvening 145 = .ok (.isub, 1) := by decide +kernel
theorem dX9_faultOfEvening_146 : decode cX9_faultOfEvening 146 = .ok (.iastore, 1) := by decide +kernel
theorem dX9_faultOfEvening_147 : decode cX9_faultOfEvening 147 = .ok (.goto 54, 3) := by decide +kernel
theorem dX9_faultOfEvening_150 : decode cX9_faultOfEvening 150 = .ok (.iload_n 1, 1) := by decide +kernel
theorem dX9_faultOfEvening_151 : decode cX9_faultOfEvening 151 = .ok (.iconst 1, 1) := by decide +kernel
theorem dX9_faultOfEvening_152 : decode cX9_faultOfEvening 152 = .ok (.if_icmp .ne 19, 3) := by decide +kernel
theorem dX9_faultOfEvening_155 : decode cX9_faultOfEvening 155 = .ok (.aload_n 0, 1) := by decide +kernel
theorem dX9_faultOfEvening_156 : decode cX9_faultOfEvening 156 = .ok (.getfield 37, 3) := by decide +kernel
theorem dX9_faultOfEvening_159 : decode cX9_faultOfEvening 159 = .ok (.aload_n 0, 1) := by decide +kernel
theorem dX9_faultOfEvening_160 : decode cX9_faultOfEvening 160 = .ok (.getfield 127, 3) := by decide +kernel
theorem dX9_faultOfEvening_163 : decode cX9_faultOfEvening 163 = .ok (.iload_n 3, 1) := by decide +kernel
theorem dX9_faultOfEvening_164 : decode cX9_faultOfEvening 164 = .ok (.bipush 97, 2) := by decide +kernel
theorem dX9_faultOfEvening_166 : decode cX9_faultOfEvening 166 = .ok (.isub, 1) := by decide +kernel
theorem dX9_faultOfEvening_167 : decode cX9_faultOfEvening 167 = .ok (.iastore, 1) := by decide +kernel
theorem dX9_faultOfEvening_168 : decode cX9_faultOfEvening 168 = .ok (.goto 33, 3) := by decide +kernel
theorem dX9_faultOfEvening_171 : decode cX9_faultOfEvening 171 = .ok (.aload_n 0, 1) := by decide +kernel
theorem dX9_faultOfEvening_172 : decode cX9_faultOfEvening 172 = .ok (.getfield 31, 3) := by decide +kernel
theorem dX9_faultOfEvening_175 : decode cX9_faultOfEvening 175 = .ok (.aload_n 0, 1) := by decide +kernel
theorem dX9_faultOfEvening_176 : decode cX9_faultOfEvening 176 = .ok (.getfield 127, 3) := by decide +kernel
theorem dX9_faultOfEvening_179 : decode cX9_faultOfEvening 179 = .ok (.iconst 0, 1) := by decide +kernel
theorem dX9_faultOfEvening_180 : decode cX9_faultOfEvening 180 = .ok (.iastore, 1) := by decide +kernel
theorem dX9_faultOfEvening_181 : decode cX9_faultOfEvening 181 = .ok (.aload_n 0, 1) := by decide +kernel
theorem dX9_faultOfEvening_182 : decode cX9_faultOfEvening 182 = .ok (.getfield 40, 3) := by decide +kernel
theorem dX9_faultOfEvening_185 : decode cX9_faultOfEvening 185 = .ok (.aload_n 0, 1) := by decide +kernel
theorem dX9_faultOfEvening_186 : decode cX9_faultOfEvening 186 = .ok (.getfield 127, 3) := by decide +kernel
theorem dX9_faultOfEvening_189 : decode cX9_faultOfEvening 189 = .ok (.iload_n 3, 1) := by decide +kernel
theorem dX9_faultOfEvening_190 : decode cX9_faultOfEvening 190 = .ok (.bipush 43, 2) := by decide +kernel
theorem dX9_faultOfEvening_192 : decode cX9_faultOfEvening 192 = .ok (.if_icmp .ne 7, 3) := by decide +kernel
theorem dX9_faultOfEvening_195 : decode cX9_faultOfEvening 195 = .ok (.iconst 1, 1) := by decide +kernel
theorem dX9_faultOfEvening_196 : decode cX9_faultOfEvening 196 = .ok (.goto 4, 3) := by decide +kernel
theorem dX9_faultOfEvening_199 : decode cX9_faultOfEvening 199 = .ok (.iconst 0, 1) := by decide +kernel
theorem dX9_faultOfEvening_200 : decode cX9_faultOfEvening 200 = .ok (.iastore, 1) := by decide +kernel
theorem dX9_faultOfEvening_201 : decode cX9_faultOfEvening 201 = .ok (.aload_n 0, 1) := by decide +kernel
theorem dX9_faultOfEvening_202 : decode cX9_faultOfEvening 202 = .ok (.dup, 1) := by decide +kernel
theorem dX9_faultOfEvening_203 : decode cX9_faultOfEvening 203 = .ok (.getfield 127, 3) := by decide +kernel
theorem dX9_faultOfEvening_206 : decode cX9_faultOfEvening 206 = .ok (.iload 4, 2) := by decide +kernel
theorem dX9_faultOfEvening_208 : decode cX9_faultOfEvening 208 = .ok (.ifCond .ne 8, 3) := by decide +kernel
theorem dX9_faultOfEvening_211 : decode cX9_faultOfEvening 211 = .ok (.iload_n 1, 1) := by decide +kernel
theorem dX9_faultOfEvening_212 : decode cX9_faultOfEvening 212 = .ok (.iconst 2, 1) := by decide +kernel
theorem dX9_faultOfEvening_213 : decode cX9_faultOfEvening 213 = .ok (.if_icmp .ne 7, 3) := by decide +kernel
theorem dX9_faultOfEvening_216 : decode cX9_faultOfEvening 216 = .ok (.iconst 1, 1) := by decide +kernel
theorem dX9_faultOfEvening_217 : decode cX9_faultOfEvening 217 = .ok (.goto 4, 3) := by decide +kernel
theorem dX9_faultOfEvening_220 : decode cX9_faultOfEvening 220 = .ok (.iconst 0, 1) := by decide +kernel
theorem dX9_faultOfEvening_221 : decode cX9_faultOfEvening 221 = .ok (.iadd, 1) := by decide +kernel
theorem dX9_faultOfEvening_222 : decode cX9_faultOfEvening 222 = .ok (.putfield 127, 3) := by decide +kernel
theorem dX9_faultOfEvening_225 : decode cX9_faultOfEvening 225 = .ok (.iload 4, 2) := by decide +kernel
theorem dX9_faultOfEvening_227 : decode cX9_faultOfEvening 227 = .ok (.ifCond .ne 8, 3) := by decide +kernel
theorem dX9_faultOfEvening_230 : decode cX9_faultOfEvening 230 = .ok (.iload_n 1, 1) := by decide +kernel
theorem dX9_faultOfEvening_231 : decode cX9_faultOfEvening 231 = .ok (.iconst 2, 1) := by decide +kernel
theorem dX9_faultOfEvening_232 : decode cX9_faultOfEvening 232 = .ok (.if_icmp .ne 7, 3) := by decide +kernel
theorem dX9_faultOfEvening_235 : decode cX9_faultOfEvening 235 = .ok (.iconst 0, 1) := by decide +kernel
theorem dX9_faultOfEvening_236 : decode cX9_faultOfEvening 236 = .ok (.goto 6, 3) := by decide +kernel
theorem dX9_faultOfEvening_239 : decode cX9_faultOfEvening 239 = .ok (.iload_n 1, 1) := by decide +kernel
theorem dX9_faultOfEvening_240 : decode cX9_faultOfEvening 240 = .ok (.iconst 1, 1) := by decide +kernel
theorem dX9_faultOfEvening_241 : decode cX9_faultOfEvening 241 = .ok (.iadd, 1) := by decide +kernel
theorem dX9_faultOfEvening_242 : decode cX9_faultOfEvening 242 = .ok (.istore_n 1, 1) := by decide +kernel
theorem dX9_faultOfEvening_243 : decode cX9_faultOfEvening 243 = .ok (.iinc 2 1, 3) := by decide +kernel
theorem dX9_faultOfEvening_246 : decode cX9_faultOfEvening 246 = .ok (.goto (-237), 3) := by decide +kernel
theorem dX9_faultOfEvening_249 : decode cX9_faultOfEvening 249 = .ok (.iload_n 1, 1) := by decide +kernel
theorem dX9_faultOfEvening_250 : decode cX9_faultOfEvening 250 = .ok (.ifCond .ne 8, 3) := by decide +kernel
theorem dX9_faultOfEvening_253 : decode cX9_faultOfEvening 253 = .ok (.bipush (-6), 2) := by decide +kernel
theorem dX9_faultOfEvening_255 : decode cX9_faultOfEvening 255 = .ok (.goto 7, 3) := by decide +kernel
theorem dX9_faultOfEvening_258 : decode cX9_faultOfEvening 258 = .ok (.aload_n 0, 1) := by decide +kernel
theorem dX9_faultOfEvening_259 : decode cX9_faultOfEvening 259 = .ok (.getfield 124, 3) := by decide +kernel
theorem dX9_faultOfEvening_262 : decode cX9_faultOfEvening 262 = .ok (.ireturn, 1) := by decide +kernel
theorem dX9_faultOfPattern_0 : decode cX9_faultOfPattern 0 = .ok (.aload_n 0, 1) := by decide +kernel
theorem dX9_faultOfPattern_1 : decode cX9_faultOfPattern 1 = .ok (.iconst 0, 1) := by decide +kernel
theorem dX9_faultOfPattern_2 : decode cX9_faultOfPattern 2 = .ok (.putfield 134, 3) := by decide +kernel
theorem dX9_faultOfPattern_5 : decode cX9_faultOfPattern 5 = .ok (.iconst 0, 1) := by decide +kernel
theorem dX9_faultOfPattern_6 : decode cX9_faultOfPattern 6 = .ok (.istore_n 1, 1) := by decide +kernel
theorem dX9_faultOfPattern_7 : decode cX9_faultOfPattern 7 = .ok (.iconst 0, 1) := by decide +kernel
theorem dX9_faultOfPattern_8 : decode cX9_faultOfPattern 8 = .ok (.istore_n 2, 1) := by decide +kernel
theorem dX9_faultOfPattern_9 : decode cX9_faultOfPattern 9 = .ok (.iload_n 2, 1) := by decide +kernel
theorem dX9_faultOfPattern_10 : decode cX9_faultOfPattern 10 = .ok (.aload_n 0, 1) := by decide +kernel
theorem dX9_faultOfPattern_11 : decode cX9_faultOfPattern 11 = .ok (.getfield 124, 3) := by decide +kernel
theorem dX9_faultOfPattern_14 : decode cX9_faultOfPattern 14 = .ok (.if_icmp .ge 135, 3) := by decide +kernel
theorem dX9_faultOfPattern_17 : decode cX9_faultOfPattern 17 = .ok (.aload_n 0, 1) := by decide +kernel
theorem dX9_faultOfPattern_18 : decode cX9_faultOfPattern 18 = .ok (.getfield 28, 3) := by decide +kernel
theorem dX9_faultOfPattern_21 : decode cX9_faultOfPattern 21 = .ok (.iload_n 2, 1) := by decide +kernel
theorem dX9_faultOfPattern_22 : decode cX9_faultOfPattern 22 = .ok (.iaload, 1) := by decide +kernel
theorem dX9_faultOfPattern_23 : decode cX9_faultOfPattern 23 = .ok (.istore_n 3, 1) := by decide +kernel
theorem dX9_faultOfPattern_24 : decode cX9_faultOfPattern 24 = .ok (.iload_n 3, 1) := by decide +kernel
theorem dX9_faultOfPattern_25 : decode cX9_faultOfPattern 25 = .ok (.bipush 65, 2) := by decide +kernel
theorem dX9_faultOfPattern_27 : decode cX9_faultOfPattern 27 = .ok (.isub, 1) := by decide +kernel
theorem dX9_faultOfPattern_28 : decode cX9_faultOfPattern 28 = .ok (.invokestatic 113, 3) := by decide +kernel
theorem dX9_faultOfPattern_31 : decode cX9_faultOfPattern 31 = .ok (.istore 4, 2) := by decide +kernel
theorem dX9_faultOfPattern_33 : decode cX9_faultOfPattern 33 = .ok (.iload_n 3, 1) := by decide +kernel
theorem dX9_faultOfPattern_34 : decode cX9_faultOfPattern 34 = .ok (.bipush 42, 2) := by decide +kernel
theorem dX9_faultOfPattern_36 : decode cX9_faultOfPattern 36 = .ok (.if_icmp .ne 11, 3) := by decide +kernel
theorem dX9_faultOfPattern_39 : decode cX9_faultOfPattern 39 = .ok (.iload_n 1, 1) := by decide +kernel
theorem dX9_faultOfPattern_40 : decode cX9_faultOfPattern 40 = .ok (.ifCond .eq 7, 3) := by decide +kernel
theorem dX9_faultOfPattern_43 : decode cX9_faultOfPattern 43 = .ok (.iconst 1, 1) := by decide +kernel
theorem dX9_faultOfPattern_44 : decode cX9_faultOfPattern 44 = .ok (.goto 4, 3) := by decide +kernel
theorem dX9_faultOfPattern_47 : decode cX9_faultOfPattern 47 = .ok (.iconst 0, 1) := by decide +kernel
theorem dX9_faultOfPattern_48 : decode cX9_faultOfPattern 48 = .ok (.istore 5, 2) := by decide +kernel
theorem dX9_faultOfPattern_50 : decode cX9_faultOfPattern 50 = .ok (.iload 4, 2) := by decide +kernel
theorem dX9_faultOfPattern_52 : decode cX9_faultOfPattern 52 = .ok (.ifCond .ne 16, 3) := by decide +kernel
theorem dX9_faultOfPattern_55 : decode cX9_faultOfPattern 55 = .ok (.iload 5, 2) := by decide +kernel
theorem dX9_faultOfPattern_57 : decode cX9_faultOfPattern 57 = .ok (.ifCond .ne 11, 3) := by decide +kernel
theorem dX9_faultOfPattern_60 : decode cX9_faultOfPattern 60 = .ok (.iload_n 3, 1) := by decide +kernel
theorem dX9_faultOfPattern_61 : decode cX9_faultOfPattern 61 = .ok (.bipush 109, 2) := by decide +kernel
theorem dX9_faultOfPattern_63 : decode cX9_faultOfPattern 63 = .ok (.if_icmp .eq 5, 3) := by decide +kernel
theorem dX9_faultOfPattern_66 : decode cX9_faultOfPattern 66 = .ok (.iload_n 2, 1) := by decide +kernel
theorem dX9_faultOfPattern_67 : decode cX9_faultOfPattern 67 = .ok (.ireturn, 1) := by decide +kernel
end
section
theorem dX9_faultOfPattern_68 : decode cX9_faultOfPattern 68 = .ok (.iload 5, 2) := by decide +kernel
theorem dX9_faultOfPattern_70 : decode cX9_faultOfPattern 70 = .ok (.ifCond .eq 18, 3) := by decide +kernel
theorem dX9_faultOfPattern_73 : decode cX9_faultOfPattern 73 = .ok (.aload_n 0, 1) := by decide +kernel
theorem dX9_faultOfPattern_74 : decode cX9_faultOfPattern 74 = .ok (.getfield 46, 3) := by decide +kernel
theorem dX9_faultOfPattern_77 : decode cX9_faultOfPattern 77 = .ok (.aload_n 0, 1) := by decide +kernel
theorem dX9_faultOfPattern_78 : decode cX9_faultOfPattern 78 = .ok (.getfield 134, 3) := by decide +kernel
theorem dX9_faultOfPattern_81 : decode cX9_faultOfPattern 81 = .ok (.iconst 1, 1) := by decide +kernel
theorem dX9_faultOfPattern_82 : decode cX9_faultOfPattern 82 = .ok (.isub, 1) := by decide +kernel
theorem dX9_faultOfPattern_83 : decode cX9_faultOfPattern 83 = .ok (.iconst 1, 1) := by decide +kernel
theorem dX9_faultOfPattern_84 : decode cX9_faultOfPattern 84 = .ok (.iastore, 1) := by decide +kernel
theorem dX9_faultOfPattern_85 : decode cX9_faultOfPattern 85 = .ok (.goto 55, 3) := by decide +kernel
theorem dX9_faultOfPattern_88 : decode cX9_faultOfPattern 88 = .ok (.aload_n 0, 1) := by decide +kernel
theorem dX9_faultOfPattern_89 : decode cX9_faultOfPattern 89 = .ok (.getfield 43, 3) := by decide +kernel
theorem dX9_faultOfPattern_92 : decode cX9_faultOfPattern 92 = .ok (.aload_n 0, 1) := by decide +kernel
theorem dX9_faultOfPattern_93 : decode cX9_faultOfPattern 93 = .ok (.getfield 134, 3) := by decide +kernel
theorem dX9_faultOfPattern_96 : decode cX9_faultOfPattern 96 = .ok (.iload 4, 2) := by decide +kernel
theorem dX9_faultOfPattern_98 : decode cX9_faultOfPattern 98 = .ok (.ifCond .eq 10, 3) := by decide +kernel
theorem dX9_faultOfPattern_101 : decode cX9_faultOfPattern 101 = .ok (.iload_n 3, 1) := by decide +kernel
theorem dX9_faultOfPattern_102 : decode cX9_faultOfPattern 102 = .ok (.bipush 65, 2) := by decide +kernel
theorem dX9_faultOfPattern_104 : decode cX9_faultOfPattern 104 = .ok (.isub, 1) := by decide +kernel
theorem dX9_faultOfPattern_105 : decode cX9_faultOfPattern 105 = .ok (.goto 5, 3) := by decide +kernel
theorem dX9_faultOfPattern_108 : decode cX9_faultOfPattern 108 = .ok (.bipush 6, 2) := by decide +kernel
theorem dX9_faultOfPattern_110 : decode cX9_faultOfPattern 110 = .ok (.iastore, 1) := by decide +kernel
theorem dX9_faultOfPattern_111 : decode cX9_faultOfPattern 111 = .ok (.aload_n 0, 1) := by decide +kernel
theorem dX9_faultOfPattern_112 : decode cX9_faultOfPattern 112 = .ok (.getfield 46, 3) := by decide +kernel
theorem dX9_faultOfPattern_115 : decode cX9_faultOfPattern 115 = .ok (.aload_n 0, 1) := by decide +kernel
theorem dX9_faultOfPattern_116 : decode cX9_faultOfPattern 116 = .ok (.getfield 134, 3) := by decide +kernel
theorem dX9_faultOfPattern_119 : decode cX9_faultOfPattern 119 = .ok (.iload 4, 2) := by decide +kernel
theorem dX9_faultOfPattern_121 : decode cX9_faultOfPattern 121 = .ok (.ifCond .eq 7, 3) := by decide +kernel
theorem dX9_faultOfPattern_124 : decode cX9_faultOfPattern 124 = .ok (.iconst 0, 1) := by decide +kernel
theorem dX9_faultOfPattern_125 : decode cX9_faultOfPattern 125 = .ok (.goto 4, 3) := by decide +kernel
theorem dX9_faultOfPattern_128 : decode cX9_faultOfPattern 128 = .ok (.iconst 2, 1) := by decide +kernel
theorem dX9_faultOfPattern_129 : decode cX9_faultOfPattern 129 = .ok (.iastore, 1) := by decide +kernel
theorem dX9_faultOfPattern_130 : decode cX9_faultOfPattern 130 = .ok (.aload_n 0, 1) := by decide +kernel
theorem dX9_faultOfPattern_131 : decode cX9_faultOfPattern 131 = .ok (.dup, 1) := by decide +kernel
theorem dX9_faultOfPattern_132 : decode cX9_faultOfPattern 132 = .ok (.getfield 134, 3) := by decide +kernel
theorem dX9_faultOfPattern_135 : decode cX9_faultOfPattern 135 = .ok (.iconst 1, 1) := by decide +kernel
theorem dX9_faultOfPattern_136 : decode cX9_faultOfPattern 136 = .ok (.iadd, 1) := by decide +kernel
theorem dX9_faultOfPattern_137 : decode cX9_faultOfPattern 137 = .ok (.putfield 134, 3) := by decide +kernel
theorem dX9_faultOfPattern_140 : decode cX9_faultOfPattern 140 = .ok (.iload 4, 2) := by decide +kernel
theorem dX9_faultOfPattern_142 : decode cX9_faultOfPattern 142 = .ok (.istore_n 1, 1) := by decide +kernel
theorem dX9_faultOfPattern_143 : decode cX9_faultOfPattern 143 = .ok (.iinc 2 1, 3) := by decide +kernel
theorem dX9_faultOfPattern_146 : decode cX9_faultOfPattern 146 = .ok (.goto (-137), 3) := by decide +kernel
theorem dX9_faultOfPattern_149 : decode cX9_faultOfPattern 149 = .ok (.bipush (-6), 2) := by decide +kernel
theorem dX9_faultOfPattern_151 : decode cX9_faultOfPattern 151 = .ok (.ireturn, 1) := by decide +kernel
theorem dX9_fault_0 : decode cX9_fault 0 = .ok (.iload_n 1, 1) := by decide +kernel
theorem dX9_fault_1 : decode cX9_fault 1 = .ok (.ifCond .ne 10, 3) := by decide +kernel
theorem dX9_fault_4 : decode cX9_fault 4 = .ok (.aload_n 0, 1) := by decide +kernel
theorem dX9_fault_5 : decode cX9_fault 5 = .ok (.invokevirtual 137, 3) := by decide +kernel
theorem dX9_fault_8 : decode cX9_fault 8 = .ok (.goto 17, 3) := by decide +kernel
theorem dX9_fault_11 : decode cX9_fault 11 = .ok (.iload_n 1, 1) := by decide +kernel
theorem dX9_fault_12 : decode cX9_fault 12 = .ok (.iconst 1, 1) := by decide +kernel
theorem dX9_fault_13 : decode cX9_fault 13 = .ok (.if_icmp .ne 10, 3) := by decide +kernel
theorem dX9_fault_16 : decode cX9_fault 16 = .ok (.aload_n 0, 1) := by decide +kernel
theorem dX9_fault_17 : decode cX9_fault 17 = .ok (.invokevirtual 141, 3) := by decide +kernel
theorem dX9_fault_20 : decode cX9_fault 20 = .ok (.goto 5, 3) := by decide +kernel
theorem dX9_fault_23 : decode cX9_fault 23 = .ok (.bipush (-2), 2) := by decide +kernel
theorem dX9_fault_25 : decode cX9_fault 25 = .ok (.ireturn, 1) := by decide +kernel
theorem dX9_isLie_0 : decode cX9_isLie 0 = .ok (.aload_n 0, 1) := by decide +kernel
theorem dX9_isLie_1 : decode cX9_isLie 1 = .ok (.getfield 40, 3) := by decide +kernel
theorem dX9_isLie_4 : decode cX9_isLie 4 = .ok (.iload_n 1, 1) := by decide +kernel
theorem dX9_isLie_5 : decode cX9_isLie 5 = .ok (.iaload, 1) := by decide +kernel
theorem dX9_isLie_6 : decode cX9_isLie 6 = .ok (.iload_n 2, 1) := by decide +kernel
theorem dX9_isLie_7 : decode cX9_isLie 7 = .ok (.aload_n 0, 1) := by decide +kernel
theorem dX9_isLie_8 : decode cX9_isLie 8 = .ok (.getfield 37, 3) := by decide +kernel
theorem dX9_isLie_11 : decode cX9_isLie 11 = .ok (.iload_n 1, 1) := by decide +kernel
theorem dX9_isLie_12 : decode cX9_isLie 12 = .ok (.iaload, 1) := by decide +kernel
theorem dX9_isLie_13 : decode cX9_isLie 13 = .ok (.ishr, 1) := by decide +kernel
theorem dX9_isLie_14 : decode cX9_isLie 14 = .ok (.iconst 1, 1) := by decide +kernel
theorem dX9_isLie_15 : decode cX9_isLie 15 = .ok (.iand, 1) := by decide +kernel
theorem dX9_isLie_16 : decode cX9_isLie 16 = .ok (.if_icmp .eq 7, 3) := by decide +kernel
theorem dX9_isLie_19 : decode cX9_isLie 19 = .ok (.iconst 1, 1) := by decide +kernel
theorem dX9_isLie_20 : decode cX9_isLie 20 = .ok (.goto 4, 3) := by decide +kernel
theorem dX9_isLie_23 : decode cX9_isLie 23 = .ok (.iconst 0, 1) := by decide +kernel
theorem dX9_isLie_24 : decode cX9_isLie 24 = .ok (.ireturn, 1) := by decide +kernel
theorem dX9_whyNotKnit_0 : decode cX9_whyNotKnit 0 = .ok (.aload_n 0, 1) := by decide +kernel
theorem dX9_whyNotKnit_1 : decode cX9_whyNotKnit 1 = .ok (.getfield 92, 3) := by decide +kernel
theorem dX9_whyNotKnit_4 : decode cX9_whyNotKnit 4 = .ok (.bipush 30, 2) := by decide +kernel
theorem dX9_whyNotKnit_6 : decode cX9_whyNotKnit 6 = .ok (.if_icmp .ne 7, 3) := by decide +kernel
theorem dX9_whyNotKnit_9 : decode cX9_whyNotKnit 9 = .ok (.iconst 2, 1) := by decide +kernel
theorem dX9_whyNotKnit_10 : decode cX9_whyNotKnit 10 = .ok (.goto 15, 3) := by decide +kernel
theorem dX9_whyNotKnit_13 : decode cX9_whyNotKnit 13 = .ok (.aload_n 0, 1) := by decide +kernel
theorem dX9_whyNotKnit_14 : decode cX9_whyNotKnit 14 = .ok (.getfield 95, 3) := by decide +kernel
theorem dX9_whyNotKnit_17 : decode cX9_whyNotKnit 17 = .ok (.ifCond .ne 7, 3) := by decide +kernel
theorem dX9_whyNotKnit_20 : decode cX9_whyNotKnit 20 = .ok (.iconst 3, 1) := by decide +kernel
theorem dX9_whyNotKnit_21 : decode cX9_whyNotKnit 21 = .ok (.goto 4, 3) := by decide +kernel
theorem dX9_whyNotKnit_24 : decode cX9_whyNotKnit 24 = .ok (.iconst 0, 1) := by decide +kernel
theorem dX9_whyNotKnit_25 : decode cX9_whyNotKnit 25 = .ok (.ireturn, 1) := by decide +kernel
theorem dX9_whyNotSay_0 : decode cX9_whyNotSay 0 = .ok (.aload_n 0, 1) := by decide +kernel
theorem dX9_whyNotSay_1 : decode cX9_whyNotSay 1 = .ok (.getfield 7, 3) := by decide +kernel
theorem dX9_whyNotSay_4 : decode cX9_whyNotSay 4 = .ok (.iload_n 1, 1) := by decide +kernel
theorem dX9_whyNotSay_5 : decode cX9_whyNotSay 5 = .ok (.iaload, 1) := by decide +kernel
theorem dX9_whyNotSay_6 : decode cX9_whyNotSay 6 = .ok (.iload_n 2, 1) := by decide +kernel
theorem dX9_whyNotSay_7 : decode cX9_whyNotSay 7 = .ok (.ifCond .eq 7, 3) := by decide +kernel
theorem dX9_whyNotSay_10 : decode cX9_whyNotSay 10 = .ok (.iconst 1, 1) := by decide +kernel
theorem dX9_whyNotSay_11 : decode cX9_whyNotSay 11 = .ok (.goto 4, 3) := by decide +kernel
theorem dX9_whyNotSay_14 : decode cX9_whyNotSay 14 = .ok (.iconst 2, 1) := by decide +kernel
theorem dX9_whyNotSay_15 : decode cX9_whyNotSay 15 = .ok (.if_icmp .ne 5, 3) := by decide +kernel
theorem dX9_whyNotSay_18 : decode cX9_whyNotSay 18 = .ok (.iconst 1, 1) := by decide +kernel
theorem dX9_whyNotSay_19 : decode cX9_whyNotSay 19 = .ok (.ireturn, 1) := by decide +kernel
theorem dX9_whyNotSay_20 : decode cX9_whyNotSay 20 = .ok (.iload_n 2, 1) := by decide +kernel
theorem dX9_whyNotSay_21 : decode cX9_whyNotSay 21 = .ok (.ifCond .eq 10, 3) := by decide +kernel
theorem dX9_whyNotSay_24 : decode cX9_whyNotSay 24 = .ok (.aload_n 0, 1) := by decide +kernel
theorem dX9_whyNotSay_25 : decode cX9_whyNotSay 25 = .ok (.invokevirtual 144, 3) := by decide +kernel
theorem dX9_whyNotSay_28 : decode cX9_whyNotSay 28 = .ok (.goto 4, 3) := by decide +kernel
theorem dX9_whyNotSay_31 : decode cX9_whyNotSay 31 = .ok (.iconst 0, 1) := by decide +kernel
theorem dX9_whyNotSay_32 : decode cX9_whyNotSay 32 = .ok (.ireturn, 1) := by decide +kernel
theorem dX9_whyNot_0 : decode cX9_whyNot 0 = .ok (.aload_n 0, 1) := by decide +kernel
theorem dX9_whyNot_1 : decode cX9_whyNot 1 = .ok (.getfield 31, 3) := by decide +kernel
theorem dX9_whyNot_4 : decode cX9_whyNot 4 = .ok (.iload_n 1, 1) := by decide +kernel
theorem dX9_whyNot_5 : decode cX9_whyNot 5 = .ok (.iaload, 1) := by decide +kernel
theorem dX9_whyNot_6 : decode cX9_whyNot 6 = .ok (.tableswitch 61 0 2 #[26, 43, 48], 26) := by decide +kernel
theorem dX9_whyNot_32 : decode cX9_whyNot 32 = .ok (.aload_n 0, 1) := by decide +kernel
theorem dX9_whyNot_33 : decode cX9_whyNot 33 = .ok (.aload_n 0, 1) := by decide +kernel
theorem dX9_whyNot_34 : decode cX9_whyNot 34 = .ok (.getfield 34, 3) := by decide +kernel
theorem dX9_whyNot_37 : decode cX9_whyNot 37 = .ok (.iload_n 1, 1) := by decide +kernel
theorem dX9_whyNot_38 : decode cX9_whyNot 38 = .ok (.iaload, 1) := by decide +kernel
theorem dX9_whyNot_39 : decode cX9_whyNot 39 = .ok (.aload_n 0, 1) := by decide +kernel
theorem dX9_whyNot_40 : decode cX9_whyNot 40 = .ok (.iload_n 1, 1) := by decide +kernel
theorem dX9_whyNot_41 : decode cX9_whyNot 41 = .ok (.iload_n 2, 1) := by decide +kernel
theorem dX9_whyNot_42 : decode cX9_whyNot 42 = .ok (.invokevirtual 147, 3) := by decide +kernel
theorem dX9_whyNot_45 : decode cX9_whyNot 45 = .ok (.invokevirtual 151, 3) := by decide +kernel
theorem dX9_whyNot_48 : decode cX9_whyNot 48 = .ok (.ireturn, 1) := by decide +kernel
theorem dX9_whyNot_49 : decode cX9_whyNot 49 = .ok (.aload_n 0, 1) := by decide +kernel
theorem dX9_whyNot_50 : decode cX9_whyNot 50 = .ok (.invokevirtual 144, 3) := by decide +kernel
theorem dX9_whyNot_53 : decode cX9_whyNot 53 = .ok (.ireturn, 1) := by decide +kernel
theorem dX9_whyNot_54 : decode cX9_whyNot 54 = .ok (.aload_n 0, 1) := by decide +kernel
theorem dX9_whyNot_55 : decode cX9_whyNot 55 = .ok (.getfield 95, 3) := by decide +kernel
theorem dX9_whyNot_58 : decode cX9_whyNot 58 = .ok (.ifCond .ne 7, 3) := by decide +kernel
theorem dX9_whyNot_61 : decode cX9_whyNot 61 = .ok (.iconst 3, 1) := by decide +kernel
theorem dX9_whyNot_62 : decode cX9_whyNot 62 = .ok (.goto 4, 3) := by decide +kernel
theorem dX9_whyNot_65 : decode cX9_whyNot 65 = .ok (.iconst 0, 1) := by decide +kernel
theorem dX9_whyNot_66 : decode cX9_whyNot 66 = .ok (.ireturn, 1) := by decide +kernel
theorem dX9_whyNot_67 : decode cX9_whyNot 67 = .ok (.iconst 0, 1) := by decide +kernel
theorem dX9_whyNot_68 : decode cX9_whyNot 68 = .ok (.ireturn, 1) := by decide +kernel
theorem dX9_knit_0 : decode cX9_knit 0 = .ok (.aload_n 0, 1) := by decide +kernel
theorem dX9_knit_1 : decode cX9_knit 1 = .ok (.getfield 13, 3) := by decide +kernel
theorem dX9_knit_4 : decode cX9_knit 4 = .ok (.aload_n 0, 1) := by decide +kernel
theorem dX9_knit_5 : decode cX9_knit 5 = .ok (.getfield 92, 3) := by decide +kernel
theorem dX9_knit_8 : decode cX9_knit 8 = .ok (.iload_n 1, 1) := by decide +kernel
theorem dX9_knit_9 : decode cX9_knit 9 = .ok (.iastore, 1) := by decide +kernel
theorem dX9_knit_10 : decode cX9_knit 10 = .ok (.aload_n 0, 1) := by decide +kernel
theorem dX9_knit_11 : decode cX9_knit 11 = .ok (.getfield 16, 3) := by decide +kernel
theorem dX9_knit_14 : decode cX9_knit 14 = .ok (.aload_n 0, 1) := by decide +kernel
theorem dX9_knit_15 : decode cX9_knit 15 = .ok (.getfield 92, 3) := by decide +kernel
theorem dX9_knit_18 : decode cX9_knit 18 = .ok (.iload_n 2, 1) := by decide +kernel
theorem dX9_knit_19 : decode cX9_knit 19 = .ok (.iastore, 1) := by decide +kernel
theorem dX9_knit_20 : decode cX9_knit 20 = .ok (.aload_n 0, 1) := by decide +kernel
theorem dX9_knit_21 : decode cX9_knit 21 = .ok (.getfield 19, 3) := by decide +kernel
theorem dX9_knit_24 : decode cX9_knit 24 = .ok (.aload_n 0, 1) := by decide +kernel
theorem dX9_knit_25 : decode cX9_knit 25 = .ok (.getfield 92, 3) := by decide +kernel
theorem dX9_knit_28 : decode cX9_knit 28 = .ok (.aload_n 0, 1) := by decide +kernel
theorem dX9_knit_29 : decode cX9_knit 29 = .ok (.getfield 95, 3) := by decide +kernel
theorem dX9_knit_32 : decode cX9_knit 32 = .ok (.iastore, 1) := by decide +kernel
theorem dX9_knit_33 : decode cX9_knit 33 = .ok (.aload_n 0, 1) := by decide +kernel
theorem dX9_knit_34 : decode cX9_knit 34 = .ok (.dup, 1) := by decide +kernel
theorem dX9_knit_35 : decode cX9_knit 35 = .ok (.getfield 92, 3) := by decide +kernel
theorem dX9_knit_38 : decode cX9_knit 38 = .ok (.iconst 1, 1) := by decide +kernel
theorem dX9_knit_39 : decode cX9_knit 39 = .ok (.iadd, 1) := by decide +kernel
theorem dX9_knit_40 : decode cX9_knit 40 = .ok (.putfield 92, 3) := by decide +kernel
theorem dX9_knit_43 : decode cX9_knit 43 = .ok (.aload_n 0, 1) := by decide +kernel
theorem dX9_knit_44 : decode cX9_knit 44 = .ok (.dup, 1) := by decide +kernel
theorem dX9_knit_45 : decode cX9_knit 45 = .ok (.getfield 155, 3) := by decide +kernel
theorem dX9_knit_48 : decode cX9_knit 48 = .ok (.iconst 1, 1) := by decide +kernel
theorem dX9_knit_49 : decode cX9_knit 49 = .ok (.iadd, 1) := by decide +kernel
theorem dX9_knit_50 : decode cX9_knit 50 = .ok (.putfield 155, 3) := by decide +kernel
theorem dX9_knit_53 : decode cX9_knit 53 = .ok (.return_, 1) := by decide +kernel
theorem dX9_ravel_0 : decode cX9_ravel 0 = .ok (.aload_n 0, 1) := by decide +kernel
theorem dX9_ravel_1 : decode cX9_ravel 1 = .ok (.getfield 92, 3) := by decide +kernel
theorem dX9_ravel_4 : decode cX9_ravel 4 = .ok (.ifCond .le 23, 3) := by decide +kernel
theorem dX9_ravel_7 : decode cX9_ravel 7 = .ok (.aload_n 0, 1) := by decide +kernel
theorem dX9_ravel_8 : decode cX9_ravel 8 = .ok (.dup, 1) := by decide +kernel
theorem dX9_ravel_9 : decode cX9_ravel 9 = .ok (.getfield 92, 3) := by decide +kernel
theorem dX9_ravel_12 : decode cX9_ravel 12 = .ok (.iconst 1, 1) := by decide +kernel
theorem dX9_ravel_13 : decode cX9_ravel 13 = .ok (.isub, 1) := by decide +kernel
theorem dX9_ravel_14 : decode cX9_ravel 14 = .ok (.putfield 92, 3) := by decide +kernel
theorem dX9_ravel_17 : decode cX9_ravel 17 = .ok (.aload_n 0, 1) := by decide +kernel
theorem dX9_ravel_18 : decode cX9_ravel 18 = .ok (.dup, 1) := by decide +kernel
theorem dX9_ravel_19 : decode cX9_ravel 19 = .ok (.getfield 158, 3) := by decide +kernel
theorem dX9_ravel_22 : decode cX9_ravel 22 = .ok (.iconst 1, 1) := by decide +kernel
theorem dX9_ravel_23 : decode cX9_ravel 23 = .ok (.iadd, 1) := by decide +kernel
theorem dX9_ravel_24 : decode cX9_ravel 24 = .ok (.putfield 158, 3) := by decide +kernel
theorem dX9_ravel_27 : decode cX9_ravel 27 = .ok (.return_, 1) := by decide +kernel
theorem dX9_undo_0 : decode cX9_undo 0 = .ok (.aload_n 0, 1) := by decide +kernel
theorem dX9_undo_1 : decode cX9_undo 1 = .ok (.getfield 92, 3) := by decide +kernel
theorem dX9_undo_4 : decode cX9_undo 4 = .ok (.ifCond .le 17, 3) := by decide +kernel
theorem dX9_undo_7 : decode cX9_undo 7 = .ok (.aload_n 0, 1) := by decide +kernel
theorem dX9_undo_8 : decode cX9_undo 8 = .ok (.getfield 13, 3) := by decide +kernel
theorem dX9_undo_11 : decode cX9_undo 11 = .ok (.aload_n 0, 1) := by decide +kernel
theorem dX9_undo_12 : decode cX9_undo 12 = .ok (.getfield 92, 3) := by decide +kernel
theorem dX9_undo_15 : decode cX9_undo 15 = .ok (.iconst 1, 1) := by decide +kernel
theorem dX9_undo_16 : decode cX9_undo 16 = .ok (.isub, 1) := by decide +kernel
theorem dX9_undo_17 : decode cX9_undo 17 = .ok (.iaload, 1) := by decide +kernel
theorem dX9_undo_18 : decode cX9_undo 18 = .ok (.goto 5, 3) := by decide +kernel
theorem dX9_undo_21 : decode cX9_undo 21 = .ok (.bipush (-6), 2) := by decide +kernel
theorem dX9_undo_23 : decode cX9_undo 23 = .ok (.istore_n 1, 1) := by decide +kernel
theorem dX9_undo_24 : decode cX9_undo 24 = .ok (.aload_n 0, 1) := by decide +kernel
theorem dX9_undo_25 : decode cX9_undo 25 = .ok (.getfield 92, 3) := by decide +kernel
theorem dX9_undo_28 : decode cX9_undo 28 = .ok (.ifCond .le 25, 3) := by decide +kernel
theorem dX9_undo_31 : decode cX9_undo 31 = .ok (.aload_n 0, 1) := by decide +kernel
theorem dX9_undo_32 : decode cX9_undo 32 = .ok (.getfield 13, 3) := by decide +kernel
theorem dX9_undo_35 : decode cX9_undo 35 = .ok (.aload_n 0, 1) := by decide +kernel
theorem dX9_undo_36 : decode cX9_undo 36 = .ok (.getfield 92, 3) := by decide +kernel
theorem dX9_undo_39 : decode cX9_undo 39 = .ok (.iconst 1, 1) := by decide +kernel
theorem dX9_undo_40 : decode cX9_undo 40 = .ok (.isub, 1) := by decide +kernel
theorem dX9_undo_41 : decode cX9_undo 41 = .ok (.iaload, 1) := by decide +kernel
theorem dX9_undo_42 : decode cX9_undo 42 = .ok (.iload_n 1, 1) := by decide +kernel
theorem dX9_undo_43 : decode cX9_undo 43 = .ok (.if_icmp .ne 10, 3) := by decide +kernel
theorem dX9_undo_46 : decode cX9_undo 46 = .ok (.aload_n 0, 1) := by decide +kernel
theorem dX9_undo_47 : decode cX9_undo 47 = .ok (.invokevirtual 161, 3) := by decide +kernel
theorem dX9_undo_50 : decode cX9_undo 50 = .ok (.goto (-26), 3) := by decide +kernel
theorem dX9_undo_53 : decode cX9_undo 53 = .ok (.return_, 1) := by decide +kernel
theorem dX9_tells_0 : decode cX9_tells 0 = .ok (.iload_n 2, 1) := by decide +kernel
theorem dX9_tells_1 : decode cX9_tells 1 = .ok (.ifCond .eq 24, 3) := by decide +kernel
theorem dX9_tells_4 : decode cX9_tells 4 = .ok (.aload_n 0, 1) := by decide +kernel
theorem dX9_tells_5 : decode cX9_tells 5 = .ok (.iload_n 1, 1) := by decide +kernel
theorem dX9_tells_6 : decode cX9_tells 6 = .ok (.aload_n 0, 1) := by decide +kernel
theorem dX9_tells_7 : decode cX9_tells 7 = .ok (.getfield 164, 3) := by decide +kernel
theorem dX9_tells_10 : decode cX9_tells 10 = .ok (.iload_n 1, 1) := by decide +kernel
theorem dX9_tells_11 : decode cX9_tells 11 = .ok (.if_icmp .ne 7, 3) := by decide +kernel
theorem dX9_tells_14 : decode cX9_tells 14 = .ok (.iconst 1, 1) := by decide +kernel
theorem dX9_tells_15 : decode cX9_tells 15 = .ok (.goto 4, 3) := by decide +kernel
theorem dX9_tells_18 : decode cX9_tells 18 = .ok (.iconst 0, 1) := by decide +kernel
theorem dX9_tells_19 : decode cX9_tells 19 = .ok (.invokevirtual 167, 3) := by decide +kernel
theorem dX9_tells_22 : decode cX9_tells 22 = .ok (.goto 7, 3) := by decide +kernel
theorem dX9_tells_25 : decode cX9_tells 25 = .ok (.aload_n 0, 1) := by decide +kernel
theorem dX9_tells_26 : decode cX9_tells 26 = .ok (.invokevirtual 161, 3) := by decide +kernel
theorem dX9_tells_29 : decode cX9_tells 29 = .ok (.aload_n 0, 1) := by decide +kernel
theorem dX9_tells_30 : decode cX9_tells 30 = .ok (.iload_n 2, 1) := by decide +kernel
theorem dX9_tells_31 : decode cX9_tells 31 = .ok (.ifCond .eq 7, 3) := by decide +kernel
theorem dX9_tells_34 : decode cX9_tells 34 = .ok (.iload_n 1, 1) := by decide +kernel
theorem dX9_tells_35 : decode cX9_tells 35 = .ok (.goto 5, 3) := by decide +kernel
theorem dX9_tells_38 : decode cX9_tells 38 = .ok (.bipush (-6), 2) := by decide +kernel
theorem dX9_tells_40 : decode cX9_tells 40 = .ok (.putfield 164, 3) := by decide +kernel
theorem dX9_tells_43 : decode cX9_tells 43 = .ok (.return_, 1) := by decide +kernel
theorem dX9_happen_0 : decode cX9_happen 0 = .ok (.aload_n 0, 1) := by decide +kernel
theorem dX9_happen_1 : decode cX9_happen 1 = .ok (.getfield 31, 3) := by decide +kernel
theorem dX9_happen_4 : decode cX9_happen 4 = .ok (.iload_n 1, 1) := by decide +kernel
theorem dX9_happen_5 : decode cX9_happen 5 = .ok (.iaload, 1) := by decide +kernel
theorem dX9_happen_6 : decode cX9_happen 6 = .ok (.ifCond .ne 20, 3) := by decide +kernel
theorem dX9_happen_9 : decode cX9_happen 9 = .ok (.aload_n 0, 1) := by decide +kernel
theorem dX9_happen_10 : decode cX9_happen 10 = .ok (.aload_n 0, 1) := by decide +kernel
theorem dX9_happen_11 : decode cX9_happen 11 = .ok (.getfield 34, 3) := by decide +kernel
theorem dX9_happen_14 : decode cX9_happen 14 = .ok (.iload_n 1, 1) := by decide +kernel
theorem dX9_happen_15 : decode cX9_happen 15 = .ok (.iaload, 1) := by decide +kernel
theorem dX9_happen_16 : decode cX9_happen 16 = .ok (.aload_n 0, 1) := by decide +kernel
theorem dX9_happen_17 : decode cX9_happen 17 = .ok (.iload_n 1, 1) := by decide +kernel
theorem dX9_happen_18 : decode cX9_happen 18 = .ok (.iload_n 2, 1) := by decide +kernel
theorem dX9_happen_19 : decode cX9_happen 19 = .ok (.invokevirtual 147, 3) := by decide +kernel
theorem dX9_happen_22 : decode cX9_happen 22 = .ok (.invokevirtual 171, 3) := by decide +kernel
theorem dX9_happen_25 : decode cX9_happen 25 = .ok (.return_, 1) := by decide +kernel
theorem dX9_happen_26 : decode cX9_happen 26 = .ok (.aload_n 0, 1) := by decide +kernel
theorem dX9_happen_27 : decode cX9_happen 27 = .ok (.bipush (-6), 2) := by decide +kernel
theorem dX9_happen_29 : decode cX9_happen 29 = .ok (.putfield 164, 3) := by decide +kernel
theorem dX9_happen_32 : decode cX9_happen 32 = .ok (.aload_n 0, 1) := by decide +kernel
theorem dX9_happen_33 : decode cX9_happen 33 = .ok (.getfield 31, 3) := by decide +kernel
theorem dX9_happen_36 : decode cX9_happen 36 = .ok (.iload_n 1, 1) := by decide +kernel
theorem dX9_happen_37 : decode cX9_happen 37 = .ok (.iaload, 1) := by decide +kernel
theorem dX9_happen_38 : decode cX9_happen 38 = .ok (.iconst 1, 1) := by decide +kernel
theorem dX9_happen_39 : decode cX9_happen 39 = .ok (.if_icmp .ne 13, 3) := by decide +kernel
theorem dX9_happen_42 : decode cX9_happen 42 = .ok (.aload_n 0, 1) := by decide +kernel
theorem dX9_happen_43 : decode cX9_happen 43 = .ok (.bipush 6, 2) := by decide +kernel
theorem dX9_happen_45 : decode cX9_happen 45 = .ok (.iconst 2, 1) := by decide +kernel
theorem dX9_happen_46 : decode cX9_happen 46 = .ok (.invokevirtual 167, 3) := by decide +kernel
theorem dX9_happen_49 : decode cX9_happen 49 = .ok (.goto 30, 3) := by decide +kernel
theorem dX9_happen_52 : decode cX9_happen 52 = .ok (.aload_n 0, 1) := by decide +kernel
theorem dX9_happen_53 : decode cX9_happen 53 = .ok (.getfield 31, 3) := by decide +kernel
theorem dX9_happen_56 : decode cX9_happen 56 = .ok (.iload_n 1, 1) := by decide +kernel
theorem dX9_happen_57 : decode cX9_happen 57 = .ok (.iaload, 1) := by decide +kernel
theorem dX9_happen_58 : decode cX9_happen 58 = .ok (.iconst 2, 1) := by decide +kernel
theorem dX9_happen_59 : decode cX9_happen 59 = .ok (.if_icmp .ne 16, 3) := by decide +kernel
theorem dX9_happen_62 : decode cX9_happen 62 = .ok (.aload_n 0, 1) := by decide +kernel
theorem dX9_happen_63 : decode cX9_happen 63 = .ok (.dup, 1) := by decide +kernel
theorem dX9_happen_64 : decode cX9_happen 64 = .ok (.getfield 95, 3) := by decide +kernel
theorem dX9_happen_67 : decode cX9_happen 67 = .ok (.iconst 1, 1) := by decide +kernel
theorem dX9_happen_68 : decode cX9_happen 68 = .ok (.isub, 1) := by decide +kernel
theorem dX9_happen_69 : decode cX9_happen 69 = .ok (.putfield 95, 3) := by decide +kernel
theorem dX9_happen_72 : decode cX9_happen 72 = .ok (.goto 7, 3) := by decide +kernel
theorem dX9_happen_75 : decode cX9_happen 75 = .ok (.aload_n 0, 1) := by decide +kernel
theorem dX9_happen_76 : decode cX9_happen 76 = .ok (.invokevirtual 175, 3) := by decide +kernel
theorem dX9_happen_79 : decode cX9_happen 79 = .ok (.return_, 1) := by decide +kernel
theorem dX9_keepNow_0 : decode cX9_keepNow 0 = .ok (.iconst 0, 1) := by decide +kernel
theorem dX9_keepNow_1 : decode cX9_keepNow 1 = .ok (.istore_n 1, 1) := by decide +kernel
theorem dX9_keepNow_2 : decode cX9_keepNow 2 = .ok (.iload_n 1, 1) := by decide +kernel
theorem dX9_keepNow_3 : decode cX9_keepNow 3 = .ok (.bipush 30, 2) := by decide +kernel
theorem dX9_keepNow_5 : decode cX9_keepNow 5 = .ok (.if_icmp .ge 51, 3) := by decide +kernel
theorem dX9_keepNow_8 : decode cX9_keepNow 8 = .ok (.aload_n 0, 1) := by decide +kernel
theorem dX9_keepNow_9 : decode cX9_keepNow 9 = .ok (.getfield 52, 3) := by decide +kernel
theorem dX9_keepNow_12 : decode cX9_keepNow 12 = .ok (.iload_n 1, 1) := by decide +kernel
theorem dX9_keepNow_13 : decode cX9_keepNow 13 = .ok (.aload_n 0, 1) := by decide +kernel
theorem dX9_keepNow_14 : decode cX9_keepNow 14 = .ok (.getfield 13, 3) := by decide +kernel
theorem dX9_keepNow_17 : decode cX9_keepNow 17 = .ok (.iload_n 1, 1) := by decide +kernel
theorem dX9_keepNow_18 : decode cX9_keepNow 18 = .ok (.iaload, 1) := by decide +kernel
theorem dX9_keepNow_19 : decode cX9_keepNow 19 = .ok (.iastore, 1) := by decide +kernel
theorem dX9_keepNow_20 : decode cX9_keepNow 20 = .ok (.aload_n 0, 1) := by decide +kernel
theorem dX9_keepNow_21 : decode cX9_keepNow 21 = .ok (.getfield 52, 3) := by decide +kernel
theorem dX9_keepNow_24 : decode cX9_keepNow 24 = .ok (.bipush 30, 2) := by decide +kernel
theorem dX9_keepNow_26 : decode cX9_keepNow 26 = .ok (.iload_n 1, 1) := by decide +kernel
theorem dX9_keepNow_27 : decode cX9_keepNow 27 = .ok (.iadd, 1) := by decide +kernel
theorem dX9_keepNow_28 : decode cX9_keepNow 28 = .ok (.aload_n 0, 1) := by decide +kernel
theorem dX9_keepNow_29 : decode cX9_keepNow 29 = .ok (.getfield 16, 3) := by decide +kernel
theorem dX9_keepNow_32 : decode cX9_keepNow 32 = .ok (.iload_n 1, 1) := by decide +kernel
theorem dX9_keepNow_33 : decode cX9_keepNow 33 = .ok (.iaload, 1) := by decide +kernel
theorem dX9_keepNow_34 : decode cX9_keepNow 34 = .ok (.iastore, 1) := by decide +kernel
theorem dX9_keepNow_35 : decode cX9_keepNow 35 = .ok (.aload_n 0, 1) := by decide +kernel
theorem dX9_keepNow_36 : decode cX9_keepNow 36 = .ok (.getfield 52, 3) := by decide +kernel
theorem dX9_keepNow_39 : decode cX9_keepNow 39 = .ok (.bipush 60, 2) := by decide +kernel
theorem dX9_keepNow_41 : decode cX9_keepNow 41 = .ok (.iload_n 1, 1) := by decide +kernel
theorem dX9_keepNow_42 : decode cX9_keepNow 42 = .ok (.iadd, 1) := by decide +kernel
theorem dX9_keepNow_43 : decode cX9_keepNow 43 = .ok (.aload_n 0, 1) := by decide +kernel
theorem dX9_keepNow_44 : decode cX9_keepNow 44 = .ok (.getfield 19, 3) := by decide +kernel
theorem dX9_keepNow_47 : decode cX9_keepNow 47 = .ok (.iload_n 1, 1) := by decide +kernel
theorem dX9_keepNow_48 : decode cX9_keepNow 48 = .ok (.iaload, 1) := by decide +kernel
theorem dX9_keepNow_49 : decode cX9_keepNow 49 = .ok (.iastore, 1) := by decide +kernel
theorem dX9_keepNow_50 : decode cX9_keepNow 50 = .ok (.iinc 1 1, 3) := by decide +kernel
theorem dX9_keepNow_53 : decode cX9_keepNow 53 = .ok (.goto (-51), 3) := by decide +kernel
theorem dX9_keepNow_56 : decode cX9_keepNow 56 = .ok (.aload_n 0, 1) := by decide +kernel
theorem dX9_keepNow_57 : decode cX9_keepNow 57 = .ok (.getfield 52, 3) := by decide +kernel
theorem dX9_keepNow_60 : decode cX9_keepNow 60 = .ok (.bipush 90, 2) := by decide +kernel
theorem dX9_keepNow_62 : decode cX9_keepNow 62 = .ok (.aload_n 0, 1) := by decide +kernel
theorem dX9_keepNow_63 : decode cX9_keepNow 63 = .ok (.getfield 92, 3) := by decide +kernel
theorem dX9_keepNow_66 : decode cX9_keepNow 66 = .ok (.iastore, 1) := by decide +kernel
theorem dX9_keepNow_67 : decode cX9_keepNow 67 = .ok (.aload_n 0, 1) := by decide +kernel
theorem dX9_keepNow_68 : decode cX9_keepNow 68 = .ok (.getfield 52, 3) := by decide +kernel
theorem dX9_keepNow_71 : decode cX9_keepNow 71 = .ok (.bipush 91, 2) := by decide +kernel
theorem dX9_keepNow_73 : decode cX9_keepNow 73 = .ok (.aload_n 0, 1) := by decide +kernel
theorem dX9_keepNow_74 : decode cX9_keepNow 74 = .ok (.getfield 95, 3) := by decide +kernel
theorem dX9_keepNow_77 : decode cX9_keepNow 77 = .ok (.iastore, 1) := by decide +kernel
theorem dX9_keepNow_78 : decode cX9_keepNow 78 = .ok (.return_, 1) := by decide +kernel
theorem dX9_putBack_0 : decode cX9_putBack 0 = .ok (.iconst 0, 1) := by decide +kernel
theorem dX9_putBack_1 : decode cX9_putBack 1 = .ok (.istore_n 1, 1) := by decide +kernel
theorem dX9_putBack_2 : decode cX9_putBack 2 = .ok (.iload_n 1, 1) := by decide +kernel
theorem dX9_putBack_3 : decode cX9_putBack 3 = .ok (.bipush 30, 2) := by decide +kernel
theorem dX9_putBack_5 : decode cX9_putBack 5 = .ok (.if_icmp .ge 51, 3) := by decide +kernel
theorem dX9_putBack_8 : decode cX9_putBack 8 = .ok (.aload_n 0, 1) := by decide +kernel
theorem dX9_putBack_9 : decode cX9_putBack 9 = .ok (.getfield 13, 3) := by decide +kernel
theorem dX9_putBack_12 : decode cX9_putBack 12 = .ok (.iload_n 1, 1) := by decide +kernel
theorem dX9_putBack_13 : decode cX9_putBack 13 = .ok (.aload_n 0, 1) := by decide +kernel
theorem dX9_putBack_14 : decode cX9_putBack 14 = .ok (.getfield 52, 3) := by decide +kernel
theorem dX9_putBack_17 : decode cX9_putBack 17 = .ok (.iload_n 1, 1) := by decide +kernel
theorem dX9_putBack_18 : decode cX9_putBack 18 = .ok (.iaload, 1) := by decide +kernel
theorem dX9_putBack_19 : decode cX9_putBack 19 = .ok (.iastore, 1) := by decide +kernel
theorem dX9_putBack_20 : decode cX9_putBack 20 = .ok (.aload_n 0, 1) := by decide +kernel
theorem dX9_putBack_21 : decode cX9_putBack 21 = .ok (.getfield 16, 3) := by decide +kernel
theorem dX9_putBack_24 : decode cX9_putBack 24 = .ok (.iload_n 1, 1) := by decide +kernel
theorem dX9_putBack_25 : decode cX9_putBack 25 = .ok (.aload_n 0, 1) := by decide +kernel
theorem dX9_putBack_26 : decode cX9_putBack 26 = .ok (.getfield 52, 3) := by decide +kernel
theorem dX9_putBack_29 : decode cX9_putBack 29 = .ok (.bipush 30, 2) := by decide +kernel
theorem dX9_putBack_31 : decode cX9_putBack 31 = .ok (.iload_n 1, 1) := by decide +kernel
theorem dX9_putBack_32 : decode cX9_putBack 32 = .ok (.iadd, 1) := by decide +kernel
theorem dX9_putBack_33 : decode cX9_putBack 33 = .ok (.iaload, 1) := by decide +kernel
theorem dX9_putBack_34 : decode cX9_putBack 34 = .ok (.iastore, 1) := by decide +kernel
theorem dX9_putBack_35 : decode cX9_putBack 35 = .ok (.aload_n 0, 1) := by decide +kernel
theorem dX9_putBack_36 : decode cX9_putBack 36 = .ok (.getfield 19, 3) := by decide +kernel
theorem dX9_putBack_39 : decode cX9_putBack 39 = .ok (.iload_n 1, 1) := by decide +kernel
theorem dX9_putBack_40 : decode cX9_putBack 40 = .ok (.aload_n 0, 1) := by decide +kernel
theorem dX9_putBack_41 : decode cX9_putBack 41 = .ok (.getfield 52, 3) := by decide +kernel
theorem dX9_putBack_44 : decode cX9_putBack 44 = .ok (.bipush 60, 2) := by decide +kernel
theorem dX9_putBack_46 : decode cX9_putBack 46 = .ok (.iload_n 1, 1) := by decide +kernel
theorem dX9_putBack_47 : decode cX9_putBack 47 = .ok (.iadd, 1) := by decide +kernel
theorem dX9_putBack_48 : decode cX9_putBack 48 = .ok (.iaload, 1) := by decide +kernel
theorem dX9_putBack_49 : decode cX9_putBack 49 = .ok (.iastore, 1) := by decide +kernel
theorem dX9_putBack_50 : decode cX9_putBack 50 = .ok (.iinc 1 1, 3) := by decide +kernel
theorem dX9_putBack_53 : decode cX9_putBack 53 = .ok (.goto (-51), 3) := by decide +kernel
theorem dX9_putBack_56 : decode cX9_putBack 56 = .ok (.aload_n 0, 1) := by decide +kernel
theorem dX9_putBack_57 : decode cX9_putBack 57 = .ok (.aload_n 0, 1) := by decide +kernel
theorem dX9_putBack_58 : decode cX9_putBack 58 = .ok (.getfield 52, 3) := by decide +kernel
theorem dX9_putBack_61 : decode cX9_putBack 61 = .ok (.bipush 90, 2) := by decide +kernel
theorem dX9_putBack_63 : decode cX9_putBack 63 = .ok (.iaload, 1) := by decide +kernel
theorem dX9_putBack_64 : decode cX9_putBack 64 = .ok (.putfield 92, 3) := by decide +kernel
theorem dX9_putBack_67 : decode cX9_putBack 67 = .ok (.aload_n 0, 1) := by decide +kernel
theorem dX9_putBack_68 : decode cX9_putBack 68 = .ok (.aload_n 0, 1) := by decide +kernel
theorem dX9_putBack_69 : decode cX9_putBack 69 = .ok (.getfield 52, 3) := by decide +kernel
theorem dX9_putBack_72 : decode cX9_putBack 72 = .ok (.bipush 91, 2) := by decide +kernel
theorem dX9_putBack_74 : decode cX9_putBack 74 = .ok (.iaload, 1) := by decide +kernel
theorem dX9_putBack_75 : decode cX9_putBack 75 = .ok (.putfield 95, 3) := by decide +kernel
theorem dX9_putBack_78 : decode cX9_putBack 78 = .ok (.return_, 1) := by decide +kernel
theorem dX9_look_0 : decode cX9_look 0 = .ok (.aload_n 0, 1) := by decide +kernel
theorem dX9_look_1 : decode cX9_look 1 = .ok (.getfield 92, 3) := by decide +kernel
theorem dX9_look_4 : decode cX9_look 4 = .ok (.istore_n 2, 1) := by decide +kernel
theorem dX9_look_5 : decode cX9_look 5 = .ok (.iload_n 2, 1) := by decide +kernel
theorem dX9_look_6 : decode cX9_look 6 = .ok (.aload_n 0, 1) := by decide +kernel
theorem dX9_look_7 : decode cX9_look 7 = .ok (.getfield 52, 3) := by decide +kernel
theorem dX9_look_10 : decode cX9_look 10 = .ok (.bipush 90, 2) := by decide +kernel
theorem dX9_look_12 : decode cX9_look 12 = .ok (.iaload, 1) := by decide +kernel
theorem dX9_look_13 : decode cX9_look 13 = .ok (.if_icmp .ge 34, 3) := by decide +kernel
theorem dX9_look_16 : decode cX9_look 16 = .ok (.aload_n 0, 1) := by decide +kernel
theorem dX9_look_17 : decode cX9_look 17 = .ok (.getfield 49, 3) := by decide +kernel
theorem dX9_look_20 : decode cX9_look 20 = .ok (.iload_n 2, 1) := by decide +kernel
theorem dX9_look_21 : decode cX9_look 21 = .ok (.aload_n 0, 1) := by decide +kernel
theorem dX9_look_22 : decode cX9_look 22 = .ok (.getfield 49, 3) := by decide +kernel
theorem dX9_look_25 : decode cX9_look 25 = .ok (.iload_n 2, 1) := by decide +kernel
theorem dX9_look_26 : decode cX9_look 26 = .ok (.iaload, 1) := by decide +kernel
theorem dX9_look_27 : decode cX9_look 27 = .ok (.ifCond .ge 7, 3) := by decide +kernel
theorem dX9_look_30 : decode cX9_look 30 = .ok (.iload_n 1, 1) := by decide +kernel
theorem dX9_look_31 : decode cX9_look 31 = .ok (.goto 9, 3) := by decide +kernel
theorem dX9_look_34 : decode cX9_look 34 = .ok (.aload_n 0, 1) := by decide +kernel
theorem dX9_look_35 : decode cX9_look 35 = .ok (.getfield 49, 3) := by decide +kernel
theorem dX9_look_38 : decode cX9_look 38 = .ok (.iload_n 2, 1) := by decide +kernel
theorem dX9_look_39 : decode cX9_look 39 = .ok (.iaload, 1) := by decide +kernel
theorem dX9_look_40 : decode cX9_look 40 = .ok (.iastore, 1) := by decide +kernel
theorem dX9_look_41 : decode cX9_look 41 = .ok (.iinc 2 1, 3) := by decide +kernel
theorem dX9_look_44 : decode cX9_look 44 = .ok (.goto (-39), 3) := by decide +kernel
theorem dX9_look_47 : decode cX9_look 47 = .ok (.aload_n 0, 1) := by decide +kernel
theorem dX9_look_48 : decode cX9_look 48 = .ok (.aload_n 0, 1) := by decide +kernel
theorem dX9_look_49 : decode cX9_look 49 = .ok (.getfield 92, 3) := by decide +kernel
theorem dX9_look_52 : decode cX9_look 52 = .ok (.aload_n 0, 1) := by decide +kernel
theorem dX9_look_53 : decode cX9_look 53 = .ok (.getfield 178, 3) := by decide +kernel
theorem dX9_look_56 : decode cX9_look 56 = .ok (.if_icmp .ge 10, 3) := by decide +kernel
theorem dX9_look_59 : decode cX9_look 59 = .ok (.aload_n 0, 1) := by decide +kernel
theorem dX9_look_60 : decode cX9_look 60 = .ok (.getfield 92, 3) := by decide +kernel
theorem dX9_look_63 : decode cX9_look 63 = .ok (.goto 7, 3) := by decide +kernel
theorem dX9_look_66 : decode cX9_look 66 = .ok (.aload_n 0, 1) := by decide +kernel
theorem dX9_look_67 : decode cX9_look 67 = .ok (.getfield 178, 3) := by decide +kernel
theorem dX9_look_70 : decode cX9_look 70 = .ok (.putfield 178, 3) := by decide +kernel
theorem dX9_look_73 : decode cX9_look 73 = .ok (.aload_n 0, 1) := by decide +kernel
theorem dX9_look_74 : decode cX9_look 74 = .ok (.aload_n 0, 1) := by decide +kernel
theorem dX9_look_75 : decode cX9_look 75 = .ok (.getfield 92, 3) := by decide +kernel
theorem dX9_look_78 : decode cX9_look 78 = .ok (.aload_n 0, 1) := by decide +kernel
theorem dX9_look_79 : decode cX9_look 79 = .ok (.getfield 181, 3) := by decide +kernel
theorem dX9_look_82 : decode cX9_look 82 = .ok (.if_icmp .le 10, 3) := by decide +kernel
theorem dX9_look_85 : decode cX9_look 85 = .ok (.aload_n 0, 1) := by decide +kernel
theorem dX9_look_86 : decode cX9_look 86 = .ok (.getfield 92, 3) := by decide +kernel
theorem dX9_look_89 : decode cX9_look 89 = .ok (.goto 7, 3) := by decide +kernel
theorem dX9_look_92 : decode cX9_look 92 = .ok (.aload_n 0, 1) := by decide +kernel
theorem dX9_look_93 : decode cX9_look 93 = .ok (.getfield 181, 3) := by decide +kernel
theorem dX9_look_96 : decode cX9_look 96 = .ok (.putfield 181, 3) := by decide +kernel
theorem dX9_look_99 : decode cX9_look 99 = .ok (.return_, 1) := by decide +kernel
theorem dX9_isSeenSo_0 : decode cX9_isSeenSo 0 = .ok (.iconst 1, 1) := by decide +kernel
theorem dX9_isSeenSo_1 : decode cX9_isSeenSo 1 = .ok (.istore_n 2, 1) := by decide +kernel
theorem dX9_isSeenSo_2 : decode cX9_isSeenSo 2 = .ok (.iconst 0, 1) := by decide +kernel
theorem dX9_isSeenSo_3 : decode cX9_isSeenSo 3 = .ok (.istore_n 3, 1) := by decide +kernel
theorem dX9_isSeenSo_4 : decode cX9_isSeenSo 4 = .ok (.iload_n 3, 1) := by decide +kernel
theorem dX9_isSeenSo_5 : decode cX9_isSeenSo 5 = .ok (.aload_n 0, 1) := by decide +kernel
theorem dX9_isSeenSo_6 : decode cX9_isSeenSo 6 = .ok (.getfield 98, 3) := by decide +kernel
theorem dX9_isSeenSo_9 : decode cX9_isSeenSo 9 = .ok (.if_icmp .ge 42, 3) := by decide +kernel
theorem dX9_isSeenSo_12 : decode cX9_isSeenSo 12 = .ok (.iload_n 2, 1) := by decide +kernel
theorem dX9_isSeenSo_13 : decode cX9_isSeenSo 13 = .ok (.ifCond .eq 30, 3) := by decide +kernel
theorem dX9_isSeenSo_16 : decode cX9_isSeenSo 16 = .ok (.aload_n 0, 1) := by decide +kernel
theorem dX9_isSeenSo_17 : decode cX9_isSeenSo 17 = .ok (.getfield 22, 3) := by decide +kernel
theorem dX9_isSeenSo_20 : decode cX9_isSeenSo 20 = .ok (.iload_n 3, 1) := by decide +kernel
theorem dX9_isSeenSo_21 : decode cX9_isSeenSo 21 = .ok (.iaload, 1) := by decide +kernel
theorem dX9_isSeenSo_22 : decode cX9_isSeenSo 22 = .ok (.iload_n 1, 1) := by decide +kernel
theorem dX9_isSeenSo_23 : decode cX9_isSeenSo 23 = .ok (.if_icmp .ne 16, 3) := by decide +kernel
theorem dX9_isSeenSo_26 : decode cX9_isSeenSo 26 = .ok (.aload_n 0, 1) := by decide +kernel
theorem dX9_isSeenSo_27 : decode cX9_isSeenSo 27 = .ok (.getfield 25, 3) := by decide +kernel
theorem dX9_isSeenSo_30 : decode cX9_isSeenSo 30 = .ok (.iload_n 3, 1) := by decide +kernel
theorem dX9_isSeenSo_31 : decode cX9_isSeenSo 31 = .ok (.iaload, 1) := by decide +kernel
theorem dX9_isSeenSo_32 : decode cX9_isSeenSo 32 = .ok (.aload_n 0, 1) := by decide +kernel
theorem dX9_isSeenSo_33 : decode cX9_isSeenSo 33 = .ok (.getfield 92, 3) := by decide +kernel
theorem dX9_isSeenSo_36 : decode cX9_isSeenSo 36 = .ok (.if_icmp .ne 7, 3) := by decide +kernel
theorem dX9_isSeenSo_39 : decode cX9_isSeenSo 39 = .ok (.iconst 1, 1) := by decide +kernel
theorem dX9_isSeenSo_40 : decode cX9_isSeenSo 40 = .ok (.goto 4, 3) := by decide +kernel
theorem dX9_isSeenSo_43 : decode cX9_isSeenSo 43 = .ok (.iconst 0, 1) := by decide +kernel
theorem dX9_isSeenSo_44 : decode cX9_isSeenSo 44 = .ok (.istore_n 2, 1) := by decide +kernel
theorem dX9_isSeenSo_45 : decode cX9_isSeenSo 45 = .ok (.iinc 3 1, 3) := by decide +kernel
theorem dX9_isSeenSo_48 : decode cX9_isSeenSo 48 = .ok (.goto (-44), 3) := by decide +kernel
theorem dX9_isSeenSo_51 : decode cX9_isSeenSo 51 = .ok (.iload_n 2, 1) := by decide +kernel
theorem dX9_isSeenSo_52 : decode cX9_isSeenSo 52 = .ok (.ireturn, 1) := by decide +kernel
theorem dX9_goEvening_0 : decode cX9_goEvening 0 = .ok (.aload_n 0, 1) := by decide +kernel
theorem dX9_goEvening_1 : decode cX9_goEvening 1 = .ok (.bipush (-6), 2) := by decide +kernel
theorem dX9_goEvening_3 : decode cX9_goEvening 3 = .ok (.putfield 184, 3) := by decide +kernel
theorem dX9_goEvening_6 : decode cX9_goEvening 6 = .ok (.aload_n 0, 1) := by decide +kernel
theorem dX9_goEvening_7 : decode cX9_goEvening 7 = .ok (.bipush (-6), 2) := by decide +kernel
theorem dX9_goEvening_9 : decode cX9_goEvening 9 = .ok (.putfield 187, 3) := by decide +kernel
theorem dX9_goEvening_12 : decode cX9_goEvening 12 = .ok (.aload_n 0, 1) := by decide +kernel
theorem dX9_goEvening_13 : decode cX9_goEvening 13 = .ok (.iconst 0, 1) := by decide +kernel
theorem dX9_goEvening_14 : decode cX9_goEvening 14 = .ok (.putfield 155, 3) := by decide +kernel
theorem dX9_goEvening_17 : decode cX9_goEvening 17 = .ok (.aload_n 0, 1) := by decide +kernel
theorem dX9_goEvening_18 : decode cX9_goEvening 18 = .ok (.iconst 0, 1) := by decide +kernel
theorem dX9_goEvening_19 : decode cX9_goEvening 19 = .ok (.putfield 158, 3) := by decide +kernel
theorem dX9_goEvening_22 : decode cX9_goEvening 22 = .ok (.aload_n 0, 1) := by decide +kernel
theorem dX9_goEvening_23 : decode cX9_goEvening 23 = .ok (.aload_n 0, 1) := by decide +kernel
theorem dX9_goEvening_24 : decode cX9_goEvening 24 = .ok (.getfield 92, 3) := by decide +kernel
theorem dX9_goEvening_27 : decode cX9_goEvening 27 = .ok (.putfield 178, 3) := by decide +kernel
theorem dX9_goEvening_30 : decode cX9_goEvening 30 = .ok (.aload_n 0, 1) := by decide +kernel
theorem dX9_goEvening_31 : decode cX9_goEvening 31 = .ok (.aload_n 0, 1) := by decide +kernel
theorem dX9_goEvening_32 : decode cX9_goEvening 32 = .ok (.getfield 92, 3) := by decide +kernel
theorem dX9_goEvening_35 : decode cX9_goEvening 35 = .ok (.putfield 181, 3) := by decide +kernel
theorem dX9_goEvening_38 : decode cX9_goEvening 38 = .ok (.aload_n 0, 1) := by decide +kernel
theorem dX9_goEvening_39 : decode cX9_goEvening 39 = .ok (.bipush (-6), 2) := by decide +kernel
theorem dX9_goEvening_41 : decode cX9_goEvening 41 = .ok (.putfield 164, 3) := by decide +kernel
theorem dX9_goEvening_44 : decode cX9_goEvening 44 = .ok (.aload_n 0, 1) := by decide +kernel
theorem dX9_goEvening_45 : decode cX9_goEvening 45 = .ok (.aload_n 0, 1) := by decide +kernel
theorem dX9_goEvening_46 : decode cX9_goEvening 46 = .ok (.iconst 0, 1) := by decide +kernel
theorem dX9_goEvening_47 : decode cX9_goEvening 47 = .ok (.invokevirtual 190, 3) := by decide +kernel
theorem dX9_goEvening_50 : decode cX9_goEvening 50 = .ok (.putfield 193, 3) := by decide +kernel
theorem dX9_goEvening_53 : decode cX9_goEvening 53 = .ok (.iconst 0, 1) := by decide +kernel
theorem dX9_goEvening_54 : decode cX9_goEvening 54 = .ok (.istore_n 2, 1) := by decide +kernel
theorem dX9_goEvening_55 : decode cX9_goEvening 55 = .ok (.iload_n 2, 1) := by decide +kernel
theorem dX9_goEvening_56 : decode cX9_goEvening 56 = .ok (.bipush 30, 2) := by decide +kernel
theorem dX9_goEvening_58 : decode cX9_goEvening 58 = .ok (.if_icmp .ge 17, 3) := by decide +kernel
theorem dX9_goEvening_61 : decode cX9_goEvening 61 = .ok (.aload_n 0, 1) := by decide +kernel
theorem dX9_goEvening_62 : decode cX9_goEvening 62 = .ok (.getfield 49, 3) := by decide +kernel
theorem dX9_goEvening_65 : decode cX9_goEvening 65 = .ok (.iload_n 2, 1) := by decide +kernel
theorem dX9_goEvening_66 : decode cX9_goEvening 66 = .ok (.bipush (-6), 2) := by decide +kernel
theorem dX9_goEvening_68 : decode cX9_goEvening 68 = .ok (.iastore, 1) := by decide +kernel
theorem dX9_goEvening_69 : decode cX9_goEvening 69 = .ok (.iinc 2 1, 3) := by decide +kernel
theorem dX9_goEvening_72 : decode cX9_goEvening 72 = .ok (.goto (-17), 3) := by decide +kernel
theorem dX9_goEvening_75 : decode cX9_goEvening 75 = .ok (.iconst 0, 1) := by decide +kernel
theorem dX9_goEvening_76 : decode cX9_goEvening 76 = .ok (.istore_n 2, 1) := by decide +kernel
theorem dX9_goEvening_77 : decode cX9_goEvening 77 = .ok (.iload_n 2, 1) := by decide +kernel
theorem dX9_goEvening_78 : decode cX9_goEvening 78 = .ok (.aload_n 0, 1) := by decide +kernel
theorem dX9_goEvening_79 : decode cX9_goEvening 79 = .ok (.getfield 127, 3) := by decide +kernel
theorem dX9_goEvening_82 : decode cX9_goEvening 82 = .ok (.if_icmp .ge 92, 3) := by decide +kernel
theorem dX9_goEvening_85 : decode cX9_goEvening 85 = .ok (.aload_n 0, 1) := by decide +kernel
theorem dX9_goEvening_86 : decode cX9_goEvening 86 = .ok (.getfield 184, 3) := by decide +kernel
theorem dX9_goEvening_89 : decode cX9_goEvening 89 = .ok (.ifCond .ge 85, 3) := by decide +kernel
theorem dX9_goEvening_92 : decode cX9_goEvening 92 = .ok (.aload_n 0, 1) := by decide +kernel
theorem dX9_goEvening_93 : decode cX9_goEvening 93 = .ok (.iload_n 2, 1) := by decide +kernel
theorem dX9_goEvening_94 : decode cX9_goEvening 94 = .ok (.iload_n 1, 1) := by decide +kernel
theorem dX9_goEvening_95 : decode cX9_goEvening 95 = .ok (.invokevirtual 197, 3) := by decide +kernel
theorem dX9_goEvening_98 : decode cX9_goEvening 98 = .ok (.istore_n 3, 1) := by decide +kernel
theorem dX9_goEvening_99 : decode cX9_goEvening 99 = .ok (.aload_n 0, 1) := by decide +kernel
theorem dX9_goEvening_100 : decode cX9_goEvening 100 = .ok (.iload_n 3, 1) := by decide +kernel
theorem dX9_goEvening_101 : decode cX9_goEvening 101 = .ok (.ifCond .le 7, 3) := by decide +kernel
theorem dX9_goEvening_104 : decode cX9_goEvening 104 = .ok (.iload_n 2, 1) := by decide +kernel
theorem dX9_goEvening_105 : decode cX9_goEvening 105 = .ok (.goto 5, 3) := by decide +kernel
theorem dX9_goEvening_108 : decode cX9_goEvening 108 = .ok (.bipush (-6), 2) := by decide +kernel
theorem dX9_goEvening_110 : decode cX9_goEvening 110 = .ok (.putfield 184, 3) := by decide +kernel
theorem dX9_goEvening_113 : decode cX9_goEvening 113 = .ok (.aload_n 0, 1) := by decide +kernel
theorem dX9_goEvening_114 : decode cX9_goEvening 114 = .ok (.iload_n 3, 1) := by decide +kernel
theorem dX9_goEvening_115 : decode cX9_goEvening 115 = .ok (.ifCond .le 7, 3) := by decide +kernel
theorem dX9_goEvening_118 : decode cX9_goEvening 118 = .ok (.iload_n 3, 1) := by decide +kernel
theorem dX9_goEvening_119 : decode cX9_goEvening 119 = .ok (.goto 5, 3) := by decide +kernel
theorem dX9_goEvening_122 : decode cX9_goEvening 122 = .ok (.bipush (-6), 2) := by decide +kernel
theorem dX9_goEvening_124 : decode cX9_goEvening 124 = .ok (.putfield 187, 3) := by decide +kernel
theorem dX9_goEvening_127 : decode cX9_goEvening 127 = .ok (.iload_n 3, 1) := by decide +kernel
theorem dX9_goEvening_128 : decode cX9_goEvening 128 = .ok (.ifCond .ne 40, 3) := by decide +kernel
theorem dX9_goEvening_131 : decode cX9_goEvening 131 = .ok (.aload_n 0, 1) := by decide +kernel
theorem dX9_goEvening_132 : decode cX9_goEvening 132 = .ok (.iload_n 2, 1) := by decide +kernel
theorem dX9_goEvening_133 : decode cX9_goEvening 133 = .ok (.iload_n 1, 1) := by decide +kernel
theorem dX9_goEvening_134 : decode cX9_goEvening 134 = .ok (.invokevirtual 201, 3) := by decide +kernel
theorem dX9_goEvening_137 : decode cX9_goEvening 137 = .ok (.aload_n 0, 1) := by decide +kernel
theorem dX9_goEvening_138 : decode cX9_goEvening 138 = .ok (.iload_n 2, 1) := by decide +kernel
theorem dX9_goEvening_139 : decode cX9_goEvening 139 = .ok (.invokevirtual 204, 3) := by decide +kernel
theorem dX9_goEvening_142 : decode cX9_goEvening 142 = .ok (.aload_n 0, 1) := by decide +kernel
theorem dX9_goEvening_143 : decode cX9_goEvening 143 = .ok (.aload_n 0, 1) := by decide +kernel
theorem dX9_goEvening_144 : decode cX9_goEvening 144 = .ok (.getfield 193, 3) := by decide +kernel
theorem dX9_goEvening_147 : decode cX9_goEvening 147 = .ok (.ifCond .eq 17, 3) := by decide +kernel
theorem dX9_goEvening_150 : decode cX9_goEvening 150 = .ok (.aload_n 0, 1) := by decide +kernel
theorem dX9_goEvening_151 : decode cX9_goEvening 151 = .ok (.iload_n 2, 1) := by decide +kernel
theorem dX9_goEvening_152 : decode cX9_goEvening 152 = .ok (.iconst 1, 1) := by decide +kernel
theorem dX9_goEvening_153 : decode cX9_goEvening 153 = .ok (.iadd, 1) := by decide +kernel
theorem dX9_goEvening_154 : decode cX9_goEvening 154 = .ok (.invokevirtual 190, 3) := by decide +kernel
theorem dX9_goEvening_157 : decode cX9_goEvening 157 = .ok (.ifCond .eq 7, 3) := by decide +kernel
theorem dX9_goEvening_160 : decode cX9_goEvening 160 = .ok (.iconst 1, 1) := by decide +kernel
theorem dX9_goEvening_161 : decode cX9_goEvening 161 = .ok (.goto 4, 3) := by decide +kernel
theorem dX9_goEvening_164 : decode cX9_goEvening 164 = .ok (.iconst 0, 1) := by decide +kernel
theorem dX9_goEvening_165 : decode cX9_goEvening 165 = .ok (.putfield 193, 3) := by decide +kernel
theorem dX9_goEvening_168 : decode cX9_goEvening 168 = .ok (.iinc 2 1, 3) := by decide +kernel
theorem dX9_goEvening_171 : decode cX9_goEvening 171 = .ok (.goto (-94), 3) := by decide +kernel
theorem dX9_goEvening_174 : decode cX9_goEvening 174 = .ok (.return_, 1) := by decide +kernel
theorem dX9_refusal_0 : decode cX9_refusal 0 = .ok (.aload_n 0, 1) := by decide +kernel
theorem dX9_refusal_1 : decode cX9_refusal 1 = .ok (.invokevirtual 137, 3) := by decide +kernel
theorem dX9_refusal_4 : decode cX9_refusal 4 = .ok (.ifCond .lt 6, 3) := by decide +kernel
theorem dX9_refusal_7 : decode cX9_refusal 7 = .ok (.bipush (-5), 2) := by decide +kernel
theorem dX9_refusal_9 : decode cX9_refusal 9 = .ok (.ireturn, 1) := by decide +kernel
theorem dX9_refusal_10 : decode cX9_refusal 10 = .ok (.aload_n 0, 1) := by decide +kernel
theorem dX9_refusal_11 : decode cX9_refusal 11 = .ok (.invokevirtual 207, 3) := by decide +kernel
theorem dX9_refusal_14 : decode cX9_refusal 14 = .ok (.aload_n 0, 1) := by decide +kernel
theorem dX9_refusal_15 : decode cX9_refusal 15 = .ok (.aload_n 0, 1) := by decide +kernel
theorem dX9_refusal_16 : decode cX9_refusal 16 = .ok (.getfield 89, 3) := by decide +kernel
theorem dX9_refusal_19 : decode cX9_refusal 19 = .ok (.invokevirtual 210, 3) := by decide +kernel
theorem dX9_refusal_22 : decode cX9_refusal 22 = .ok (.iconst 0, 1) := by decide +kernel
theorem dX9_refusal_23 : decode cX9_refusal 23 = .ok (.istore_n 1, 1) := by decide +kernel
theorem dX9_refusal_24 : decode cX9_refusal 24 = .ok (.iload_n 1, 1) := by decide +kernel
theorem dX9_refusal_25 : decode cX9_refusal 25 = .ok (.bipush 30, 2) := by decide +kernel
theorem dX9_refusal_27 : decode cX9_refusal 27 = .ok (.if_icmp .ge 55, 3) := by decide +kernel
theorem dX9_refusal_30 : decode cX9_refusal 30 = .ok (.aload_n 0, 1) := by decide +kernel
theorem dX9_refusal_31 : decode cX9_refusal 31 = .ok (.getfield 55, 3) := by decide +kernel
theorem dX9_refusal_34 : decode cX9_refusal 34 = .ok (.iconst 3, 1) := by decide +kernel
theorem dX9_refusal_35 : decode cX9_refusal 35 = .ok (.iload_n 1, 1) := by decide +kernel
theorem dX9_refusal_36 : decode cX9_refusal 36 = .ok (.imul, 1) := by decide +kernel
theorem dX9_refusal_37 : decode cX9_refusal 37 = .ok (.aload_n 0, 1) := by decide +kernel
theorem dX9_refusal_38 : decode cX9_refusal 38 = .ok (.getfield 13, 3) := by decide +kernel
theorem dX9_refusal_41 : decode cX9_refusal 41 = .ok (.iload_n 1, 1) := by decide +kernel
theorem dX9_refusal_42 : decode cX9_refusal 42 = .ok (.iaload, 1) := by decide +kernel
theorem dX9_refusal_43 : decode cX9_refusal 43 = .ok (.iastore, 1) := by decide +kernel
theorem dX9_refusal_44 : decode cX9_refusal 44 = .ok (.aload_n 0, 1) := by decide +kernel
theorem dX9_refusal_45 : decode cX9_refusal 45 = .ok (.getfield 55, 3) := by decide +kernel
theorem dX9_refusal_48 : decode cX9_refusal 48 = .ok (.iconst 3, 1) := by decide +kernel
theorem dX9_refusal_49 : decode cX9_refusal 49 = .ok (.iload_n 1, 1) := by decide +kernel
theorem dX9_refusal_50 : decode cX9_refusal 50 = .ok (.imul, 1) := by decide +kernel
theorem dX9_refusal_51 : decode cX9_refusal 51 = .ok (.iconst 1, 1) := by decide +kernel
theorem dX9_refusal_52 : decode cX9_refusal 52 = .ok (.iadd, 1) := by decide +kernel
theorem dX9_refusal_53 : decode cX9_refusal 53 = .ok (.aload_n 0, 1) := by decide +kernel
theorem dX9_refusal_54 : decode cX9_refusal 54 = .ok (.getfield 16, 3) := by decide +kernel
theorem dX9_refusal_57 : decode cX9_refusal 57 = .ok (.iload_n 1, 1) := by decide +kernel
theorem dX9_refusal_58 : decode cX9_refusal 58 = .ok (.iaload, 1) := by decide +kernel
theorem dX9_refusal_59 : decode cX9_refusal 59 = .ok (.iastore, 1) := by decide +kernel
theorem dX9_refusal_60 : decode cX9_refusal 60 = .ok (.aload_n 0, 1) := by decide +kernel
theorem dX9_refusal_61 : decode cX9_refusal 61 = .ok (.getfield 55, 3) := by decide +kernel
theorem dX9_refusal_64 : decode cX9_refusal 64 = .ok (.iconst 3, 1) := by decide +kernel
theorem dX9_refusal_65 : decode cX9_refusal 65 = .ok (.iload_n 1, 1) := by decide +kernel
theorem dX9_refusal_66 : decode cX9_refusal 66 = .ok (.imul, 1) := by decide +kernel
theorem dX9_refusal_67 : decode cX9_refusal 67 = .ok (.iconst 2, 1) := by decide +kernel
theorem dX9_refusal_68 : decode cX9_refusal 68 = .ok (.iadd, 1) := by decide +kernel
theorem dX9_refusal_69 : decode cX9_refusal 69 = .ok (.aload_n 0, 1) := by decide +kernel
theorem dX9_refusal_70 : decode cX9_refusal 70 = .ok (.getfield 19, 3) := by decide +kernel
theorem dX9_refusal_73 : decode cX9_refusal 73 = .ok (.iload_n 1, 1) := by decide +kernel
theorem dX9_refusal_74 : decode cX9_refusal 74 = .ok (.iaload, 1) := by decide +kernel
theorem dX9_refusal_75 : decode cX9_refusal 75 = .ok (.iastore, 1) := by decide +kernel
theorem dX9_refusal_76 : decode cX9_refusal 76 = .ok (.iinc 1 1, 3) := by decide +kernel
theorem dX9_refusal_79 : decode cX9_refusal 79 = .ok (.goto (-55), 3) := by decide +kernel
theorem dX9_refusal_82 : decode cX9_refusal 82 = .ok (.aload_n 0, 1) := by decide +kernel
theorem dX9_refusal_83 : decode cX9_refusal 83 = .ok (.aload_n 0, 1) := by decide +kernel
theorem dX9_refusal_84 : decode cX9_refusal 84 = .ok (.getfield 92, 3) := by decide +kernel
theorem dX9_refusal_87 : decode cX9_refusal 87 = .ok (.putfield 213, 3) := by decide +kernel
theorem dX9_refusal_90 : decode cX9_refusal 90 = .ok (.aload_n 0, 1) := by decide +kernel
theorem dX9_refusal_91 : decode cX9_refusal 91 = .ok (.aload_n 0, 1) := by decide +kernel
theorem dX9_refusal_92 : decode cX9_refusal 92 = .ok (.getfield 95, 3) := by decide +kernel
theorem dX9_refusal_95 : decode cX9_refusal 95 = .ok (.putfield 216, 3) := by decide +kernel
theorem dX9_refusal_98 : decode cX9_refusal 98 = .ok (.aload_n 0, 1) := by decide +kernel
theorem dX9_refusal_99 : decode cX9_refusal 99 = .ok (.invokevirtual 219, 3) := by decide +kernel
theorem dX9_refusal_102 : decode cX9_refusal 102 = .ok (.aload_n 0, 1) := by decide +kernel
theorem dX9_refusal_103 : decode cX9_refusal 103 = .ok (.getfield 184, 3) := by decide +kernel
theorem dX9_refusal_106 : decode cX9_refusal 106 = .ok (.ifCond .lt 8, 3) := by decide +kernel
theorem dX9_refusal_109 : decode cX9_refusal 109 = .ok (.bipush (-3), 2) := by decide +kernel
theorem dX9_refusal_111 : decode cX9_refusal 111 = .ok (.goto 5, 3) := by decide +kernel
theorem dX9_refusal_114 : decode cX9_refusal 114 = .ok (.bipush (-6), 2) := by decide +kernel
theorem dX9_refusal_116 : decode cX9_refusal 116 = .ok (.ireturn, 1) := by decide +kernel
theorem dX9_judge_0 : decode cX9_judge 0 = .ok (.iload_n 1, 1) := by decide +kernel
theorem dX9_judge_1 : decode cX9_judge 1 = .ok (.i2l, 1) := by decide +kernel
theorem dX9_judge_2 : decode cX9_judge 2 = .ok (.lconst 0, 1) := by decide +kernel
theorem dX9_judge_3 : decode cX9_judge 3 = .ok (.ldc2_w 222, 3) := by decide +kernel
theorem dX9_judge_6 : decode cX9_judge 6 = .ok (.invokestatic 101, 3) := by decide +kernel
theorem dX9_judge_9 : decode cX9_judge 9 = .ok (.ifCond .ne 6, 3) := by decide +kernel
theorem dX9_judge_12 : decode cX9_judge 12 = .ok (.bipush (-2), 2) := by decide +kernel
theorem dX9_judge_14 : decode cX9_judge 14 = .ok (.ireturn, 1) := by decide +kernel
theorem dX9_judge_15 : decode cX9_judge 15 = .ok (.aload_n 0, 1) := by decide +kernel
theorem dX9_judge_16 : decode cX9_judge 16 = .ok (.invokevirtual 224, 3) := by decide +kernel
theorem dX9_judge_19 : decode cX9_judge 19 = .ok (.istore_n 2, 1) := by decide +kernel
theorem dX9_judge_20 : decode cX9_judge 20 = .ok (.iload_n 2, 1) := by decide +kernel
theorem dX9_judge_21 : decode cX9_judge 21 = .ok (.bipush (-5), 2) := by decide +kernel
theorem dX9_judge_23 : decode cX9_judge 23 = .ok (.if_icmp .eq 14, 3) := by decide +kernel
theorem dX9_judge_26 : decode cX9_judge 26 = .ok (.iload_n 1, 1) := by decide +kernel
theorem dX9_judge_27 : decode cX9_judge 27 = .ok (.iconst 1, 1) := by decide +kernel
theorem dX9_judge_28 : decode cX9_judge 28 = .ok (.if_icmp .le 11, 3) := by decide +kernel
theorem dX9_judge_31 : decode cX9_judge 31 = .ok (.iload_n 2, 1) := by decide +kernel
theorem dX9_judge_32 : decode cX9_judge 32 = .ok (.bipush (-3), 2) := by decide +kernel
theorem dX9_judge_34 : decode cX9_judge 34 = .ok (.if_icmp .ne 5, 3) := by decide +kernel
theorem dX9_judge_37 : decode cX9_judge 37 = .ok (.iload_n 2, 1) := by decide +kernel
theorem dX9_judge_38 : decode cX9_judge 38 = .ok (.ireturn, 1) := by decide +kernel
theorem dX9_judge_39 : decode cX9_judge 39 = .ok (.iload_n 1, 1) := by decide +kernel
theorem dX9_judge_40 : decode cX9_judge 40 = .ok (.ifCond .ne 10, 3) := by decide +kernel
theorem dX9_judge_43 : decode cX9_judge 43 = .ok (.aload_n 0, 1) := by decide +kernel
theorem dX9_judge_44 : decode cX9_judge 44 = .ok (.getfield 184, 3) := by decide +kernel
theorem dX9_judge_47 : decode cX9_judge 47 = .ok (.goto 31, 3) := by decide +kernel
theorem dX9_judge_50 : decode cX9_judge 50 = .ok (.iload_n 1, 1) := by decide +kernel
theorem dX9_judge_51 : decode cX9_judge 51 = .ok (.iconst 1, 1) := by decide +kernel
theorem dX9_judge_52 : decode cX9_judge 52 = .ok (.if_icmp .ne 10, 3) := by decide +kernel
theorem dX9_judge_55 : decode cX9_judge 55 = .ok (.aload_n 0, 1) := by decide +kernel
theorem dX9_judge_56 : decode cX9_judge 56 = .ok (.getfield 187, 3) := by decide +kernel
theorem dX9_judge_59 : decode cX9_judge 59 = .ok (.goto 19, 3) := by decide +kernel
theorem dX9_judge_62 : decode cX9_judge 62 = .ok (.iload_n 1, 1) := by decide +kernel
theorem dX9_judge_63 : decode cX9_judge 63 = .ok (.iconst 2, 1) := by decide +kernel
theorem dX9_judge_64 : decode cX9_judge 64 = .ok (.if_icmp .ne 10, 3) := by decide +kernel
theorem dX9_judge_67 : decode cX9_judge 67 = .ok (.aload_n 0, 1) := by decide +kernel
theorem dX9_judge_68 : decode cX9_judge 68 = .ok (.getfield 155, 3) := by decide +kernel
theorem dX9_judge_71 : decode cX9_judge 71 = .ok (.goto 7, 3) := by decide +kernel
theorem dX9_judge_74 : decode cX9_judge 74 = .ok (.aload_n 0, 1) := by decide +kernel
theorem dX9_judge_75 : decode cX9_judge 75 = .ok (.getfield 158, 3) := by decide +kernel
theorem dX9_judge_78 : decode cX9_judge 78 = .ok (.ireturn, 1) := by decide +kernel
theorem dX9_behind_0 : decode cX9_behind 0 = .ok (.iload_n 1, 1) := by decide +kernel
theorem dX9_behind_1 : decode cX9_behind 1 = .ok (.i2l, 1) := by decide +kernel
theorem dX9_behind_2 : decode cX9_behind 2 = .ok (.lconst 0, 1) := by decide +kernel
theorem dX9_behind_3 : decode cX9_behind 3 = .ok (.ldc2_w 222, 3) := by decide +kernel
theorem dX9_behind_6 : decode cX9_behind 6 = .ok (.invokestatic 101, 3) := by decide +kernel
theorem dX9_behind_9 : decode cX9_behind 9 = .ok (.ifCond .ne 6, 3) := by decide +kernel
theorem dX9_behind_12 : decode cX9_behind 12 = .ok (.bipush (-2), 2) := by decide +kernel
theorem dX9_behind_14 : decode cX9_behind 14 = .ok (.ireturn, 1) := by decide +kernel
theorem dX9_behind_15 : decode cX9_behind 15 = .ok (.aload_n 0, 1) := by decide +kernel
theorem dX9_behind_16 : decode cX9_behind 16 = .ok (.invokevirtual 224, 3) := by decide +kernel
theorem dX9_behind_19 : decode cX9_behind 19 = .ok (.istore_n 2, 1) := by decide +kernel
theorem dX9_behind_20 : decode cX9_behind 20 = .ok (.iload_n 2, 1) := by decide +kernel
theorem dX9_behind_21 : decode cX9_behind 21 = .ok (.bipush (-6), 2) := by decide +kernel
theorem dX9_behind_23 : decode cX9_behind 23 = .ok (.if_icmp .eq 5, 3) := by decide +kernel
theorem dX9_behind_26 : decode cX9_behind 26 = .ok (.iload_n 2, 1) := by decide +kernel
theorem dX9_behind_27 : decode cX9_behind 27 = .ok (.ireturn, 1) := by decide +kernel
theorem dX9_behind_28 : decode cX9_behind 28 = .ok (.iload_n 1, 1) := by decide +kernel
theorem dX9_behind_29 : decode cX9_behind 29 = .ok (.ifCond .ne 10, 3) := by decide +kernel
theorem dX9_behind_32 : decode cX9_behind 32 = .ok (.aload_n 0, 1) := by decide +kernel
theorem dX9_behind_33 : decode cX9_behind 33 = .ok (.getfield 213, 3) := by decide +kernel
theorem dX9_behind_36 : decode cX9_behind 36 = .ok (.goto 31, 3) := by decide +kernel
theorem dX9_behind_39 : decode cX9_behind 39 = .ok (.iload_n 1, 1) := by decide +kernel
theorem dX9_behind_40 : decode cX9_behind 40 = .ok (.iconst 1, 1) := by decide +kernel
theorem dX9_behind_41 : decode cX9_behind 41 = .ok (.if_icmp .ne 10, 3) := by decide +kernel
theorem dX9_behind_44 : decode cX9_behind 44 = .ok (.aload_n 0, 1) := by decide +kernel
theorem dX9_behind_45 : decode cX9_behind 45 = .ok (.getfield 216, 3) := by decide +kernel
theorem dX9_behind_48 : decode cX9_behind 48 = .ok (.goto 19, 3) := by decide +kernel
theorem dX9_behind_51 : decode cX9_behind 51 = .ok (.iload_n 1, 1) := by decide +kernel
theorem dX9_behind_52 : decode cX9_behind 52 = .ok (.iconst 2, 1) := by decide +kernel
theorem dX9_behind_53 : decode cX9_behind 53 = .ok (.if_icmp .ne 10, 3) := by decide +kernel
theorem dX9_behind_56 : decode cX9_behind 56 = .ok (.aload_n 0, 1) := by decide +kernel
theorem dX9_behind_57 : decode cX9_behind 57 = .ok (.getfield 178, 3) := by decide +kernel
theorem dX9_behind_60 : decode cX9_behind 60 = .ok (.goto 7, 3) := by decide +kernel
theorem dX9_behind_63 : decode cX9_behind 63 = .ok (.aload_n 0, 1) := by decide +kernel
theorem dX9_behind_64 : decode cX9_behind 64 = .ok (.getfield 181, 3) := by decide +kernel
theorem dX9_behind_67 : decode cX9_behind 67 = .ok (.ireturn, 1) := by decide +kernel
theorem dX9_row_0 : decode cX9_row 0 = .ok (.iload_n 2, 1) := by decide +kernel
theorem dX9_row_1 : decode cX9_row 1 = .ok (.i2l, 1) := by decide +kernel
theorem dX9_row_2 : decode cX9_row 2 = .ok (.lconst 0, 1) := by decide +kernel
theorem dX9_row_3 : decode cX9_row 3 = .ok (.ldc2_w 116, 3) := by decide +kernel
theorem dX9_row_6 : decode cX9_row 6 = .ok (.invokestatic 101, 3) := by decide +kernel
theorem dX9_row_9 : decode cX9_row 9 = .ok (.ifCond .ne 6, 3) := by decide +kernel
theorem dX9_row_12 : decode cX9_row 12 = .ok (.bipush (-2), 2) := by decide +kernel
theorem dX9_row_14 : decode cX9_row 14 = .ok (.ireturn, 1) := by decide +kernel
theorem dX9_row_15 : decode cX9_row 15 = .ok (.aload_n 0, 1) := by decide +kernel
theorem dX9_row_16 : decode cX9_row 16 = .ok (.invokevirtual 224, 3) := by decide +kernel
theorem dX9_row_19 : decode cX9_row 19 = .ok (.istore_n 3, 1) := by decide +kernel
theorem dX9_row_20 : decode cX9_row 20 = .ok (.iload_n 3, 1) := by decide +kernel
theorem dX9_row_21 : decode cX9_row 21 = .ok (.bipush (-6), 2) := by decide +kernel
theorem dX9_row_23 : decode cX9_row 23 = .ok (.if_icmp .eq 5, 3) := by decide +kernel
theorem dX9_row_26 : decode cX9_row 26 = .ok (.iload_n 3, 1) := by decide +kernel
theorem dX9_row_27 : decode cX9_row 27 = .ok (.ireturn, 1) := by decide +kernel
theorem dX9_row_28 : decode cX9_row 28 = .ok (.iload_n 1, 1) := by decide +kernel
theorem dX9_row_29 : decode cX9_row 29 = .ok (.i2l, 1) := by decide +kernel
theorem dX9_row_30 : decode cX9_row 30 = .ok (.lconst 0, 1) := by decide +kernel
theorem dX9_row_31 : decode cX9_row 31 = .ok (.aload_n 0, 1) := by decide +kernel
theorem dX9_row_32 : decode cX9_row 32 = .ok (.getfield 213, 3) := by decide +kernel
theorem dX9_row_35 : decode cX9_row 35 = .ok (.iconst 1, 1) := by decide +kernel
theorem dX9_row_36 : decode cX9_row 36 = .ok (.isub, 1) := by decide +kernel
theorem dX9_row_37 : decode cX9_row 37 = .ok (.i2l, 1) := by decide +kernel
theorem dX9_row_38 : decode cX9_row 38 = .ok (.invokestatic 101, 3) := by decide +kernel
theorem dX9_row_41 : decode cX9_row 41 = .ok (.ifCond .eq 16, 3) := by decide +kernel
theorem dX9_row_44 : decode cX9_row 44 = .ok (.aload_n 0, 1) := by decide +kernel
theorem dX9_row_45 : decode cX9_row 45 = .ok (.getfield 55, 3) := by decide +kernel
theorem dX9_row_48 : decode cX9_row 48 = .ok (.iconst 3, 1) := by decide +kernel
theorem dX9_row_49 : decode cX9_row 49 = .ok (.iload_n 1, 1) := by decide +kernel
theorem dX9_row_50 : decode cX9_row 50 = .ok (.imul, 1) := by decide +kernel
theorem dX9_row_51 : decode cX9_row 51 = .ok (.iload_n 2, 1) := by decide +kernel
theorem dX9_row_52 : decode cX9_row 52 = .ok (.iadd, 1) := by decide +kernel
theorem dX9_row_53 : decode cX9_row 53 = .ok (.iaload, 1) := by decide +kernel
theorem dX9_row_54 : decode cX9_row 54 = .ok (.goto 4, 3) := by decide +kernel
theorem dX9_row_57 : decode cX9_row 57 = .ok (.iconst (-1), 1) := by decide +kernel
theorem dX9_row_58 : decode cX9_row 58 = .ok (.ireturn, 1) := by decide +kernel
theorem dX9_lost_0 : decode cX9_lost 0 = .ok (.aload_n 0, 1) := by decide +kernel
theorem dX9_lost_1 : decode cX9_lost 1 = .ok (.iload_n 1, 1) := by decide +kernel
theorem dX9_lost_2 : decode cX9_lost 2 = .ok (.invokevirtual 227, 3) := by decide +kernel
theorem dX9_lost_5 : decode cX9_lost 5 = .ok (.ifCond .ne 5, 3) := by decide +kernel
theorem dX9_lost_8 : decode cX9_lost 8 = .ok (.iconst (-1), 1) := by decide +kernel
theorem dX9_lost_9 : decode cX9_lost 9 = .ok (.ireturn, 1) := by decide +kernel
theorem dX9_lost_10 : decode cX9_lost 10 = .ok (.aload_n 0, 1) := by decide +kernel
theorem dX9_lost_11 : decode cX9_lost 11 = .ok (.invokevirtual 224, 3) := by decide +kernel
theorem dX9_lost_14 : decode cX9_lost 14 = .ok (.istore_n 2, 1) := by decide +kernel
theorem dX9_lost_15 : decode cX9_lost 15 = .ok (.iload_n 2, 1) := by decide +kernel
theorem dX9_lost_16 : decode cX9_lost 16 = .ok (.bipush (-6), 2) := by decide +kernel
theorem dX9_lost_18 : decode cX9_lost 18 = .ok (.if_icmp .eq 7, 3) := by decide +kernel
theorem dX9_lost_21 : decode cX9_lost 21 = .ok (.iload_n 2, 1) := by decide +kernel
theorem dX9_lost_22 : decode cX9_lost 22 = .ok (.goto 9, 3) := by decide +kernel
theorem dX9_lost_25 : decode cX9_lost 25 = .ok (.aload_n 0, 1) := by decide +kernel
theorem dX9_lost_26 : decode cX9_lost 26 = .ok (.getfield 49, 3) := by decide +kernel
theorem dX9_lost_29 : decode cX9_lost 29 = .ok (.iload_n 1, 1) := by decide +kernel
theorem dX9_lost_30 : decode cX9_lost 30 = .ok (.iaload, 1) := by decide +kernel
theorem dX9_lost_31 : decode cX9_lost 31 = .ok (.ireturn, 1) := by decide +kernel
theorem dX9_done_0 : decode cX9_done 0 = .ok (.aload_n 0, 1) := by decide +kernel
theorem dX9_done_1 : decode cX9_done 1 = .ok (.invokevirtual 224, 3) := by decide +kernel
theorem dX9_done_4 : decode cX9_done 4 = .ok (.istore_n 1, 1) := by decide +kernel
theorem dX9_done_5 : decode cX9_done 5 = .ok (.iload_n 1, 1) := by decide +kernel
theorem dX9_done_6 : decode cX9_done 6 = .ok (.bipush (-6), 2) := by decide +kernel
theorem dX9_done_8 : decode cX9_done 8 = .ok (.if_icmp .eq 5, 3) := by decide +kernel
theorem dX9_done_11 : decode cX9_done 11 = .ok (.iload_n 1, 1) := by decide +kernel
theorem dX9_done_12 : decode cX9_done 12 = .ok (.ireturn, 1) := by decide +kernel
theorem dX9_done_13 : decode cX9_done 13 = .ok (.aload_n 0, 1) := by decide +kernel
theorem dX9_done_14 : decode cX9_done 14 = .ok (.aload_n 0, 1) := by decide +kernel
theorem dX9_done_15 : decode cX9_done 15 = .ok (.getfield 89, 3) := by decide +kernel
theorem dX9_done_18 : decode cX9_done 18 = .ok (.invokevirtual 210, 3) := by decide +kernel
theorem dX9_done_21 : decode cX9_done 21 = .ok (.aload_n 0, 1) := by decide +kernel
theorem dX9_done_22 : decode cX9_done 22 = .ok (.iconst 0, 1) := by decide +kernel
theorem dX9_done_23 : decode cX9_done 23 = .ok (.putfield 124, 3) := by decide +kernel
theorem dX9_done_26 : decode cX9_done 26 = .ok (.aload_n 0, 1) := by decide +kernel
theorem dX9_done_27 : decode cX9_done 27 = .ok (.getfield 127, 3) := by decide +kernel
theorem dX9_done_30 : decode cX9_done 30 = .ok (.ireturn, 1) := by decide +kernel
theorem dX9_state_0 : decode cX9_state 0 = .ok (.aload_n 0, 1) := by decide +kernel
theorem dX9_state_1 : decode cX9_state 1 = .ok (.iload_n 1, 1) := by decide +kernel
theorem dX9_state_2 : decode cX9_state 2 = .ok (.invokevirtual 227, 3) := by decide +kernel
theorem dX9_state_5 : decode cX9_state 5 = .ok (.ifCond .ne 5, 3) := by decide +kernel
theorem dX9_state_8 : decode cX9_state 8 = .ok (.iconst (-1), 1) := by decide +kernel
theorem dX9_state_9 : decode cX9_state 9 = .ok (.ireturn, 1) := by decide +kernel
theorem dX9_state_10 : decode cX9_state 10 = .ok (.iload_n 2, 1) := by decide +kernel
theorem dX9_state_11 : decode cX9_state 11 = .ok (.ifCond .ne 12, 3) := by decide +kernel
theorem dX9_state_14 : decode cX9_state 14 = .ok (.aload_n 0, 1) := by decide +kernel
theorem dX9_state_15 : decode cX9_state 15 = .ok (.getfield 13, 3) := by decide +kernel
theorem dX9_state_18 : decode cX9_state 18 = .ok (.iload_n 1, 1) := by decide +kernel
theorem dX9_state_19 : decode cX9_state 19 = .ok (.iaload, 1) := by decide +kernel
theorem dX9_state_20 : decode cX9_state 20 = .ok (.goto 33, 3) := by decide +kernel
theorem dX9_state_23 : decode cX9_state 23 = .ok (.iload_n 2, 1) := by decide +kernel
theorem dX9_state_24 : decode cX9_state 24 = .ok (.iconst 1, 1) := by decide +kernel
theorem dX9_state_25 : decode cX9_state 25 = .ok (.if_icmp .ne 12, 3) := by decide +kernel
theorem dX9_state_28 : decode cX9_state 28 = .ok (.aload_n 0, 1) := by decide +kernel
theorem dX9_state_29 : decode cX9_state 29 = .ok (.getfield 16, 3) := by decide +kernel
theorem dX9_state_32 : decode cX9_state 32 = .ok (.iload_n 1, 1) := by decide +kernel
theorem dX9_state_33 : decode cX9_state 33 = .ok (.iaload, 1) := by decide +kernel
theorem dX9_state_34 : decode cX9_state 34 = .ok (.goto 19, 3) := by decide +kernel
theorem dX9_state_37 : decode cX9_state 37 = .ok (.iload_n 2, 1) := by decide +kernel
theorem dX9_state_38 : decode cX9_state 38 = .ok (.iconst 2, 1) := by decide +kernel
theorem dX9_state_39 : decode cX9_state 39 = .ok (.if_icmp .ne 12, 3) := by decide +kernel
theorem dX9_state_42 : decode cX9_state 42 = .ok (.aload_n 0, 1) := by decide +kernel
theorem dX9_state_43 : decode cX9_state 43 = .ok (.getfield 19, 3) := by decide +kernel
theorem dX9_state_46 : decode cX9_state 46 = .ok (.iload_n 1, 1) := by decide +kernel
theorem dX9_state_47 : decode cX9_state 47 = .ok (.iaload, 1) := by decide +kernel
theorem dX9_state_48 : decode cX9_state 48 = .ok (.goto 5, 3) := by decide +kernel
theorem dX9_state_51 : decode cX9_state 51 = .ok (.bipush (-2), 2) := by decide +kernel
theorem dX9_state_53 : decode cX9_state 53 = .ok (.ireturn, 1) := by decide +kernel
theorem dX9_canTell_0 : decode cX9_canTell 0 = .ok (.iconst 0, 1) := by decide +kernel
theorem dX9_canTell_1 : decode cX9_canTell 1 = .ok (.istore_n 1, 1) := by decide +kernel
theorem dX9_canTell_2 : decode cX9_canTell 2 = .ok (.iconst 0, 1) := by decide +kernel
theorem dX9_canTell_3 : decode cX9_canTell 3 = .ok (.istore_n 2, 1) := by decide +kernel
theorem dX9_canTell_4 : decode cX9_canTell 4 = .ok (.iload_n 2, 1) := by decide +kernel
theorem dX9_canTell_5 : decode cX9_canTell 5 = .ok (.bipush 6, 2) := by decide +kernel
theorem dX9_canTell_7 : decode cX9_canTell 7 = .ok (.if_icmp .ge 29, 3) := by decide +kernel
theorem dX9_canTell_10 : decode cX9_canTell 10 = .ok (.iload_n 1, 1) := by decide +kernel
theorem dX9_canTell_11 : decode cX9_canTell 11 = .ok (.ifCond .ne 13, 3) := by decide +kernel
theorem dX9_canTell_14 : decode cX9_canTell 14 = .ok (.aload_n 0, 1) := by decide +kernel
theorem dX9_canTell_15 : decode cX9_canTell 15 = .ok (.getfield 7, 3) := by decide +kernel
theorem dX9_canTell_18 : decode cX9_canTell 18 = .ok (.iload_n 2, 1) := by decide +kernel
theorem dX9_canTell_19 : decode cX9_canTell 19 = .ok (.iaload, 1) := by decide +kernel
theorem dX9_canTell_20 : decode cX9_canTell 20 = .ok (.iconst 2, 1) := by decide +kernel
theorem dX9_canTell_21 : decode cX9_canTell 21 = .ok (.if_icmp .eq 7, 3) := by decide +kernel
theorem dX9_canTell_24 : decode cX9_canTell 24 = .ok (.iconst 1, 1) := by decide +kernel
theorem dX9_canTell_25 : decode cX9_canTell 25 = .ok (.goto 4, 3) := by decide +kernel
theorem dX9_canTell_28 : decode cX9_canTell 28 = .ok (.iconst 0, 1) := by decide +kernel
theorem dX9_canTell_29 : decode cX9_canTell 29 = .ok (.istore_n 1, 1) := by decide +kernel
theorem dX9_canTell_30 : decode cX9_canTell 30 = .ok (.iinc 2 1, 3) := by decide +kernel
theorem dX9_canTell_33 : decode cX9_canTell 33 = .ok (.goto (-29), 3) := by decide +kernel
theorem dX9_canTell_36 : decode cX9_canTell 36 = .ok (.iload_n 1, 1) := by decide +kernel
theorem dX9_canTell_37 : decode cX9_canTell 37 = .ok (.ireturn, 1) := by decide +kernel
theorem dX9_alikeUpTo_0 : decode cX9_alikeUpTo 0 = .ok (.iconst 0, 1) := by decide +kernel
theorem dX9_alikeUpTo_1 : decode cX9_alikeUpTo 1 = .ok (.istore_n 2, 1) := by decide +kernel
theorem dX9_alikeUpTo_2 : decode cX9_alikeUpTo 2 = .ok (.iload_n 2, 1) := by decide +kernel
theorem dX9_alikeUpTo_3 : decode cX9_alikeUpTo 3 = .ok (.iload_n 1, 1) := by decide +kernel
theorem dX9_alikeUpTo_4 : decode cX9_alikeUpTo 4 = .ok (.if_icmp .ge 47, 3) := by decide +kernel
theorem dX9_alikeUpTo_7 : decode cX9_alikeUpTo 7 = .ok (.iload_n 2, 1) := by decide +kernel
theorem dX9_alikeUpTo_8 : decode cX9_alikeUpTo 8 = .ok (.aload_n 0, 1) := by decide +kernel
theorem dX9_alikeUpTo_9 : decode cX9_alikeUpTo 9 = .ok (.getfield 92, 3) := by decide +kernel
theorem dX9_alikeUpTo_12 : decode cX9_alikeUpTo 12 = .ok (.if_icmp .ge 39, 3) := by decide +kernel
theorem dX9_alikeUpTo_15 : decode cX9_alikeUpTo 15 = .ok (.aload_n 0, 1) := by decide +kernel
theorem dX9_alikeUpTo_16 : decode cX9_alikeUpTo 16 = .ok (.getfield 13, 3) := by decide +kernel
theorem dX9_alikeUpTo_19 : decode cX9_alikeUpTo 19 = .ok (.iload_n 2, 1) := by decide +kernel
theorem dX9_alikeUpTo_20 : decode cX9_alikeUpTo 20 = .ok (.iaload, 1) := by decide +kernel
theorem dX9_alikeUpTo_21 : decode cX9_alikeUpTo 21 = .ok (.aload_n 0, 1) := by decide +kernel
theorem dX9_alikeUpTo_22 : decode cX9_alikeUpTo 22 = .ok (.getfield 43, 3) := by decide +kernel
theorem dX9_alikeUpTo_25 : decode cX9_alikeUpTo 25 = .ok (.iload_n 2, 1) := by decide +kernel
theorem dX9_alikeUpTo_26 : decode cX9_alikeUpTo 26 = .ok (.iaload, 1) := by decide +kernel
theorem dX9_alikeUpTo_27 : decode cX9_alikeUpTo 27 = .ok (.if_icmp .ne 24, 3) := by decide +kernel
theorem dX9_alikeUpTo_30 : decode cX9_alikeUpTo 30 = .ok (.aload_n 0, 1) := by decide +kernel
theorem dX9_alikeUpTo_31 : decode cX9_alikeUpTo 31 = .ok (.getfield 16, 3) := by decide +kernel
theorem dX9_alikeUpTo_34 : decode cX9_alikeUpTo 34 = .ok (.iload_n 2, 1) := by decide +kernel
theorem dX9_alikeUpTo_35 : decode cX9_alikeUpTo 35 = .ok (.iaload, 1) := by decide +kernel
theorem dX9_alikeUpTo_36 : decode cX9_alikeUpTo 36 = .ok (.aload_n 0, 1) := by decide +kernel
theorem dX9_alikeUpTo_37 : decode cX9_alikeUpTo 37 = .ok (.getfield 46, 3) := by decide +kernel
theorem dX9_alikeUpTo_40 : decode cX9_alikeUpTo 40 = .ok (.iload_n 2, 1) := by decide +kernel
theorem dX9_alikeUpTo_41 : decode cX9_alikeUpTo 41 = .ok (.iaload, 1) := by decide +kernel
theorem dX9_alikeUpTo_42 : decode cX9_alikeUpTo 42 = .ok (.if_icmp .ne 9, 3) := by decide +kernel
theorem dX9_alikeUpTo_45 : decode cX9_alikeUpTo 45 = .ok (.iinc 2 1, 3) := by decide +kernel
theorem dX9_alikeUpTo_48 : decode cX9_alikeUpTo 48 = .ok (.goto (-46), 3) := by decide +kernel
theorem dX9_alikeUpTo_51 : decode cX9_alikeUpTo 51 = .ok (.iload_n 2, 1) := by decide +kernel
theorem dX9_alikeUpTo_52 : decode cX9_alikeUpTo 52 = .ok (.ireturn, 1) := by decide +kernel
theorem dX9_findDown_0 : decode cX9_findDown 0 = .ok (.iconst 0, 1) := by decide +kernel
theorem dX9_findDown_1 : decode cX9_findDown 1 = .ok (.istore_n 1, 1) := by decide +kernel
theorem dX9_findDown_2 : decode cX9_findDown 2 = .ok (.iload_n 1, 1) := by decide +kernel
theorem dX9_findDown_3 : decode cX9_findDown 3 = .ok (.bipush 30, 2) := by decide +kernel
theorem dX9_findDown_5 : decode cX9_findDown 5 = .ok (.if_icmp .gt 29, 3) := by decide +kernel
theorem dX9_findDown_8 : decode cX9_findDown 8 = .ok (.aload_n 0, 1) := by decide +kernel
theorem dX9_findDown_9 : decode cX9_findDown 9 = .ok (.getfield 58, 3) := by decide +kernel
theorem dX9_findDown_12 : decode cX9_findDown 12 = .ok (.iload_n 1, 1) := by decide +kernel
theorem dX9_findDown_13 : decode cX9_findDown 13 = .ok (.iload_n 1, 1) := by decide +kernel
theorem dX9_findDown_14 : decode cX9_findDown 14 = .ok (.aload_n 0, 1) := by decide +kernel
theorem dX9_findDown_15 : decode cX9_findDown 15 = .ok (.getfield 92, 3) := by decide +kernel
theorem dX9_findDown_18 : decode cX9_findDown 18 = .ok (.if_icmp .ne 7, 3) := by decide +kernel
theorem dX9_findDown_21 : decode cX9_findDown 21 = .ok (.iconst 0, 1) := by decide +kernel
theorem dX9_findDown_22 : decode cX9_findDown 22 = .ok (.goto 5, 3) := by decide +kernel
theorem dX9_findDown_25 : decode cX9_findDown 25 = .ok (.ldc 230, 2) := by decide +kernel
theorem dX9_findDown_27 : decode cX9_findDown 27 = .ok (.iastore, 1) := by decide +kernel
theorem dX9_findDown_28 : decode cX9_findDown 28 = .ok (.iinc 1 1, 3) := by decide +kernel
theorem dX9_findDown_31 : decode cX9_findDown 31 = .ok (.goto (-29), 3) := by decide +kernel
theorem dX9_findDown_34 : decode cX9_findDown 34 = .ok (.aload_n 0, 1) := by decide +kernel
theorem dX9_findDown_35 : decode cX9_findDown 35 = .ok (.invokevirtual 231, 3) := by decide +kernel
theorem dX9_findDown_38 : decode cX9_findDown 38 = .ok (.istore_n 1, 1) := by decide +kernel
theorem dX9_findDown_39 : decode cX9_findDown 39 = .ok (.aload_n 0, 1) := by decide +kernel
theorem dX9_findDown_40 : decode cX9_findDown 40 = .ok (.getfield 92, 3) := by decide +kernel
theorem dX9_findDown_43 : decode cX9_findDown 43 = .ok (.istore_n 2, 1) := by decide +kernel
theorem dX9_findDown_44 : decode cX9_findDown 44 = .ok (.iload_n 2, 1) := by decide +kernel
theorem dX9_findDown_45 : decode cX9_findDown 45 = .ok (.ifCond .le 118, 3) := by decide +kernel
theorem dX9_findDown_48 : decode cX9_findDown 48 = .ok (.iload_n 2, 1) := by decide +kernel
theorem dX9_findDown_49 : decode cX9_findDown 49 = .ok (.iconst 1, 1) := by decide +kernel
theorem dX9_findDown_50 : decode cX9_findDown 50 = .ok (.isub, 1) := by decide +kernel
theorem dX9_findDown_51 : decode cX9_findDown 51 = .ok (.istore_n 3, 1) := by decide +kernel
theorem dX9_findDown_52 : decode cX9_findDown 52 = .ok (.iload_n 3, 1) := by decide +kernel
theorem dX9_findDown_53 : decode cX9_findDown 53 = .ok (.ifCond .le 28, 3) := by decide +kernel
theorem dX9_findDown_56 : decode cX9_findDown 56 = .ok (.aload_n 0, 1) := by decide +kernel
theorem dX9_findDown_57 : decode cX9_findDown 57 = .ok (.getfield 13, 3) := by decide +kernel
theorem dX9_findDown_60 : decode cX9_findDown 60 = .ok (.iload_n 3, 1) := by decide +kernel
theorem dX9_findDown_61 : decode cX9_findDown 61 = .ok (.iconst 1, 1) := by decide +kernel
theorem dX9_findDown_62 : decode cX9_findDown 62 = .ok (.isub, 1) := by decide +kernel
theorem dX9_findDown_63 : decode cX9_findDown 63 = .ok (.iaload, 1) := by decide +kernel
theorem dX9_findDown_64 : decode cX9_findDown 64 = .ok (.aload_n 0, 1) := by decide +kernel
theorem dX9_findDown_65 : decode cX9_findDown 65 = .ok (.getfield 13, 3) := by decide +kernel
theorem dX9_findDown_68 : decode cX9_findDown 68 = .ok (.iload_n 2, 1) := by decide +kernel
theorem dX9_findDown_69 : decode cX9_findDown 69 = .ok (.iconst 1, 1) := by decide +kernel
theorem dX9_findDown_70 : decode cX9_findDown 70 = .ok (.isub, 1) := by decide +kernel
theorem dX9_findDown_71 : decode cX9_findDown 71 = .ok (.iaload, 1) := by decide +kernel
theorem dX9_findDown_72 : decode cX9_findDown 72 = .ok (.if_icmp .ne 9, 3) := by decide +kernel
theorem dX9_findDown_75 : decode cX9_findDown 75 = .ok (.iinc 3 (-1), 3) := by decide +kernel
theorem dX9_findDown_78 : decode cX9_findDown 78 = .ok (.goto (-26), 3) := by decide +kernel
theorem dX9_findDown_81 : decode cX9_findDown 81 = .ok (.aload_n 0, 1) := by decide +kernel
theorem dX9_findDown_82 : decode cX9_findDown 82 = .ok (.getfield 58, 3) := by decide +kernel
theorem dX9_findDown_85 : decode cX9_findDown 85 = .ok (.iload_n 2, 1) := by decide +kernel
theorem dX9_findDown_86 : decode cX9_findDown 86 = .ok (.iaload, 1) := by decide +kernel
theorem dX9_findDown_87 : decode cX9_findDown 87 = .ok (.iconst 1, 1) := by decide +kernel
theorem dX9_findDown_88 : decode cX9_findDown 88 = .ok (.iadd, 1) := by decide +kernel
theorem dX9_findDown_89 : decode cX9_findDown 89 = .ok (.istore 4, 2) := by decide +kernel
theorem dX9_findDown_91 : decode cX9_findDown 91 = .ok (.aload_n 0, 1) := by decide +kernel
theorem dX9_findDown_92 : decode cX9_findDown 92 = .ok (.getfield 58, 3) := by decide +kernel
theorem dX9_findDown_95 : decode cX9_findDown 95 = .ok (.iload_n 3, 1) := by decide +kernel
theorem dX9_findDown_96 : decode cX9_findDown 96 = .ok (.iload 4, 2) := by decide +kernel
theorem dX9_findDown_98 : decode cX9_findDown 98 = .ok (.aload_n 0, 1) := by decide +kernel
theorem dX9_findDown_99 : decode cX9_findDown 99 = .ok (.getfield 58, 3) := by decide +kernel
theorem dX9_findDown_102 : decode cX9_findDown 102 = .ok (.iload_n 3, 1) := by decide +kernel
theorem dX9_findDown_103 : decode cX9_findDown 103 = .ok (.iaload, 1) := by decide +kernel
theorem dX9_findDown_104 : decode cX9_findDown 104 = .ok (.if_icmp .ge 8, 3) := by decide +kernel
theorem dX9_findDown_107 : decode cX9_findDown 107 = .ok (.iload 4, 2) := by decide +kernel
theorem dX9_findDown_109 : decode cX9_findDown 109 = .ok (.goto 9, 3) := by decide +kernel
theorem dX9_findDown_112 : decode cX9_findDown 112 = .ok (.aload_n 0, 1) := by decide +kernel
theorem dX9_findDown_113 : decode cX9_findDown 113 = .ok (.getfield 58, 3) := by decide +kernel
theorem dX9_findDown_116 : decode cX9_findDown 116 = .ok (.iload_n 3, 1) := by decide +kernel
theorem dX9_findDown_117 : decode cX9_findDown 117 = .ok (.iaload, 1) := by decide +kernel
theorem dX9_findDown_118 : decode cX9_findDown 118 = .ok (.iastore, 1) := by decide +kernel
theorem dX9_findDown_119 : decode cX9_findDown 119 = .ok (.aload_n 0, 1) := by decide +kernel
theorem dX9_findDown_120 : decode cX9_findDown 120 = .ok (.getfield 58, 3) := by decide +kernel
theorem dX9_findDown_123 : decode cX9_findDown 123 = .ok (.iload_n 2, 1) := by decide +kernel
theorem dX9_findDown_124 : decode cX9_findDown 124 = .ok (.iconst 1, 1) := by decide +kernel
theorem dX9_findDown_125 : decode cX9_findDown 125 = .ok (.isub, 1) := by decide +kernel
theorem dX9_findDown_126 : decode cX9_findDown 126 = .ok (.iload_n 1, 1) := by decide +kernel
theorem dX9_findDown_127 : decode cX9_findDown 127 = .ok (.ifCond .eq 21, 3) := by decide +kernel
theorem dX9_findDown_130 : decode cX9_findDown 130 = .ok (.iload 4, 2) := by decide +kernel
theorem dX9_findDown_132 : decode cX9_findDown 132 = .ok (.aload_n 0, 1) := by decide +kernel
theorem dX9_findDown_133 : decode cX9_findDown 133 = .ok (.getfield 58, 3) := by decide +kernel
theorem dX9_findDown_136 : decode cX9_findDown 136 = .ok (.iload_n 2, 1) := by decide +kernel
theorem dX9_findDown_137 : decode cX9_findDown 137 = .ok (.iconst 1, 1) := by decide +kernel
theorem dX9_findDown_138 : decode cX9_findDown 138 = .ok (.isub, 1) := by decide +kernel
theorem dX9_findDown_139 : decode cX9_findDown 139 = .ok (.iaload, 1) := by decide +kernel
theorem dX9_findDown_140 : decode cX9_findDown 140 = .ok (.if_icmp .ge 8, 3) := by decide +kernel
theorem dX9_findDown_143 : decode cX9_findDown 143 = .ok (.iload 4, 2) := by decide +kernel
theorem dX9_findDown_145 : decode cX9_findDown 145 = .ok (.goto 11, 3) := by decide +kernel
theorem dX9_findDown_148 : decode cX9_findDown 148 = .ok (.aload_n 0, 1) := by decide +kernel
theorem dX9_findDown_149 : decode cX9_findDown 149 = .ok (.getfield 58, 3) := by decide +kernel
theorem dX9_findDown_152 : decode cX9_findDown 152 = .ok (.iload_n 2, 1) := by decide +kernel
theorem dX9_findDown_153 : decode cX9_findDown 153 = .ok (.iconst 1, 1) := by decide +kernel
theorem dX9_findDown_154 : decode cX9_findDown 154 = .ok (.isub, 1) := by decide +kernel
theorem dX9_findDown_155 : decode cX9_findDown 155 = .ok (.iaload, 1) := by decide +kernel
theorem dX9_findDown_156 : decode cX9_findDown 156 = .ok (.iastore, 1) := by decide +kernel
theorem dX9_findDown_157 : decode cX9_findDown 157 = .ok (.iinc 2 (-1), 3) := by decide +kernel
theorem dX9_findDown_160 : decode cX9_findDown 160 = .ok (.goto (-116), 3) := by decide +kernel
theorem dX9_findDown_163 : decode cX9_findDown 163 = .ok (.return_, 1) := by decide +kernel
theorem dX9_building_0 : decode cX9_building 0 = .ok (.iload_n 1, 1) := by decide +kernel
theorem dX9_building_1 : decode cX9_building 1 = .ok (.iload_n 2, 1) := by decide +kernel
theorem dX9_building_2 : decode cX9_building 2 = .ok (.if_icmp .ge 13, 3) := by decide +kernel
theorem dX9_building_5 : decode cX9_building 5 = .ok (.aload_n 0, 1) := by decide +kernel
theorem dX9_building_6 : decode cX9_building 6 = .ok (.getfield 95, 3) := by decide +kernel
theorem dX9_building_9 : decode cX9_building 9 = .ok (.ifCond .ne 6, 3) := by decide +kernel
theorem dX9_building_12 : decode cX9_building 12 = .ok (.ldc 230, 2) := by decide +kernel
theorem dX9_building_14 : decode cX9_building 14 = .ok (.ireturn, 1) := by decide +kernel
theorem dX9_building_15 : decode cX9_building 15 = .ok (.iconst 0, 1) := by decide +kernel
theorem dX9_building_16 : decode cX9_building 16 = .ok (.istore_n 3, 1) := by decide +kernel
theorem dX9_building_17 : decode cX9_building 17 = .ok (.iconst 0, 1) := by decide +kernel
theorem dX9_building_18 : decode cX9_building 18 = .ok (.istore 4, 2) := by decide +kernel
theorem dX9_building_20 : decode cX9_building 20 = .ok (.iload_n 1, 1) := by decide +kernel
theorem dX9_building_21 : decode cX9_building 21 = .ok (.istore 5, 2) := by decide +kernel
theorem dX9_building_23 : decode cX9_building 23 = .ok (.iload 5, 2) := by decide +kernel
theorem dX9_building_25 : decode cX9_building 25 = .ok (.iload_n 2, 1) := by decide +kernel
theorem dX9_building_26 : decode cX9_building 26 = .ok (.if_icmp .ge 125, 3) := by decide +kernel
theorem dX9_building_29 : decode cX9_building 29 = .ok (.aload_n 0, 1) := by decide +kernel
theorem dX9_building_30 : decode cX9_building 30 = .ok (.getfield 46, 3) := by decide +kernel
theorem dX9_building_33 : decode cX9_building 33 = .ok (.iload 5, 2) := by decide +kernel
theorem dX9_building_35 : decode cX9_building 35 = .ok (.iaload, 1) := by decide +kernel
theorem dX9_building_36 : decode cX9_building 36 = .ok (.iconst 2, 1) := by decide +kernel
theorem dX9_building_37 : decode cX9_building 37 = .ok (.if_icmp .eq 7, 3) := by decide +kernel
theorem dX9_building_40 : decode cX9_building 40 = .ok (.iconst 1, 1) := by decide +kernel
theorem dX9_building_41 : decode cX9_building 41 = .ok (.goto 4, 3) := by decide +kernel
theorem dX9_building_44 : decode cX9_building 44 = .ok (.iconst 0, 1) := by decide +kernel
theorem dX9_building_45 : decode cX9_building 45 = .ok (.istore 6, 2) := by decide +kernel
theorem dX9_building_47 : decode cX9_building 47 = .ok (.iload 5, 2) := by decide +kernel
theorem dX9_building_49 : decode cX9_building 49 = .ok (.iload_n 1, 1) := by decide +kernel
theorem dX9_building_50 : decode cX9_building 50 = .ok (.if_icmp .le 26, 3) := by decide +kernel
theorem dX9_building_53 : decode cX9_building 53 = .ok (.aload_n 0, 1) := by decide +kernel
theorem dX9_building_54 : decode cX9_building 54 = .ok (.getfield 43, 3) := by decide +kernel
theorem dX9_building_57 : decode cX9_building 57 = .ok (.iload 5, 2) := by decide +kernel
theorem dX9_building_59 : decode cX9_building 59 = .ok (.iconst 1, 1) := by decide +kernel
theorem dX9_building_60 : decode cX9_building 60 = .ok (.isub, 1) := by decide +kernel
theorem dX9_building_61 : decode cX9_building 61 = .ok (.iaload, 1) := by decide +kernel
theorem dX9_building_62 : decode cX9_building 62 = .ok (.aload_n 0, 1) := by decide +kernel
theorem dX9_building_63 : decode cX9_building 63 = .ok (.getfield 43, 3) := by decide +kernel
theorem dX9_building_66 : decode cX9_building 66 = .ok (.iload 5, 2) := by decide +kernel
theorem dX9_building_68 : decode cX9_building 68 = .ok (.iaload, 1) := by decide +kernel
theorem dX9_building_69 : decode cX9_building 69 = .ok (.if_icmp .ne 7, 3) := by decide +kernel
theorem dX9_building_72 : decode cX9_building 72 = .ok (.iconst 1, 1) := by decide +kernel
theorem dX9_building_73 : decode cX9_building 73 = .ok (.goto 4, 3) := by decide +kernel
theorem dX9_building_76 : decode cX9_building 76 = .ok (.iconst 0, 1) := by decide +kernel
theorem dX9_building_77 : decode cX9_building 77 = .ok (.istore 7, 2) := by decide +kernel
theorem dX9_building_79 : decode cX9_building 79 = .ok (.iload 6, 2) := by decide +kernel
theorem dX9_building_81 : decode cX9_building 81 = .ok (.ifCond .eq 19, 3) := by decide +kernel
theorem dX9_building_84 : decode cX9_building 84 = .ok (.aload_n 0, 1) := by decide +kernel
theorem dX9_building_85 : decode cX9_building 85 = .ok (.getfield 7, 3) := by decide +kernel
theorem dX9_building_88 : decode cX9_building 88 = .ok (.aload_n 0, 1) := by decide +kernel
theorem dX9_building_89 : decode cX9_building 89 = .ok (.getfield 43, 3) := by decide +kernel
theorem dX9_building_92 : decode cX9_building 92 = .ok (.iload 5, 2) := by decide +kernel
theorem dX9_building_94 : decode cX9_building 94 = .ok (.iaload, 1) := by decide +kernel
theorem dX9_building_95 : decode cX9_building 95 = .ok (.iaload, 1) := by decide +kernel
theorem dX9_building_96 : decode cX9_building 96 = .ok (.iconst 1, 1) := by decide +kernel
theorem dX9_building_97 : decode cX9_building 97 = .ok (.if_icmp .eq 19, 3) := by decide +kernel
theorem dX9_building_100 : decode cX9_building 100 = .ok (.aload_n 0, 1) := by decide +kernel
theorem dX9_building_101 : decode cX9_building 101 = .ok (.getfield 46, 3) := by decide +kernel
theorem dX9_building_104 : decode cX9_building 104 = .ok (.iload 5, 2) := by decide +kernel
theorem dX9_building_106 : decode cX9_building 106 = .ok (.iaload, 1) := by decide +kernel
theorem dX9_building_107 : decode cX9_building 107 = .ok (.iconst 1, 1) := by decide +kernel
theorem dX9_building_108 : decode cX9_building 108 = .ok (.if_icmp .ne 11, 3) := by decide +kernel
theorem dX9_building_111 : decode cX9_building 111 = .ok (.iload 7, 2) := by decide +kernel
theorem dX9_building_113 : decode cX9_building 113 = .ok (.ifCond .ne 6, 3) := by decide +kernel
theorem dX9_building_116 : decode cX9_building 116 = .ok (.ldc 230, 2) := by decide +kernel
theorem dX9_building_118 : decode cX9_building 118 = .ok (.ireturn, 1) := by decide +kernel
theorem dX9_building_119 : decode cX9_building 119 = .ok (.iload_n 3, 1) := by decide +kernel
theorem dX9_building_120 : decode cX9_building 120 = .ok (.aload_n 0, 1) := by decide +kernel
theorem dX9_building_121 : decode cX9_building 121 = .ok (.getfield 46, 3) := by decide +kernel
theorem dX9_building_124 : decode cX9_building 124 = .ok (.iload 5, 2) := by decide +kernel
theorem dX9_building_126 : decode cX9_building 126 = .ok (.iaload, 1) := by decide +kernel
theorem dX9_building_127 : decode cX9_building 127 = .ok (.ifCond .ne 12, 3) := by decide +kernel
theorem dX9_building_130 : decode cX9_building 130 = .ok (.iload 7, 2) := by decide +kernel
theorem dX9_building_132 : decode cX9_building 132 = .ok (.ifCond .eq 7, 3) := by decide +kernel
theorem dX9_building_135 : decode cX9_building 135 = .ok (.iconst 1, 1) := by decide +kernel
theorem dX9_building_136 : decode cX9_building 136 = .ok (.goto 4, 3) := by decide +kernel
theorem dX9_building_139 : decode cX9_building 139 = .ok (.iconst 0, 1) := by decide +kernel
theorem dX9_building_140 : decode cX9_building 140 = .ok (.iadd, 1) := by decide +kernel
theorem dX9_building_141 : decode cX9_building 141 = .ok (.istore_n 3, 1) := by decide +kernel
theorem dX9_building_142 : decode cX9_building 142 = .ok (.iinc 4 1, 3) := by decide +kernel
theorem dX9_building_145 : decode cX9_building 145 = .ok (.iinc 5 1, 3) := by decide +kernel
theorem dX9_building_148 : decode cX9_building 148 = .ok (.goto (-125), 3) := by decide +kernel
theorem dX9_building_151 : decode cX9_building 151 = .ok (.iload_n 3, 1) := by decide +kernel
theorem dX9_building_152 : decode cX9_building 152 = .ok (.aload_n 0, 1) := by decide +kernel
theorem dX9_building_153 : decode cX9_building 153 = .ok (.getfield 95, 3) := by decide +kernel
theorem dX9_building_156 : decode cX9_building 156 = .ok (.iconst 1, 1) := by decide +kernel
theorem dX9_building_157 : decode cX9_building 157 = .ok (.isub, 1) := by decide +kernel
theorem dX9_building_158 : decode cX9_building 158 = .ok (.if_icmp .ge 7, 3) := by decide +kernel
theorem dX9_building_161 : decode cX9_building 161 = .ok (.iload_n 3, 1) := by decide +kernel
theorem dX9_building_162 : decode cX9_building 162 = .ok (.goto 9, 3) := by decide +kernel
theorem dX9_building_165 : decode cX9_building 165 = .ok (.aload_n 0, 1) := by decide +kernel
theorem dX9_building_166 : decode cX9_building 166 = .ok (.getfield 95, 3) := by decide +kernel
theorem dX9_building_169 : decode cX9_building 169 = .ok (.iconst 1, 1) := by decide +kernel
theorem dX9_building_170 : decode cX9_building 170 = .ok (.isub, 1) := by decide +kernel
theorem dX9_building_171 : decode cX9_building 171 = .ok (.istore 5, 2) := by decide +kernel
theorem dX9_building_173 : decode cX9_building 173 = .ok (.iload 4, 2) := by decide +kernel
theorem dX9_building_175 : decode cX9_building 175 = .ok (.iload_n 3, 1) := by decide +kernel
theorem dX9_building_176 : decode cX9_building 176 = .ok (.ifCond .ne 7, 3) := by decide +kernel
theorem dX9_building_179 : decode cX9_building 179 = .ok (.iconst 0, 1) := by decide +kernel
theorem dX9_building_180 : decode cX9_building 180 = .ok (.goto 9, 3) := by decide +kernel
theorem dX9_building_183 : decode cX9_building 183 = .ok (.iconst 2, 1) := by decide +kernel
theorem dX9_building_184 : decode cX9_building 184 = .ok (.iload_n 3, 1) := by decide +kernel
theorem dX9_building_185 : decode cX9_building 185 = .ok (.imul, 1) := by decide +kernel
theorem dX9_building_186 : decode cX9_building 186 = .ok (.iload 5, 2) := by decide +kernel
theorem dX9_building_188 : decode cX9_building 188 = .ok (.isub, 1) := by decide +kernel
theorem dX9_building_189 : decode cX9_building 189 = .ok (.iadd, 1) := by decide +kernel
theorem dX9_building_190 : decode cX9_building 190 = .ok (.ireturn, 1) := by decide +kernel
theorem dX9_madeOf_0 : decode cX9_madeOf 0 = .ok (.aload_n 0, 1) := by decide +kernel
theorem dX9_madeOf_1 : decode cX9_madeOf 1 = .ok (.iload_n 1, 1) := by decide +kernel
theorem dX9_madeOf_2 : decode cX9_madeOf 2 = .ok (.invokevirtual 235, 3) := by decide +kernel
theorem dX9_madeOf_5 : decode cX9_madeOf 5 = .ok (.istore_n 2, 1) := by decide +kernel
theorem dX9_madeOf_6 : decode cX9_madeOf 6 = .ok (.aload_n 0, 1) := by decide +kernel
theorem dX9_madeOf_7 : decode cX9_madeOf 7 = .ok (.invokevirtual 238, 3) := by decide +kernel
theorem dX9_madeOf_10 : decode cX9_madeOf 10 = .ok (.ldc 230, 2) := by decide +kernel
theorem dX9_madeOf_12 : decode cX9_madeOf 12 = .ok (.istore_n 3, 1) := by decide +kernel
theorem dX9_madeOf_13 : decode cX9_madeOf 13 = .ok (.iconst 0, 1) := by decide +kernel
theorem dX9_madeOf_14 : decode cX9_madeOf 14 = .ok (.istore 4, 2) := by decide +kernel
theorem dX9_madeOf_16 : decode cX9_madeOf 16 = .ok (.iload 4, 2) := by decide +kernel
theorem dX9_madeOf_18 : decode cX9_madeOf 18 = .ok (.iload_n 2, 1) := by decide +kernel
theorem dX9_madeOf_19 : decode cX9_madeOf 19 = .ok (.if_icmp .gt 81, 3) := by decide +kernel
theorem dX9_madeOf_22 : decode cX9_madeOf 22 = .ok (.iload 4, 2) := by decide +kernel
theorem dX9_madeOf_24 : decode cX9_madeOf 24 = .ok (.aload_n 0, 1) := by decide +kernel
theorem dX9_madeOf_25 : decode cX9_madeOf 25 = .ok (.getfield 92, 3) := by decide +kernel
theorem dX9_madeOf_28 : decode cX9_madeOf 28 = .ok (.if_icmp .gt 72, 3) := by decide +kernel
theorem dX9_madeOf_31 : decode cX9_madeOf 31 = .ok (.aload_n 0, 1) := by decide +kernel
theorem dX9_madeOf_32 : decode cX9_madeOf 32 = .ok (.getfield 58, 3) := by decide +kernel
theorem dX9_madeOf_35 : decode cX9_madeOf 35 = .ok (.iload 4, 2) := by decide +kernel
theorem dX9_madeOf_37 : decode cX9_madeOf 37 = .ok (.iaload, 1) := by decide +kernel
theorem dX9_madeOf_38 : decode cX9_madeOf 38 = .ok (.ldc 230, 2) := by decide +kernel
theorem dX9_madeOf_40 : decode cX9_madeOf 40 = .ok (.if_icmp .ge 13, 3) := by decide +kernel
theorem dX9_madeOf_43 : decode cX9_madeOf 43 = .ok (.aload_n 0, 1) := by decide +kernel
theorem dX9_madeOf_44 : decode cX9_madeOf 44 = .ok (.iload 4, 2) := by decide +kernel
theorem dX9_madeOf_46 : decode cX9_madeOf 46 = .ok (.iload_n 1, 1) := by decide +kernel
theorem dX9_madeOf_47 : decode cX9_madeOf 47 = .ok (.invokevirtual 241, 3) := by decide +kernel
theorem dX9_madeOf_50 : decode cX9_madeOf 50 = .ok (.goto 5, 3) := by decide +kernel
theorem dX9_madeOf_53 : decode cX9_madeOf 53 = .ok (.ldc 230, 2) := by decide +kernel
theorem dX9_madeOf_55 : decode cX9_madeOf 55 = .ok (.istore 5, 2) := by decide +kernel
theorem dX9_madeOf_57 : decode cX9_madeOf 57 = .ok (.iload 5, 2) := by decide +kernel
theorem dX9_madeOf_59 : decode cX9_madeOf 59 = .ok (.ldc 230, 2) := by decide +kernel
theorem dX9_madeOf_61 : decode cX9_madeOf 61 = .ok (.if_icmp .ge 16, 3) := by decide +kernel
theorem dX9_madeOf_64 : decode cX9_madeOf 64 = .ok (.aload_n 0, 1) := by decide +kernel
theorem dX9_madeOf_65 : decode cX9_madeOf 65 = .ok (.getfield 58, 3) := by decide +kernel
theorem dX9_madeOf_68 : decode cX9_madeOf 68 = .ok (.iload 4, 2) := by decide +kernel
theorem dX9_madeOf_70 : decode cX9_madeOf 70 = .ok (.iaload, 1) := by decide +kernel
theorem dX9_madeOf_71 : decode cX9_madeOf 71 = .ok (.iload 5, 2) := by decide +kernel
theorem dX9_madeOf_73 : decode cX9_madeOf 73 = .ok (.iadd, 1) := by decide +kernel
theorem dX9_madeOf_74 : decode cX9_madeOf 74 = .ok (.goto 5, 3) := by decide +kernel
theorem dX9_madeOf_77 : decode cX9_madeOf 77 = .ok (.ldc 230, 2) := by decide +kernel
theorem dX9_madeOf_79 : decode cX9_madeOf 79 = .ok (.istore 6, 2) := by decide +kernel
theorem dX9_madeOf_81 : decode cX9_madeOf 81 = .ok (.iload 6, 2) := by decide +kernel
theorem dX9_madeOf_83 : decode cX9_madeOf 83 = .ok (.iload_n 3, 1) := by decide +kernel
theorem dX9_madeOf_84 : decode cX9_madeOf 84 = .ok (.if_icmp .ge 8, 3) := by decide +kernel
theorem dX9_madeOf_87 : decode cX9_madeOf 87 = .ok (.iload 6, 2) := by decide +kernel
theorem dX9_madeOf_89 : decode cX9_madeOf 89 = .ok (.goto 4, 3) := by decide +kernel
theorem dX9_madeOf_92 : decode cX9_madeOf 92 = .ok (.iload_n 3, 1) := by decide +kernel
theorem dX9_madeOf_93 : decode cX9_madeOf 93 = .ok (.istore_n 3, 1) := by decide +kernel
theorem dX9_madeOf_94 : decode cX9_madeOf 94 = .ok (.iinc 4 1, 3) := by decide +kernel
theorem dX9_madeOf_97 : decode cX9_madeOf 97 = .ok (.goto (-81), 3) := by decide +kernel
theorem dX9_madeOf_100 : decode cX9_madeOf 100 = .ok (.iload_n 3, 1) := by decide +kernel
theorem dX9_madeOf_101 : decode cX9_madeOf 101 = .ok (.ldc 230, 2) := by decide +kernel
theorem dX9_madeOf_103 : decode cX9_madeOf 103 = .ok (.if_icmp .ne 8, 3) := by decide +kernel
theorem dX9_madeOf_106 : decode cX9_madeOf 106 = .ok (.bipush (-6), 2) := by decide +kernel
theorem dX9_madeOf_108 : decode cX9_madeOf 108 = .ok (.goto 4, 3) := by decide +kernel
theorem dX9_madeOf_111 : decode cX9_madeOf 111 = .ok (.iload_n 3, 1) := by decide +kernel
theorem dX9_madeOf_112 : decode cX9_madeOf 112 = .ok (.ireturn, 1) := by decide +kernel
theorem dX9_made_0 : decode cX9_made 0 = .ok (.aload_n 0, 1) := by decide +kernel
theorem dX9_made_1 : decode cX9_made 1 = .ok (.invokevirtual 141, 3) := by decide +kernel
theorem dX9_made_4 : decode cX9_made 4 = .ok (.ifCond .lt 6, 3) := by decide +kernel
theorem dX9_made_7 : decode cX9_made 7 = .ok (.bipush (-5), 2) := by decide +kernel
theorem dX9_made_9 : decode cX9_made 9 = .ok (.ireturn, 1) := by decide +kernel
theorem dX9_made_10 : decode cX9_made 10 = .ok (.aload_n 0, 1) := by decide +kernel
theorem dX9_made_11 : decode cX9_made 11 = .ok (.getfield 134, 3) := by decide +kernel
theorem dX9_made_14 : decode cX9_made 14 = .ok (.bipush 30, 2) := by decide +kernel
theorem dX9_made_16 : decode cX9_made 16 = .ok (.if_icmp .le 8, 3) := by decide +kernel
theorem dX9_made_19 : decode cX9_made 19 = .ok (.bipush (-4), 2) := by decide +kernel
theorem dX9_made_21 : decode cX9_made 21 = .ok (.goto 11, 3) := by decide +kernel
theorem dX9_made_24 : decode cX9_made 24 = .ok (.aload_n 0, 1) := by decide +kernel
theorem dX9_made_25 : decode cX9_made 25 = .ok (.aload_n 0, 1) := by decide +kernel
theorem dX9_made_26 : decode cX9_made 26 = .ok (.getfield 134, 3) := by decide +kernel
theorem dX9_made_29 : decode cX9_made 29 = .ok (.invokevirtual 244, 3) := by decide +kernel
theorem dX9_made_32 : decode cX9_made 32 = .ok (.ireturn, 1) := by decide +kernel
theorem dX9_bars_0 : decode cX9_bars 0 = .ok (.aload_n 0, 1) := by decide +kernel
theorem dX9_bars_1 : decode cX9_bars 1 = .ok (.invokevirtual 141, 3) := by decide +kernel
theorem dX9_bars_4 : decode cX9_bars 4 = .ok (.ifCond .lt 6, 3) := by decide +kernel
theorem dX9_bars_7 : decode cX9_bars 7 = .ok (.bipush (-5), 2) := by decide +kernel
theorem dX9_bars_9 : decode cX9_bars 9 = .ok (.ireturn, 1) := by decide +kernel
theorem dX9_bars_10 : decode cX9_bars 10 = .ok (.aload_n 0, 1) := by decide +kernel
theorem dX9_bars_11 : decode cX9_bars 11 = .ok (.getfield 134, 3) := by decide +kernel
theorem dX9_bars_14 : decode cX9_bars 14 = .ok (.bipush 30, 2) := by decide +kernel
theorem dX9_bars_16 : decode cX9_bars 16 = .ok (.if_icmp .le 6, 3) := by decide +kernel
theorem dX9_bars_19 : decode cX9_bars 19 = .ok (.bipush (-4), 2) := by decide +kernel
theorem dX9_bars_21 : decode cX9_bars 21 = .ok (.ireturn, 1) := by decide +kernel
theorem dX9_bars_22 : decode cX9_bars 22 = .ok (.iconst 0, 1) := by decide +kernel
theorem dX9_bars_23 : decode cX9_bars 23 = .ok (.istore_n 1, 1) := by decide +kernel
theorem dX9_bars_24 : decode cX9_bars 24 = .ok (.iload_n 1, 1) := by decide +kernel
theorem dX9_bars_25 : decode cX9_bars 25 = .ok (.aload_n 0, 1) := by decide +kernel
theorem dX9_bars_26 : decode cX9_bars 26 = .ok (.getfield 134, 3) := by decide +kernel
theorem dX9_bars_29 : decode cX9_bars 29 = .ok (.if_icmp .ge 21, 3) := by decide +kernel
theorem dX9_bars_32 : decode cX9_bars 32 = .ok (.aload_n 0, 1) := by decide +kernel
theorem dX9_bars_33 : decode cX9_bars 33 = .ok (.iload_n 1, 1) := by decide +kernel
theorem dX9_bars_34 : decode cX9_bars 34 = .ok (.iconst 1, 1) := by decide +kernel
theorem dX9_bars_35 : decode cX9_bars 35 = .ok (.iadd, 1) := by decide +kernel
theorem dX9_bars_36 : decode cX9_bars 36 = .ok (.invokevirtual 244, 3) := by decide +kernel
theorem dX9_bars_39 : decode cX9_bars 39 = .ok (.ifCond .ge 5, 3) := by decide +kernel
theorem dX9_bars_42 : decode cX9_bars 42 = .ok (.iload_n 1, 1) := by decide +kernel
theorem dX9_bars_43 : decode cX9_bars 43 = .ok (.ireturn, 1) := by decide +kernel
theorem dX9_bars_44 : decode cX9_bars 44 = .ok (.iinc 1 1, 3) := by decide +kernel
theorem dX9_bars_47 : decode cX9_bars 47 = .ok (.goto (-23), 3) := by decide +kernel
theorem dX9_bars_50 : decode cX9_bars 50 = .ok (.bipush (-6), 2) := by decide +kernel
theorem dX9_bars_52 : decode cX9_bars 52 = .ok (.ireturn, 1) := by decide +kernel
theorem dX9_seen_0 : decode cX9_seen 0 = .ok (.iload_n 1, 1) := by decide +kernel
theorem dX9_seen_1 : decode cX9_seen 1 = .ok (.i2l, 1) := by decide +kernel
theorem dX9_seen_2 : decode cX9_seen 2 = .ok (.lconst 0, 1) := by decide +kernel
theorem dX9_seen_3 : decode cX9_seen 3 = .ok (.ldc2_w 247, 3) := by decide +kernel
theorem dX9_seen_6 : decode cX9_seen 6 = .ok (.invokestatic 101, 3) := by decide +kernel
theorem dX9_seen_9 : decode cX9_seen 9 = .ok (.ifCond .eq 15, 3) := by decide +kernel
theorem dX9_seen_12 : decode cX9_seen 12 = .ok (.iload_n 2, 1) := by decide +kernel
theorem dX9_seen_13 : decode cX9_seen 13 = .ok (.i2l, 1) := by decide +kernel
theorem dX9_seen_14 : decode cX9_seen 14 = .ok (.lconst 0, 1) := by decide +kernel
theorem dX9_seen_15 : decode cX9_seen 15 = .ok (.ldc2_w 249, 3) := by decide +kernel
theorem dX9_seen_18 : decode cX9_seen 18 = .ok (.invokestatic 101, 3) := by decide +kernel
theorem dX9_seen_21 : decode cX9_seen 21 = .ok (.ifCond .ne 6, 3) := by decide +kernel
theorem dX9_seen_24 : decode cX9_seen 24 = .ok (.bipush (-2), 2) := by decide +kernel
theorem dX9_seen_26 : decode cX9_seen 26 = .ok (.ireturn, 1) := by decide +kernel
theorem dX9_seen_27 : decode cX9_seen 27 = .ok (.aload_n 0, 1) := by decide +kernel
theorem dX9_seen_28 : decode cX9_seen 28 = .ok (.getfield 98, 3) := by decide +kernel
theorem dX9_seen_31 : decode cX9_seen 31 = .ok (.bipush 8, 2) := by decide +kernel
theorem dX9_seen_33 : decode cX9_seen 33 = .ok (.if_icmp .ne 6, 3) := by decide +kernel
theorem dX9_seen_36 : decode cX9_seen 36 = .ok (.bipush (-4), 2) := by decide +kernel
theorem dX9_seen_38 : decode cX9_seen 38 = .ok (.ireturn, 1) := by decide +kernel
theorem dX9_seen_39 : decode cX9_seen 39 = .ok (.aload_n 0, 1) := by decide +kernel
theorem dX9_seen_40 : decode cX9_seen 40 = .ok (.getfield 22, 3) := by decide +kernel
theorem dX9_seen_43 : decode cX9_seen 43 = .ok (.aload_n 0, 1) := by decide +kernel
theorem dX9_seen_44 : decode cX9_seen 44 = .ok (.getfield 98, 3) := by decide +kernel
theorem dX9_seen_47 : decode cX9_seen 47 = .ok (.iload_n 1, 1) := by decide +kernel
theorem dX9_seen_48 : decode cX9_seen 48 = .ok (.iastore, 1) := by decide +kernel
theorem dX9_seen_49 : decode cX9_seen 49 = .ok (.aload_n 0, 1) := by decide +kernel
theorem dX9_seen_50 : decode cX9_seen 50 = .ok (.getfield 25, 3) := by decide +kernel
theorem dX9_seen_53 : decode cX9_seen 53 = .ok (.aload_n 0, 1) := by decide +kernel
theorem dX9_seen_54 : decode cX9_seen 54 = .ok (.getfield 98, 3) := by decide +kernel
theorem dX9_seen_57 : decode cX9_seen 57 = .ok (.iload_n 2, 1) := by decide +kernel
theorem dX9_seen_58 : decode cX9_seen 58 = .ok (.iastore, 1) := by decide +kernel
theorem dX9_seen_59 : decode cX9_seen 59 = .ok (.aload_n 0, 1) := by decide +kernel
theorem dX9_seen_60 : decode cX9_seen 60 = .ok (.dup, 1) := by decide +kernel
theorem dX9_seen_61 : decode cX9_seen 61 = .ok (.getfield 98, 3) := by decide +kernel
theorem dX9_seen_64 : decode cX9_seen 64 = .ok (.iconst 1, 1) := by decide +kernel
theorem dX9_seen_65 : decode cX9_seen 65 = .ok (.iadd, 1) := by decide +kernel
theorem dX9_seen_66 : decode cX9_seen 66 = .ok (.putfield 98, 3) := by decide +kernel
theorem dX9_seen_69 : decode cX9_seen 69 = .ok (.aload_n 0, 1) := by decide +kernel
theorem dX9_seen_70 : decode cX9_seen 70 = .ok (.getfield 98, 3) := by decide +kernel
theorem dX9_seen_73 : decode cX9_seen 73 = .ok (.ireturn, 1) := by decide +kernel
theorem dX9_forget_0 : decode cX9_forget 0 = .ok (.aload_n 0, 1) := by decide +kernel
theorem dX9_forget_1 : decode cX9_forget 1 = .ok (.getfield 98, 3) := by decide +kernel
theorem dX9_forget_4 : decode cX9_forget 4 = .ok (.istore_n 1, 1) := by decide +kernel
theorem dX9_forget_5 : decode cX9_forget 5 = .ok (.aload_n 0, 1) := by decide +kernel
theorem dX9_forget_6 : decode cX9_forget 6 = .ok (.iconst 0, 1) := by decide +kernel
theorem dX9_forget_7 : decode cX9_forget 7 = .ok (.putfield 98, 3) := by decide +kernel
theorem dX9_forget_10 : decode cX9_forget 10 = .ok (.iload_n 1, 1) := by decide +kernel
theorem dX9_forget_11 : decode cX9_forget 11 = .ok (.ireturn, 1) := by decide +kernel
theorem dX9_isWorld_0 : decode cX9_isWorld 0 = .ok (.aload_n 0, 1) := by decide +kernel
theorem dX9_isWorld_1 : decode cX9_isWorld 1 = .ok (.iload_n 1, 1) := by decide +kernel
theorem dX9_isWorld_2 : decode cX9_isWorld 2 = .ok (.invokevirtual 210, 3) := by decide +kernel
theorem dX9_isWorld_5 : decode cX9_isWorld 5 = .ok (.aload_n 0, 1) := by decide +kernel
theorem dX9_isWorld_6 : decode cX9_isWorld 6 = .ok (.getfield 184, 3) := by decide +kernel
theorem dX9_isWorld_9 : decode cX9_isWorld 9 = .ok (.ifCond .ge 14, 3) := by decide +kernel
theorem dX9_isWorld_12 : decode cX9_isWorld 12 = .ok (.aload_n 0, 1) := by decide +kernel
theorem dX9_isWorld_13 : decode cX9_isWorld 13 = .ok (.getfield 193, 3) := by decide +kernel
theorem dX9_isWorld_16 : decode cX9_isWorld 16 = .ok (.ifCond .eq 7, 3) := by decide +kernel
theorem dX9_isWorld_19 : decode cX9_isWorld 19 = .ok (.iconst 1, 1) := by decide +kernel
theorem dX9_isWorld_20 : decode cX9_isWorld 20 = .ok (.goto 4, 3) := by decide +kernel
theorem dX9_isWorld_23 : decode cX9_isWorld 23 = .ok (.iconst 0, 1) := by decide +kernel
theorem dX9_isWorld_24 : decode cX9_isWorld 24 = .ok (.istore_n 2, 1) := by decide +kernel
theorem dX9_isWorld_25 : decode cX9_isWorld 25 = .ok (.iconst 0, 1) := by decide +kernel
theorem dX9_isWorld_26 : decode cX9_isWorld 26 = .ok (.istore_n 3, 1) := by decide +kernel
theorem dX9_isWorld_27 : decode cX9_isWorld 27 = .ok (.iload_n 3, 1) := by decide +kernel
theorem dX9_isWorld_28 : decode cX9_isWorld 28 = .ok (.aload_n 0, 1) := by decide +kernel
theorem dX9_isWorld_29 : decode cX9_isWorld 29 = .ok (.getfield 98, 3) := by decide +kernel
theorem dX9_isWorld_32 : decode cX9_isWorld 32 = .ok (.if_icmp .ge 32, 3) := by decide +kernel
theorem dX9_isWorld_35 : decode cX9_isWorld 35 = .ok (.iload_n 2, 1) := by decide +kernel
theorem dX9_isWorld_36 : decode cX9_isWorld 36 = .ok (.ifCond .eq 20, 3) := by decide +kernel
theorem dX9_isWorld_39 : decode cX9_isWorld 39 = .ok (.aload_n 0, 1) := by decide +kernel
theorem dX9_isWorld_40 : decode cX9_isWorld 40 = .ok (.getfield 22, 3) := by decide +kernel
theorem dX9_isWorld_43 : decode cX9_isWorld 43 = .ok (.iload_n 3, 1) := by decide +kernel
theorem dX9_isWorld_44 : decode cX9_isWorld 44 = .ok (.iaload, 1) := by decide +kernel
theorem dX9_isWorld_45 : decode cX9_isWorld 45 = .ok (.aload_n 0, 1) := by decide +kernel
theorem dX9_isWorld_46 : decode cX9_isWorld 46 = .ok (.getfield 127, 3) := by decide +kernel
theorem dX9_isWorld_49 : decode cX9_isWorld 49 = .ok (.if_icmp .gt 7, 3) := by decide +kernel
theorem dX9_isWorld_52 : decode cX9_isWorld 52 = .ok (.iconst 1, 1) := by decide +kernel
theorem dX9_isWorld_53 : decode cX9_isWorld 53 = .ok (.goto 4, 3) := by decide +kernel
theorem dX9_isWorld_56 : decode cX9_isWorld 56 = .ok (.iconst 0, 1) := by decide +kernel
theorem dX9_isWorld_57 : decode cX9_isWorld 57 = .ok (.istore_n 2, 1) := by decide +kernel
theorem dX9_isWorld_58 : decode cX9_isWorld 58 = .ok (.iinc 3 1, 3) := by decide +kernel
theorem dX9_isWorld_61 : decode cX9_isWorld 61 = .ok (.goto (-34), 3) := by decide +kernel
theorem dX9_isWorld_64 : decode cX9_isWorld 64 = .ok (.aload_n 0, 1) := by decide +kernel
theorem dX9_isWorld_65 : decode cX9_isWorld 65 = .ok (.invokevirtual 219, 3) := by decide +kernel
theorem dX9_isWorld_68 : decode cX9_isWorld 68 = .ok (.iload_n 2, 1) := by decide +kernel
theorem dX9_isWorld_69 : decode cX9_isWorld 69 = .ok (.ireturn, 1) := by decide +kernel
theorem dX9_findWorlds_0 : decode cX9_findWorlds 0 = .ok (.aload_n 0, 1) := by decide +kernel
theorem dX9_findWorlds_1 : decode cX9_findWorlds 1 = .ok (.iconst 0, 1) := by decide +kernel
theorem dX9_findWorlds_2 : decode cX9_findWorlds 2 = .ok (.putfield 251, 3) := by decide +kernel
theorem dX9_findWorlds_5 : decode cX9_findWorlds 5 = .ok (.aload_n 0, 1) := by decide +kernel
theorem dX9_findWorlds_6 : decode cX9_findWorlds 6 = .ok (.bipush (-6), 2) := by decide +kernel
theorem dX9_findWorlds_8 : decode cX9_findWorlds 8 = .ok (.putfield 254, 3) := by decide +kernel
theorem dX9_findWorlds_11 : decode cX9_findWorlds 11 = .ok (.aload_n 0, 1) := by decide +kernel
theorem dX9_findWorlds_12 : decode cX9_findWorlds 12 = .ok (.iconst 0, 1) := by decide +kernel
theorem dX9_findWorlds_13 : decode cX9_findWorlds 13 = .ok (.putfield 257, 3) := by decide +kernel
theorem dX9_findWorlds_16 : decode cX9_findWorlds 16 = .ok (.aload_n 0, 1) := by decide +kernel
theorem dX9_findWorlds_17 : decode cX9_findWorlds 17 = .ok (.iconst 0, 1) := by decide +kernel
theorem dX9_findWorlds_18 : decode cX9_findWorlds 18 = .ok (.putfield 260, 3) := by decide +kernel
theorem dX9_findWorlds_21 : decode cX9_findWorlds 21 = .ok (.iconst 0, 1) := by decide +kernel
theorem dX9_findWorlds_22 : decode cX9_findWorlds 22 = .ok (.istore_n 1, 1) := by decide +kernel
theorem dX9_findWorlds_23 : decode cX9_findWorlds 23 = .ok (.iload_n 1, 1) := by decide +kernel
theorem dX9_findWorlds_24 : decode cX9_findWorlds 24 = .ok (.bipush 8, 2) := by decide +kernel
theorem dX9_findWorlds_26 : decode cX9_findWorlds 26 = .ok (.if_icmp .ge 16, 3) := by decide +kernel
theorem dX9_findWorlds_29 : decode cX9_findWorlds 29 = .ok (.aload_n 0, 1) := by decide +kernel
theorem dX9_findWorlds_30 : decode cX9_findWorlds 30 = .ok (.getfield 61, 3) := by decide +kernel
theorem dX9_findWorlds_33 : decode cX9_findWorlds 33 = .ok (.iload_n 1, 1) := by decide +kernel
theorem dX9_findWorlds_34 : decode cX9_findWorlds 34 = .ok (.iconst 0, 1) := by decide +kernel
theorem dX9_findWorlds_35 : decode cX9_findWorlds 35 = .ok (.iastore, 1) := by decide +kernel
theorem dX9_findWorlds_36 : decode cX9_findWorlds 36 = .ok (.iinc 1 1, 3) := by decide +kernel
theorem dX9_findWorlds_39 : decode cX9_findWorlds 39 = .ok (.goto (-16), 3) := by decide +kernel
theorem dX9_findWorlds_42 : decode cX9_findWorlds 42 = .ok (.aload_n 0, 1) := by decide +kernel
theorem dX9_findWorlds_43 : decode cX9_findWorlds 43 = .ok (.invokevirtual 207, 3) := by decide +kernel
theorem dX9_findWorlds_46 : decode cX9_findWorlds 46 = .ok (.iconst 0, 1) := by decide +kernel
theorem dX9_findWorlds_47 : decode cX9_findWorlds 47 = .ok (.istore_n 1, 1) := by decide +kernel
theorem dX9_findWorlds_48 : decode cX9_findWorlds 48 = .ok (.iload_n 1, 1) := by decide +kernel
theorem dX9_findWorlds_49 : decode cX9_findWorlds 49 = .ok (.iconst 1, 1) := by decide +kernel
theorem dX9_findWorlds_50 : decode cX9_findWorlds 50 = .ok (.aload_n 0, 1) := by decide +kernel
theorem dX9_findWorlds_51 : decode cX9_findWorlds 51 = .ok (.getfield 85, 3) := by decide +kernel
theorem dX9_findWorlds_54 : decode cX9_findWorlds 54 = .ok (.ishl, 1) := by decide +kernel
theorem dX9_findWorlds_55 : decode cX9_findWorlds 55 = .ok (.if_icmp .ge 107, 3) := by decide +kernel
theorem dX9_findWorlds_58 : decode cX9_findWorlds 58 = .ok (.aload_n 0, 1) := by decide +kernel
theorem dX9_findWorlds_59 : decode cX9_findWorlds 59 = .ok (.iload_n 1, 1) := by decide +kernel
theorem dX9_findWorlds_60 : decode cX9_findWorlds 60 = .ok (.invokevirtual 263, 3) := by decide +kernel
theorem dX9_findWorlds_63 : decode cX9_findWorlds 63 = .ok (.ifCond .eq 93, 3) := by decide +kernel
theorem dX9_findWorlds_66 : decode cX9_findWorlds 66 = .ok (.aload_n 0, 1) := by decide +kernel
theorem dX9_findWorlds_67 : decode cX9_findWorlds 67 = .ok (.aload_n 0, 1) := by decide +kernel
theorem dX9_findWorlds_68 : decode cX9_findWorlds 68 = .ok (.getfield 251, 3) := by decide +kernel
theorem dX9_findWorlds_71 : decode cX9_findWorlds 71 = .ok (.ifCond .ne 7, 3) := by decide +kernel
theorem dX9_findWorlds_74 : decode cX9_findWorlds 74 = .ok (.iload_n 1, 1) := by decide +kernel
theorem dX9_findWorlds_75 : decode cX9_findWorlds 75 = .ok (.goto 7, 3) := by decide +kernel
theorem dX9_findWorlds_78 : decode cX9_findWorlds 78 = .ok (.aload_n 0, 1) := by decide +kernel
theorem dX9_findWorlds_79 : decode cX9_findWorlds 79 = .ok (.getfield 254, 3) := by decide +kernel
theorem dX9_findWorlds_82 : decode cX9_findWorlds 82 = .ok (.putfield 254, 3) := by decide +kernel
theorem dX9_findWorlds_85 : decode cX9_findWorlds 85 = .ok (.aload_n 0, 1) := by decide +kernel
theorem dX9_findWorlds_86 : decode cX9_findWorlds 86 = .ok (.aload_n 0, 1) := by decide +kernel
theorem dX9_findWorlds_87 : decode cX9_findWorlds 87 = .ok (.getfield 251, 3) := by decide +kernel
theorem dX9_findWorlds_90 : decode cX9_findWorlds 90 = .ok (.ifCond .ne 7, 3) := by decide +kernel
theorem dX9_findWorlds_93 : decode cX9_findWorlds 93 = .ok (.iload_n 1, 1) := by decide +kernel
theorem dX9_findWorlds_94 : decode cX9_findWorlds 94 = .ok (.goto 9, 3) := by decide +kernel
theorem dX9_findWorlds_97 : decode cX9_findWorlds 97 = .ok (.aload_n 0, 1) := by decide +kernel
theorem dX9_findWorlds_98 : decode cX9_findWorlds 98 = .ok (.getfield 257, 3) := by decide +kernel
theorem dX9_findWorlds_101 : decode cX9_findWorlds 101 = .ok (.iload_n 1, 1) := by decide +kernel
theorem dX9_findWorlds_102 : decode cX9_findWorlds 102 = .ok (.iand, 1) := by decide +kernel
theorem dX9_findWorlds_103 : decode cX9_findWorlds 103 = .ok (.putfield 257, 3) := by decide +kernel
theorem dX9_findWorlds_106 : decode cX9_findWorlds 106 = .ok (.aload_n 0, 1) := by decide +kernel
theorem dX9_findWorlds_107 : decode cX9_findWorlds 107 = .ok (.dup, 1) := by decide +kernel
theorem dX9_findWorlds_108 : decode cX9_findWorlds 108 = .ok (.getfield 260, 3) := by decide +kernel
theorem dX9_findWorlds_111 : decode cX9_findWorlds 111 = .ok (.iload_n 1, 1) := by decide +kernel
theorem dX9_findWorlds_112 : decode cX9_findWorlds 112 = .ok (.ior, 1) := by decide +kernel
theorem dX9_findWorlds_113 : decode cX9_findWorlds 113 = .ok (.putfield 260, 3) := by decide +kernel
theorem dX9_findWorlds_116 : decode cX9_findWorlds 116 = .ok (.aload_n 0, 1) := by decide +kernel
theorem dX9_findWorlds_117 : decode cX9_findWorlds 117 = .ok (.dup, 1) := by decide +kernel
theorem dX9_findWorlds_118 : decode cX9_findWorlds 118 = .ok (.getfield 251, 3) := by decide +kernel
theorem dX9_findWorlds_121 : decode cX9_findWorlds 121 = .ok (.iconst 1, 1) := by decide +kernel
theorem dX9_findWorlds_122 : decode cX9_findWorlds 122 = .ok (.iadd, 1) := by decide +kernel
theorem dX9_findWorlds_123 : decode cX9_findWorlds 123 = .ok (.putfield 251, 3) := by decide +kernel
theorem dX9_findWorlds_126 : decode cX9_findWorlds 126 = .ok (.iconst 0, 1) := by decide +kernel
theorem dX9_findWorlds_127 : decode cX9_findWorlds 127 = .ok (.istore_n 2, 1) := by decide +kernel
theorem dX9_findWorlds_128 : decode cX9_findWorlds 128 = .ok (.iload_n 2, 1) := by decide +kernel
theorem dX9_findWorlds_129 : decode cX9_findWorlds 129 = .ok (.aload_n 0, 1) := by decide +kernel
theorem dX9_findWorlds_130 : decode cX9_findWorlds 130 = .ok (.getfield 85, 3) := by decide +kernel
theorem dX9_findWorlds_133 : decode cX9_findWorlds 133 = .ok (.if_icmp .ge 23, 3) := by decide +kernel
theorem dX9_findWorlds_136 : decode cX9_findWorlds 136 = .ok (.aload_n 0, 1) := by decide +kernel
theorem dX9_findWorlds_137 : decode cX9_findWorlds 137 = .ok (.getfield 61, 3) := by decide +kernel
theorem dX9_findWorlds_140 : decode cX9_findWorlds 140 = .ok (.iload_n 2, 1) := by decide +kernel
theorem dX9_findWorlds_141 : decode cX9_findWorlds 141 = .ok (.dup2, 1) := by decide +kernel
theorem dX9_findWorlds_142 : decode cX9_findWorlds 142 = .ok (.iaload, 1) := by decide +kernel
theorem dX9_findWorlds_143 : decode cX9_findWorlds 143 = .ok (.iload_n 1, 1) := by decide +kernel
theorem dX9_findWorlds_144 : decode cX9_findWorlds 144 = .ok (.iload_n 2, 1) := by decide +kernel
theorem dX9_findWorlds_145 : decode cX9_findWorlds 145 = .ok (.ishr, 1) := by decide +kernel
theorem dX9_findWorlds_146 : decode cX9_findWorlds 146 = .ok (.iconst 1, 1) := by decide +kernel
theorem dX9_findWorlds_147 : decode cX9_findWorlds 147 = .ok (.iand, 1) := by decide +kernel
theorem dX9_findWorlds_148 : decode cX9_findWorlds 148 = .ok (.iadd, 1) := by decide +kernel
theorem dX9_findWorlds_149 : decode cX9_findWorlds 149 = .ok (.iastore, 1) := by decide +kernel
theorem dX9_findWorlds_150 : decode cX9_findWorlds 150 = .ok (.iinc 2 1, 3) := by decide +kernel
theorem dX9_findWorlds_153 : decode cX9_findWorlds 153 = .ok (.goto (-25), 3) := by decide +kernel
theorem dX9_findWorlds_156 : decode cX9_findWorlds 156 = .ok (.iinc 1 1, 3) := by decide +kernel
theorem dX9_findWorlds_159 : decode cX9_findWorlds 159 = .ok (.goto (-111), 3) := by decide +kernel
theorem dX9_findWorlds_162 : decode cX9_findWorlds 162 = .ok (.return_, 1) := by decide +kernel
theorem dX9_worlds_0 : decode cX9_worlds 0 = .ok (.iload_n 1, 1) := by decide +kernel
theorem dX9_worlds_1 : decode cX9_worlds 1 = .ok (.i2l, 1) := by decide +kernel
theorem dX9_worlds_2 : decode cX9_worlds 2 = .ok (.lconst 0, 1) := by decide +kernel
theorem dX9_worlds_3 : decode cX9_worlds 3 = .ok (.ldc2_w 222, 3) := by decide +kernel
theorem dX9_worlds_6 : decode cX9_worlds 6 = .ok (.invokestatic 101, 3) := by decide +kernel
theorem dX9_worlds_9 : decode cX9_worlds 9 = .ok (.ifCond .ne 6, 3) := by decide +kernel
theorem dX9_worlds_12 : decode cX9_worlds 12 = .ok (.bipush (-2), 2) := by decide +kernel
theorem dX9_worlds_14 : decode cX9_worlds 14 = .ok (.ireturn, 1) := by decide +kernel
theorem dX9_worlds_15 : decode cX9_worlds 15 = .ok (.aload_n 0, 1) := by decide +kernel
theorem dX9_worlds_16 : decode cX9_worlds 16 = .ok (.invokevirtual 137, 3) := by decide +kernel
theorem dX9_worlds_19 : decode cX9_worlds 19 = .ok (.ifCond .lt 6, 3) := by decide +kernel
theorem dX9_worlds_22 : decode cX9_worlds 22 = .ok (.bipush (-5), 2) := by decide +kernel
theorem dX9_worlds_24 : decode cX9_worlds 24 = .ok (.ireturn, 1) := by decide +kernel
theorem dX9_worlds_25 : decode cX9_worlds 25 = .ok (.aload_n 0, 1) := by decide +kernel
theorem dX9_worlds_26 : decode cX9_worlds 26 = .ok (.invokevirtual 266, 3) := by decide +kernel
theorem dX9_worlds_29 : decode cX9_worlds 29 = .ok (.iload_n 1, 1) := by decide +kernel
theorem dX9_worlds_30 : decode cX9_worlds 30 = .ok (.ifCond .ne 10, 3) := by decide +kernel
theorem dX9_worlds_33 : decode cX9_worlds 33 = .ok (.aload_n 0, 1) := by decide +kernel
theorem dX9_worlds_34 : decode cX9_worlds 34 = .ok (.getfield 251, 3) := by decide +kernel
theorem dX9_worlds_37 : decode cX9_worlds 37 = .ok (.goto 31, 3) := by decide +kernel
theorem dX9_worlds_40 : decode cX9_worlds 40 = .ok (.iload_n 1, 1) := by decide +kernel
theorem dX9_worlds_41 : decode cX9_worlds 41 = .ok (.iconst 1, 1) := by decide +kernel
theorem dX9_worlds_42 : decode cX9_worlds 42 = .ok (.if_icmp .ne 10, 3) := by decide +kernel
theorem dX9_worlds_45 : decode cX9_worlds 45 = .ok (.aload_n 0, 1) := by decide +kernel
theorem dX9_worlds_46 : decode cX9_worlds 46 = .ok (.getfield 254, 3) := by decide +kernel
theorem dX9_worlds_49 : decode cX9_worlds 49 = .ok (.goto 19, 3) := by decide +kernel
theorem dX9_worlds_52 : decode cX9_worlds 52 = .ok (.iload_n 1, 1) := by decide +kernel
theorem dX9_worlds_53 : decode cX9_worlds 53 = .ok (.iconst 2, 1) := by decide +kernel
theorem dX9_worlds_54 : decode cX9_worlds 54 = .ok (.if_icmp .ne 10, 3) := by decide +kernel
theorem dX9_worlds_57 : decode cX9_worlds 57 = .ok (.aload_n 0, 1) := by decide +kernel
theorem dX9_worlds_58 : decode cX9_worlds 58 = .ok (.getfield 257, 3) := by decide +kernel
theorem dX9_worlds_61 : decode cX9_worlds 61 = .ok (.goto 7, 3) := by decide +kernel
theorem dX9_worlds_64 : decode cX9_worlds 64 = .ok (.aload_n 0, 1) := by decide +kernel
theorem dX9_worlds_65 : decode cX9_worlds 65 = .ok (.getfield 260, 3) := by decide +kernel
theorem dX9_worlds_68 : decode cX9_worlds 68 = .ok (.ireturn, 1) := by decide +kernel
theorem dX9_mostLeft_0 : decode cX9_mostLeft 0 = .ok (.aload_n 0, 1) := by decide +kernel
theorem dX9_mostLeft_1 : decode cX9_mostLeft 1 = .ok (.getfield 61, 3) := by decide +kernel
theorem dX9_mostLeft_4 : decode cX9_mostLeft 4 = .ok (.iload_n 1, 1) := by decide +kernel
theorem dX9_mostLeft_5 : decode cX9_mostLeft 5 = .ok (.iaload, 1) := by decide +kernel
theorem dX9_mostLeft_6 : decode cX9_mostLeft 6 = .ok (.aload_n 0, 1) := by decide +kernel
theorem dX9_mostLeft_7 : decode cX9_mostLeft 7 = .ok (.getfield 251, 3) := by decide +kernel
theorem dX9_mostLeft_10 : decode cX9_mostLeft 10 = .ok (.aload_n 0, 1) := by decide +kernel
theorem dX9_mostLeft_11 : decode cX9_mostLeft 11 = .ok (.getfield 61, 3) := by decide +kernel
theorem dX9_mostLeft_14 : decode cX9_mostLeft 14 = .ok (.iload_n 1, 1) := by decide +kernel
theorem dX9_mostLeft_15 : decode cX9_mostLeft 15 = .ok (.iaload, 1) := by decide +kernel
theorem dX9_mostLeft_16 : decode cX9_mostLeft 16 = .ok (.isub, 1) := by decide +kernel
theorem dX9_mostLeft_17 : decode cX9_mostLeft 17 = .ok (.if_icmp .le 12, 3) := by decide +kernel
theorem dX9_mostLeft_20 : decode cX9_mostLeft 20 = .ok (.aload_n 0, 1) := by decide +kernel
theorem dX9_mostLeft_21 : decode cX9_mostLeft 21 = .ok (.getfield 61, 3) := by decide +kernel
theorem dX9_mostLeft_24 : decode cX9_mostLeft 24 = .ok (.iload_n 1, 1) := by decide +kernel
theorem dX9_mostLeft_25 : decode cX9_mostLeft 25 = .ok (.iaload, 1) := by decide +kernel
theorem dX9_mostLeft_26 : decode cX9_mostLeft 26 = .ok (.goto 14, 3) := by decide +kernel
theorem dX9_mostLeft_29 : decode cX9_mostLeft 29 = .ok (.aload_n 0, 1) := by decide +kernel
theorem dX9_mostLeft_30 : decode cX9_mostLeft 30 = .ok (.getfield 251, 3) := by decide +kernel
theorem dX9_mostLeft_33 : decode cX9_mostLeft 33 = .ok (.aload_n 0, 1) := by decide +kernel
theorem dX9_mostLeft_34 : decode cX9_mostLeft 34 = .ok (.getfield 61, 3) := by decide +kernel
theorem dX9_mostLeft_37 : decode cX9_mostLeft 37 = .ok (.iload_n 1, 1) := by decide +kernel
theorem dX9_mostLeft_38 : decode cX9_mostLeft 38 = .ok (.iaload, 1) := by decide +kernel
theorem dX9_mostLeft_39 : decode cX9_mostLeft 39 = .ok (.isub, 1) := by decide +kernel
theorem dX9_mostLeft_40 : decode cX9_mostLeft 40 = .ok (.ireturn, 1) := by decide +kernel
theorem dX9_tell_0 : decode cX9_tell 0 = .ok (.iload_n 1, 1) := by decide +kernel
theorem dX9_tell_1 : decode cX9_tell 1 = .ok (.i2l, 1) := by decide +kernel
theorem dX9_tell_2 : decode cX9_tell 2 = .ok (.lconst 0, 1) := by decide +kernel
theorem dX9_tell_3 : decode cX9_tell 3 = .ok (.lconst 1, 1) := by decide +kernel
theorem dX9_tell_4 : decode cX9_tell 4 = .ok (.invokestatic 101, 3) := by decide +kernel
theorem dX9_tell_7 : decode cX9_tell 7 = .ok (.ifCond .ne 6, 3) := by decide +kernel
theorem dX9_tell_10 : decode cX9_tell 10 = .ok (.bipush (-2), 2) := by decide +kernel
theorem dX9_tell_12 : decode cX9_tell 12 = .ok (.ireturn, 1) := by decide +kernel
theorem dX9_tell_13 : decode cX9_tell 13 = .ok (.aload_n 0, 1) := by decide +kernel
theorem dX9_tell_14 : decode cX9_tell 14 = .ok (.invokevirtual 137, 3) := by decide +kernel
theorem dX9_tell_17 : decode cX9_tell 17 = .ok (.ifCond .lt 6, 3) := by decide +kernel
theorem dX9_tell_20 : decode cX9_tell 20 = .ok (.bipush (-5), 2) := by decide +kernel
theorem dX9_tell_22 : decode cX9_tell 22 = .ok (.ireturn, 1) := by decide +kernel
theorem dX9_tell_23 : decode cX9_tell 23 = .ok (.aload_n 0, 1) := by decide +kernel
theorem dX9_tell_24 : decode cX9_tell 24 = .ok (.invokevirtual 266, 3) := by decide +kernel
theorem dX9_tell_27 : decode cX9_tell 27 = .ok (.aload_n 0, 1) := by decide +kernel
theorem dX9_tell_28 : decode cX9_tell 28 = .ok (.getfield 251, 3) := by decide +kernel
theorem dX9_tell_31 : decode cX9_tell 31 = .ok (.ifCond .ne 6, 3) := by decide +kernel
theorem dX9_tell_34 : decode cX9_tell 34 = .ok (.bipush (-6), 2) := by decide +kernel
theorem dX9_tell_36 : decode cX9_tell 36 = .ok (.ireturn, 1) := by decide +kernel
theorem dX9_tell_37 : decode cX9_tell 37 = .ok (.iconst 0, 1) := by decide +kernel
theorem dX9_tell_38 : decode cX9_tell 38 = .ok (.istore_n 2, 1) := by decide +kernel
theorem dX9_tell_39 : decode cX9_tell 39 = .ok (.iconst 1, 1) := by decide +kernel
theorem dX9_tell_40 : decode cX9_tell 40 = .ok (.istore_n 3, 1) := by decide +kernel
theorem dX9_tell_41 : decode cX9_tell 41 = .ok (.iload_n 3, 1) := by decide +kernel
theorem dX9_tell_42 : decode cX9_tell 42 = .ok (.aload_n 0, 1) := by decide +kernel
theorem dX9_tell_43 : decode cX9_tell 43 = .ok (.getfield 85, 3) := by decide +kernel
theorem dX9_tell_46 : decode cX9_tell 46 = .ok (.if_icmp .ge 28, 3) := by decide +kernel
theorem dX9_tell_49 : decode cX9_tell 49 = .ok (.aload_n 0, 1) := by decide +kernel
theorem dX9_tell_50 : decode cX9_tell 50 = .ok (.iload_n 3, 1) := by decide +kernel
theorem dX9_tell_51 : decode cX9_tell 51 = .ok (.invokevirtual 269, 3) := by decide +kernel
theorem dX9_tell_54 : decode cX9_tell 54 = .ok (.aload_n 0, 1) := by decide +kernel
theorem dX9_tell_55 : decode cX9_tell 55 = .ok (.iload_n 2, 1) := by decide +kernel
theorem dX9_tell_56 : decode cX9_tell 56 = .ok (.invokevirtual 269, 3) := by decide +kernel
theorem dX9_tell_59 : decode cX9_tell 59 = .ok (.if_icmp .ge 7, 3) := by decide +kernel
theorem dX9_tell_62 : decode cX9_tell 62 = .ok (.iload_n 3, 1) := by decide +kernel
theorem dX9_tell_63 : decode cX9_tell 63 = .ok (.goto 4, 3) := by decide +kernel
theorem dX9_tell_66 : decode cX9_tell 66 = .ok (.iload_n 2, 1) := by decide +kernel
theorem dX9_tell_67 : decode cX9_tell 67 = .ok (.istore_n 2, 1) := by decide +kernel
theorem dX9_tell_68 : decode cX9_tell 68 = .ok (.iinc 3 1, 3) := by decide +kernel
theorem dX9_tell_71 : decode cX9_tell 71 = .ok (.goto (-30), 3) := by decide +kernel
theorem dX9_tell_74 : decode cX9_tell 74 = .ok (.iload_n 1, 1) := by decide +kernel
theorem dX9_tell_75 : decode cX9_tell 75 = .ok (.ifCond .ne 7, 3) := by decide +kernel
theorem dX9_tell_78 : decode cX9_tell 78 = .ok (.iload_n 2, 1) := by decide +kernel
theorem dX9_tell_79 : decode cX9_tell 79 = .ok (.goto 8, 3) := by decide +kernel
theorem dX9_tell_82 : decode cX9_tell 82 = .ok (.aload_n 0, 1) := by decide +kernel
theorem dX9_tell_83 : decode cX9_tell 83 = .ok (.iload_n 2, 1) := by decide +kernel
theorem dX9_tell_84 : decode cX9_tell 84 = .ok (.invokevirtual 269, 3) := by decide +kernel
theorem dX9_tell_87 : decode cX9_tell 87 = .ok (.ireturn, 1) := by decide +kernel
theorem dX9_says_0 : decode cX9_says 0 = .ok (.iload_n 1, 1) := by decide +kernel
theorem dX9_says_1 : decode cX9_says 1 = .ok (.invokestatic 113, 3) := by decide +kernel
theorem dX9_says_4 : decode cX9_says 4 = .ok (.ifCond .ne 5, 3) := by decide +kernel
theorem dX9_says_7 : decode cX9_says 7 = .ok (.iconst (-1), 1) := by decide +kernel
theorem dX9_says_8 : decode cX9_says 8 = .ok (.ireturn, 1) := by decide +kernel
theorem dX9_says_9 : decode cX9_says 9 = .ok (.aload_n 0, 1) := by decide +kernel
theorem dX9_says_10 : decode cX9_says 10 = .ok (.invokevirtual 137, 3) := by decide +kernel
theorem dX9_says_13 : decode cX9_says 13 = .ok (.ifCond .lt 6, 3) := by decide +kernel
theorem dX9_says_16 : decode cX9_says 16 = .ok (.bipush (-5), 2) := by decide +kernel
theorem dX9_says_18 : decode cX9_says 18 = .ok (.ireturn, 1) := by decide +kernel
theorem dX9_says_19 : decode cX9_says 19 = .ok (.iconst 0, 1) := by decide +kernel
theorem dX9_says_20 : decode cX9_says 20 = .ok (.istore_n 2, 1) := by decide +kernel
theorem dX9_says_21 : decode cX9_says 21 = .ok (.iconst 0, 1) := by decide +kernel
theorem dX9_says_22 : decode cX9_says 22 = .ok (.istore_n 3, 1) := by decide +kernel
theorem dX9_says_23 : decode cX9_says 23 = .ok (.iload_n 3, 1) := by decide +kernel
theorem dX9_says_24 : decode cX9_says 24 = .ok (.aload_n 0, 1) := by decide +kernel
theorem dX9_says_25 : decode cX9_says 25 = .ok (.getfield 127, 3) := by decide +kernel
theorem dX9_says_28 : decode cX9_says 28 = .ok (.if_icmp .ge 64, 3) := by decide +kernel
theorem dX9_says_31 : decode cX9_says 31 = .ok (.aload_n 0, 1) := by decide +kernel
theorem dX9_says_32 : decode cX9_says 32 = .ok (.getfield 31, 3) := by decide +kernel
theorem dX9_says_35 : decode cX9_says 35 = .ok (.iload_n 3, 1) := by decide +kernel
theorem dX9_says_36 : decode cX9_says 36 = .ok (.iaload, 1) := by decide +kernel
theorem dX9_says_37 : decode cX9_says 37 = .ok (.ifCond .ne 17, 3) := by decide +kernel
theorem dX9_says_40 : decode cX9_says 40 = .ok (.aload_n 0, 1) := by decide +kernel
theorem dX9_says_41 : decode cX9_says 41 = .ok (.getfield 34, 3) := by decide +kernel
theorem dX9_says_44 : decode cX9_says 44 = .ok (.iload_n 3, 1) := by decide +kernel
theorem dX9_says_45 : decode cX9_says 45 = .ok (.iaload, 1) := by decide +kernel
theorem dX9_says_46 : decode cX9_says 46 = .ok (.iload_n 1, 1) := by decide +kernel
theorem dX9_says_47 : decode cX9_says 47 = .ok (.if_icmp .ne 7, 3) := by decide +kernel
theorem dX9_says_50 : decode cX9_says 50 = .ok (.iconst 1, 1) := by decide +kernel
theorem dX9_says_51 : decode cX9_says 51 = .ok (.goto 4, 3) := by decide +kernel
theorem dX9_says_54 : decode cX9_says 54 = .ok (.iconst 0, 1) := by decide +kernel
theorem dX9_says_55 : decode cX9_says 55 = .ok (.istore 4, 2) := by decide +kernel
theorem dX9_says_57 : decode cX9_says 57 = .ok (.iload_n 2, 1) := by decide +kernel
theorem dX9_says_58 : decode cX9_says 58 = .ok (.iload 4, 2) := by decide +kernel
theorem dX9_says_60 : decode cX9_says 60 = .ok (.ifCond .ne 7, 3) := by decide +kernel
theorem dX9_says_63 : decode cX9_says 63 = .ok (.iconst 0, 1) := by decide +kernel
theorem dX9_says_64 : decode cX9_says 64 = .ok (.goto 20, 3) := by decide +kernel
theorem dX9_says_67 : decode cX9_says 67 = .ok (.aload_n 0, 1) := by decide +kernel
theorem dX9_says_68 : decode cX9_says 68 = .ok (.iload_n 3, 1) := by decide +kernel
theorem dX9_says_69 : decode cX9_says 69 = .ok (.aload_n 0, 1) := by decide +kernel
theorem dX9_says_70 : decode cX9_says 70 = .ok (.getfield 89, 3) := by decide +kernel
theorem dX9_says_73 : decode cX9_says 73 = .ok (.invokevirtual 147, 3) := by decide +kernel
theorem dX9_says_76 : decode cX9_says 76 = .ok (.ifCond .eq 7, 3) := by decide +kernel
theorem dX9_says_79 : decode cX9_says 79 = .ok (.iconst 2, 1) := by decide +kernel
theorem dX9_says_80 : decode cX9_says 80 = .ok (.goto 4, 3) := by decide +kernel
theorem dX9_says_83 : decode cX9_says 83 = .ok (.iconst 1, 1) := by decide +kernel
theorem dX9_says_84 : decode cX9_says 84 = .ok (.ior, 1) := by decide +kernel
theorem dX9_says_85 : decode cX9_says 85 = .ok (.istore_n 2, 1) := by decide +kernel
theorem dX9_says_86 : decode cX9_says 86 = .ok (.iinc 3 1, 3) := by decide +kernel
theorem dX9_says_89 : decode cX9_says 89 = .ok (.goto (-66), 3) := by decide +kernel
theorem dX9_says_92 : decode cX9_says 92 = .ok (.iload_n 2, 1) := by decide +kernel
theorem dX9_says_93 : decode cX9_says 93 = .ok (.ireturn, 1) := by decide +kernel
theorem dX9_areRemarks_0 : decode cX9_areRemarks 0 = .ok (.iload_n 0, 1) := by decide +kernel
theorem dX9_areRemarks_1 : decode cX9_areRemarks 1 = .ok (.i2l, 1) := by decide +kernel
theorem dX9_areRemarks_2 : decode cX9_areRemarks 2 = .ok (.lconst 0, 1) := by decide +kernel
theorem dX9_areRemarks_3 : decode cX9_areRemarks 3 = .ok (.ldc2_w 272, 3) := by decide +kernel
theorem dX9_areRemarks_6 : decode cX9_areRemarks 6 = .ok (.invokestatic 101, 3) := by decide +kernel
theorem dX9_areRemarks_9 : decode cX9_areRemarks 9 = .ok (.ifCond .eq 31, 3) := by decide +kernel
theorem dX9_areRemarks_12 : decode cX9_areRemarks 12 = .ok (.iload_n 1, 1) := by decide +kernel
theorem dX9_areRemarks_13 : decode cX9_areRemarks 13 = .ok (.i2l, 1) := by decide +kernel
theorem dX9_areRemarks_14 : decode cX9_areRemarks 14 = .ok (.lconst 0, 1) := by decide +kernel
theorem dX9_areRemarks_15 : decode cX9_areRemarks 15 = .ok (.ldc2_w 272, 3) := by decide +kernel
theorem dX9_areRemarks_18 : decode cX9_areRemarks 18 = .ok (.invokestatic 101, 3) := by decide +kernel
theorem dX9_areRemarks_21 : decode cX9_areRemarks 21 = .ok (.ifCond .eq 19, 3) := by decide +kernel
theorem dX9_areRemarks_24 : decode cX9_areRemarks 24 = .ok (.iload_n 2, 1) := by decide +kernel
theorem dX9_areRemarks_25 : decode cX9_areRemarks 25 = .ok (.i2l, 1) := by decide +kernel
theorem dX9_areRemarks_26 : decode cX9_areRemarks 26 = .ok (.lconst 0, 1) := by decide +kernel
theorem dX9_areRemarks_27 : decode cX9_areRemarks 27 = .ok (.ldc2_w 249, 3) := by decide +kernel
theorem dX9_areRemarks_30 : decode cX9_areRemarks 30 = .ok (.invokestatic 101, 3) := by decide +kernel
theorem dX9_areRemarks_33 : decode cX9_areRemarks 33 = .ok (.ifCond .eq 7, 3) := by decide +kernel
theorem dX9_areRemarks_36 : decode cX9_areRemarks 36 = .ok (.iconst 1, 1) := by decide +kernel
theorem dX9_areRemarks_37 : decode cX9_areRemarks 37 = .ok (.goto 4, 3) := by decide +kernel
theorem dX9_areRemarks_40 : decode cX9_areRemarks 40 = .ok (.iconst 0, 1) := by decide +kernel
theorem dX9_areRemarks_41 : decode cX9_areRemarks 41 = .ok (.ireturn, 1) := by decide +kernel
theorem dX9_orders_0 : decode cX9_orders 0 = .ok (.iload_n 1, 1) := by decide +kernel
theorem dX9_orders_1 : decode cX9_orders 1 = .ok (.iload_n 2, 1) := by decide +kernel
theorem dX9_orders_2 : decode cX9_orders 2 = .ok (.iload_n 3, 1) := by decide +kernel
theorem dX9_orders_3 : decode cX9_orders 3 = .ok (.invokestatic 274, 3) := by decide +kernel
theorem dX9_orders_6 : decode cX9_orders 6 = .ok (.ifCond .eq 16, 3) := by decide +kernel
theorem dX9_orders_9 : decode cX9_orders 9 = .ok (.iload 4, 2) := by decide +kernel
theorem dX9_orders_11 : decode cX9_orders 11 = .ok (.i2l, 1) := by decide +kernel
theorem dX9_orders_12 : decode cX9_orders 12 = .ok (.lconst 0, 1) := by decide +kernel
theorem dX9_orders_13 : decode cX9_orders 13 = .ok (.ldc2_w 278, 3) := by decide +kernel
theorem dX9_orders_16 : decode cX9_orders 16 = .ok (.invokestatic 101, 3) := by decide +kernel
theorem dX9_orders_19 : decode cX9_orders 19 = .ok (.ifCond .ne 7, 3) := by decide +kernel
theorem dX9_orders_22 : decode cX9_orders 22 = .ok (.ldc2_w 280, 3) := by decide +kernel
theorem dX9_orders_25 : decode cX9_orders 25 = .ok (.lreturn, 1) := by decide +kernel
theorem dX9_orders_26 : decode cX9_orders 26 = .ok (.iconst 0, 1) := by decide +kernel
theorem dX9_orders_27 : decode cX9_orders 27 = .ok (.istore 5, 2) := by decide +kernel
theorem dX9_orders_29 : decode cX9_orders 29 = .ok (.iload 5, 2) := by decide +kernel
theorem dX9_orders_31 : decode cX9_orders 31 = .ok (.sipush 1248, 3) := by decide +kernel
theorem dX9_orders_34 : decode cX9_orders 34 = .ok (.if_icmp .ge 17, 3) := by decide +kernel
theorem dX9_orders_37 : decode cX9_orders 37 = .ok (.aload_n 0, 1) := by decide +kernel
theorem dX9_orders_38 : decode cX9_orders 38 = .ok (.getfield 71, 3) := by decide +kernel
theorem dX9_orders_41 : decode cX9_orders 41 = .ok (.iload 5, 2) := by decide +kernel
theorem dX9_orders_43 : decode cX9_orders 43 = .ok (.lconst 0, 1) := by decide +kernel
theorem dX9_orders_44 : decode cX9_orders 44 = .ok (.lastore, 1) := by decide +kernel
theorem dX9_orders_45 : decode cX9_orders 45 = .ok (.iinc 5 1, 3) := by decide +kernel
theorem dX9_orders_48 : decode cX9_orders 48 = .ok (.goto (-19), 3) := by decide +kernel
theorem dX9_orders_51 : decode cX9_orders 51 = .ok (.aload_n 0, 1) := by decide +kernel
theorem dX9_orders_52 : decode cX9_orders 52 = .ok (.getfield 71, 3) := by decide +kernel
theorem dX9_orders_55 : decode cX9_orders 55 = .ok (.iload_n 3, 1) := by decide +kernel
theorem dX9_orders_56 : decode cX9_orders 56 = .ok (.lconst 1, 1) := by decide +kernel
theorem dX9_orders_57 : decode cX9_orders 57 = .ok (.lastore, 1) := by decide +kernel
theorem dX9_orders_58 : decode cX9_orders 58 = .ok (.iconst 0, 1) := by decide +kernel
theorem dX9_orders_59 : decode cX9_orders 59 = .ok (.istore 5, 2) := by decide +kernel
theorem dX9_orders_61 : decode cX9_orders 61 = .ok (.iload 5, 2) := by decide +kernel
theorem dX9_orders_63 : decode cX9_orders 63 = .ok (.iload_n 2, 1) := by decide +kernel
theorem dX9_orders_64 : decode cX9_orders 64 = .ok (.if_icmp .gt 97, 3) := by decide +kernel
theorem dX9_orders_67 : decode cX9_orders 67 = .ok (.iconst 0, 1) := by decide +kernel
theorem dX9_orders_68 : decode cX9_orders 68 = .ok (.istore 6, 2) := by decide +kernel
theorem dX9_orders_70 : decode cX9_orders 70 = .ok (.iload 6, 2) := by decide +kernel
theorem dX9_orders_72 : decode cX9_orders 72 = .ok (.iload_n 1, 1) := by decide +kernel
theorem dX9_orders_73 : decode cX9_orders 73 = .ok (.if_icmp .ge 71, 3) := by decide +kernel
theorem dX9_orders_76 : decode cX9_orders 76 = .ok (.iconst 0, 1) := by decide +kernel
theorem dX9_orders_77 : decode cX9_orders 77 = .ok (.istore 7, 2) := by decide +kernel
theorem dX9_orders_79 : decode cX9_orders 79 = .ok (.iload 7, 2) := by decide +kernel
theorem dX9_orders_81 : decode cX9_orders 81 = .ok (.bipush 96, 2) := by decide +kernel
theorem dX9_orders_83 : decode cX9_orders 83 = .ok (.if_icmp .ge 55, 3) := by decide +kernel
theorem dX9_orders_86 : decode cX9_orders 86 = .ok (.iload 7, 2) := by decide +kernel
theorem dX9_orders_88 : decode cX9_orders 88 = .ok (.ifCond .le 10, 3) := by decide +kernel
theorem dX9_orders_91 : decode cX9_orders 91 = .ok (.iload 7, 2) := by decide +kernel
theorem dX9_orders_93 : decode cX9_orders 93 = .ok (.iconst 1, 1) := by decide +kernel
theorem dX9_orders_94 : decode cX9_orders 94 = .ok (.isub, 1) := by decide +kernel
theorem dX9_orders_95 : decode cX9_orders 95 = .ok (.goto 4, 3) := by decide +kernel
theorem dX9_orders_98 : decode cX9_orders 98 = .ok (.iconst 0, 1) := by decide +kernel
theorem dX9_orders_99 : decode cX9_orders 99 = .ok (.istore 8, 2) := by decide +kernel
theorem dX9_orders_101 : decode cX9_orders 101 = .ok (.aload_n 0, 1) := by decide +kernel
theorem dX9_orders_102 : decode cX9_orders 102 = .ok (.getfield 71, 3) := by decide +kernel
theorem dX9_orders_105 : decode cX9_orders 105 = .ok (.bipush 96, 2) := by decide +kernel
theorem dX9_orders_107 : decode cX9_orders 107 = .ok (.iload 6, 2) := by decide +kernel
theorem dX9_orders_109 : decode cX9_orders 109 = .ok (.iconst 1, 1) := by decide +kernel
theorem dX9_orders_110 : decode cX9_orders 110 = .ok (.iadd, 1) := by decide +kernel
theorem dX9_orders_111 : decode cX9_orders 111 = .ok (.imul, 1) := by decide +kernel
theorem dX9_orders_112 : decode cX9_orders 112 = .ok (.iload 8, 2) := by decide +kernel
theorem dX9_orders_114 : decode cX9_orders 114 = .ok (.iadd, 1) := by decide +kernel
theorem dX9_orders_115 : decode cX9_orders 115 = .ok (.dup2, 1) := by decide +kernel
theorem dX9_orders_116 : decode cX9_orders 116 = .ok (.laload, 1) := by decide +kernel
theorem dX9_orders_117 : decode cX9_orders 117 = .ok (.aload_n 0, 1) := by decide +kernel
theorem dX9_orders_118 : decode cX9_orders 118 = .ok (.getfield 71, 3) := by decide +kernel
theorem dX9_orders_121 : decode cX9_orders 121 = .ok (.bipush 96, 2) := by decide +kernel
theorem dX9_orders_123 : decode cX9_orders 123 = .ok (.iload 6, 2) := by decide +kernel
theorem dX9_orders_125 : decode cX9_orders 125 = .ok (.imul, 1) := by decide +kernel
theorem dX9_orders_126 : decode cX9_orders 126 = .ok (.iload 7, 2) := by decide +kernel
end
section
theorem dX9_orders_128 : decode cX9_orders 128 = .ok (.iadd, 1) := by decide +kernel
theorem dX9_orders_129 : decode cX9_orders 129 = .ok (.laload, 1) := by decide +kernel
theorem dX9_orders_130 : decode cX9_orders 130 = .ok (.ladd, 1) := by decide +kernel
theorem dX9_orders_131 : decode cX9_orders 131 = .ok (.lastore, 1) := by decide +kernel
theorem dX9_orders_132 : decode cX9_orders 132 = .ok (.iinc 7 1, 3) := by decide +kernel
theorem dX9_orders_135 : decode cX9_orders 135 = .ok (.goto (-56), 3) := by decide +kernel
theorem dX9_orders_138 : decode cX9_orders 138 = .ok (.iinc 6 1, 3) := by decide +kernel
theorem dX9_orders_141 : decode cX9_orders 141 = .ok (.goto (-71), 3) := by decide +kernel
theorem dX9_orders_144 : decode cX9_orders 144 = .ok (.iload 5, 2) := by decide +kernel
theorem dX9_orders_146 : decode cX9_orders 146 = .ok (.iload_n 2, 1) := by decide +kernel
theorem dX9_orders_147 : decode cX9_orders 147 = .ok (.if_icmp .ge 8, 3) := by decide +kernel
theorem dX9_orders_150 : decode cX9_orders 150 = .ok (.aload_n 0, 1) := by decide +kernel
theorem dX9_orders_151 : decode cX9_orders 151 = .ok (.iload_n 1, 1) := by decide +kernel
theorem dX9_orders_152 : decode cX9_orders 152 = .ok (.invokevirtual 282, 3) := by decide +kernel
theorem dX9_orders_155 : decode cX9_orders 155 = .ok (.iinc 5 1, 3) := by decide +kernel
theorem dX9_orders_158 : decode cX9_orders 158 = .ok (.goto (-97), 3) := by decide +kernel
theorem dX9_orders_161 : decode cX9_orders 161 = .ok (.aload_n 0, 1) := by decide +kernel
theorem dX9_orders_162 : decode cX9_orders 162 = .ok (.getfield 71, 3) := by decide +kernel
theorem dX9_orders_165 : decode cX9_orders 165 = .ok (.bipush 96, 2) := by decide +kernel
theorem dX9_orders_167 : decode cX9_orders 167 = .ok (.iload_n 1, 1) := by decide +kernel
theorem dX9_orders_168 : decode cX9_orders 168 = .ok (.imul, 1) := by decide +kernel
theorem dX9_orders_169 : decode cX9_orders 169 = .ok (.iload 4, 2) := by decide +kernel
theorem dX9_orders_171 : decode cX9_orders 171 = .ok (.iadd, 1) := by decide +kernel
theorem dX9_orders_172 : decode cX9_orders 172 = .ok (.laload, 1) := by decide +kernel
theorem dX9_orders_173 : decode cX9_orders 173 = .ok (.lreturn, 1) := by decide +kernel
theorem dX9_raise_0 : decode cX9_raise 0 = .ok (.iconst 0, 1) := by decide +kernel
theorem dX9_raise_1 : decode cX9_raise 1 = .ok (.istore_n 2, 1) := by decide +kernel
theorem dX9_raise_2 : decode cX9_raise 2 = .ok (.iload_n 2, 1) := by decide +kernel
theorem dX9_raise_3 : decode cX9_raise 3 = .ok (.iload_n 1, 1) := by decide +kernel
theorem dX9_raise_4 : decode cX9_raise 4 = .ok (.if_icmp .gt 56, 3) := by decide +kernel
theorem dX9_raise_7 : decode cX9_raise 7 = .ok (.bipush 95, 2) := by decide +kernel
theorem dX9_raise_9 : decode cX9_raise 9 = .ok (.istore_n 3, 1) := by decide +kernel
theorem dX9_raise_10 : decode cX9_raise 10 = .ok (.iload_n 3, 1) := by decide +kernel
theorem dX9_raise_11 : decode cX9_raise 11 = .ok (.ifCond .le 33, 3) := by decide +kernel
theorem dX9_raise_14 : decode cX9_raise 14 = .ok (.aload_n 0, 1) := by decide +kernel
theorem dX9_raise_15 : decode cX9_raise 15 = .ok (.getfield 71, 3) := by decide +kernel
theorem dX9_raise_18 : decode cX9_raise 18 = .ok (.bipush 96, 2) := by decide +kernel
theorem dX9_raise_20 : decode cX9_raise 20 = .ok (.iload_n 2, 1) := by decide +kernel
theorem dX9_raise_21 : decode cX9_raise 21 = .ok (.imul, 1) := by decide +kernel
theorem dX9_raise_22 : decode cX9_raise 22 = .ok (.iload_n 3, 1) := by decide +kernel
theorem dX9_raise_23 : decode cX9_raise 23 = .ok (.iadd, 1) := by decide +kernel
theorem dX9_raise_24 : decode cX9_raise 24 = .ok (.aload_n 0, 1) := by decide +kernel
theorem dX9_raise_25 : decode cX9_raise 25 = .ok (.getfield 71, 3) := by decide +kernel
theorem dX9_raise_28 : decode cX9_raise 28 = .ok (.bipush 96, 2) := by decide +kernel
theorem dX9_raise_30 : decode cX9_raise 30 = .ok (.iload_n 2, 1) := by decide +kernel
theorem dX9_raise_31 : decode cX9_raise 31 = .ok (.imul, 1) := by decide +kernel
theorem dX9_raise_32 : decode cX9_raise 32 = .ok (.iload_n 3, 1) := by decide +kernel
theorem dX9_raise_33 : decode cX9_raise 33 = .ok (.iadd, 1) := by decide +kernel
theorem dX9_raise_34 : decode cX9_raise 34 = .ok (.iconst 1, 1) := by decide +kernel
theorem dX9_raise_35 : decode cX9_raise 35 = .ok (.isub, 1) := by decide +kernel
theorem dX9_raise_36 : decode cX9_raise 36 = .ok (.laload, 1) := by decide +kernel
theorem dX9_raise_37 : decode cX9_raise 37 = .ok (.lastore, 1) := by decide +kernel
theorem dX9_raise_38 : decode cX9_raise 38 = .ok (.iinc 3 (-1), 3) := by decide +kernel
theorem dX9_raise_41 : decode cX9_raise 41 = .ok (.goto (-31), 3) := by decide +kernel
theorem dX9_raise_44 : decode cX9_raise 44 = .ok (.aload_n 0, 1) := by decide +kernel
theorem dX9_raise_45 : decode cX9_raise 45 = .ok (.getfield 71, 3) := by decide +kernel
theorem dX9_raise_48 : decode cX9_raise 48 = .ok (.bipush 96, 2) := by decide +kernel
theorem dX9_raise_50 : decode cX9_raise 50 = .ok (.iload_n 2, 1) := by decide +kernel
theorem dX9_raise_51 : decode cX9_raise 51 = .ok (.imul, 1) := by decide +kernel
theorem dX9_raise_52 : decode cX9_raise 52 = .ok (.lconst 0, 1) := by decide +kernel
theorem dX9_raise_53 : decode cX9_raise 53 = .ok (.lastore, 1) := by decide +kernel
theorem dX9_raise_54 : decode cX9_raise 54 = .ok (.iinc 2 1, 3) := by decide +kernel
theorem dX9_raise_57 : decode cX9_raise 57 = .ok (.goto (-55), 3) := by decide +kernel
theorem dX9_raise_60 : decode cX9_raise 60 = .ok (.return_, 1) := by decide +kernel
theorem dX9_left_0 : decode cX9_left 0 = .ok (.iload_n 1, 1) := by decide +kernel
theorem dX9_left_1 : decode cX9_left 1 = .ok (.iload_n 2, 1) := by decide +kernel
theorem dX9_left_2 : decode cX9_left 2 = .ok (.iload_n 3, 1) := by decide +kernel
theorem dX9_left_3 : decode cX9_left 3 = .ok (.invokestatic 274, 3) := by decide +kernel
theorem dX9_left_6 : decode cX9_left 6 = .ok (.ifCond .eq 14, 3) := by decide +kernel
theorem dX9_left_9 : decode cX9_left 9 = .ok (.iload 4, 2) := by decide +kernel
theorem dX9_left_11 : decode cX9_left 11 = .ok (.i2l, 1) := by decide +kernel
theorem dX9_left_12 : decode cX9_left 12 = .ok (.lconst 0, 1) := by decide +kernel
theorem dX9_left_13 : decode cX9_left 13 = .ok (.lconst 1, 1) := by decide +kernel
theorem dX9_left_14 : decode cX9_left 14 = .ok (.invokestatic 101, 3) := by decide +kernel
theorem dX9_left_17 : decode cX9_left 17 = .ok (.ifCond .ne 6, 3) := by decide +kernel
theorem dX9_left_20 : decode cX9_left 20 = .ok (.bipush (-2), 2) := by decide +kernel
theorem dX9_left_22 : decode cX9_left 22 = .ok (.ireturn, 1) := by decide +kernel
theorem dX9_left_23 : decode cX9_left 23 = .ok (.iload 4, 2) := by decide +kernel
theorem dX9_left_25 : decode cX9_left 25 = .ok (.ifCond .ne 20, 3) := by decide +kernel
theorem dX9_left_28 : decode cX9_left 28 = .ok (.iload_n 3, 1) := by decide +kernel
theorem dX9_left_29 : decode cX9_left 29 = .ok (.iload_n 2, 1) := by decide +kernel
theorem dX9_left_30 : decode cX9_left 30 = .ok (.iadd, 1) := by decide +kernel
theorem dX9_left_31 : decode cX9_left 31 = .ok (.iload_n 1, 1) := by decide +kernel
theorem dX9_left_32 : decode cX9_left 32 = .ok (.if_icmp .le 11, 3) := by decide +kernel
theorem dX9_left_35 : decode cX9_left 35 = .ok (.iload_n 3, 1) := by decide +kernel
theorem dX9_left_36 : decode cX9_left 36 = .ok (.iload_n 2, 1) := by decide +kernel
theorem dX9_left_37 : decode cX9_left 37 = .ok (.iadd, 1) := by decide +kernel
theorem dX9_left_38 : decode cX9_left 38 = .ok (.iload_n 1, 1) := by decide +kernel
theorem dX9_left_39 : decode cX9_left 39 = .ok (.isub, 1) := by decide +kernel
theorem dX9_left_40 : decode cX9_left 40 = .ok (.goto 4, 3) := by decide +kernel
theorem dX9_left_43 : decode cX9_left 43 = .ok (.iconst 0, 1) := by decide +kernel
theorem dX9_left_44 : decode cX9_left 44 = .ok (.ireturn, 1) := by decide +kernel
theorem dX9_left_45 : decode cX9_left 45 = .ok (.iload_n 3, 1) := by decide +kernel
theorem dX9_left_46 : decode cX9_left 46 = .ok (.iload_n 1, 1) := by decide +kernel
theorem dX9_left_47 : decode cX9_left 47 = .ok (.if_icmp .le 9, 3) := by decide +kernel
theorem dX9_left_50 : decode cX9_left 50 = .ok (.iload_n 3, 1) := by decide +kernel
theorem dX9_left_51 : decode cX9_left 51 = .ok (.iload_n 1, 1) := by decide +kernel
theorem dX9_left_52 : decode cX9_left 52 = .ok (.isub, 1) := by decide +kernel
theorem dX9_left_53 : decode cX9_left 53 = .ok (.goto 4, 3) := by decide +kernel
theorem dX9_left_56 : decode cX9_left 56 = .ok (.iconst 0, 1) := by decide +kernel
theorem dX9_left_57 : decode cX9_left 57 = .ok (.iload_n 2, 1) := by decide +kernel
theorem dX9_left_58 : decode cX9_left 58 = .ok (.iadd, 1) := by decide +kernel
theorem dX9_left_59 : decode cX9_left 59 = .ok (.ireturn, 1) := by decide +kernel
theorem dX9_goChance_0 : decode cX9_goChance 0 = .ok (.iconst 0, 1) := by decide +kernel
theorem dX9_goChance_1 : decode cX9_goChance 1 = .ok (.istore 4, 2) := by decide +kernel
theorem dX9_goChance_3 : decode cX9_goChance 3 = .ok (.iload 4, 2) := by decide +kernel
theorem dX9_goChance_5 : decode cX9_goChance 5 = .ok (.bipush 96, 2) := by decide +kernel
theorem dX9_goChance_7 : decode cX9_goChance 7 = .ok (.if_icmp .ge 27, 3) := by decide +kernel
theorem dX9_goChance_10 : decode cX9_goChance 10 = .ok (.aload_n 0, 1) := by decide +kernel
theorem dX9_goChance_11 : decode cX9_goChance 11 = .ok (.getfield 64, 3) := by decide +kernel
theorem dX9_goChance_14 : decode cX9_goChance 14 = .ok (.iload 4, 2) := by decide +kernel
theorem dX9_goChance_16 : decode cX9_goChance 16 = .ok (.iload 4, 2) := by decide +kernel
theorem dX9_goChance_18 : decode cX9_goChance 18 = .ok (.iload_n 1, 1) := by decide +kernel
theorem dX9_goChance_19 : decode cX9_goChance 19 = .ok (.if_icmp .ne 7, 3) := by decide +kernel
theorem dX9_goChance_22 : decode cX9_goChance 22 = .ok (.lconst 1, 1) := by decide +kernel
theorem dX9_goChance_23 : decode cX9_goChance 23 = .ok (.goto 4, 3) := by decide +kernel
theorem dX9_goChance_26 : decode cX9_goChance 26 = .ok (.lconst 0, 1) := by decide +kernel
theorem dX9_goChance_27 : decode cX9_goChance 27 = .ok (.lastore, 1) := by decide +kernel
theorem dX9_goChance_28 : decode cX9_goChance 28 = .ok (.iinc 4 1, 3) := by decide +kernel
theorem dX9_goChance_31 : decode cX9_goChance 31 = .ok (.goto (-28), 3) := by decide +kernel
theorem dX9_goChance_34 : decode cX9_goChance 34 = .ok (.iconst 0, 1) := by decide +kernel
theorem dX9_goChance_35 : decode cX9_goChance 35 = .ok (.istore 4, 2) := by decide +kernel
theorem dX9_goChance_37 : decode cX9_goChance 37 = .ok (.iload 4, 2) := by decide +kernel
theorem dX9_goChance_39 : decode cX9_goChance 39 = .ok (.iload_n 2, 1) := by decide +kernel
theorem dX9_goChance_40 : decode cX9_goChance 40 = .ok (.if_icmp .ge 129, 3) := by decide +kernel
theorem dX9_goChance_43 : decode cX9_goChance 43 = .ok (.iconst 0, 1) := by decide +kernel
theorem dX9_goChance_44 : decode cX9_goChance 44 = .ok (.istore 5, 2) := by decide +kernel
theorem dX9_goChance_46 : decode cX9_goChance 46 = .ok (.iload 5, 2) := by decide +kernel
theorem dX9_goChance_48 : decode cX9_goChance 48 = .ok (.bipush 96, 2) := by decide +kernel
theorem dX9_goChance_50 : decode cX9_goChance 50 = .ok (.if_icmp .ge 83, 3) := by decide +kernel
theorem dX9_goChance_53 : decode cX9_goChance 53 = .ok (.aload_n 0, 1) := by decide +kernel
theorem dX9_goChance_54 : decode cX9_goChance 54 = .ok (.getfield 68, 3) := by decide +kernel
theorem dX9_goChance_57 : decode cX9_goChance 57 = .ok (.iload 5, 2) := by decide +kernel
theorem dX9_goChance_59 : decode cX9_goChance 59 = .ok (.iload 5, 2) := by decide +kernel
theorem dX9_goChance_61 : decode cX9_goChance 61 = .ok (.ifCond .le 21, 3) := by decide +kernel
theorem dX9_goChance_64 : decode cX9_goChance 64 = .ok (.aload_n 0, 1) := by decide +kernel
theorem dX9_goChance_65 : decode cX9_goChance 65 = .ok (.getfield 64, 3) := by decide +kernel
theorem dX9_goChance_68 : decode cX9_goChance 68 = .ok (.iload 5, 2) := by decide +kernel
theorem dX9_goChance_70 : decode cX9_goChance 70 = .ok (.iconst 1, 1) := by decide +kernel
theorem dX9_goChance_71 : decode cX9_goChance 71 = .ok (.isub, 1) := by decide +kernel
theorem dX9_goChance_72 : decode cX9_goChance 72 = .ok (.laload, 1) := by decide +kernel
theorem dX9_goChance_73 : decode cX9_goChance 73 = .ok (.bipush 10, 2) := by decide +kernel
theorem dX9_goChance_75 : decode cX9_goChance 75 = .ok (.iload_n 3, 1) := by decide +kernel
theorem dX9_goChance_76 : decode cX9_goChance 76 = .ok (.isub, 1) := by decide +kernel
theorem dX9_goChance_77 : decode cX9_goChance 77 = .ok (.i2l, 1) := by decide +kernel
theorem dX9_goChance_78 : decode cX9_goChance 78 = .ok (.lmul, 1) := by decide +kernel
theorem dX9_goChance_79 : decode cX9_goChance 79 = .ok (.goto 12, 3) := by decide +kernel
theorem dX9_goChance_82 : decode cX9_goChance 82 = .ok (.aload_n 0, 1) := by decide +kernel
theorem dX9_goChance_83 : decode cX9_goChance 83 = .ok (.getfield 64, 3) := by decide +kernel
theorem dX9_goChance_86 : decode cX9_goChance 86 = .ok (.iconst 0, 1) := by decide +kernel
theorem dX9_goChance_87 : decode cX9_goChance 87 = .ok (.laload, 1) := by decide +kernel
theorem dX9_goChance_88 : decode cX9_goChance 88 = .ok (.iload_n 3, 1) := by decide +kernel
theorem dX9_goChance_89 : decode cX9_goChance 89 = .ok (.i2l, 1) := by decide +kernel
theorem dX9_goChance_90 : decode cX9_goChance 90 = .ok (.lmul, 1) := by decide +kernel
theorem dX9_goChance_91 : decode cX9_goChance 91 = .ok (.lastore, 1) := by decide +kernel
theorem dX9_goChance_92 : decode cX9_goChance 92 = .ok (.aload_n 0, 1) := by decide +kernel
theorem dX9_goChance_93 : decode cX9_goChance 93 = .ok (.getfield 68, 3) := by decide +kernel
theorem dX9_goChance_96 : decode cX9_goChance 96 = .ok (.iload 5, 2) := by decide +kernel
theorem dX9_goChance_98 : decode cX9_goChance 98 = .ok (.dup2, 1) := by decide +kernel
theorem dX9_goChance_99 : decode cX9_goChance 99 = .ok (.laload, 1) := by decide +kernel
theorem dX9_goChance_100 : decode cX9_goChance 100 = .ok (.iload 5, 2) := by decide +kernel
theorem dX9_goChance_102 : decode cX9_goChance 102 = .ok (.iconst 1, 1) := by decide +kernel
theorem dX9_goChance_103 : decode cX9_goChance 103 = .ok (.iadd, 1) := by decide +kernel
theorem dX9_goChance_104 : decode cX9_goChance 104 = .ok (.bipush 96, 2) := by decide +kernel
theorem dX9_goChance_106 : decode cX9_goChance 106 = .ok (.if_icmp .ge 18, 3) := by decide +kernel
theorem dX9_goChance_109 : decode cX9_goChance 109 = .ok (.aload_n 0, 1) := by decide +kernel
theorem dX9_goChance_110 : decode cX9_goChance 110 = .ok (.getfield 64, 3) := by decide +kernel
theorem dX9_goChance_113 : decode cX9_goChance 113 = .ok (.iload 5, 2) := by decide +kernel
theorem dX9_goChance_115 : decode cX9_goChance 115 = .ok (.iconst 1, 1) := by decide +kernel
theorem dX9_goChance_116 : decode cX9_goChance 116 = .ok (.iadd, 1) := by decide +kernel
theorem dX9_goChance_117 : decode cX9_goChance 117 = .ok (.laload, 1) := by decide +kernel
theorem dX9_goChance_118 : decode cX9_goChance 118 = .ok (.iload_n 3, 1) := by decide +kernel
theorem dX9_goChance_119 : decode cX9_goChance 119 = .ok (.i2l, 1) := by decide +kernel
theorem dX9_goChance_120 : decode cX9_goChance 120 = .ok (.lmul, 1) := by decide +kernel
theorem dX9_goChance_121 : decode cX9_goChance 121 = .ok (.goto 4, 3) := by decide +kernel
theorem dX9_goChance_124 : decode cX9_goChance 124 = .ok (.lconst 0, 1) := by decide +kernel
theorem dX9_goChance_125 : decode cX9_goChance 125 = .ok (.ladd, 1) := by decide +kernel
theorem dX9_goChance_126 : decode cX9_goChance 126 = .ok (.lastore, 1) := by decide +kernel
theorem dX9_goChance_127 : decode cX9_goChance 127 = .ok (.iinc 5 1, 3) := by decide +kernel
theorem dX9_goChance_130 : decode cX9_goChance 130 = .ok (.goto (-84), 3) := by decide +kernel
theorem dX9_goChance_133 : decode cX9_goChance 133 = .ok (.iconst 0, 1) := by decide +kernel
theorem dX9_goChance_134 : decode cX9_goChance 134 = .ok (.istore 5, 2) := by decide +kernel
theorem dX9_goChance_136 : decode cX9_goChance 136 = .ok (.iload 5, 2) := by decide +kernel
theorem dX9_goChance_138 : decode cX9_goChance 138 = .ok (.bipush 96, 2) := by decide +kernel
theorem dX9_goChance_140 : decode cX9_goChance 140 = .ok (.if_icmp .ge 23, 3) := by decide +kernel
theorem dX9_goChance_143 : decode cX9_goChance 143 = .ok (.aload_n 0, 1) := by decide +kernel
theorem dX9_goChance_144 : decode cX9_goChance 144 = .ok (.getfield 64, 3) := by decide +kernel
theorem dX9_goChance_147 : decode cX9_goChance 147 = .ok (.iload 5, 2) := by decide +kernel
theorem dX9_goChance_149 : decode cX9_goChance 149 = .ok (.aload_n 0, 1) := by decide +kernel
theorem dX9_goChance_150 : decode cX9_goChance 150 = .ok (.getfield 68, 3) := by decide +kernel
theorem dX9_goChance_153 : decode cX9_goChance 153 = .ok (.iload 5, 2) := by decide +kernel
theorem dX9_goChance_155 : decode cX9_goChance 155 = .ok (.laload, 1) := by decide +kernel
theorem dX9_goChance_156 : decode cX9_goChance 156 = .ok (.lastore, 1) := by decide +kernel
theorem dX9_goChance_157 : decode cX9_goChance 157 = .ok (.iinc 5 1, 3) := by decide +kernel
theorem dX9_goChance_160 : decode cX9_goChance 160 = .ok (.goto (-24), 3) := by decide +kernel
theorem dX9_goChance_163 : decode cX9_goChance 163 = .ok (.iinc 4 1, 3) := by decide +kernel
theorem dX9_goChance_166 : decode cX9_goChance 166 = .ok (.goto (-129), 3) := by decide +kernel
theorem dX9_goChance_169 : decode cX9_goChance 169 = .ok (.return_, 1) := by decide +kernel
theorem dX9_tens_0 : decode cX9_tens 0 = .ok (.lconst 1, 1) := by decide +kernel
theorem dX9_tens_1 : decode cX9_tens 1 = .ok (.lstore_n 1, 1) := by decide +kernel
theorem dX9_tens_2 : decode cX9_tens 2 = .ok (.iconst 0, 1) := by decide +kernel
theorem dX9_tens_3 : decode cX9_tens 3 = .ok (.istore_n 3, 1) := by decide +kernel
theorem dX9_tens_4 : decode cX9_tens 4 = .ok (.iload_n 3, 1) := by decide +kernel
theorem dX9_tens_5 : decode cX9_tens 5 = .ok (.iload_n 0, 1) := by decide +kernel
theorem dX9_tens_6 : decode cX9_tens 6 = .ok (.if_icmp .ge 15, 3) := by decide +kernel
theorem dX9_tens_9 : decode cX9_tens 9 = .ok (.lload_n 1, 1) := by decide +kernel
theorem dX9_tens_10 : decode cX9_tens 10 = .ok (.ldc2_w 285, 3) := by decide +kernel
theorem dX9_tens_13 : decode cX9_tens 13 = .ok (.lmul, 1) := by decide +kernel
theorem dX9_tens_14 : decode cX9_tens 14 = .ok (.lstore_n 1, 1) := by decide +kernel
theorem dX9_tens_15 : decode cX9_tens 15 = .ok (.iinc 3 1, 3) := by decide +kernel
theorem dX9_tens_18 : decode cX9_tens 18 = .ok (.goto (-14), 3) := by decide +kernel
theorem dX9_tens_21 : decode cX9_tens 21 = .ok (.lload_n 1, 1) := by decide +kernel
theorem dX9_tens_22 : decode cX9_tens 22 = .ok (.lreturn, 1) := by decide +kernel
theorem dX9_lowest_0 : decode cX9_lowest 0 = .ok (.lload_n 2, 1) := by decide +kernel
theorem dX9_lowest_1 : decode cX9_lowest 1 = .ok (.lstore 5, 2) := by decide +kernel
theorem dX9_lowest_3 : decode cX9_lowest 3 = .ok (.lload_n 0, 1) := by decide +kernel
theorem dX9_lowest_4 : decode cX9_lowest 4 = .ok (.lstore 7, 2) := by decide +kernel
theorem dX9_lowest_6 : decode cX9_lowest 6 = .ok (.lload 7, 2) := by decide +kernel
theorem dX9_lowest_8 : decode cX9_lowest 8 = .ok (.lconst 0, 1) := by decide +kernel
theorem dX9_lowest_9 : decode cX9_lowest 9 = .ok (.lcmp, 1) := by decide +kernel
theorem dX9_lowest_10 : decode cX9_lowest 10 = .ok (.ifCond .eq 21, 3) := by decide +kernel
theorem dX9_lowest_13 : decode cX9_lowest 13 = .ok (.lload 5, 2) := by decide +kernel
theorem dX9_lowest_15 : decode cX9_lowest 15 = .ok (.lload 7, 2) := by decide +kernel
theorem dX9_lowest_17 : decode cX9_lowest 17 = .ok (.lrem, 1) := by decide +kernel
theorem dX9_lowest_18 : decode cX9_lowest 18 = .ok (.lstore 9, 2) := by decide +kernel
theorem dX9_lowest_20 : decode cX9_lowest 20 = .ok (.lload 7, 2) := by decide +kernel
theorem dX9_lowest_22 : decode cX9_lowest 22 = .ok (.lstore 5, 2) := by decide +kernel
theorem dX9_lowest_24 : decode cX9_lowest 24 = .ok (.lload 9, 2) := by decide +kernel
theorem dX9_lowest_26 : decode cX9_lowest 26 = .ok (.lstore 7, 2) := by decide +kernel
theorem dX9_lowest_28 : decode cX9_lowest 28 = .ok (.goto (-22), 3) := by decide +kernel
theorem dX9_lowest_31 : decode cX9_lowest 31 = .ok (.iload 4, 2) := by decide +kernel
theorem dX9_lowest_33 : decode cX9_lowest 33 = .ok (.ifCond .ne 10, 3) := by decide +kernel
theorem dX9_lowest_36 : decode cX9_lowest 36 = .ok (.lload_n 0, 1) := by decide +kernel
theorem dX9_lowest_37 : decode cX9_lowest 37 = .ok (.lload 5, 2) := by decide +kernel
theorem dX9_lowest_39 : decode cX9_lowest 39 = .ok (.ldiv, 1) := by decide +kernel
theorem dX9_lowest_40 : decode cX9_lowest 40 = .ok (.goto 7, 3) := by decide +kernel
theorem dX9_lowest_43 : decode cX9_lowest 43 = .ok (.lload_n 2, 1) := by decide +kernel
theorem dX9_lowest_44 : decode cX9_lowest 44 = .ok (.lload 5, 2) := by decide +kernel
theorem dX9_lowest_46 : decode cX9_lowest 46 = .ok (.ldiv, 1) := by decide +kernel
theorem dX9_lowest_47 : decode cX9_lowest 47 = .ok (.lreturn, 1) := by decide +kernel
theorem dX9_atLeast_0 : decode cX9_atLeast 0 = .ok (.lconst 0, 1) := by decide +kernel
theorem dX9_atLeast_1 : decode cX9_atLeast 1 = .ok (.lstore_n 2, 1) := by decide +kernel
theorem dX9_atLeast_2 : decode cX9_atLeast 2 = .ok (.iload_n 1, 1) := by decide +kernel
theorem dX9_atLeast_3 : decode cX9_atLeast 3 = .ok (.istore 4, 2) := by decide +kernel
theorem dX9_atLeast_5 : decode cX9_atLeast 5 = .ok (.iload 4, 2) := by decide +kernel
theorem dX9_atLeast_7 : decode cX9_atLeast 7 = .ok (.bipush 96, 2) := by decide +kernel
theorem dX9_atLeast_9 : decode cX9_atLeast 9 = .ok (.if_icmp .ge 19, 3) := by decide +kernel
theorem dX9_atLeast_12 : decode cX9_atLeast 12 = .ok (.lload_n 2, 1) := by decide +kernel
theorem dX9_atLeast_13 : decode cX9_atLeast 13 = .ok (.aload_n 0, 1) := by decide +kernel
theorem dX9_atLeast_14 : decode cX9_atLeast 14 = .ok (.getfield 64, 3) := by decide +kernel
theorem dX9_atLeast_17 : decode cX9_atLeast 17 = .ok (.iload 4, 2) := by decide +kernel
theorem dX9_atLeast_19 : decode cX9_atLeast 19 = .ok (.laload, 1) := by decide +kernel
theorem dX9_atLeast_20 : decode cX9_atLeast 20 = .ok (.ladd, 1) := by decide +kernel
theorem dX9_atLeast_21 : decode cX9_atLeast 21 = .ok (.lstore_n 2, 1) := by decide +kernel
theorem dX9_atLeast_22 : decode cX9_atLeast 22 = .ok (.iinc 4 1, 3) := by decide +kernel
theorem dX9_atLeast_25 : decode cX9_atLeast 25 = .ok (.goto (-20), 3) := by decide +kernel
theorem dX9_atLeast_28 : decode cX9_atLeast 28 = .ok (.lload_n 2, 1) := by decide +kernel
theorem dX9_atLeast_29 : decode cX9_atLeast 29 = .ok (.lreturn, 1) := by decide +kernel
theorem dX9_chance_0 : decode cX9_chance 0 = .ok (.iload_n 1, 1) := by decide +kernel
theorem dX9_chance_1 : decode cX9_chance 1 = .ok (.i2l, 1) := by decide +kernel
theorem dX9_chance_2 : decode cX9_chance 2 = .ok (.lconst 0, 1) := by decide +kernel
theorem dX9_chance_3 : decode cX9_chance 3 = .ok (.ldc2_w 272, 3) := by decide +kernel
theorem dX9_chance_6 : decode cX9_chance 6 = .ok (.invokestatic 101, 3) := by decide +kernel
theorem dX9_chance_9 : decode cX9_chance 9 = .ok (.ifCond .eq 40, 3) := by decide +kernel
theorem dX9_chance_12 : decode cX9_chance 12 = .ok (.iload_n 2, 1) := by decide +kernel
theorem dX9_chance_13 : decode cX9_chance 13 = .ok (.i2l, 1) := by decide +kernel
theorem dX9_chance_14 : decode cX9_chance 14 = .ok (.lconst 0, 1) := by decide +kernel
theorem dX9_chance_15 : decode cX9_chance 15 = .ok (.ldc2_w 285, 3) := by decide +kernel
theorem dX9_chance_18 : decode cX9_chance 18 = .ok (.invokestatic 101, 3) := by decide +kernel
theorem dX9_chance_21 : decode cX9_chance 21 = .ok (.ifCond .eq 28, 3) := by decide +kernel
theorem dX9_chance_24 : decode cX9_chance 24 = .ok (.iload_n 3, 1) := by decide +kernel
theorem dX9_chance_25 : decode cX9_chance 25 = .ok (.i2l, 1) := by decide +kernel
theorem dX9_chance_26 : decode cX9_chance 26 = .ok (.ldc2_w 287, 3) := by decide +kernel
theorem dX9_chance_29 : decode cX9_chance 29 = .ok (.ldc2_w 278, 3) := by decide +kernel
theorem dX9_chance_32 : decode cX9_chance 32 = .ok (.invokestatic 101, 3) := by decide +kernel
theorem dX9_chance_35 : decode cX9_chance 35 = .ok (.ifCond .eq 14, 3) := by decide +kernel
theorem dX9_chance_38 : decode cX9_chance 38 = .ok (.iload 4, 2) := by decide +kernel
theorem dX9_chance_40 : decode cX9_chance 40 = .ok (.i2l, 1) := by decide +kernel
theorem dX9_chance_41 : decode cX9_chance 41 = .ok (.lconst 0, 1) := by decide +kernel
theorem dX9_chance_42 : decode cX9_chance 42 = .ok (.lconst 1, 1) := by decide +kernel
theorem dX9_chance_43 : decode cX9_chance 43 = .ok (.invokestatic 101, 3) := by decide +kernel
theorem dX9_chance_46 : decode cX9_chance 46 = .ok (.ifCond .ne 7, 3) := by decide +kernel
theorem dX9_chance_49 : decode cX9_chance 49 = .ok (.ldc2_w 280, 3) := by decide +kernel
theorem dX9_chance_52 : decode cX9_chance 52 = .ok (.lreturn, 1) := by decide +kernel
theorem dX9_chance_53 : decode cX9_chance 53 = .ok (.aload_n 0, 1) := by decide +kernel
theorem dX9_chance_54 : decode cX9_chance 54 = .ok (.aload_n 0, 1) := by decide +kernel
theorem dX9_chance_55 : decode cX9_chance 55 = .ok (.getfield 92, 3) := by decide +kernel
theorem dX9_chance_58 : decode cX9_chance 58 = .ok (.iload_n 1, 1) := by decide +kernel
theorem dX9_chance_59 : decode cX9_chance 59 = .ok (.iload_n 2, 1) := by decide +kernel
theorem dX9_chance_60 : decode cX9_chance 60 = .ok (.invokevirtual 289, 3) := by decide +kernel
theorem dX9_chance_63 : decode cX9_chance 63 = .ok (.lconst 0, 1) := by decide +kernel
theorem dX9_chance_64 : decode cX9_chance 64 = .ok (.lstore 5, 2) := by decide +kernel
theorem dX9_chance_66 : decode cX9_chance 66 = .ok (.iconst 0, 1) := by decide +kernel
theorem dX9_chance_67 : decode cX9_chance 67 = .ok (.istore 7, 2) := by decide +kernel
theorem dX9_chance_69 : decode cX9_chance 69 = .ok (.iload 7, 2) := by decide +kernel
theorem dX9_chance_71 : decode cX9_chance 71 = .ok (.bipush 96, 2) := by decide +kernel
theorem dX9_chance_73 : decode cX9_chance 73 = .ok (.if_icmp .ge 25, 3) := by decide +kernel
theorem dX9_chance_76 : decode cX9_chance 76 = .ok (.lload 5, 2) := by decide +kernel
theorem dX9_chance_78 : decode cX9_chance 78 = .ok (.iload 7, 2) := by decide +kernel
theorem dX9_chance_80 : decode cX9_chance 80 = .ok (.i2l, 1) := by decide +kernel
theorem dX9_chance_81 : decode cX9_chance 81 = .ok (.aload_n 0, 1) := by decide +kernel
theorem dX9_chance_82 : decode cX9_chance 82 = .ok (.getfield 64, 3) := by decide +kernel
theorem dX9_chance_85 : decode cX9_chance 85 = .ok (.iload 7, 2) := by decide +kernel
theorem dX9_chance_87 : decode cX9_chance 87 = .ok (.laload, 1) := by decide +kernel
theorem dX9_chance_88 : decode cX9_chance 88 = .ok (.lmul, 1) := by decide +kernel
theorem dX9_chance_89 : decode cX9_chance 89 = .ok (.ladd, 1) := by decide +kernel
theorem dX9_chance_90 : decode cX9_chance 90 = .ok (.lstore 5, 2) := by decide +kernel
theorem dX9_chance_92 : decode cX9_chance 92 = .ok (.iinc 7 1, 3) := by decide +kernel
theorem dX9_chance_95 : decode cX9_chance 95 = .ok (.goto (-26), 3) := by decide +kernel
theorem dX9_chance_98 : decode cX9_chance 98 = .ok (.iload_n 3, 1) := by decide +kernel
theorem dX9_chance_99 : decode cX9_chance 99 = .ok (.ifCond .ge 8, 3) := by decide +kernel
theorem dX9_chance_102 : decode cX9_chance 102 = .ok (.lload 5, 2) := by decide +kernel
theorem dX9_chance_104 : decode cX9_chance 104 = .ok (.goto 8, 3) := by decide +kernel
theorem dX9_chance_107 : decode cX9_chance 107 = .ok (.aload_n 0, 1) := by decide +kernel
theorem dX9_chance_108 : decode cX9_chance 108 = .ok (.iload_n 3, 1) := by decide +kernel
theorem dX9_chance_109 : decode cX9_chance 109 = .ok (.invokevirtual 293, 3) := by decide +kernel
theorem dX9_chance_112 : decode cX9_chance 112 = .ok (.iload_n 1, 1) := by decide +kernel
theorem dX9_chance_113 : decode cX9_chance 113 = .ok (.invokestatic 297, 3) := by decide +kernel
theorem dX9_chance_116 : decode cX9_chance 116 = .ok (.iload 4, 2) := by decide +kernel
theorem dX9_chance_118 : decode cX9_chance 118 = .ok (.invokestatic 300, 3) := by decide +kernel
theorem dX9_chance_121 : decode cX9_chance 121 = .ok (.lreturn, 1) := by decide +kernel
theorem dX9_over_0 : decode cX9_over 0 = .ok (.iload_n 1, 1) := by decide +kernel
theorem dX9_over_1 : decode cX9_over 1 = .ok (.i2l, 1) := by decide +kernel
theorem dX9_over_2 : decode cX9_over 2 = .ok (.lconst 0, 1) := by decide +kernel
theorem dX9_over_3 : decode cX9_over 3 = .ok (.ldc2_w 272, 3) := by decide +kernel
theorem dX9_over_6 : decode cX9_over 6 = .ok (.invokestatic 101, 3) := by decide +kernel
theorem dX9_over_9 : decode cX9_over 9 = .ok (.ifCond .eq 53, 3) := by decide +kernel
theorem dX9_over_12 : decode cX9_over 12 = .ok (.iload_n 2, 1) := by decide +kernel
theorem dX9_over_13 : decode cX9_over 13 = .ok (.i2l, 1) := by decide +kernel
theorem dX9_over_14 : decode cX9_over 14 = .ok (.lconst 0, 1) := by decide +kernel
theorem dX9_over_15 : decode cX9_over 15 = .ok (.ldc2_w 285, 3) := by decide +kernel
theorem dX9_over_18 : decode cX9_over 18 = .ok (.invokestatic 101, 3) := by decide +kernel
theorem dX9_over_21 : decode cX9_over 21 = .ok (.ifCond .eq 41, 3) := by decide +kernel
theorem dX9_over_24 : decode cX9_over 24 = .ok (.iload_n 3, 1) := by decide +kernel
theorem dX9_over_25 : decode cX9_over 25 = .ok (.i2l, 1) := by decide +kernel
theorem dX9_over_26 : decode cX9_over 26 = .ok (.lconst 0, 1) := by decide +kernel
theorem dX9_over_27 : decode cX9_over 27 = .ok (.ldc2_w 278, 3) := by decide +kernel
theorem dX9_over_30 : decode cX9_over 30 = .ok (.invokestatic 101, 3) := by decide +kernel
theorem dX9_over_33 : decode cX9_over 33 = .ok (.ifCond .eq 29, 3) := by decide +kernel
theorem dX9_over_36 : decode cX9_over 36 = .ok (.iload 5, 2) := by decide +kernel
theorem dX9_over_38 : decode cX9_over 38 = .ok (.i2l, 1) := by decide +kernel
theorem dX9_over_39 : decode cX9_over 39 = .ok (.lconst 1, 1) := by decide +kernel
theorem dX9_over_40 : decode cX9_over 40 = .ok (.ldc2_w 304, 3) := by decide +kernel
theorem dX9_over_43 : decode cX9_over 43 = .ok (.invokestatic 101, 3) := by decide +kernel
theorem dX9_over_46 : decode cX9_over 46 = .ok (.ifCond .eq 16, 3) := by decide +kernel
theorem dX9_over_49 : decode cX9_over 49 = .ok (.iload 4, 2) := by decide +kernel
theorem dX9_over_51 : decode cX9_over 51 = .ok (.i2l, 1) := by decide +kernel
theorem dX9_over_52 : decode cX9_over 52 = .ok (.lconst 0, 1) := by decide +kernel
theorem dX9_over_53 : decode cX9_over 53 = .ok (.iload 5, 2) := by decide +kernel
theorem dX9_over_55 : decode cX9_over 55 = .ok (.i2l, 1) := by decide +kernel
theorem dX9_over_56 : decode cX9_over 56 = .ok (.invokestatic 101, 3) := by decide +kernel
theorem dX9_over_59 : decode cX9_over 59 = .ok (.ifCond .ne 6, 3) := by decide +kernel
theorem dX9_over_62 : decode cX9_over 62 = .ok (.bipush (-2), 2) := by decide +kernel
theorem dX9_over_64 : decode cX9_over 64 = .ok (.ireturn, 1) := by decide +kernel
theorem dX9_over_65 : decode cX9_over 65 = .ok (.iconst 0, 1) := by decide +kernel
theorem dX9_over_66 : decode cX9_over 66 = .ok (.istore 6, 2) := by decide +kernel
theorem dX9_over_68 : decode cX9_over 68 = .ok (.iload 6, 2) := by decide +kernel
theorem dX9_over_70 : decode cX9_over 70 = .ok (.bipush 40, 2) := by decide +kernel
theorem dX9_over_72 : decode cX9_over 72 = .ok (.if_icmp .gt 82, 3) := by decide +kernel
theorem dX9_over_75 : decode cX9_over 75 = .ok (.aload_n 0, 1) := by decide +kernel
theorem dX9_over_76 : decode cX9_over 76 = .ok (.getfield 92, 3) := by decide +kernel
theorem dX9_over_79 : decode cX9_over 79 = .ok (.iload 6, 2) := by decide +kernel
theorem dX9_over_81 : decode cX9_over 81 = .ok (.iadd, 1) := by decide +kernel
theorem dX9_over_82 : decode cX9_over 82 = .ok (.istore 7, 2) := by decide +kernel
theorem dX9_over_84 : decode cX9_over 84 = .ok (.iload 7, 2) := by decide +kernel
theorem dX9_over_86 : decode cX9_over 86 = .ok (.iload_n 1, 1) := by decide +kernel
theorem dX9_over_87 : decode cX9_over 87 = .ok (.isub, 1) := by decide +kernel
theorem dX9_over_88 : decode cX9_over 88 = .ok (.iload_n 3, 1) := by decide +kernel
theorem dX9_over_89 : decode cX9_over 89 = .ok (.if_icmp .lt 7, 3) := by decide +kernel
theorem dX9_over_92 : decode cX9_over 92 = .ok (.iconst 1, 1) := by decide +kernel
theorem dX9_over_93 : decode cX9_over 93 = .ok (.goto 4, 3) := by decide +kernel
theorem dX9_over_96 : decode cX9_over 96 = .ok (.iconst 0, 1) := by decide +kernel
theorem dX9_over_97 : decode cX9_over 97 = .ok (.istore 8, 2) := by decide +kernel
theorem dX9_over_99 : decode cX9_over 99 = .ok (.iload 8, 2) := by decide +kernel
theorem dX9_over_101 : decode cX9_over 101 = .ok (.ifCond .ne 39, 3) := by decide +kernel
theorem dX9_over_104 : decode cX9_over 104 = .ok (.aload_n 0, 1) := by decide +kernel
theorem dX9_over_105 : decode cX9_over 105 = .ok (.iload 7, 2) := by decide +kernel
theorem dX9_over_107 : decode cX9_over 107 = .ok (.iload_n 1, 1) := by decide +kernel
theorem dX9_over_108 : decode cX9_over 108 = .ok (.iload_n 2, 1) := by decide +kernel
theorem dX9_over_109 : decode cX9_over 109 = .ok (.invokevirtual 289, 3) := by decide +kernel
theorem dX9_over_112 : decode cX9_over 112 = .ok (.aload_n 0, 1) := by decide +kernel
theorem dX9_over_113 : decode cX9_over 113 = .ok (.iload_n 3, 1) := by decide +kernel
theorem dX9_over_114 : decode cX9_over 114 = .ok (.invokevirtual 293, 3) := by decide +kernel
theorem dX9_over_117 : decode cX9_over 117 = .ok (.iload 5, 2) := by decide +kernel
theorem dX9_over_119 : decode cX9_over 119 = .ok (.i2l, 1) := by decide +kernel
theorem dX9_over_120 : decode cX9_over 120 = .ok (.lmul, 1) := by decide +kernel
theorem dX9_over_121 : decode cX9_over 121 = .ok (.iload 4, 2) := by decide +kernel
theorem dX9_over_123 : decode cX9_over 123 = .ok (.i2l, 1) := by decide +kernel
theorem dX9_over_124 : decode cX9_over 124 = .ok (.iload_n 1, 1) := by decide +kernel
theorem dX9_over_125 : decode cX9_over 125 = .ok (.invokestatic 297, 3) := by decide +kernel
theorem dX9_over_128 : decode cX9_over 128 = .ok (.lmul, 1) := by decide +kernel
theorem dX9_over_129 : decode cX9_over 129 = .ok (.lcmp, 1) := by decide +kernel
theorem dX9_over_130 : decode cX9_over 130 = .ok (.ifCond .lt 7, 3) := by decide +kernel
theorem dX9_over_133 : decode cX9_over 133 = .ok (.iconst 1, 1) := by decide +kernel
theorem dX9_over_134 : decode cX9_over 134 = .ok (.goto 4, 3) := by decide +kernel
theorem dX9_over_137 : decode cX9_over 137 = .ok (.iconst 0, 1) := by decide +kernel
theorem dX9_over_138 : decode cX9_over 138 = .ok (.istore 8, 2) := by decide +kernel
theorem dX9_over_140 : decode cX9_over 140 = .ok (.iload 8, 2) := by decide +kernel
theorem dX9_over_142 : decode cX9_over 142 = .ok (.ifCond .eq 6, 3) := by decide +kernel
theorem dX9_over_145 : decode cX9_over 145 = .ok (.iload 6, 2) := by decide +kernel
theorem dX9_over_147 : decode cX9_over 147 = .ok (.ireturn, 1) := by decide +kernel
theorem dX9_over_148 : decode cX9_over 148 = .ok (.iinc 6 1, 3) := by decide +kernel
theorem dX9_over_151 : decode cX9_over 151 = .ok (.goto (-83), 3) := by decide +kernel
theorem dX9_over_154 : decode cX9_over 154 = .ok (.bipush (-6), 2) := by decide +kernel
theorem dX9_over_156 : decode cX9_over 156 = .ok (.ireturn, 1) := by decide +kernel
theorem dX9_patterns_0 : decode cX9_patterns 0 = .ok (.iload_n 1, 1) := by decide +kernel
theorem dX9_patterns_1 : decode cX9_patterns 1 = .ok (.i2l, 1) := by decide +kernel
theorem dX9_patterns_2 : decode cX9_patterns 2 = .ok (.lconst 0, 1) := by decide +kernel
theorem dX9_patterns_3 : decode cX9_patterns 3 = .ok (.ldc2_w 107, 3) := by decide +kernel
theorem dX9_patterns_6 : decode cX9_patterns 6 = .ok (.invokestatic 101, 3) := by decide +kernel
theorem dX9_patterns_9 : decode cX9_patterns 9 = .ok (.ifCond .ne 6, 3) := by decide +kernel
theorem dX9_patterns_12 : decode cX9_patterns 12 = .ok (.bipush (-2), 2) := by decide +kernel
theorem dX9_patterns_14 : decode cX9_patterns 14 = .ok (.ireturn, 1) := by decide +kernel
theorem dX9_patterns_15 : decode cX9_patterns 15 = .ok (.iconst 0, 1) := by decide +kernel
theorem dX9_patterns_16 : decode cX9_patterns 16 = .ok (.istore_n 2, 1) := by decide +kernel
theorem dX9_patterns_17 : decode cX9_patterns 17 = .ok (.iconst 0, 1) := by decide +kernel
theorem dX9_patterns_18 : decode cX9_patterns 18 = .ok (.istore_n 3, 1) := by decide +kernel
theorem dX9_patterns_19 : decode cX9_patterns 19 = .ok (.iload_n 3, 1) := by decide +kernel
theorem dX9_patterns_20 : decode cX9_patterns 20 = .ok (.bipush 6, 2) := by decide +kernel
theorem dX9_patterns_22 : decode cX9_patterns 22 = .ok (.if_icmp .ge 27, 3) := by decide +kernel
theorem dX9_patterns_25 : decode cX9_patterns 25 = .ok (.iload_n 2, 1) := by decide +kernel
theorem dX9_patterns_26 : decode cX9_patterns 26 = .ok (.aload_n 0, 1) := by decide +kernel
theorem dX9_patterns_27 : decode cX9_patterns 27 = .ok (.getfield 7, 3) := by decide +kernel
theorem dX9_patterns_30 : decode cX9_patterns 30 = .ok (.iload_n 3, 1) := by decide +kernel
theorem dX9_patterns_31 : decode cX9_patterns 31 = .ok (.iaload, 1) := by decide +kernel
theorem dX9_patterns_32 : decode cX9_patterns 32 = .ok (.iconst 1, 1) := by decide +kernel
theorem dX9_patterns_33 : decode cX9_patterns 33 = .ok (.if_icmp .eq 7, 3) := by decide +kernel
theorem dX9_patterns_36 : decode cX9_patterns 36 = .ok (.iconst 1, 1) := by decide +kernel
theorem dX9_patterns_37 : decode cX9_patterns 37 = .ok (.goto 4, 3) := by decide +kernel
theorem dX9_patterns_40 : decode cX9_patterns 40 = .ok (.iconst 0, 1) := by decide +kernel
theorem dX9_patterns_41 : decode cX9_patterns 41 = .ok (.iadd, 1) := by decide +kernel
theorem dX9_patterns_42 : decode cX9_patterns 42 = .ok (.istore_n 2, 1) := by decide +kernel
theorem dX9_patterns_43 : decode cX9_patterns 43 = .ok (.iinc 3 1, 3) := by decide +kernel
theorem dX9_patterns_46 : decode cX9_patterns 46 = .ok (.goto (-27), 3) := by decide +kernel
theorem dX9_patterns_49 : decode cX9_patterns 49 = .ok (.iconst 1, 1) := by decide +kernel
theorem dX9_patterns_50 : decode cX9_patterns 50 = .ok (.istore_n 3, 1) := by decide +kernel
theorem dX9_patterns_51 : decode cX9_patterns 51 = .ok (.iconst 0, 1) := by decide +kernel
theorem dX9_patterns_52 : decode cX9_patterns 52 = .ok (.istore 4, 2) := by decide +kernel
theorem dX9_patterns_54 : decode cX9_patterns 54 = .ok (.iconst 0, 1) := by decide +kernel
theorem dX9_patterns_55 : decode cX9_patterns 55 = .ok (.istore 5, 2) := by decide +kernel
theorem dX9_patterns_57 : decode cX9_patterns 57 = .ok (.iload 5, 2) := by decide +kernel
theorem dX9_patterns_59 : decode cX9_patterns 59 = .ok (.iload_n 1, 1) := by decide +kernel
theorem dX9_patterns_60 : decode cX9_patterns 60 = .ok (.if_icmp .ge 27, 3) := by decide +kernel
theorem dX9_patterns_63 : decode cX9_patterns 63 = .ok (.iload_n 3, 1) := by decide +kernel
theorem dX9_patterns_64 : decode cX9_patterns 64 = .ok (.iload 4, 2) := by decide +kernel
theorem dX9_patterns_66 : decode cX9_patterns 66 = .ok (.iadd, 1) := by decide +kernel
theorem dX9_patterns_67 : decode cX9_patterns 67 = .ok (.istore 6, 2) := by decide +kernel
theorem dX9_patterns_69 : decode cX9_patterns 69 = .ok (.iload 4, 2) := by decide +kernel
theorem dX9_patterns_71 : decode cX9_patterns 71 = .ok (.iload_n 2, 1) := by decide +kernel
theorem dX9_patterns_72 : decode cX9_patterns 72 = .ok (.iload 6, 2) := by decide +kernel
theorem dX9_patterns_74 : decode cX9_patterns 74 = .ok (.imul, 1) := by decide +kernel
theorem dX9_patterns_75 : decode cX9_patterns 75 = .ok (.iadd, 1) := by decide +kernel
theorem dX9_patterns_76 : decode cX9_patterns 76 = .ok (.istore 4, 2) := by decide +kernel
theorem dX9_patterns_78 : decode cX9_patterns 78 = .ok (.iload 6, 2) := by decide +kernel
theorem dX9_patterns_80 : decode cX9_patterns 80 = .ok (.istore_n 3, 1) := by decide +kernel
theorem dX9_patterns_81 : decode cX9_patterns 81 = .ok (.iinc 5 1, 3) := by decide +kernel
theorem dX9_patterns_84 : decode cX9_patterns 84 = .ok (.goto (-27), 3) := by decide +kernel
theorem dX9_patterns_87 : decode cX9_patterns 87 = .ok (.iload_n 3, 1) := by decide +kernel
theorem dX9_patterns_88 : decode cX9_patterns 88 = .ok (.iload 4, 2) := by decide +kernel
theorem dX9_patterns_90 : decode cX9_patterns 90 = .ok (.iadd, 1) := by decide +kernel
theorem dX9_patterns_91 : decode cX9_patterns 91 = .ok (.ireturn, 1) := by decide +kernel
theorem dX9_draws_0 : decode cX9_draws 0 = .ok (.iload_n 1, 1) := by decide +kernel
theorem dX9_draws_1 : decode cX9_draws 1 = .ok (.i2l, 1) := by decide +kernel
theorem dX9_draws_2 : decode cX9_draws 2 = .ok (.lconst 0, 1) := by decide +kernel
theorem dX9_draws_3 : decode cX9_draws 3 = .ok (.ldc2_w 306, 3) := by decide +kernel
theorem dX9_draws_6 : decode cX9_draws 6 = .ok (.invokestatic 101, 3) := by decide +kernel
theorem dX9_draws_9 : decode cX9_draws 9 = .ok (.ifCond .eq 27, 3) := by decide +kernel
theorem dX9_draws_12 : decode cX9_draws 12 = .ok (.iload_n 2, 1) := by decide +kernel
theorem dX9_draws_13 : decode cX9_draws 13 = .ok (.i2l, 1) := by decide +kernel
theorem dX9_draws_14 : decode cX9_draws 14 = .ok (.lconst 1, 1) := by decide +kernel
theorem dX9_draws_15 : decode cX9_draws 15 = .ok (.ldc2_w 308, 3) := by decide +kernel
theorem dX9_draws_18 : decode cX9_draws 18 = .ok (.invokestatic 101, 3) := by decide +kernel
theorem dX9_draws_21 : decode cX9_draws 21 = .ok (.ifCond .eq 15, 3) := by decide +kernel
theorem dX9_draws_24 : decode cX9_draws 24 = .ok (.iload_n 3, 1) := by decide +kernel
theorem dX9_draws_25 : decode cX9_draws 25 = .ok (.i2l, 1) := by decide +kernel
theorem dX9_draws_26 : decode cX9_draws 26 = .ok (.lconst 0, 1) := by decide +kernel
theorem dX9_draws_27 : decode cX9_draws 27 = .ok (.ldc2_w 116, 3) := by decide +kernel
theorem dX9_draws_30 : decode cX9_draws 30 = .ok (.invokestatic 101, 3) := by decide +kernel
theorem dX9_draws_33 : decode cX9_draws 33 = .ok (.ifCond .ne 6, 3) := by decide +kernel
theorem dX9_draws_36 : decode cX9_draws 36 = .ok (.bipush (-2), 2) := by decide +kernel
theorem dX9_draws_38 : decode cX9_draws 38 = .ok (.ireturn, 1) := by decide +kernel
theorem dX9_draws_39 : decode cX9_draws 39 = .ok (.aload_n 0, 1) := by decide +kernel
theorem dX9_draws_40 : decode cX9_draws 40 = .ok (.invokevirtual 207, 3) := by decide +kernel
theorem dX9_draws_43 : decode cX9_draws 43 = .ok (.aload_n 0, 1) := by decide +kernel
theorem dX9_draws_44 : decode cX9_draws 44 = .ok (.iconst 0, 1) := by decide +kernel
theorem dX9_draws_45 : decode cX9_draws 45 = .ok (.putfield 155, 3) := by decide +kernel
theorem dX9_draws_48 : decode cX9_draws 48 = .ok (.aload_n 0, 1) := by decide +kernel
theorem dX9_draws_49 : decode cX9_draws 49 = .ok (.bipush (-6), 2) := by decide +kernel
theorem dX9_draws_51 : decode cX9_draws 51 = .ok (.putfield 164, 3) := by decide +kernel
theorem dX9_draws_54 : decode cX9_draws 54 = .ok (.iload_n 1, 1) := by decide +kernel
theorem dX9_draws_55 : decode cX9_draws 55 = .ok (.istore 4, 2) := by decide +kernel
theorem dX9_draws_57 : decode cX9_draws 57 = .ok (.iconst 0, 1) := by decide +kernel
theorem dX9_draws_58 : decode cX9_draws 58 = .ok (.istore 5, 2) := by decide +kernel
theorem dX9_draws_60 : decode cX9_draws 60 = .ok (.iload 5, 2) := by decide +kernel
theorem dX9_draws_62 : decode cX9_draws 62 = .ok (.iload_n 2, 1) := by decide +kernel
theorem dX9_draws_63 : decode cX9_draws 63 = .ok (.if_icmp .ge 33, 3) := by decide +kernel
theorem dX9_draws_66 : decode cX9_draws 66 = .ok (.ldc2_w 310, 3) := by decide +kernel
theorem dX9_draws_69 : decode cX9_draws 69 = .ok (.iload 4, 2) := by decide +kernel
theorem dX9_draws_71 : decode cX9_draws 71 = .ok (.i2l, 1) := by decide +kernel
theorem dX9_draws_72 : decode cX9_draws 72 = .ok (.lmul, 1) := by decide +kernel
theorem dX9_draws_73 : decode cX9_draws 73 = .ok (.ldc2_w 312, 3) := by decide +kernel
theorem dX9_draws_76 : decode cX9_draws 76 = .ok (.ladd, 1) := by decide +kernel
theorem dX9_draws_77 : decode cX9_draws 77 = .ok (.ldc2_w 314, 3) := by decide +kernel
theorem dX9_draws_80 : decode cX9_draws 80 = .ok (.lrem, 1) := by decide +kernel
theorem dX9_draws_81 : decode cX9_draws 81 = .ok (.l2i, 1) := by decide +kernel
theorem dX9_draws_82 : decode cX9_draws 82 = .ok (.istore 4, 2) := by decide +kernel
theorem dX9_draws_84 : decode cX9_draws 84 = .ok (.aload_n 0, 1) := by decide +kernel
theorem dX9_draws_85 : decode cX9_draws 85 = .ok (.iload 4, 2) := by decide +kernel
theorem dX9_draws_87 : decode cX9_draws 87 = .ok (.invokevirtual 316, 3) := by decide +kernel
theorem dX9_draws_90 : decode cX9_draws 90 = .ok (.iinc 5 1, 3) := by decide +kernel
theorem dX9_draws_93 : decode cX9_draws 93 = .ok (.goto (-33), 3) := by decide +kernel
theorem dX9_draws_96 : decode cX9_draws 96 = .ok (.iload_n 3, 1) := by decide +kernel
theorem dX9_draws_97 : decode cX9_draws 97 = .ok (.ifCond .ne 10, 3) := by decide +kernel
theorem dX9_draws_100 : decode cX9_draws 100 = .ok (.aload_n 0, 1) := by decide +kernel
theorem dX9_draws_101 : decode cX9_draws 101 = .ok (.getfield 92, 3) := by decide +kernel
theorem dX9_draws_104 : decode cX9_draws 104 = .ok (.goto 19, 3) := by decide +kernel
theorem dX9_draws_107 : decode cX9_draws 107 = .ok (.iload_n 3, 1) := by decide +kernel
theorem dX9_draws_108 : decode cX9_draws 108 = .ok (.iconst 1, 1) := by decide +kernel
theorem dX9_draws_109 : decode cX9_draws 109 = .ok (.if_icmp .ne 10, 3) := by decide +kernel
theorem dX9_draws_112 : decode cX9_draws 112 = .ok (.aload_n 0, 1) := by decide +kernel
theorem dX9_draws_113 : decode cX9_draws 113 = .ok (.getfield 155, 3) := by decide +kernel
theorem dX9_draws_116 : decode cX9_draws 116 = .ok (.goto 7, 3) := by decide +kernel
theorem dX9_draws_119 : decode cX9_draws 119 = .ok (.aload_n 0, 1) := by decide +kernel
theorem dX9_draws_120 : decode cX9_draws 120 = .ok (.getfield 95, 3) := by decide +kernel
theorem dX9_draws_123 : decode cX9_draws 123 = .ok (.istore 5, 2) := by decide +kernel
theorem dX9_draws_125 : decode cX9_draws 125 = .ok (.aload_n 0, 1) := by decide +kernel
theorem dX9_draws_126 : decode cX9_draws 126 = .ok (.invokevirtual 219, 3) := by decide +kernel
theorem dX9_draws_129 : decode cX9_draws 129 = .ok (.iload 5, 2) := by decide +kernel
theorem dX9_draws_131 : decode cX9_draws 131 = .ok (.ireturn, 1) := by decide +kernel
theorem dX9_drawn_0 : decode cX9_drawn 0 = .ok (.iload_n 1, 1) := by decide +kernel
theorem dX9_drawn_1 : decode cX9_drawn 1 = .ok (.bipush 8, 2) := by decide +kernel
theorem dX9_drawn_3 : decode cX9_drawn 3 = .ok (.irem, 1) := by decide +kernel
theorem dX9_drawn_4 : decode cX9_drawn 4 = .ok (.istore_n 2, 1) := by decide +kernel
theorem dX9_drawn_5 : decode cX9_drawn 5 = .ok (.aload_n 0, 1) := by decide +kernel
theorem dX9_drawn_6 : decode cX9_drawn 6 = .ok (.getfield 31, 3) := by decide +kernel
theorem dX9_drawn_9 : decode cX9_drawn 9 = .ok (.iconst 0, 1) := by decide +kernel
theorem dX9_drawn_10 : decode cX9_drawn 10 = .ok (.iload_n 2, 1) := by decide +kernel
theorem dX9_drawn_11 : decode cX9_drawn 11 = .ok (.ifCond .ne 7, 3) := by decide +kernel
theorem dX9_drawn_14 : decode cX9_drawn 14 = .ok (.iconst 1, 1) := by decide +kernel
theorem dX9_drawn_15 : decode cX9_drawn 15 = .ok (.goto 22, 3) := by decide +kernel
theorem dX9_drawn_18 : decode cX9_drawn 18 = .ok (.iload_n 2, 1) := by decide +kernel
theorem dX9_drawn_19 : decode cX9_drawn 19 = .ok (.iconst 1, 1) := by decide +kernel
theorem dX9_drawn_20 : decode cX9_drawn 20 = .ok (.if_icmp .ne 7, 3) := by decide +kernel
theorem dX9_drawn_23 : decode cX9_drawn 23 = .ok (.iconst 2, 1) := by decide +kernel
theorem dX9_drawn_24 : decode cX9_drawn 24 = .ok (.goto 13, 3) := by decide +kernel
theorem dX9_drawn_27 : decode cX9_drawn 27 = .ok (.iload_n 2, 1) := by decide +kernel
theorem dX9_drawn_28 : decode cX9_drawn 28 = .ok (.iconst 2, 1) := by decide +kernel
theorem dX9_drawn_29 : decode cX9_drawn 29 = .ok (.if_icmp .ne 7, 3) := by decide +kernel
theorem dX9_drawn_32 : decode cX9_drawn 32 = .ok (.iconst 3, 1) := by decide +kernel
theorem dX9_drawn_33 : decode cX9_drawn 33 = .ok (.goto 4, 3) := by decide +kernel
theorem dX9_drawn_36 : decode cX9_drawn 36 = .ok (.iconst 0, 1) := by decide +kernel
theorem dX9_drawn_37 : decode cX9_drawn 37 = .ok (.iastore, 1) := by decide +kernel
theorem dX9_drawn_38 : decode cX9_drawn 38 = .ok (.aload_n 0, 1) := by decide +kernel
theorem dX9_drawn_39 : decode cX9_drawn 39 = .ok (.getfield 34, 3) := by decide +kernel
theorem dX9_drawn_42 : decode cX9_drawn 42 = .ok (.iconst 0, 1) := by decide +kernel
theorem dX9_drawn_43 : decode cX9_drawn 43 = .ok (.iload_n 1, 1) := by decide +kernel
theorem dX9_drawn_44 : decode cX9_drawn 44 = .ok (.bipush 8, 2) := by decide +kernel
theorem dX9_drawn_46 : decode cX9_drawn 46 = .ok (.idiv, 1) := by decide +kernel
theorem dX9_drawn_47 : decode cX9_drawn 47 = .ok (.bipush 6, 2) := by decide +kernel
theorem dX9_drawn_49 : decode cX9_drawn 49 = .ok (.irem, 1) := by decide +kernel
theorem dX9_drawn_50 : decode cX9_drawn 50 = .ok (.iastore, 1) := by decide +kernel
theorem dX9_drawn_51 : decode cX9_drawn 51 = .ok (.aload_n 0, 1) := by decide +kernel
theorem dX9_drawn_52 : decode cX9_drawn 52 = .ok (.getfield 37, 3) := by decide +kernel
theorem dX9_drawn_55 : decode cX9_drawn 55 = .ok (.iconst 0, 1) := by decide +kernel
theorem dX9_drawn_56 : decode cX9_drawn 56 = .ok (.iload_n 1, 1) := by decide +kernel
theorem dX9_drawn_57 : decode cX9_drawn 57 = .ok (.bipush 48, 2) := by decide +kernel
theorem dX9_drawn_59 : decode cX9_drawn 59 = .ok (.idiv, 1) := by decide +kernel
theorem dX9_drawn_60 : decode cX9_drawn 60 = .ok (.aload_n 0, 1) := by decide +kernel
theorem dX9_drawn_61 : decode cX9_drawn 61 = .ok (.getfield 85, 3) := by decide +kernel
theorem dX9_drawn_64 : decode cX9_drawn 64 = .ok (.irem, 1) := by decide +kernel
theorem dX9_drawn_65 : decode cX9_drawn 65 = .ok (.iastore, 1) := by decide +kernel
theorem dX9_drawn_66 : decode cX9_drawn 66 = .ok (.aload_n 0, 1) := by decide +kernel
theorem dX9_drawn_67 : decode cX9_drawn 67 = .ok (.getfield 40, 3) := by decide +kernel
theorem dX9_drawn_70 : decode cX9_drawn 70 = .ok (.iconst 0, 1) := by decide +kernel
theorem dX9_drawn_71 : decode cX9_drawn 71 = .ok (.iload_n 1, 1) := by decide +kernel
theorem dX9_drawn_72 : decode cX9_drawn 72 = .ok (.sipush 480, 3) := by decide +kernel
theorem dX9_drawn_75 : decode cX9_drawn 75 = .ok (.idiv, 1) := by decide +kernel
theorem dX9_drawn_76 : decode cX9_drawn 76 = .ok (.iconst 2, 1) := by decide +kernel
theorem dX9_drawn_77 : decode cX9_drawn 77 = .ok (.irem, 1) := by decide +kernel
theorem dX9_drawn_78 : decode cX9_drawn 78 = .ok (.iastore, 1) := by decide +kernel
theorem dX9_drawn_79 : decode cX9_drawn 79 = .ok (.aload_n 0, 1) := by decide +kernel
theorem dX9_drawn_80 : decode cX9_drawn 80 = .ok (.iconst 0, 1) := by decide +kernel
theorem dX9_drawn_81 : decode cX9_drawn 81 = .ok (.aload_n 0, 1) := by decide +kernel
theorem dX9_drawn_82 : decode cX9_drawn 82 = .ok (.getfield 89, 3) := by decide +kernel
theorem dX9_drawn_85 : decode cX9_drawn 85 = .ok (.invokevirtual 197, 3) := by decide +kernel
theorem dX9_drawn_88 : decode cX9_drawn 88 = .ok (.ifCond .ne 12, 3) := by decide +kernel
theorem dX9_drawn_91 : decode cX9_drawn 91 = .ok (.aload_n 0, 1) := by decide +kernel
theorem dX9_drawn_92 : decode cX9_drawn 92 = .ok (.iconst 0, 1) := by decide +kernel
theorem dX9_drawn_93 : decode cX9_drawn 93 = .ok (.aload_n 0, 1) := by decide +kernel
theorem dX9_drawn_94 : decode cX9_drawn 94 = .ok (.getfield 89, 3) := by decide +kernel
theorem dX9_drawn_97 : decode cX9_drawn 97 = .ok (.invokevirtual 201, 3) := by decide +kernel
theorem dX9_drawn_100 : decode cX9_drawn 100 = .ok (.return_, 1) := by decide +kernel
theorem dX9_pass_0 : decode cX9_pass 0 = .ok (.aload_n 0, 1) := by decide +kernel
theorem dX9_pass_1 : decode cX9_pass 1 = .ok (.getfield 319, 3) := by decide +kernel
theorem dX9_pass_4 : decode cX9_pass 4 = .ok (.ifCond .eq 7, 3) := by decide +kernel
theorem dX9_pass_7 : decode cX9_pass 7 = .ok (.iload_n 1, 1) := by decide +kernel
theorem dX9_pass_8 : decode cX9_pass 8 = .ok (.goto 12, 3) := by decide +kernel
theorem dX9_pass_11 : decode cX9_pass 11 = .ok (.aload_n 0, 1) := by decide +kernel
theorem dX9_pass_12 : decode cX9_pass 12 = .ok (.getfield 74, 3) := by decide +kernel
theorem dX9_pass_15 : decode cX9_pass 15 = .ok (.aload_n 0, 1) := by decide +kernel
theorem dX9_pass_16 : decode cX9_pass 16 = .ok (.getfield 322, 3) := by decide +kernel
theorem dX9_pass_19 : decode cX9_pass 19 = .ok (.iaload, 1) := by decide +kernel
theorem dX9_pass_20 : decode cX9_pass 20 = .ok (.istore_n 2, 1) := by decide +kernel
theorem dX9_pass_21 : decode cX9_pass 21 = .ok (.aload_n 0, 1) := by decide +kernel
theorem dX9_pass_22 : decode cX9_pass 22 = .ok (.getfield 74, 3) := by decide +kernel
theorem dX9_pass_25 : decode cX9_pass 25 = .ok (.aload_n 0, 1) := by decide +kernel
theorem dX9_pass_26 : decode cX9_pass 26 = .ok (.getfield 322, 3) := by decide +kernel
theorem dX9_pass_29 : decode cX9_pass 29 = .ok (.iload_n 2, 1) := by decide +kernel
theorem dX9_pass_30 : decode cX9_pass 30 = .ok (.iastore, 1) := by decide +kernel
theorem dX9_pass_31 : decode cX9_pass 31 = .ok (.aload_n 0, 1) := by decide +kernel
theorem dX9_pass_32 : decode cX9_pass 32 = .ok (.dup, 1) := by decide +kernel
theorem dX9_pass_33 : decode cX9_pass 33 = .ok (.getfield 322, 3) := by decide +kernel
theorem dX9_pass_36 : decode cX9_pass 36 = .ok (.iconst 1, 1) := by decide +kernel
theorem dX9_pass_37 : decode cX9_pass 37 = .ok (.iadd, 1) := by decide +kernel
theorem dX9_pass_38 : decode cX9_pass 38 = .ok (.putfield 322, 3) := by decide +kernel
theorem dX9_pass_41 : decode cX9_pass 41 = .ok (.iload_n 2, 1) := by decide +kernel
theorem dX9_pass_42 : decode cX9_pass 42 = .ok (.ireturn, 1) := by decide +kernel
theorem dX9_passAll_0 : decode cX9_passAll 0 = .ok (.aload_n 0, 1) := by decide +kernel
theorem dX9_passAll_1 : decode cX9_passAll 1 = .ok (.aload_n 0, 1) := by decide +kernel
theorem dX9_passAll_2 : decode cX9_passAll 2 = .ok (.aload_n 0, 1) := by decide +kernel
theorem dX9_passAll_3 : decode cX9_passAll 3 = .ok (.getfield 85, 3) := by decide +kernel
theorem dX9_passAll_6 : decode cX9_passAll 6 = .ok (.invokevirtual 325, 3) := by decide +kernel
theorem dX9_passAll_9 : decode cX9_passAll 9 = .ok (.putfield 85, 3) := by decide +kernel
theorem dX9_passAll_12 : decode cX9_passAll 12 = .ok (.aload_n 0, 1) := by decide +kernel
theorem dX9_passAll_13 : decode cX9_passAll 13 = .ok (.aload_n 0, 1) := by decide +kernel
theorem dX9_passAll_14 : decode cX9_passAll 14 = .ok (.aload_n 0, 1) := by decide +kernel
theorem dX9_passAll_15 : decode cX9_passAll 15 = .ok (.getfield 89, 3) := by decide +kernel
theorem dX9_passAll_18 : decode cX9_passAll 18 = .ok (.invokevirtual 325, 3) := by decide +kernel
theorem dX9_passAll_21 : decode cX9_passAll 21 = .ok (.putfield 89, 3) := by decide +kernel
theorem dX9_passAll_24 : decode cX9_passAll 24 = .ok (.aload_n 0, 1) := by decide +kernel
theorem dX9_passAll_25 : decode cX9_passAll 25 = .ok (.aload_n 0, 1) := by decide +kernel
theorem dX9_passAll_26 : decode cX9_passAll 26 = .ok (.aload_n 0, 1) := by decide +kernel
theorem dX9_passAll_27 : decode cX9_passAll 27 = .ok (.getfield 92, 3) := by decide +kernel
theorem dX9_passAll_30 : decode cX9_passAll 30 = .ok (.invokevirtual 325, 3) := by decide +kernel
theorem dX9_passAll_33 : decode cX9_passAll 33 = .ok (.putfield 92, 3) := by decide +kernel
theorem dX9_passAll_36 : decode cX9_passAll 36 = .ok (.aload_n 0, 1) := by decide +kernel
theorem dX9_passAll_37 : decode cX9_passAll 37 = .ok (.aload_n 0, 1) := by decide +kernel
theorem dX9_passAll_38 : decode cX9_passAll 38 = .ok (.aload_n 0, 1) := by decide +kernel
theorem dX9_passAll_39 : decode cX9_passAll 39 = .ok (.getfield 95, 3) := by decide +kernel
theorem dX9_passAll_42 : decode cX9_passAll 42 = .ok (.invokevirtual 325, 3) := by decide +kernel
theorem dX9_passAll_45 : decode cX9_passAll 45 = .ok (.putfield 95, 3) := by decide +kernel
theorem dX9_passAll_48 : decode cX9_passAll 48 = .ok (.aload_n 0, 1) := by decide +kernel
theorem dX9_passAll_49 : decode cX9_passAll 49 = .ok (.aload_n 0, 1) := by decide +kernel
theorem dX9_passAll_50 : decode cX9_passAll 50 = .ok (.aload_n 0, 1) := by decide +kernel
theorem dX9_passAll_51 : decode cX9_passAll 51 = .ok (.getfield 98, 3) := by decide +kernel
theorem dX9_passAll_54 : decode cX9_passAll 54 = .ok (.invokevirtual 325, 3) := by decide +kernel
theorem dX9_passAll_57 : decode cX9_passAll 57 = .ok (.putfield 98, 3) := by decide +kernel
theorem dX9_passAll_60 : decode cX9_passAll 60 = .ok (.iconst 0, 1) := by decide +kernel
theorem dX9_passAll_61 : decode cX9_passAll 61 = .ok (.istore_n 1, 1) := by decide +kernel
theorem dX9_passAll_62 : decode cX9_passAll 62 = .ok (.iload_n 1, 1) := by decide +kernel
theorem dX9_passAll_63 : decode cX9_passAll 63 = .ok (.bipush 6, 2) := by decide +kernel
theorem dX9_passAll_65 : decode cX9_passAll 65 = .ok (.if_icmp .ge 25, 3) := by decide +kernel
theorem dX9_passAll_68 : decode cX9_passAll 68 = .ok (.aload_n 0, 1) := by decide +kernel
theorem dX9_passAll_69 : decode cX9_passAll 69 = .ok (.getfield 7, 3) := by decide +kernel
theorem dX9_passAll_72 : decode cX9_passAll 72 = .ok (.iload_n 1, 1) := by decide +kernel
theorem dX9_passAll_73 : decode cX9_passAll 73 = .ok (.aload_n 0, 1) := by decide +kernel
theorem dX9_passAll_74 : decode cX9_passAll 74 = .ok (.aload_n 0, 1) := by decide +kernel
theorem dX9_passAll_75 : decode cX9_passAll 75 = .ok (.getfield 7, 3) := by decide +kernel
theorem dX9_passAll_78 : decode cX9_passAll 78 = .ok (.iload_n 1, 1) := by decide +kernel
theorem dX9_passAll_79 : decode cX9_passAll 79 = .ok (.iaload, 1) := by decide +kernel
theorem dX9_passAll_80 : decode cX9_passAll 80 = .ok (.invokevirtual 325, 3) := by decide +kernel
theorem dX9_passAll_83 : decode cX9_passAll 83 = .ok (.iastore, 1) := by decide +kernel
theorem dX9_passAll_84 : decode cX9_passAll 84 = .ok (.iinc 1 1, 3) := by decide +kernel
theorem dX9_passAll_87 : decode cX9_passAll 87 = .ok (.goto (-25), 3) := by decide +kernel
theorem dX9_passAll_90 : decode cX9_passAll 90 = .ok (.iconst 0, 1) := by decide +kernel
theorem dX9_passAll_91 : decode cX9_passAll 91 = .ok (.istore_n 1, 1) := by decide +kernel
theorem dX9_passAll_92 : decode cX9_passAll 92 = .ok (.iload_n 1, 1) := by decide +kernel
theorem dX9_passAll_93 : decode cX9_passAll 93 = .ok (.bipush 30, 2) := by decide +kernel
theorem dX9_passAll_95 : decode cX9_passAll 95 = .ok (.if_icmp .ge 57, 3) := by decide +kernel
theorem dX9_passAll_98 : decode cX9_passAll 98 = .ok (.aload_n 0, 1) := by decide +kernel
theorem dX9_passAll_99 : decode cX9_passAll 99 = .ok (.getfield 13, 3) := by decide +kernel
theorem dX9_passAll_102 : decode cX9_passAll 102 = .ok (.iload_n 1, 1) := by decide +kernel
theorem dX9_passAll_103 : decode cX9_passAll 103 = .ok (.aload_n 0, 1) := by decide +kernel
theorem dX9_passAll_104 : decode cX9_passAll 104 = .ok (.aload_n 0, 1) := by decide +kernel
theorem dX9_passAll_105 : decode cX9_passAll 105 = .ok (.getfield 13, 3) := by decide +kernel
theorem dX9_passAll_108 : decode cX9_passAll 108 = .ok (.iload_n 1, 1) := by decide +kernel
theorem dX9_passAll_109 : decode cX9_passAll 109 = .ok (.iaload, 1) := by decide +kernel
theorem dX9_passAll_110 : decode cX9_passAll 110 = .ok (.invokevirtual 325, 3) := by decide +kernel
theorem dX9_passAll_113 : decode cX9_passAll 113 = .ok (.iastore, 1) := by decide +kernel
theorem dX9_passAll_114 : decode cX9_passAll 114 = .ok (.aload_n 0, 1) := by decide +kernel
theorem dX9_passAll_115 : decode cX9_passAll 115 = .ok (.getfield 16, 3) := by decide +kernel
theorem dX9_passAll_118 : decode cX9_passAll 118 = .ok (.iload_n 1, 1) := by decide +kernel
theorem dX9_passAll_119 : decode cX9_passAll 119 = .ok (.aload_n 0, 1) := by decide +kernel
theorem dX9_passAll_120 : decode cX9_passAll 120 = .ok (.aload_n 0, 1) := by decide +kernel
theorem dX9_passAll_121 : decode cX9_passAll 121 = .ok (.getfield 16, 3) := by decide +kernel
theorem dX9_passAll_124 : decode cX9_passAll 124 = .ok (.iload_n 1, 1) := by decide +kernel
theorem dX9_passAll_125 : decode cX9_passAll 125 = .ok (.iaload, 1) := by decide +kernel
theorem dX9_passAll_126 : decode cX9_passAll 126 = .ok (.invokevirtual 325, 3) := by decide +kernel
theorem dX9_passAll_129 : decode cX9_passAll 129 = .ok (.iastore, 1) := by decide +kernel
theorem dX9_passAll_130 : decode cX9_passAll 130 = .ok (.aload_n 0, 1) := by decide +kernel
theorem dX9_passAll_131 : decode cX9_passAll 131 = .ok (.getfield 19, 3) := by decide +kernel
theorem dX9_passAll_134 : decode cX9_passAll 134 = .ok (.iload_n 1, 1) := by decide +kernel
theorem dX9_passAll_135 : decode cX9_passAll 135 = .ok (.aload_n 0, 1) := by decide +kernel
theorem dX9_passAll_136 : decode cX9_passAll 136 = .ok (.aload_n 0, 1) := by decide +kernel
theorem dX9_passAll_137 : decode cX9_passAll 137 = .ok (.getfield 19, 3) := by decide +kernel
theorem dX9_passAll_140 : decode cX9_passAll 140 = .ok (.iload_n 1, 1) := by decide +kernel
theorem dX9_passAll_141 : decode cX9_passAll 141 = .ok (.iaload, 1) := by decide +kernel
theorem dX9_passAll_142 : decode cX9_passAll 142 = .ok (.invokevirtual 325, 3) := by decide +kernel
theorem dX9_passAll_145 : decode cX9_passAll 145 = .ok (.iastore, 1) := by decide +kernel
theorem dX9_passAll_146 : decode cX9_passAll 146 = .ok (.iinc 1 1, 3) := by decide +kernel
theorem dX9_passAll_149 : decode cX9_passAll 149 = .ok (.goto (-57), 3) := by decide +kernel
theorem dX9_passAll_152 : decode cX9_passAll 152 = .ok (.iconst 0, 1) := by decide +kernel
theorem dX9_passAll_153 : decode cX9_passAll 153 = .ok (.istore_n 1, 1) := by decide +kernel
theorem dX9_passAll_154 : decode cX9_passAll 154 = .ok (.iload_n 1, 1) := by decide +kernel
theorem dX9_passAll_155 : decode cX9_passAll 155 = .ok (.bipush 8, 2) := by decide +kernel
theorem dX9_passAll_157 : decode cX9_passAll 157 = .ok (.if_icmp .ge 41, 3) := by decide +kernel
theorem dX9_passAll_160 : decode cX9_passAll 160 = .ok (.aload_n 0, 1) := by decide +kernel
theorem dX9_passAll_161 : decode cX9_passAll 161 = .ok (.getfield 22, 3) := by decide +kernel
theorem dX9_passAll_164 : decode cX9_passAll 164 = .ok (.iload_n 1, 1) := by decide +kernel
theorem dX9_passAll_165 : decode cX9_passAll 165 = .ok (.aload_n 0, 1) := by decide +kernel
theorem dX9_passAll_166 : decode cX9_passAll 166 = .ok (.aload_n 0, 1) := by decide +kernel
theorem dX9_passAll_167 : decode cX9_passAll 167 = .ok (.getfield 22, 3) := by decide +kernel
theorem dX9_passAll_170 : decode cX9_passAll 170 = .ok (.iload_n 1, 1) := by decide +kernel
theorem dX9_passAll_171 : decode cX9_passAll 171 = .ok (.iaload, 1) := by decide +kernel
theorem dX9_passAll_172 : decode cX9_passAll 172 = .ok (.invokevirtual 325, 3) := by decide +kernel
theorem dX9_passAll_175 : decode cX9_passAll 175 = .ok (.iastore, 1) := by decide +kernel
theorem dX9_passAll_176 : decode cX9_passAll 176 = .ok (.aload_n 0, 1) := by decide +kernel
theorem dX9_passAll_177 : decode cX9_passAll 177 = .ok (.getfield 25, 3) := by decide +kernel
theorem dX9_passAll_180 : decode cX9_passAll 180 = .ok (.iload_n 1, 1) := by decide +kernel
theorem dX9_passAll_181 : decode cX9_passAll 181 = .ok (.aload_n 0, 1) := by decide +kernel
theorem dX9_passAll_182 : decode cX9_passAll 182 = .ok (.aload_n 0, 1) := by decide +kernel
theorem dX9_passAll_183 : decode cX9_passAll 183 = .ok (.getfield 25, 3) := by decide +kernel
theorem dX9_passAll_186 : decode cX9_passAll 186 = .ok (.iload_n 1, 1) := by decide +kernel
theorem dX9_passAll_187 : decode cX9_passAll 187 = .ok (.iaload, 1) := by decide +kernel
theorem dX9_passAll_188 : decode cX9_passAll 188 = .ok (.invokevirtual 325, 3) := by decide +kernel
theorem dX9_passAll_191 : decode cX9_passAll 191 = .ok (.iastore, 1) := by decide +kernel
theorem dX9_passAll_192 : decode cX9_passAll 192 = .ok (.iinc 1 1, 3) := by decide +kernel
theorem dX9_passAll_195 : decode cX9_passAll 195 = .ok (.goto (-41), 3) := by decide +kernel
theorem dX9_passAll_198 : decode cX9_passAll 198 = .ok (.return_, 1) := by decide +kernel
theorem dX9_image_0 : decode cX9_image 0 = .ok (.iload_n 1, 1) := by decide +kernel
theorem dX9_image_1 : decode cX9_image 1 = .ok (.i2l, 1) := by decide +kernel
theorem dX9_image_2 : decode cX9_image 2 = .ok (.lconst 0, 1) := by decide +kernel
theorem dX9_image_3 : decode cX9_image 3 = .ok (.lconst 1, 1) := by decide +kernel
theorem dX9_image_4 : decode cX9_image 4 = .ok (.invokestatic 101, 3) := by decide +kernel
theorem dX9_image_7 : decode cX9_image 7 = .ok (.ifCond .ne 6, 3) := by decide +kernel
theorem dX9_image_10 : decode cX9_image 10 = .ok (.bipush (-2), 2) := by decide +kernel
theorem dX9_image_12 : decode cX9_image 12 = .ok (.ireturn, 1) := by decide +kernel
theorem dX9_image_13 : decode cX9_image 13 = .ok (.aload_n 0, 1) := by decide +kernel
theorem dX9_image_14 : decode cX9_image 14 = .ok (.sipush 130, 3) := by decide +kernel
theorem dX9_image_17 : decode cX9_image 17 = .ok (.iload_n 1, 1) := by decide +kernel
theorem dX9_image_18 : decode cX9_image 18 = .ok (.imul, 1) := by decide +kernel
theorem dX9_image_19 : decode cX9_image 19 = .ok (.putfield 322, 3) := by decide +kernel
theorem dX9_image_22 : decode cX9_image 22 = .ok (.aload_n 0, 1) := by decide +kernel
theorem dX9_image_23 : decode cX9_image 23 = .ok (.iconst 1, 1) := by decide +kernel
theorem dX9_image_24 : decode cX9_image 24 = .ok (.putfield 319, 3) := by decide +kernel
theorem dX9_image_27 : decode cX9_image 27 = .ok (.aload_n 0, 1) := by decide +kernel
theorem dX9_image_28 : decode cX9_image 28 = .ok (.invokevirtual 328, 3) := by decide +kernel
theorem dX9_image_31 : decode cX9_image 31 = .ok (.aload_n 0, 1) := by decide +kernel
theorem dX9_image_32 : decode cX9_image 32 = .ok (.getfield 77, 3) := by decide +kernel
theorem dX9_image_35 : decode cX9_image 35 = .ok (.iload_n 1, 1) := by decide +kernel
theorem dX9_image_36 : decode cX9_image 36 = .ok (.iconst 1, 1) := by decide +kernel
theorem dX9_image_37 : decode cX9_image 37 = .ok (.bastore, 1) := by decide +kernel
theorem dX9_image_38 : decode cX9_image 38 = .ok (.iconst 1, 1) := by decide +kernel
theorem dX9_image_39 : decode cX9_image 39 = .ok (.ireturn, 1) := by decide +kernel
theorem dX9_restore_0 : decode cX9_restore 0 = .ok (.iload_n 1, 1) := by decide +kernel
theorem dX9_restore_1 : decode cX9_restore 1 = .ok (.i2l, 1) := by decide +kernel
theorem dX9_restore_2 : decode cX9_restore 2 = .ok (.lconst 0, 1) := by decide +kernel
theorem dX9_restore_3 : decode cX9_restore 3 = .ok (.lconst 1, 1) := by decide +kernel
theorem dX9_restore_4 : decode cX9_restore 4 = .ok (.invokestatic 101, 3) := by decide +kernel
theorem dX9_restore_7 : decode cX9_restore 7 = .ok (.ifCond .ne 6, 3) := by decide +kernel
theorem dX9_restore_10 : decode cX9_restore 10 = .ok (.bipush (-2), 2) := by decide +kernel
theorem dX9_restore_12 : decode cX9_restore 12 = .ok (.ireturn, 1) := by decide +kernel
theorem dX9_restore_13 : decode cX9_restore 13 = .ok (.aload_n 0, 1) := by decide +kernel
theorem dX9_restore_14 : decode cX9_restore 14 = .ok (.getfield 77, 3) := by decide +kernel
theorem dX9_restore_17 : decode cX9_restore 17 = .ok (.iload_n 1, 1) := by decide +kernel
theorem dX9_restore_18 : decode cX9_restore 18 = .ok (.baload, 1) := by decide +kernel
theorem dX9_restore_19 : decode cX9_restore 19 = .ok (.ifCond .ne 6, 3) := by decide +kernel
theorem dX9_restore_22 : decode cX9_restore 22 = .ok (.bipush (-3), 2) := by decide +kernel
theorem dX9_restore_24 : decode cX9_restore 24 = .ok (.ireturn, 1) := by decide +kernel
theorem dX9_restore_25 : decode cX9_restore 25 = .ok (.aload_n 0, 1) := by decide +kernel
theorem dX9_restore_26 : decode cX9_restore 26 = .ok (.sipush 130, 3) := by decide +kernel
theorem dX9_restore_29 : decode cX9_restore 29 = .ok (.iload_n 1, 1) := by decide +kernel
theorem dX9_restore_30 : decode cX9_restore 30 = .ok (.imul, 1) := by decide +kernel
theorem dX9_restore_31 : decode cX9_restore 31 = .ok (.putfield 322, 3) := by decide +kernel
theorem dX9_restore_34 : decode cX9_restore 34 = .ok (.aload_n 0, 1) := by decide +kernel
theorem dX9_restore_35 : decode cX9_restore 35 = .ok (.iconst 0, 1) := by decide +kernel
theorem dX9_restore_36 : decode cX9_restore 36 = .ok (.putfield 319, 3) := by decide +kernel
theorem dX9_restore_39 : decode cX9_restore 39 = .ok (.aload_n 0, 1) := by decide +kernel
theorem dX9_restore_40 : decode cX9_restore 40 = .ok (.invokevirtual 328, 3) := by decide +kernel
theorem dX9_restore_43 : decode cX9_restore 43 = .ok (.iconst 1, 1) := by decide +kernel
theorem dX9_restore_44 : decode cX9_restore 44 = .ok (.ireturn, 1) := by decide +kernel
theorem dX9_told_0 : decode cX9_told 0 = .ok (.iload_n 1, 1) := by decide +kernel
theorem dX9_told_1 : decode cX9_told 1 = .ok (.i2l, 1) := by decide +kernel
theorem dX9_told_2 : decode cX9_told 2 = .ok (.ldc2_w 285, 3) := by decide +kernel
theorem dX9_told_5 : decode cX9_told 5 = .ok (.ldc2_w 331, 3) := by decide +kernel
theorem dX9_told_8 : decode cX9_told 8 = .ok (.invokestatic 101, 3) := by decide +kernel
theorem dX9_told_11 : decode cX9_told 11 = .ok (.ifCond .eq 13, 3) := by decide +kernel
theorem dX9_told_14 : decode cX9_told 14 = .ok (.aload_n 0, 1) := by decide +kernel
theorem dX9_told_15 : decode cX9_told 15 = .ok (.getfield 7, 3) := by decide +kernel
theorem dX9_told_18 : decode cX9_told 18 = .ok (.iload_n 1, 1) := by decide +kernel
theorem dX9_told_19 : decode cX9_told 19 = .ok (.bipush 10, 2) := by decide +kernel
theorem dX9_told_21 : decode cX9_told 21 = .ok (.isub, 1) := by decide +kernel
theorem dX9_told_22 : decode cX9_told 22 = .ok (.iaload, 1) := by decide +kernel
theorem dX9_told_23 : decode cX9_told 23 = .ok (.ireturn, 1) := by decide +kernel
theorem dX9_told_24 : decode cX9_told 24 = .ok (.iload_n 1, 1) := by decide +kernel
theorem dX9_told_25 : decode cX9_told 25 = .ok (.ifCond .ne 10, 3) := by decide +kernel
theorem dX9_told_28 : decode cX9_told 28 = .ok (.aload_n 0, 1) := by decide +kernel
theorem dX9_told_29 : decode cX9_told 29 = .ok (.getfield 124, 3) := by decide +kernel
theorem dX9_told_32 : decode cX9_told 32 = .ok (.goto 65, 3) := by decide +kernel
theorem dX9_told_35 : decode cX9_told 35 = .ok (.iload_n 1, 1) := by decide +kernel
theorem dX9_told_36 : decode cX9_told 36 = .ok (.iconst 1, 1) := by decide +kernel
theorem dX9_told_37 : decode cX9_told 37 = .ok (.if_icmp .ne 10, 3) := by decide +kernel
theorem dX9_told_40 : decode cX9_told 40 = .ok (.aload_n 0, 1) := by decide +kernel
theorem dX9_told_41 : decode cX9_told 41 = .ok (.getfield 85, 3) := by decide +kernel
theorem dX9_told_44 : decode cX9_told 44 = .ok (.goto 53, 3) := by decide +kernel
theorem dX9_told_47 : decode cX9_told 47 = .ok (.iload_n 1, 1) := by decide +kernel
theorem dX9_told_48 : decode cX9_told 48 = .ok (.iconst 2, 1) := by decide +kernel
theorem dX9_told_49 : decode cX9_told 49 = .ok (.if_icmp .ne 10, 3) := by decide +kernel
theorem dX9_told_52 : decode cX9_told 52 = .ok (.aload_n 0, 1) := by decide +kernel
theorem dX9_told_53 : decode cX9_told 53 = .ok (.getfield 89, 3) := by decide +kernel
theorem dX9_told_56 : decode cX9_told 56 = .ok (.goto 41, 3) := by decide +kernel
theorem dX9_told_59 : decode cX9_told 59 = .ok (.iload_n 1, 1) := by decide +kernel
theorem dX9_told_60 : decode cX9_told 60 = .ok (.iconst 3, 1) := by decide +kernel
theorem dX9_told_61 : decode cX9_told 61 = .ok (.if_icmp .ne 10, 3) := by decide +kernel
theorem dX9_told_64 : decode cX9_told 64 = .ok (.aload_n 0, 1) := by decide +kernel
theorem dX9_told_65 : decode cX9_told 65 = .ok (.getfield 92, 3) := by decide +kernel
theorem dX9_told_68 : decode cX9_told 68 = .ok (.goto 29, 3) := by decide +kernel
theorem dX9_told_71 : decode cX9_told 71 = .ok (.iload_n 1, 1) := by decide +kernel
theorem dX9_told_72 : decode cX9_told 72 = .ok (.iconst 4, 1) := by decide +kernel
theorem dX9_told_73 : decode cX9_told 73 = .ok (.if_icmp .ne 10, 3) := by decide +kernel
theorem dX9_told_76 : decode cX9_told 76 = .ok (.aload_n 0, 1) := by decide +kernel
theorem dX9_told_77 : decode cX9_told 77 = .ok (.getfield 95, 3) := by decide +kernel
theorem dX9_told_80 : decode cX9_told 80 = .ok (.goto 17, 3) := by decide +kernel
theorem dX9_told_83 : decode cX9_told 83 = .ok (.iload_n 1, 1) := by decide +kernel
theorem dX9_told_84 : decode cX9_told 84 = .ok (.iconst 5, 1) := by decide +kernel
theorem dX9_told_85 : decode cX9_told 85 = .ok (.if_icmp .ne 10, 3) := by decide +kernel
theorem dX9_told_88 : decode cX9_told 88 = .ok (.aload_n 0, 1) := by decide +kernel
theorem dX9_told_89 : decode cX9_told 89 = .ok (.getfield 98, 3) := by decide +kernel
theorem dX9_told_92 : decode cX9_told 92 = .ok (.goto 5, 3) := by decide +kernel
theorem dX9_told_95 : decode cX9_told 95 = .ok (.bipush (-2), 2) := by decide +kernel
theorem dX9_told_97 : decode cX9_told 97 = .ok (.ireturn, 1) := by decide +kernel
theorem dL_law_0 : decode cL_law 0 = .ok (.new 7, 3) := by decide +kernel
theorem dL_law_3 : decode cL_law 3 = .ok (.dup, 1) := by decide +kernel
theorem dL_law_4 : decode cL_law 4 = .ok (.invokespecial 9, 3) := by decide +kernel
theorem dL_law_7 : decode cL_law 7 = .ok (.astore_n 1, 1) := by decide +kernel
theorem dL_law_8 : decode cL_law 8 = .ok (.new 10, 3) := by decide +kernel
theorem dL_law_11 : decode cL_law 11 = .ok (.dup, 1) := by decide +kernel
theorem dL_law_12 : decode cL_law 12 = .ok (.invokespecial 12, 3) := by decide +kernel
theorem dL_law_15 : decode cL_law 15 = .ok (.astore_n 2, 1) := by decide +kernel
theorem dL_law_16 : decode cL_law 16 = .ok (.iconst 0, 1) := by decide +kernel
theorem dL_law_17 : decode cL_law 17 = .ok (.istore_n 3, 1) := by decide +kernel
theorem dL_law_18 : decode cL_law 18 = .ok (.iload_n 3, 1) := by decide +kernel
theorem dL_law_19 : decode cL_law 19 = .ok (.aload_n 0, 1) := by decide +kernel
theorem dL_law_20 : decode cL_law 20 = .ok (.arraylength, 1) := by decide +kernel
theorem dL_law_21 : decode cL_law 21 = .ok (.bipush 6, 2) := by decide +kernel
theorem dL_law_23 : decode cL_law 23 = .ok (.isub, 1) := by decide +kernel
theorem dL_law_24 : decode cL_law 24 = .ok (.if_icmp .gt 981, 3) := by decide +kernel
theorem dL_law_27 : decode cL_law 27 = .ok (.aload_n 0, 1) := by decide +kernel
theorem dL_law_28 : decode cL_law 28 = .ok (.iload_n 3, 1) := by decide +kernel
theorem dL_law_29 : decode cL_law 29 = .ok (.iaload, 1) := by decide +kernel
theorem dL_law_30 : decode cL_law 30 = .ok (.bipush 31, 2) := by decide +kernel
theorem dL_law_32 : decode cL_law 32 = .ok (.iand, 1) := by decide +kernel
theorem dL_law_33 : decode cL_law 33 = .ok (.tableswitch 966 0 28 #[131, 154, 203, 236, 259, 282, 295, 318, 341, 364, 397, 420, 433, 466, 479, 492, 525, 538, 561, 584, 607, 661, 714, 768, 831, 854, 897, 920, 943], 131) := by decide +kernel
theorem dL_law_164 : decode cL_law 164 = .ok (.aload_n 1, 1) := by decide +kernel
theorem dL_law_165 : decode cL_law 165 = .ok (.aload_n 0, 1) := by decide +kernel
theorem dL_law_166 : decode cL_law 166 = .ok (.iload_n 3, 1) := by decide +kernel
theorem dL_law_167 : decode cL_law 167 = .ok (.iconst 1, 1) := by decide +kernel
theorem dL_law_168 : decode cL_law 168 = .ok (.iadd, 1) := by decide +kernel
theorem dL_law_169 : decode cL_law 169 = .ok (.iaload, 1) := by decide +kernel
theorem dL_law_170 : decode cL_law 170 = .ok (.invokevirtual 13, 3) := by decide +kernel
theorem dL_law_173 : decode cL_law 173 = .ok (.aload_n 2, 1) := by decide +kernel
theorem dL_law_174 : decode cL_law 174 = .ok (.aload_n 0, 1) := by decide +kernel
theorem dL_law_175 : decode cL_law 175 = .ok (.iload_n 3, 1) := by decide +kernel
theorem dL_law_176 : decode cL_law 176 = .ok (.iconst 1, 1) := by decide +kernel
theorem dL_law_177 : decode cL_law 177 = .ok (.iadd, 1) := by decide +kernel
theorem dL_law_178 : decode cL_law 178 = .ok (.iaload, 1) := by decide +kernel
theorem dL_law_179 : decode cL_law 179 = .ok (.invokevirtual 17, 3) := by decide +kernel
theorem dL_law_182 : decode cL_law 182 = .ok (.if_icmp .eq 817, 3) := by decide +kernel
theorem dL_law_185 : decode cL_law 185 = .ok (.iconst 0, 1) := by decide +kernel
theorem dL_law_186 : decode cL_law 186 = .ok (.ireturn, 1) := by decide +kernel
theorem dL_law_187 : decode cL_law 187 = .ok (.aload_n 1, 1) := by decide +kernel
theorem dL_law_188 : decode cL_law 188 = .ok (.aload_n 0, 1) := by decide +kernel
theorem dL_law_189 : decode cL_law 189 = .ok (.iload_n 3, 1) := by decide +kernel
theorem dL_law_190 : decode cL_law 190 = .ok (.iconst 1, 1) := by decide +kernel
theorem dL_law_191 : decode cL_law 191 = .ok (.iadd, 1) := by decide +kernel
theorem dL_law_192 : decode cL_law 192 = .ok (.iaload, 1) := by decide +kernel
theorem dL_law_193 : decode cL_law 193 = .ok (.aload_n 0, 1) := by decide +kernel
theorem dL_law_194 : decode cL_law 194 = .ok (.iload_n 3, 1) := by decide +kernel
theorem dL_law_195 : decode cL_law 195 = .ok (.iconst 2, 1) := by decide +kernel
theorem dL_law_196 : decode cL_law 196 = .ok (.iadd, 1) := by decide +kernel
theorem dL_law_197 : decode cL_law 197 = .ok (.iaload, 1) := by decide +kernel
theorem dL_law_198 : decode cL_law 198 = .ok (.ifCond .eq 7, 3) := by decide +kernel
theorem dL_law_201 : decode cL_law 201 = .ok (.iconst 1, 1) := by decide +kernel
theorem dL_law_202 : decode cL_law 202 = .ok (.goto 4, 3) := by decide +kernel
theorem dL_law_205 : decode cL_law 205 = .ok (.iconst 0, 1) := by decide +kernel
theorem dL_law_206 : decode cL_law 206 = .ok (.invokevirtual 18, 3) := by decide +kernel
theorem dL_law_209 : decode cL_law 209 = .ok (.aload_n 2, 1) := by decide +kernel
theorem dL_law_210 : decode cL_law 210 = .ok (.aload_n 0, 1) := by decide +kernel
theorem dL_law_211 : decode cL_law 211 = .ok (.iload_n 3, 1) := by decide +kernel
theorem dL_law_212 : decode cL_law 212 = .ok (.iconst 1, 1) := by decide +kernel
theorem dL_law_213 : decode cL_law 213 = .ok (.iadd, 1) := by decide +kernel
theorem dL_law_214 : decode cL_law 214 = .ok (.iaload, 1) := by decide +kernel
theorem dL_law_215 : decode cL_law 215 = .ok (.aload_n 0, 1) := by decide +kernel
theorem dL_law_216 : decode cL_law 216 = .ok (.iload_n 3, 1) := by decide +kernel
theorem dL_law_217 : decode cL_law 217 = .ok (.iconst 2, 1) := by decide +kernel
theorem dL_law_218 : decode cL_law 218 = .ok (.iadd, 1) := by decide +kernel
theorem dL_law_219 : decode cL_law 219 = .ok (.iaload, 1) := by decide +kernel
theorem dL_law_220 : decode cL_law 220 = .ok (.ifCond .eq 7, 3) := by decide +kernel
theorem dL_law_223 : decode cL_law 223 = .ok (.iconst 1, 1) := by decide +kernel
theorem dL_law_224 : decode cL_law 224 = .ok (.goto 4, 3) := by decide +kernel
theorem dL_law_227 : decode cL_law 227 = .ok (.iconst 0, 1) := by decide +kernel
theorem dL_law_228 : decode cL_law 228 = .ok (.invokevirtual 22, 3) := by decide +kernel
theorem dL_law_231 : decode cL_law 231 = .ok (.if_icmp .eq 768, 3) := by decide +kernel
theorem dL_law_234 : decode cL_law 234 = .ok (.iconst 0, 1) := by decide +kernel
theorem dL_law_235 : decode cL_law 235 = .ok (.ireturn, 1) := by decide +kernel
theorem dL_law_236 : decode cL_law 236 = .ok (.aload_n 1, 1) := by decide +kernel
theorem dL_law_237 : decode cL_law 237 = .ok (.aload_n 0, 1) := by decide +kernel
theorem dL_law_238 : decode cL_law 238 = .ok (.iload_n 3, 1) := by decide +kernel
theorem dL_law_239 : decode cL_law 239 = .ok (.iconst 1, 1) := by decide +kernel
theorem dL_law_240 : decode cL_law 240 = .ok (.iadd, 1) := by decide +kernel
theorem dL_law_241 : decode cL_law 241 = .ok (.iaload, 1) := by decide +kernel
theorem dL_law_242 : decode cL_law 242 = .ok (.aload_n 0, 1) := by decide +kernel
theorem dL_law_243 : decode cL_law 243 = .ok (.iload_n 3, 1) := by decide +kernel
theorem dL_law_244 : decode cL_law 244 = .ok (.iconst 2, 1) := by decide +kernel
theorem dL_law_245 : decode cL_law 245 = .ok (.iadd, 1) := by decide +kernel
theorem dL_law_246 : decode cL_law 246 = .ok (.iaload, 1) := by decide +kernel
theorem dL_law_247 : decode cL_law 247 = .ok (.invokevirtual 23, 3) := by decide +kernel
theorem dL_law_250 : decode cL_law 250 = .ok (.aload_n 2, 1) := by decide +kernel
theorem dL_law_251 : decode cL_law 251 = .ok (.aload_n 0, 1) := by decide +kernel
theorem dL_law_252 : decode cL_law 252 = .ok (.iload_n 3, 1) := by decide +kernel
theorem dL_law_253 : decode cL_law 253 = .ok (.iconst 1, 1) := by decide +kernel
theorem dL_law_254 : decode cL_law 254 = .ok (.iadd, 1) := by decide +kernel
theorem dL_law_255 : decode cL_law 255 = .ok (.iaload, 1) := by decide +kernel
theorem dL_law_256 : decode cL_law 256 = .ok (.aload_n 0, 1) := by decide +kernel
theorem dL_law_257 : decode cL_law 257 = .ok (.iload_n 3, 1) := by decide +kernel
theorem dL_law_258 : decode cL_law 258 = .ok (.iconst 2, 1) := by decide +kernel
theorem dL_law_259 : decode cL_law 259 = .ok (.iadd, 1) := by decide +kernel
theorem dL_law_260 : decode cL_law 260 = .ok (.iaload, 1) := by decide +kernel
theorem dL_law_261 : decode cL_law 261 = .ok (.invokevirtual 27, 3) := by decide +kernel
theorem dL_law_264 : decode cL_law 264 = .ok (.if_icmp .eq 735, 3) := by decide +kernel
theorem dL_law_267 : decode cL_law 267 = .ok (.iconst 0, 1) := by decide +kernel
theorem dL_law_268 : decode cL_law 268 = .ok (.ireturn, 1) := by decide +kernel
theorem dL_law_269 : decode cL_law 269 = .ok (.aload_n 1, 1) := by decide +kernel
theorem dL_law_270 : decode cL_law 270 = .ok (.aload_n 0, 1) := by decide +kernel
theorem dL_law_271 : decode cL_law 271 = .ok (.iload_n 3, 1) := by decide +kernel
theorem dL_law_272 : decode cL_law 272 = .ok (.iconst 1, 1) := by decide +kernel
theorem dL_law_273 : decode cL_law 273 = .ok (.iadd, 1) := by decide +kernel
theorem dL_law_274 : decode cL_law 274 = .ok (.iaload, 1) := by decide +kernel
theorem dL_law_275 : decode cL_law 275 = .ok (.invokevirtual 28, 3) := by decide +kernel
theorem dL_law_278 : decode cL_law 278 = .ok (.aload_n 2, 1) := by decide +kernel
theorem dL_law_279 : decode cL_law 279 = .ok (.aload_n 0, 1) := by decide +kernel
theorem dL_law_280 : decode cL_law 280 = .ok (.iload_n 3, 1) := by decide +kernel
theorem dL_law_281 : decode cL_law 281 = .ok (.iconst 1, 1) := by decide +kernel
theorem dL_law_282 : decode cL_law 282 = .ok (.iadd, 1) := by decide +kernel
theorem dL_law_283 : decode cL_law 283 = .ok (.iaload, 1) := by decide +kernel
theorem dL_law_284 : decode cL_law 284 = .ok (.invokevirtual 31, 3) := by decide +kernel
theorem dL_law_287 : decode cL_law 287 = .ok (.if_icmp .eq 712, 3) := by decide +kernel
theorem dL_law_290 : decode cL_law 290 = .ok (.iconst 0, 1) := by decide +kernel
theorem dL_law_291 : decode cL_law 291 = .ok (.ireturn, 1) := by decide +kernel
theorem dL_law_292 : decode cL_law 292 = .ok (.aload_n 1, 1) := by decide +kernel
theorem dL_law_293 : decode cL_law 293 = .ok (.aload_n 0, 1) := by decide +kernel
theorem dL_law_294 : decode cL_law 294 = .ok (.iload_n 3, 1) := by decide +kernel
theorem dL_law_295 : decode cL_law 295 = .ok (.iconst 1, 1) := by decide +kernel
theorem dL_law_296 : decode cL_law 296 = .ok (.iadd, 1) := by decide +kernel
theorem dL_law_297 : decode cL_law 297 = .ok (.iaload, 1) := by decide +kernel
theorem dL_law_298 : decode cL_law 298 = .ok (.invokevirtual 32, 3) := by decide +kernel
theorem dL_law_301 : decode cL_law 301 = .ok (.aload_n 2, 1) := by decide +kernel
theorem dL_law_302 : decode cL_law 302 = .ok (.aload_n 0, 1) := by decide +kernel
theorem dL_law_303 : decode cL_law 303 = .ok (.iload_n 3, 1) := by decide +kernel
theorem dL_law_304 : decode cL_law 304 = .ok (.iconst 1, 1) := by decide +kernel
theorem dL_law_305 : decode cL_law 305 = .ok (.iadd, 1) := by decide +kernel
theorem dL_law_306 : decode cL_law 306 = .ok (.iaload, 1) := by decide +kernel
theorem dL_law_307 : decode cL_law 307 = .ok (.invokevirtual 35, 3) := by decide +kernel
theorem dL_law_310 : decode cL_law 310 = .ok (.if_icmp .eq 689, 3) := by decide +kernel
theorem dL_law_313 : decode cL_law 313 = .ok (.iconst 0, 1) := by decide +kernel
theorem dL_law_314 : decode cL_law 314 = .ok (.ireturn, 1) := by decide +kernel
theorem dL_law_315 : decode cL_law 315 = .ok (.aload_n 1, 1) := by decide +kernel
theorem dL_law_316 : decode cL_law 316 = .ok (.invokevirtual 36, 3) := by decide +kernel
theorem dL_law_319 : decode cL_law 319 = .ok (.aload_n 2, 1) := by decide +kernel
theorem dL_law_320 : decode cL_law 320 = .ok (.invokevirtual 40, 3) := by decide +kernel
theorem dL_law_323 : decode cL_law 323 = .ok (.if_icmp .eq 676, 3) := by decide +kernel
theorem dL_law_326 : decode cL_law 326 = .ok (.iconst 0, 1) := by decide +kernel
theorem dL_law_327 : decode cL_law 327 = .ok (.ireturn, 1) := by decide +kernel
theorem dL_law_328 : decode cL_law 328 = .ok (.aload_n 1, 1) := by decide +kernel
theorem dL_law_329 : decode cL_law 329 = .ok (.aload_n 0, 1) := by decide +kernel
theorem dL_law_330 : decode cL_law 330 = .ok (.iload_n 3, 1) := by decide +kernel
theorem dL_law_331 : decode cL_law 331 = .ok (.iconst 1, 1) := by decide +kernel
theorem dL_law_332 : decode cL_law 332 = .ok (.iadd, 1) := by decide +kernel
theorem dL_law_333 : decode cL_law 333 = .ok (.iaload, 1) := by decide +kernel
theorem dL_law_334 : decode cL_law 334 = .ok (.invokevirtual 41, 3) := by decide +kernel
theorem dL_law_337 : decode cL_law 337 = .ok (.aload_n 2, 1) := by decide +kernel
theorem dL_law_338 : decode cL_law 338 = .ok (.aload_n 0, 1) := by decide +kernel
theorem dL_law_339 : decode cL_law 339 = .ok (.iload_n 3, 1) := by decide +kernel
theorem dL_law_340 : decode cL_law 340 = .ok (.iconst 1, 1) := by decide +kernel
theorem dL_law_341 : decode cL_law 341 = .ok (.iadd, 1) := by decide +kernel
theorem dL_law_342 : decode cL_law 342 = .ok (.iaload, 1) := by decide +kernel
theorem dL_law_343 : decode cL_law 343 = .ok (.invokevirtual 44, 3) := by decide +kernel
theorem dL_law_346 : decode cL_law 346 = .ok (.if_icmp .eq 653, 3) := by decide +kernel
theorem dL_law_349 : decode cL_law 349 = .ok (.iconst 0, 1) := by decide +kernel
theorem dL_law_350 : decode cL_law 350 = .ok (.ireturn, 1) := by decide +kernel
theorem dL_law_351 : decode cL_law 351 = .ok (.aload_n 1, 1) := by decide +kernel
theorem dL_law_352 : decode cL_law 352 = .ok (.aload_n 0, 1) := by decide +kernel
theorem dL_law_353 : decode cL_law 353 = .ok (.iload_n 3, 1) := by decide +kernel
theorem dL_law_354 : decode cL_law 354 = .ok (.iconst 1, 1) := by decide +kernel
theorem dL_law_355 : decode cL_law 355 = .ok (.iadd, 1) := by decide +kernel
theorem dL_law_356 : decode cL_law 356 = .ok (.iaload, 1) := by decide +kernel
theorem dL_law_357 : decode cL_law 357 = .ok (.invokevirtual 45, 3) := by decide +kernel
theorem dL_law_360 : decode cL_law 360 = .ok (.aload_n 2, 1) := by decide +kernel
theorem dL_law_361 : decode cL_law 361 = .ok (.aload_n 0, 1) := by decide +kernel
theorem dL_law_362 : decode cL_law 362 = .ok (.iload_n 3, 1) := by decide +kernel
theorem dL_law_363 : decode cL_law 363 = .ok (.iconst 1, 1) := by decide +kernel
theorem dL_law_364 : decode cL_law 364 = .ok (.iadd, 1) := by decide +kernel
theorem dL_law_365 : decode cL_law 365 = .ok (.iaload, 1) := by decide +kernel
theorem dL_law_366 : decode cL_law 366 = .ok (.invokevirtual 48, 3) := by decide +kernel
theorem dL_law_369 : decode cL_law 369 = .ok (.if_icmp .eq 630, 3) := by decide +kernel
theorem dL_law_372 : decode cL_law 372 = .ok (.iconst 0, 1) := by decide +kernel
theorem dL_law_373 : decode cL_law 373 = .ok (.ireturn, 1) := by decide +kernel
theorem dL_law_374 : decode cL_law 374 = .ok (.aload_n 1, 1) := by decide +kernel
theorem dL_law_375 : decode cL_law 375 = .ok (.aload_n 0, 1) := by decide +kernel
theorem dL_law_376 : decode cL_law 376 = .ok (.iload_n 3, 1) := by decide +kernel
theorem dL_law_377 : decode cL_law 377 = .ok (.iconst 1, 1) := by decide +kernel
theorem dL_law_378 : decode cL_law 378 = .ok (.iadd, 1) := by decide +kernel
theorem dL_law_379 : decode cL_law 379 = .ok (.iaload, 1) := by decide +kernel
theorem dL_law_380 : decode cL_law 380 = .ok (.invokevirtual 49, 3) := by decide +kernel
theorem dL_law_383 : decode cL_law 383 = .ok (.aload_n 2, 1) := by decide +kernel
theorem dL_law_384 : decode cL_law 384 = .ok (.aload_n 0, 1) := by decide +kernel
theorem dL_law_385 : decode cL_law 385 = .ok (.iload_n 3, 1) := by decide +kernel
theorem dL_law_386 : decode cL_law 386 = .ok (.iconst 1, 1) := by decide +kernel
theorem dL_law_387 : decode cL_law 387 = .ok (.iadd, 1) := by decide +kernel
theorem dL_law_388 : decode cL_law 388 = .ok (.iaload, 1) := by decide +kernel
theorem dL_law_389 : decode cL_law 389 = .ok (.invokevirtual 52, 3) := by decide +kernel
theorem dL_law_392 : decode cL_law 392 = .ok (.if_icmp .eq 607, 3) := by decide +kernel
theorem dL_law_395 : decode cL_law 395 = .ok (.iconst 0, 1) := by decide +kernel
theorem dL_law_396 : decode cL_law 396 = .ok (.ireturn, 1) := by decide +kernel
theorem dL_law_397 : decode cL_law 397 = .ok (.aload_n 1, 1) := by decide +kernel
theorem dL_law_398 : decode cL_law 398 = .ok (.aload_n 0, 1) := by decide +kernel
theorem dL_law_399 : decode cL_law 399 = .ok (.iload_n 3, 1) := by decide +kernel
theorem dL_law_400 : decode cL_law 400 = .ok (.iconst 1, 1) := by decide +kernel
theorem dL_law_401 : decode cL_law 401 = .ok (.iadd, 1) := by decide +kernel
theorem dL_law_402 : decode cL_law 402 = .ok (.iaload, 1) := by decide +kernel
theorem dL_law_403 : decode cL_law 403 = .ok (.aload_n 0, 1) := by decide +kernel
theorem dL_law_404 : decode cL_law 404 = .ok (.iload_n 3, 1) := by decide +kernel
theorem dL_law_405 : decode cL_law 405 = .ok (.iconst 2, 1) := by decide +kernel
theorem dL_law_406 : decode cL_law 406 = .ok (.iadd, 1) := by decide +kernel
theorem dL_law_407 : decode cL_law 407 = .ok (.iaload, 1) := by decide +kernel
theorem dL_law_408 : decode cL_law 408 = .ok (.invokevirtual 53, 3) := by decide +kernel
theorem dL_law_411 : decode cL_law 411 = .ok (.aload_n 2, 1) := by decide +kernel
theorem dL_law_412 : decode cL_law 412 = .ok (.aload_n 0, 1) := by decide +kernel
theorem dL_law_413 : decode cL_law 413 = .ok (.iload_n 3, 1) := by decide +kernel
theorem dL_law_414 : decode cL_law 414 = .ok (.iconst 1, 1) := by decide +kernel
theorem dL_law_415 : decode cL_law 415 = .ok (.iadd, 1) := by decide +kernel
theorem dL_law_416 : decode cL_law 416 = .ok (.iaload, 1) := by decide +kernel
theorem dL_law_417 : decode cL_law 417 = .ok (.aload_n 0, 1) := by decide +kernel
theorem dL_law_418 : decode cL_law 418 = .ok (.iload_n 3, 1) := by decide +kernel
theorem dL_law_419 : decode cL_law 419 = .ok (.iconst 2, 1) := by decide +kernel
theorem dL_law_420 : decode cL_law 420 = .ok (.iadd, 1) := by decide +kernel
theorem dL_law_421 : decode cL_law 421 = .ok (.iaload, 1) := by decide +kernel
theorem dL_law_422 : decode cL_law 422 = .ok (.invokevirtual 56, 3) := by decide +kernel
theorem dL_law_425 : decode cL_law 425 = .ok (.if_icmp .eq 574, 3) := by decide +kernel
theorem dL_law_428 : decode cL_law 428 = .ok (.iconst 0, 1) := by decide +kernel
theorem dL_law_429 : decode cL_law 429 = .ok (.ireturn, 1) := by decide +kernel
theorem dL_law_430 : decode cL_law 430 = .ok (.aload_n 1, 1) := by decide +kernel
theorem dL_law_431 : decode cL_law 431 = .ok (.aload_n 0, 1) := by decide +kernel
theorem dL_law_432 : decode cL_law 432 = .ok (.iload_n 3, 1) := by decide +kernel
theorem dL_law_433 : decode cL_law 433 = .ok (.iconst 1, 1) := by decide +kernel
theorem dL_law_434 : decode cL_law 434 = .ok (.iadd, 1) := by decide +kernel
theorem dL_law_435 : decode cL_law 435 = .ok (.iaload, 1) := by decide +kernel
theorem dL_law_436 : decode cL_law 436 = .ok (.invokevirtual 57, 3) := by decide +kernel
theorem dL_law_439 : decode cL_law 439 = .ok (.aload_n 2, 1) := by decide +kernel
theorem dL_law_440 : decode cL_law 440 = .ok (.aload_n 0, 1) := by decide +kernel
theorem dL_law_441 : decode cL_law 441 = .ok (.iload_n 3, 1) := by decide +kernel
theorem dL_law_442 : decode cL_law 442 = .ok (.iconst 1, 1) := by decide +kernel
theorem dL_law_443 : decode cL_law 443 = .ok (.iadd, 1) := by decide +kernel
theorem dL_law_444 : decode cL_law 444 = .ok (.iaload, 1) := by decide +kernel
theorem dL_law_445 : decode cL_law 445 = .ok (.invokevirtual 60, 3) := by decide +kernel
theorem dL_law_448 : decode cL_law 448 = .ok (.if_icmp .eq 551, 3) := by decide +kernel
theorem dL_law_451 : decode cL_law 451 = .ok (.iconst 0, 1) := by decide +kernel
theorem dL_law_452 : decode cL_law 452 = .ok (.ireturn, 1) := by decide +kernel
theorem dL_law_453 : decode cL_law 453 = .ok (.aload_n 1, 1) := by decide +kernel
theorem dL_law_454 : decode cL_law 454 = .ok (.invokevirtual 61, 3) := by decide +kernel
theorem dL_law_457 : decode cL_law 457 = .ok (.aload_n 2, 1) := by decide +kernel
theorem dL_law_458 : decode cL_law 458 = .ok (.invokevirtual 64, 3) := by decide +kernel
theorem dL_law_461 : decode cL_law 461 = .ok (.if_icmp .eq 538, 3) := by decide +kernel
theorem dL_law_464 : decode cL_law 464 = .ok (.iconst 0, 1) := by decide +kernel
theorem dL_law_465 : decode cL_law 465 = .ok (.ireturn, 1) := by decide +kernel
theorem dL_law_466 : decode cL_law 466 = .ok (.aload_n 1, 1) := by decide +kernel
theorem dL_law_467 : decode cL_law 467 = .ok (.aload_n 0, 1) := by decide +kernel
theorem dL_law_468 : decode cL_law 468 = .ok (.iload_n 3, 1) := by decide +kernel
theorem dL_law_469 : decode cL_law 469 = .ok (.iconst 1, 1) := by decide +kernel
theorem dL_law_470 : decode cL_law 470 = .ok (.iadd, 1) := by decide +kernel
theorem dL_law_471 : decode cL_law 471 = .ok (.iaload, 1) := by decide +kernel
theorem dL_law_472 : decode cL_law 472 = .ok (.aload_n 0, 1) := by decide +kernel
theorem dL_law_473 : decode cL_law 473 = .ok (.iload_n 3, 1) := by decide +kernel
theorem dL_law_474 : decode cL_law 474 = .ok (.iconst 2, 1) := by decide +kernel
theorem dL_law_475 : decode cL_law 475 = .ok (.iadd, 1) := by decide +kernel
theorem dL_law_476 : decode cL_law 476 = .ok (.iaload, 1) := by decide +kernel
theorem dL_law_477 : decode cL_law 477 = .ok (.invokevirtual 65, 3) := by decide +kernel
theorem dL_law_480 : decode cL_law 480 = .ok (.aload_n 2, 1) := by decide +kernel
theorem dL_law_481 : decode cL_law 481 = .ok (.aload_n 0, 1) := by decide +kernel
theorem dL_law_482 : decode cL_law 482 = .ok (.iload_n 3, 1) := by decide +kernel
theorem dL_law_483 : decode cL_law 483 = .ok (.iconst 1, 1) := by decide +kernel
theorem dL_law_484 : decode cL_law 484 = .ok (.iadd, 1) := by decide +kernel
theorem dL_law_485 : decode cL_law 485 = .ok (.iaload, 1) := by decide +kernel
theorem dL_law_486 : decode cL_law 486 = .ok (.aload_n 0, 1) := by decide +kernel
theorem dL_law_487 : decode cL_law 487 = .ok (.iload_n 3, 1) := by decide +kernel
theorem dL_law_488 : decode cL_law 488 = .ok (.iconst 2, 1) := by decide +kernel
theorem dL_law_489 : decode cL_law 489 = .ok (.iadd, 1) := by decide +kernel
theorem dL_law_490 : decode cL_law 490 = .ok (.iaload, 1) := by decide +kernel
theorem dL_law_491 : decode cL_law 491 = .ok (.invokevirtual 68, 3) := by decide +kernel
theorem dL_law_494 : decode cL_law 494 = .ok (.if_icmp .eq 505, 3) := by decide +kernel
theorem dL_law_497 : decode cL_law 497 = .ok (.iconst 0, 1) := by decide +kernel
theorem dL_law_498 : decode cL_law 498 = .ok (.ireturn, 1) := by decide +kernel
theorem dL_law_499 : decode cL_law 499 = .ok (.aload_n 1, 1) := by decide +kernel
theorem dL_law_500 : decode cL_law 500 = .ok (.invokevirtual 69, 3) := by decide +kernel
theorem dL_law_503 : decode cL_law 503 = .ok (.aload_n 2, 1) := by decide +kernel
theorem dL_law_504 : decode cL_law 504 = .ok (.invokevirtual 72, 3) := by decide +kernel
theorem dL_law_507 : decode cL_law 507 = .ok (.if_icmp .eq 492, 3) := by decide +kernel
theorem dL_law_510 : decode cL_law 510 = .ok (.iconst 0, 1) := by decide +kernel
theorem dL_law_511 : decode cL_law 511 = .ok (.ireturn, 1) := by decide +kernel
theorem dL_law_512 : decode cL_law 512 = .ok (.aload_n 1, 1) := by decide +kernel
theorem dL_law_513 : decode cL_law 513 = .ok (.invokevirtual 73, 3) := by decide +kernel
theorem dL_law_516 : decode cL_law 516 = .ok (.aload_n 2, 1) := by decide +kernel
theorem dL_law_517 : decode cL_law 517 = .ok (.invokevirtual 76, 3) := by decide +kernel
theorem dL_law_520 : decode cL_law 520 = .ok (.if_icmp .eq 479, 3) := by decide +kernel
theorem dL_law_523 : decode cL_law 523 = .ok (.iconst 0, 1) := by decide +kernel
theorem dL_law_524 : decode cL_law 524 = .ok (.ireturn, 1) := by decide +kernel
theorem dL_law_525 : decode cL_law 525 = .ok (.aload_n 1, 1) := by decide +kernel
theorem dL_law_526 : decode cL_law 526 = .ok (.aload_n 0, 1) := by decide +kernel
theorem dL_law_527 : decode cL_law 527 = .ok (.iload_n 3, 1) := by decide +kernel
theorem dL_law_528 : decode cL_law 528 = .ok (.iconst 1, 1) := by decide +kernel
theorem dL_law_529 : decode cL_law 529 = .ok (.iadd, 1) := by decide +kernel
theorem dL_law_530 : decode cL_law 530 = .ok (.iaload, 1) := by decide +kernel
theorem dL_law_531 : decode cL_law 531 = .ok (.aload_n 0, 1) := by decide +kernel
theorem dL_law_532 : decode cL_law 532 = .ok (.iload_n 3, 1) := by decide +kernel
theorem dL_law_533 : decode cL_law 533 = .ok (.iconst 2, 1) := by decide +kernel
theorem dL_law_534 : decode cL_law 534 = .ok (.iadd, 1) := by decide +kernel
theorem dL_law_535 : decode cL_law 535 = .ok (.iaload, 1) := by decide +kernel
theorem dL_law_536 : decode cL_law 536 = .ok (.invokevirtual 77, 3) := by decide +kernel
theorem dL_law_539 : decode cL_law 539 = .ok (.aload_n 2, 1) := by decide +kernel
theorem dL_law_540 : decode cL_law 540 = .ok (.aload_n 0, 1) := by decide +kernel
theorem dL_law_541 : decode cL_law 541 = .ok (.iload_n 3, 1) := by decide +kernel
theorem dL_law_542 : decode cL_law 542 = .ok (.iconst 1, 1) := by decide +kernel
theorem dL_law_543 : decode cL_law 543 = .ok (.iadd, 1) := by decide +kernel
theorem dL_law_544 : decode cL_law 544 = .ok (.iaload, 1) := by decide +kernel
theorem dL_law_545 : decode cL_law 545 = .ok (.aload_n 0, 1) := by decide +kernel
theorem dL_law_546 : decode cL_law 546 = .ok (.iload_n 3, 1) := by decide +kernel
theorem dL_law_547 : decode cL_law 547 = .ok (.iconst 2, 1) := by decide +kernel
theorem dL_law_548 : decode cL_law 548 = .ok (.iadd, 1) := by decide +kernel
theorem dL_law_549 : decode cL_law 549 = .ok (.iaload, 1) := by decide +kernel
theorem dL_law_550 : decode cL_law 550 = .ok (.invokevirtual 80, 3) := by decide +kernel
theorem dL_law_553 : decode cL_law 553 = .ok (.if_icmp .eq 446, 3) := by decide +kernel
theorem dL_law_556 : decode cL_law 556 = .ok (.iconst 0, 1) := by decide +kernel
theorem dL_law_557 : decode cL_law 557 = .ok (.ireturn, 1) := by decide +kernel
theorem dL_law_558 : decode cL_law 558 = .ok (.aload_n 1, 1) := by decide +kernel
theorem dL_law_559 : decode cL_law 559 = .ok (.invokevirtual 81, 3) := by decide +kernel
theorem dL_law_562 : decode cL_law 562 = .ok (.aload_n 2, 1) := by decide +kernel
theorem dL_law_563 : decode cL_law 563 = .ok (.invokevirtual 84, 3) := by decide +kernel
theorem dL_law_566 : decode cL_law 566 = .ok (.if_icmp .eq 433, 3) := by decide +kernel
theorem dL_law_569 : decode cL_law 569 = .ok (.iconst 0, 1) := by decide +kernel
theorem dL_law_570 : decode cL_law 570 = .ok (.ireturn, 1) := by decide +kernel
theorem dL_law_571 : decode cL_law 571 = .ok (.aload_n 1, 1) := by decide +kernel
theorem dL_law_572 : decode cL_law 572 = .ok (.aload_n 0, 1) := by decide +kernel
theorem dL_law_573 : decode cL_law 573 = .ok (.iload_n 3, 1) := by decide +kernel
theorem dL_law_574 : decode cL_law 574 = .ok (.iconst 1, 1) := by decide +kernel
theorem dL_law_575 : decode cL_law 575 = .ok (.iadd, 1) := by decide +kernel
theorem dL_law_576 : decode cL_law 576 = .ok (.iaload, 1) := by decide +kernel
theorem dL_law_577 : decode cL_law 577 = .ok (.invokevirtual 85, 3) := by decide +kernel
theorem dL_law_580 : decode cL_law 580 = .ok (.aload_n 2, 1) := by decide +kernel
theorem dL_law_581 : decode cL_law 581 = .ok (.aload_n 0, 1) := by decide +kernel
theorem dL_law_582 : decode cL_law 582 = .ok (.iload_n 3, 1) := by decide +kernel
theorem dL_law_583 : decode cL_law 583 = .ok (.iconst 1, 1) := by decide +kernel
theorem dL_law_584 : decode cL_law 584 = .ok (.iadd, 1) := by decide +kernel
theorem dL_law_585 : decode cL_law 585 = .ok (.iaload, 1) := by decide +kernel
theorem dL_law_586 : decode cL_law 586 = .ok (.invokevirtual 88, 3) := by decide +kernel
theorem dL_law_589 : decode cL_law 589 = .ok (.if_icmp .eq 410, 3) := by decide +kernel
theorem dL_law_592 : decode cL_law 592 = .ok (.iconst 0, 1) := by decide +kernel
theorem dL_law_593 : decode cL_law 593 = .ok (.ireturn, 1) := by decide +kernel
theorem dL_law_594 : decode cL_law 594 = .ok (.aload_n 1, 1) := by decide +kernel
theorem dL_law_595 : decode cL_law 595 = .ok (.aload_n 0, 1) := by decide +kernel
theorem dL_law_596 : decode cL_law 596 = .ok (.iload_n 3, 1) := by decide +kernel
theorem dL_law_597 : decode cL_law 597 = .ok (.iconst 1, 1) := by decide +kernel
theorem dL_law_598 : decode cL_law 598 = .ok (.iadd, 1) := by decide +kernel
theorem dL_law_599 : decode cL_law 599 = .ok (.iaload, 1) := by decide +kernel
theorem dL_law_600 : decode cL_law 600 = .ok (.invokevirtual 89, 3) := by decide +kernel
theorem dL_law_603 : decode cL_law 603 = .ok (.aload_n 2, 1) := by decide +kernel
theorem dL_law_604 : decode cL_law 604 = .ok (.aload_n 0, 1) := by decide +kernel
theorem dL_law_605 : decode cL_law 605 = .ok (.iload_n 3, 1) := by decide +kernel
theorem dL_law_606 : decode cL_law 606 = .ok (.iconst 1, 1) := by decide +kernel
theorem dL_law_607 : decode cL_law 607 = .ok (.iadd, 1) := by decide +kernel
theorem dL_law_608 : decode cL_law 608 = .ok (.iaload, 1) := by decide +kernel
theorem dL_law_609 : decode cL_law 609 = .ok (.invokevirtual 92, 3) := by decide +kernel
theorem dL_law_612 : decode cL_law 612 = .ok (.if_icmp .eq 387, 3) := by decide +kernel
theorem dL_law_615 : decode cL_law 615 = .ok (.iconst 0, 1) := by decide +kernel
theorem dL_law_616 : decode cL_law 616 = .ok (.ireturn, 1) := by decide +kernel
theorem dL_law_617 : decode cL_law 617 = .ok (.aload_n 1, 1) := by decide +kernel
theorem dL_law_618 : decode cL_law 618 = .ok (.aload_n 0, 1) := by decide +kernel
theorem dL_law_619 : decode cL_law 619 = .ok (.iload_n 3, 1) := by decide +kernel
theorem dL_law_620 : decode cL_law 620 = .ok (.iconst 1, 1) := by decide +kernel
theorem dL_law_621 : decode cL_law 621 = .ok (.iadd, 1) := by decide +kernel
theorem dL_law_622 : decode cL_law 622 = .ok (.iaload, 1) := by decide +kernel
theorem dL_law_623 : decode cL_law 623 = .ok (.invokevirtual 93, 3) := by decide +kernel
theorem dL_law_626 : decode cL_law 626 = .ok (.aload_n 2, 1) := by decide +kernel
theorem dL_law_627 : decode cL_law 627 = .ok (.aload_n 0, 1) := by decide +kernel
theorem dL_law_628 : decode cL_law 628 = .ok (.iload_n 3, 1) := by decide +kernel
theorem dL_law_629 : decode cL_law 629 = .ok (.iconst 1, 1) := by decide +kernel
theorem dL_law_630 : decode cL_law 630 = .ok (.iadd, 1) := by decide +kernel
theorem dL_law_631 : decode cL_law 631 = .ok (.iaload, 1) := by decide +kernel
theorem dL_law_632 : decode cL_law 632 = .ok (.invokevirtual 96, 3) := by decide +kernel
theorem dL_law_635 : decode cL_law 635 = .ok (.if_icmp .eq 364, 3) := by decide +kernel
theorem dL_law_638 : decode cL_law 638 = .ok (.iconst 0, 1) := by decide +kernel
theorem dL_law_639 : decode cL_law 639 = .ok (.ireturn, 1) := by decide +kernel
theorem dL_law_640 : decode cL_law 640 = .ok (.aload_n 1, 1) := by decide +kernel
theorem dL_law_641 : decode cL_law 641 = .ok (.aload_n 0, 1) := by decide +kernel
theorem dL_law_642 : decode cL_law 642 = .ok (.iload_n 3, 1) := by decide +kernel
theorem dL_law_643 : decode cL_law 643 = .ok (.iconst 1, 1) := by decide +kernel
theorem dL_law_644 : decode cL_law 644 = .ok (.iadd, 1) := by decide +kernel
theorem dL_law_645 : decode cL_law 645 = .ok (.iaload, 1) := by decide +kernel
theorem dL_law_646 : decode cL_law 646 = .ok (.aload_n 0, 1) := by decide +kernel
theorem dL_law_647 : decode cL_law 647 = .ok (.iload_n 3, 1) := by decide +kernel
theorem dL_law_648 : decode cL_law 648 = .ok (.iconst 2, 1) := by decide +kernel
theorem dL_law_649 : decode cL_law 649 = .ok (.iadd, 1) := by decide +kernel
theorem dL_law_650 : decode cL_law 650 = .ok (.iaload, 1) := by decide +kernel
theorem dL_law_651 : decode cL_law 651 = .ok (.aload_n 0, 1) := by decide +kernel
theorem dL_law_652 : decode cL_law 652 = .ok (.iload_n 3, 1) := by decide +kernel
theorem dL_law_653 : decode cL_law 653 = .ok (.iconst 3, 1) := by decide +kernel
theorem dL_law_654 : decode cL_law 654 = .ok (.iadd, 1) := by decide +kernel
theorem dL_law_655 : decode cL_law 655 = .ok (.iaload, 1) := by decide +kernel
theorem dL_law_656 : decode cL_law 656 = .ok (.aload_n 0, 1) := by decide +kernel
theorem dL_law_657 : decode cL_law 657 = .ok (.iload_n 3, 1) := by decide +kernel
theorem dL_law_658 : decode cL_law 658 = .ok (.iconst 4, 1) := by decide +kernel
theorem dL_law_659 : decode cL_law 659 = .ok (.iadd, 1) := by decide +kernel
theorem dL_law_660 : decode cL_law 660 = .ok (.iaload, 1) := by decide +kernel
theorem dL_law_661 : decode cL_law 661 = .ok (.invokevirtual 97, 3) := by decide +kernel
theorem dL_law_664 : decode cL_law 664 = .ok (.aload_n 2, 1) := by decide +kernel
theorem dL_law_665 : decode cL_law 665 = .ok (.aload_n 0, 1) := by decide +kernel
theorem dL_law_666 : decode cL_law 666 = .ok (.iload_n 3, 1) := by decide +kernel
theorem dL_law_667 : decode cL_law 667 = .ok (.iconst 1, 1) := by decide +kernel
theorem dL_law_668 : decode cL_law 668 = .ok (.iadd, 1) := by decide +kernel
theorem dL_law_669 : decode cL_law 669 = .ok (.iaload, 1) := by decide +kernel
theorem dL_law_670 : decode cL_law 670 = .ok (.aload_n 0, 1) := by decide +kernel
theorem dL_law_671 : decode cL_law 671 = .ok (.iload_n 3, 1) := by decide +kernel
theorem dL_law_672 : decode cL_law 672 = .ok (.iconst 2, 1) := by decide +kernel
theorem dL_law_673 : decode cL_law 673 = .ok (.iadd, 1) := by decide +kernel
theorem dL_law_674 : decode cL_law 674 = .ok (.iaload, 1) := by decide +kernel
theorem dL_law_675 : decode cL_law 675 = .ok (.aload_n 0, 1) := by decide +kernel
theorem dL_law_676 : decode cL_law 676 = .ok (.iload_n 3, 1) := by decide +kernel
theorem dL_law_677 : decode cL_law 677 = .ok (.iconst 3, 1) := by decide +kernel
theorem dL_law_678 : decode cL_law 678 = .ok (.iadd, 1) := by decide +kernel
theorem dL_law_679 : decode cL_law 679 = .ok (.iaload, 1) := by decide +kernel
theorem dL_law_680 : decode cL_law 680 = .ok (.aload_n 0, 1) := by decide +kernel
theorem dL_law_681 : decode cL_law 681 = .ok (.iload_n 3, 1) := by decide +kernel
theorem dL_law_682 : decode cL_law 682 = .ok (.iconst 4, 1) := by decide +kernel
theorem dL_law_683 : decode cL_law 683 = .ok (.iadd, 1) := by decide +kernel
theorem dL_law_684 : decode cL_law 684 = .ok (.iaload, 1) := by decide +kernel
theorem dL_law_685 : decode cL_law 685 = .ok (.invokevirtual 101, 3) := by decide +kernel
theorem dL_law_688 : decode cL_law 688 = .ok (.lcmp, 1) := by decide +kernel
theorem dL_law_689 : decode cL_law 689 = .ok (.ifCond .eq 310, 3) := by decide +kernel
theorem dL_law_692 : decode cL_law 692 = .ok (.iconst 0, 1) := by decide +kernel
theorem dL_law_693 : decode cL_law 693 = .ok (.ireturn, 1) := by decide +kernel
theorem dL_law_694 : decode cL_law 694 = .ok (.aload_n 1, 1) := by decide +kernel
theorem dL_law_695 : decode cL_law 695 = .ok (.aload_n 0, 1) := by decide +kernel
theorem dL_law_696 : decode cL_law 696 = .ok (.iload_n 3, 1) := by decide +kernel
theorem dL_law_697 : decode cL_law 697 = .ok (.iconst 1, 1) := by decide +kernel
theorem dL_law_698 : decode cL_law 698 = .ok (.iadd, 1) := by decide +kernel
theorem dL_law_699 : decode cL_law 699 = .ok (.iaload, 1) := by decide +kernel
theorem dL_law_700 : decode cL_law 700 = .ok (.aload_n 0, 1) := by decide +kernel
theorem dL_law_701 : decode cL_law 701 = .ok (.iload_n 3, 1) := by decide +kernel
theorem dL_law_702 : decode cL_law 702 = .ok (.iconst 2, 1) := by decide +kernel
theorem dL_law_703 : decode cL_law 703 = .ok (.iadd, 1) := by decide +kernel
theorem dL_law_704 : decode cL_law 704 = .ok (.iaload, 1) := by decide +kernel
theorem dL_law_705 : decode cL_law 705 = .ok (.aload_n 0, 1) := by decide +kernel
theorem dL_law_706 : decode cL_law 706 = .ok (.iload_n 3, 1) := by decide +kernel
theorem dL_law_707 : decode cL_law 707 = .ok (.iconst 3, 1) := by decide +kernel
theorem dL_law_708 : decode cL_law 708 = .ok (.iadd, 1) := by decide +kernel
theorem dL_law_709 : decode cL_law 709 = .ok (.iaload, 1) := by decide +kernel
theorem dL_law_710 : decode cL_law 710 = .ok (.aload_n 0, 1) := by decide +kernel
theorem dL_law_711 : decode cL_law 711 = .ok (.iload_n 3, 1) := by decide +kernel
theorem dL_law_712 : decode cL_law 712 = .ok (.iconst 4, 1) := by decide +kernel
theorem dL_law_713 : decode cL_law 713 = .ok (.iadd, 1) := by decide +kernel
theorem dL_law_714 : decode cL_law 714 = .ok (.iaload, 1) := by decide +kernel
theorem dL_law_715 : decode cL_law 715 = .ok (.invokevirtual 102, 3) := by decide +kernel
theorem dL_law_718 : decode cL_law 718 = .ok (.aload_n 2, 1) := by decide +kernel
theorem dL_law_719 : decode cL_law 719 = .ok (.aload_n 0, 1) := by decide +kernel
theorem dL_law_720 : decode cL_law 720 = .ok (.iload_n 3, 1) := by decide +kernel
theorem dL_law_721 : decode cL_law 721 = .ok (.iconst 1, 1) := by decide +kernel
theorem dL_law_722 : decode cL_law 722 = .ok (.iadd, 1) := by decide +kernel
theorem dL_law_723 : decode cL_law 723 = .ok (.iaload, 1) := by decide +kernel
theorem dL_law_724 : decode cL_law 724 = .ok (.aload_n 0, 1) := by decide +kernel
theorem dL_law_725 : decode cL_law 725 = .ok (.iload_n 3, 1) := by decide +kernel
theorem dL_law_726 : decode cL_law 726 = .ok (.iconst 2, 1) := by decide +kernel
theorem dL_law_727 : decode cL_law 727 = .ok (.iadd, 1) := by decide +kernel
theorem dL_law_728 : decode cL_law 728 = .ok (.iaload, 1) := by decide +kernel
theorem dL_law_729 : decode cL_law 729 = .ok (.aload_n 0, 1) := by decide +kernel
theorem dL_law_730 : decode cL_law 730 = .ok (.iload_n 3, 1) := by decide +kernel
theorem dL_law_731 : decode cL_law 731 = .ok (.iconst 3, 1) := by decide +kernel
theorem dL_law_732 : decode cL_law 732 = .ok (.iadd, 1) := by decide +kernel
theorem dL_law_733 : decode cL_law 733 = .ok (.iaload, 1) := by decide +kernel
theorem dL_law_734 : decode cL_law 734 = .ok (.aload_n 0, 1) := by decide +kernel
theorem dL_law_735 : decode cL_law 735 = .ok (.iload_n 3, 1) := by decide +kernel
theorem dL_law_736 : decode cL_law 736 = .ok (.iconst 4, 1) := by decide +kernel
theorem dL_law_737 : decode cL_law 737 = .ok (.iadd, 1) := by decide +kernel
theorem dL_law_738 : decode cL_law 738 = .ok (.iaload, 1) := by decide +kernel
theorem dL_law_739 : decode cL_law 739 = .ok (.invokevirtual 106, 3) := by decide +kernel
theorem dL_law_742 : decode cL_law 742 = .ok (.if_icmp .eq 257, 3) := by decide +kernel
theorem dL_law_745 : decode cL_law 745 = .ok (.iconst 0, 1) := by decide +kernel
theorem dL_law_746 : decode cL_law 746 = .ok (.ireturn, 1) := by decide +kernel
theorem dL_law_747 : decode cL_law 747 = .ok (.aload_n 1, 1) := by decide +kernel
theorem dL_law_748 : decode cL_law 748 = .ok (.aload_n 0, 1) := by decide +kernel
theorem dL_law_749 : decode cL_law 749 = .ok (.iload_n 3, 1) := by decide +kernel
theorem dL_law_750 : decode cL_law 750 = .ok (.iconst 1, 1) := by decide +kernel
theorem dL_law_751 : decode cL_law 751 = .ok (.iadd, 1) := by decide +kernel
theorem dL_law_752 : decode cL_law 752 = .ok (.iaload, 1) := by decide +kernel
theorem dL_law_753 : decode cL_law 753 = .ok (.aload_n 0, 1) := by decide +kernel
theorem dL_law_754 : decode cL_law 754 = .ok (.iload_n 3, 1) := by decide +kernel
theorem dL_law_755 : decode cL_law 755 = .ok (.iconst 2, 1) := by decide +kernel
theorem dL_law_756 : decode cL_law 756 = .ok (.iadd, 1) := by decide +kernel
theorem dL_law_757 : decode cL_law 757 = .ok (.iaload, 1) := by decide +kernel
theorem dL_law_758 : decode cL_law 758 = .ok (.aload_n 0, 1) := by decide +kernel
theorem dL_law_759 : decode cL_law 759 = .ok (.iload_n 3, 1) := by decide +kernel
theorem dL_law_760 : decode cL_law 760 = .ok (.iconst 3, 1) := by decide +kernel
theorem dL_law_761 : decode cL_law 761 = .ok (.iadd, 1) := by decide +kernel
theorem dL_law_762 : decode cL_law 762 = .ok (.iaload, 1) := by decide +kernel
theorem dL_law_763 : decode cL_law 763 = .ok (.aload_n 0, 1) := by decide +kernel
theorem dL_law_764 : decode cL_law 764 = .ok (.iload_n 3, 1) := by decide +kernel
theorem dL_law_765 : decode cL_law 765 = .ok (.iconst 4, 1) := by decide +kernel
theorem dL_law_766 : decode cL_law 766 = .ok (.iadd, 1) := by decide +kernel
theorem dL_law_767 : decode cL_law 767 = .ok (.iaload, 1) := by decide +kernel
theorem dL_law_768 : decode cL_law 768 = .ok (.invokevirtual 107, 3) := by decide +kernel
theorem dL_law_771 : decode cL_law 771 = .ok (.aload_n 2, 1) := by decide +kernel
theorem dL_law_772 : decode cL_law 772 = .ok (.aload_n 0, 1) := by decide +kernel
theorem dL_law_773 : decode cL_law 773 = .ok (.iload_n 3, 1) := by decide +kernel
theorem dL_law_774 : decode cL_law 774 = .ok (.iconst 1, 1) := by decide +kernel
theorem dL_law_775 : decode cL_law 775 = .ok (.iadd, 1) := by decide +kernel
theorem dL_law_776 : decode cL_law 776 = .ok (.iaload, 1) := by decide +kernel
theorem dL_law_777 : decode cL_law 777 = .ok (.aload_n 0, 1) := by decide +kernel
theorem dL_law_778 : decode cL_law 778 = .ok (.iload_n 3, 1) := by decide +kernel
theorem dL_law_779 : decode cL_law 779 = .ok (.iconst 2, 1) := by decide +kernel
theorem dL_law_780 : decode cL_law 780 = .ok (.iadd, 1) := by decide +kernel
theorem dL_law_781 : decode cL_law 781 = .ok (.iaload, 1) := by decide +kernel
theorem dL_law_782 : decode cL_law 782 = .ok (.aload_n 0, 1) := by decide +kernel
theorem dL_law_783 : decode cL_law 783 = .ok (.iload_n 3, 1) := by decide +kernel
theorem dL_law_784 : decode cL_law 784 = .ok (.iconst 3, 1) := by decide +kernel
theorem dL_law_785 : decode cL_law 785 = .ok (.iadd, 1) := by decide +kernel
theorem dL_law_786 : decode cL_law 786 = .ok (.iaload, 1) := by decide +kernel
theorem dL_law_787 : decode cL_law 787 = .ok (.aload_n 0, 1) := by decide +kernel
theorem dL_law_788 : decode cL_law 788 = .ok (.iload_n 3, 1) := by decide +kernel
theorem dL_law_789 : decode cL_law 789 = .ok (.iconst 4, 1) := by decide +kernel
theorem dL_law_790 : decode cL_law 790 = .ok (.iadd, 1) := by decide +kernel
theorem dL_law_791 : decode cL_law 791 = .ok (.iaload, 1) := by decide +kernel
theorem dL_law_792 : decode cL_law 792 = .ok (.invokevirtual 110, 3) := by decide +kernel
theorem dL_law_795 : decode cL_law 795 = .ok (.lcmp, 1) := by decide +kernel
theorem dL_law_796 : decode cL_law 796 = .ok (.ifCond .eq 203, 3) := by decide +kernel
theorem dL_law_799 : decode cL_law 799 = .ok (.iconst 0, 1) := by decide +kernel
theorem dL_law_800 : decode cL_law 800 = .ok (.ireturn, 1) := by decide +kernel
theorem dL_law_801 : decode cL_law 801 = .ok (.aload_n 1, 1) := by decide +kernel
theorem dL_law_802 : decode cL_law 802 = .ok (.aload_n 0, 1) := by decide +kernel
theorem dL_law_803 : decode cL_law 803 = .ok (.iload_n 3, 1) := by decide +kernel
theorem dL_law_804 : decode cL_law 804 = .ok (.iconst 1, 1) := by decide +kernel
theorem dL_law_805 : decode cL_law 805 = .ok (.iadd, 1) := by decide +kernel
theorem dL_law_806 : decode cL_law 806 = .ok (.iaload, 1) := by decide +kernel
theorem dL_law_807 : decode cL_law 807 = .ok (.aload_n 0, 1) := by decide +kernel
theorem dL_law_808 : decode cL_law 808 = .ok (.iload_n 3, 1) := by decide +kernel
theorem dL_law_809 : decode cL_law 809 = .ok (.iconst 2, 1) := by decide +kernel
theorem dL_law_810 : decode cL_law 810 = .ok (.iadd, 1) := by decide +kernel
theorem dL_law_811 : decode cL_law 811 = .ok (.iaload, 1) := by decide +kernel
theorem dL_law_812 : decode cL_law 812 = .ok (.aload_n 0, 1) := by decide +kernel
theorem dL_law_813 : decode cL_law 813 = .ok (.iload_n 3, 1) := by decide +kernel
theorem dL_law_814 : decode cL_law 814 = .ok (.iconst 3, 1) := by decide +kernel
theorem dL_law_815 : decode cL_law 815 = .ok (.iadd, 1) := by decide +kernel
theorem dL_law_816 : decode cL_law 816 = .ok (.iaload, 1) := by decide +kernel
theorem dL_law_817 : decode cL_law 817 = .ok (.aload_n 0, 1) := by decide +kernel
theorem dL_law_818 : decode cL_law 818 = .ok (.iload_n 3, 1) := by decide +kernel
theorem dL_law_819 : decode cL_law 819 = .ok (.iconst 4, 1) := by decide +kernel
theorem dL_law_820 : decode cL_law 820 = .ok (.iadd, 1) := by decide +kernel
theorem dL_law_821 : decode cL_law 821 = .ok (.iaload, 1) := by decide +kernel
theorem dL_law_822 : decode cL_law 822 = .ok (.aload_n 0, 1) := by decide +kernel
theorem dL_law_823 : decode cL_law 823 = .ok (.iload_n 3, 1) := by decide +kernel
theorem dL_law_824 : decode cL_law 824 = .ok (.iconst 5, 1) := by decide +kernel
theorem dL_law_825 : decode cL_law 825 = .ok (.iadd, 1) := by decide +kernel
theorem dL_law_826 : decode cL_law 826 = .ok (.iaload, 1) := by decide +kernel
theorem dL_law_827 : decode cL_law 827 = .ok (.invokevirtual 111, 3) := by decide +kernel
theorem dL_law_830 : decode cL_law 830 = .ok (.aload_n 2, 1) := by decide +kernel
theorem dL_law_831 : decode cL_law 831 = .ok (.aload_n 0, 1) := by decide +kernel
theorem dL_law_832 : decode cL_law 832 = .ok (.iload_n 3, 1) := by decide +kernel
theorem dL_law_833 : decode cL_law 833 = .ok (.iconst 1, 1) := by decide +kernel
theorem dL_law_834 : decode cL_law 834 = .ok (.iadd, 1) := by decide +kernel
theorem dL_law_835 : decode cL_law 835 = .ok (.iaload, 1) := by decide +kernel
theorem dL_law_836 : decode cL_law 836 = .ok (.aload_n 0, 1) := by decide +kernel
theorem dL_law_837 : decode cL_law 837 = .ok (.iload_n 3, 1) := by decide +kernel
theorem dL_law_838 : decode cL_law 838 = .ok (.iconst 2, 1) := by decide +kernel
theorem dL_law_839 : decode cL_law 839 = .ok (.iadd, 1) := by decide +kernel
theorem dL_law_840 : decode cL_law 840 = .ok (.iaload, 1) := by decide +kernel
theorem dL_law_841 : decode cL_law 841 = .ok (.aload_n 0, 1) := by decide +kernel
theorem dL_law_842 : decode cL_law 842 = .ok (.iload_n 3, 1) := by decide +kernel
theorem dL_law_843 : decode cL_law 843 = .ok (.iconst 3, 1) := by decide +kernel
theorem dL_law_844 : decode cL_law 844 = .ok (.iadd, 1) := by decide +kernel
theorem dL_law_845 : decode cL_law 845 = .ok (.iaload, 1) := by decide +kernel
theorem dL_law_846 : decode cL_law 846 = .ok (.aload_n 0, 1) := by decide +kernel
theorem dL_law_847 : decode cL_law 847 = .ok (.iload_n 3, 1) := by decide +kernel
theorem dL_law_848 : decode cL_law 848 = .ok (.iconst 4, 1) := by decide +kernel
theorem dL_law_849 : decode cL_law 849 = .ok (.iadd, 1) := by decide +kernel
theorem dL_law_850 : decode cL_law 850 = .ok (.iaload, 1) := by decide +kernel
theorem dL_law_851 : decode cL_law 851 = .ok (.aload_n 0, 1) := by decide +kernel
theorem dL_law_852 : decode cL_law 852 = .ok (.iload_n 3, 1) := by decide +kernel
theorem dL_law_853 : decode cL_law 853 = .ok (.iconst 5, 1) := by decide +kernel
theorem dL_law_854 : decode cL_law 854 = .ok (.iadd, 1) := by decide +kernel
theorem dL_law_855 : decode cL_law 855 = .ok (.iaload, 1) := by decide +kernel
theorem dL_law_856 : decode cL_law 856 = .ok (.invokevirtual 115, 3) := by decide +kernel
theorem dL_law_859 : decode cL_law 859 = .ok (.if_icmp .eq 140, 3) := by decide +kernel
theorem dL_law_862 : decode cL_law 862 = .ok (.iconst 0, 1) := by decide +kernel
theorem dL_law_863 : decode cL_law 863 = .ok (.ireturn, 1) := by decide +kernel
theorem dL_law_864 : decode cL_law 864 = .ok (.aload_n 1, 1) := by decide +kernel
theorem dL_law_865 : decode cL_law 865 = .ok (.aload_n 0, 1) := by decide +kernel
theorem dL_law_866 : decode cL_law 866 = .ok (.iload_n 3, 1) := by decide +kernel
theorem dL_law_867 : decode cL_law 867 = .ok (.iconst 1, 1) := by decide +kernel
theorem dL_law_868 : decode cL_law 868 = .ok (.iadd, 1) := by decide +kernel
theorem dL_law_869 : decode cL_law 869 = .ok (.iaload, 1) := by decide +kernel
theorem dL_law_870 : decode cL_law 870 = .ok (.invokevirtual 116, 3) := by decide +kernel
theorem dL_law_873 : decode cL_law 873 = .ok (.aload_n 2, 1) := by decide +kernel
theorem dL_law_874 : decode cL_law 874 = .ok (.aload_n 0, 1) := by decide +kernel
theorem dL_law_875 : decode cL_law 875 = .ok (.iload_n 3, 1) := by decide +kernel
theorem dL_law_876 : decode cL_law 876 = .ok (.iconst 1, 1) := by decide +kernel
theorem dL_law_877 : decode cL_law 877 = .ok (.iadd, 1) := by decide +kernel
theorem dL_law_878 : decode cL_law 878 = .ok (.iaload, 1) := by decide +kernel
theorem dL_law_879 : decode cL_law 879 = .ok (.invokevirtual 119, 3) := by decide +kernel
theorem dL_law_882 : decode cL_law 882 = .ok (.if_icmp .eq 117, 3) := by decide +kernel
theorem dL_law_885 : decode cL_law 885 = .ok (.iconst 0, 1) := by decide +kernel
theorem dL_law_886 : decode cL_law 886 = .ok (.ireturn, 1) := by decide +kernel
theorem dL_law_887 : decode cL_law 887 = .ok (.aload_n 1, 1) := by decide +kernel
theorem dL_law_888 : decode cL_law 888 = .ok (.aload_n 0, 1) := by decide +kernel
theorem dL_law_889 : decode cL_law 889 = .ok (.iload_n 3, 1) := by decide +kernel
theorem dL_law_890 : decode cL_law 890 = .ok (.iconst 1, 1) := by decide +kernel
theorem dL_law_891 : decode cL_law 891 = .ok (.iadd, 1) := by decide +kernel
theorem dL_law_892 : decode cL_law 892 = .ok (.iaload, 1) := by decide +kernel
theorem dL_law_893 : decode cL_law 893 = .ok (.aload_n 0, 1) := by decide +kernel
theorem dL_law_894 : decode cL_law 894 = .ok (.iload_n 3, 1) := by decide +kernel
theorem dL_law_895 : decode cL_law 895 = .ok (.iconst 2, 1) := by decide +kernel
theorem dL_law_896 : decode cL_law 896 = .ok (.iadd, 1) := by decide +kernel
theorem dL_law_897 : decode cL_law 897 = .ok (.iaload, 1) := by decide +kernel
theorem dL_law_898 : decode cL_law 898 = .ok (.aload_n 0, 1) := by decide +kernel
theorem dL_law_899 : decode cL_law 899 = .ok (.iload_n 3, 1) := by decide +kernel
theorem dL_law_900 : decode cL_law 900 = .ok (.iconst 3, 1) := by decide +kernel
theorem dL_law_901 : decode cL_law 901 = .ok (.iadd, 1) := by decide +kernel
theorem dL_law_902 : decode cL_law 902 = .ok (.iaload, 1) := by decide +kernel
theorem dL_law_903 : decode cL_law 903 = .ok (.invokevirtual 120, 3) := by decide +kernel
theorem dL_law_906 : decode cL_law 906 = .ok (.aload_n 2, 1) := by decide +kernel
theorem dL_law_907 : decode cL_law 907 = .ok (.aload_n 0, 1) := by decide +kernel
theorem dL_law_908 : decode cL_law 908 = .ok (.iload_n 3, 1) := by decide +kernel
theorem dL_law_909 : decode cL_law 909 = .ok (.iconst 1, 1) := by decide +kernel
theorem dL_law_910 : decode cL_law 910 = .ok (.iadd, 1) := by decide +kernel
theorem dL_law_911 : decode cL_law 911 = .ok (.iaload, 1) := by decide +kernel
theorem dL_law_912 : decode cL_law 912 = .ok (.aload_n 0, 1) := by decide +kernel
theorem dL_law_913 : decode cL_law 913 = .ok (.iload_n 3, 1) := by decide +kernel
theorem dL_law_914 : decode cL_law 914 = .ok (.iconst 2, 1) := by decide +kernel
theorem dL_law_915 : decode cL_law 915 = .ok (.iadd, 1) := by decide +kernel
theorem dL_law_916 : decode cL_law 916 = .ok (.iaload, 1) := by decide +kernel
theorem dL_law_917 : decode cL_law 917 = .ok (.aload_n 0, 1) := by decide +kernel
theorem dL_law_918 : decode cL_law 918 = .ok (.iload_n 3, 1) := by decide +kernel
theorem dL_law_919 : decode cL_law 919 = .ok (.iconst 3, 1) := by decide +kernel
theorem dL_law_920 : decode cL_law 920 = .ok (.iadd, 1) := by decide +kernel
theorem dL_law_921 : decode cL_law 921 = .ok (.iaload, 1) := by decide +kernel
theorem dL_law_922 : decode cL_law 922 = .ok (.invokevirtual 124, 3) := by decide +kernel
theorem dL_law_925 : decode cL_law 925 = .ok (.if_icmp .eq 74, 3) := by decide +kernel
theorem dL_law_928 : decode cL_law 928 = .ok (.iconst 0, 1) := by decide +kernel
theorem dL_law_929 : decode cL_law 929 = .ok (.ireturn, 1) := by decide +kernel
theorem dL_law_930 : decode cL_law 930 = .ok (.aload_n 1, 1) := by decide +kernel
theorem dL_law_931 : decode cL_law 931 = .ok (.aload_n 0, 1) := by decide +kernel
theorem dL_law_932 : decode cL_law 932 = .ok (.iload_n 3, 1) := by decide +kernel
theorem dL_law_933 : decode cL_law 933 = .ok (.iconst 1, 1) := by decide +kernel
theorem dL_law_934 : decode cL_law 934 = .ok (.iadd, 1) := by decide +kernel
theorem dL_law_935 : decode cL_law 935 = .ok (.iaload, 1) := by decide +kernel
theorem dL_law_936 : decode cL_law 936 = .ok (.invokevirtual 125, 3) := by decide +kernel
theorem dL_law_939 : decode cL_law 939 = .ok (.aload_n 2, 1) := by decide +kernel
theorem dL_law_940 : decode cL_law 940 = .ok (.aload_n 0, 1) := by decide +kernel
theorem dL_law_941 : decode cL_law 941 = .ok (.iload_n 3, 1) := by decide +kernel
theorem dL_law_942 : decode cL_law 942 = .ok (.iconst 1, 1) := by decide +kernel
theorem dL_law_943 : decode cL_law 943 = .ok (.iadd, 1) := by decide +kernel
theorem dL_law_944 : decode cL_law 944 = .ok (.iaload, 1) := by decide +kernel
theorem dL_law_945 : decode cL_law 945 = .ok (.invokevirtual 128, 3) := by decide +kernel
theorem dL_law_948 : decode cL_law 948 = .ok (.if_icmp .eq 51, 3) := by decide +kernel
theorem dL_law_951 : decode cL_law 951 = .ok (.iconst 0, 1) := by decide +kernel
theorem dL_law_952 : decode cL_law 952 = .ok (.ireturn, 1) := by decide +kernel
theorem dL_law_953 : decode cL_law 953 = .ok (.aload_n 1, 1) := by decide +kernel
theorem dL_law_954 : decode cL_law 954 = .ok (.aload_n 0, 1) := by decide +kernel
theorem dL_law_955 : decode cL_law 955 = .ok (.iload_n 3, 1) := by decide +kernel
theorem dL_law_956 : decode cL_law 956 = .ok (.iconst 1, 1) := by decide +kernel
theorem dL_law_957 : decode cL_law 957 = .ok (.iadd, 1) := by decide +kernel
theorem dL_law_958 : decode cL_law 958 = .ok (.iaload, 1) := by decide +kernel
theorem dL_law_959 : decode cL_law 959 = .ok (.invokevirtual 129, 3) := by decide +kernel
theorem dL_law_962 : decode cL_law 962 = .ok (.aload_n 2, 1) := by decide +kernel
theorem dL_law_963 : decode cL_law 963 = .ok (.aload_n 0, 1) := by decide +kernel
theorem dL_law_964 : decode cL_law 964 = .ok (.iload_n 3, 1) := by decide +kernel
theorem dL_law_965 : decode cL_law 965 = .ok (.iconst 1, 1) := by decide +kernel
theorem dL_law_966 : decode cL_law 966 = .ok (.iadd, 1) := by decide +kernel
theorem dL_law_967 : decode cL_law 967 = .ok (.iaload, 1) := by decide +kernel
theorem dL_law_968 : decode cL_law 968 = .ok (.invokevirtual 132, 3) := by decide +kernel
theorem dL_law_971 : decode cL_law 971 = .ok (.if_icmp .eq 28, 3) := by decide +kernel
theorem dL_law_974 : decode cL_law 974 = .ok (.iconst 0, 1) := by decide +kernel
theorem dL_law_975 : decode cL_law 975 = .ok (.ireturn, 1) := by decide +kernel
theorem dL_law_976 : decode cL_law 976 = .ok (.aload_n 1, 1) := by decide +kernel
theorem dL_law_977 : decode cL_law 977 = .ok (.aload_n 0, 1) := by decide +kernel
theorem dL_law_978 : decode cL_law 978 = .ok (.iload_n 3, 1) := by decide +kernel
theorem dL_law_979 : decode cL_law 979 = .ok (.iconst 1, 1) := by decide +kernel
theorem dL_law_980 : decode cL_law 980 = .ok (.iadd, 1) := by decide +kernel
theorem dL_law_981 : decode cL_law 981 = .ok (.iaload, 1) := by decide +kernel
theorem dL_law_982 : decode cL_law 982 = .ok (.invokevirtual 133, 3) := by decide +kernel
theorem dL_law_985 : decode cL_law 985 = .ok (.aload_n 2, 1) := by decide +kernel
theorem dL_law_986 : decode cL_law 986 = .ok (.aload_n 0, 1) := by decide +kernel
theorem dL_law_987 : decode cL_law 987 = .ok (.iload_n 3, 1) := by decide +kernel
theorem dL_law_988 : decode cL_law 988 = .ok (.iconst 1, 1) := by decide +kernel
theorem dL_law_989 : decode cL_law 989 = .ok (.iadd, 1) := by decide +kernel
theorem dL_law_990 : decode cL_law 990 = .ok (.iaload, 1) := by decide +kernel
theorem dL_law_991 : decode cL_law 991 = .ok (.invokevirtual 136, 3) := by decide +kernel
theorem dL_law_994 : decode cL_law 994 = .ok (.if_icmp .eq 5, 3) := by decide +kernel
theorem dL_law_997 : decode cL_law 997 = .ok (.iconst 0, 1) := by decide +kernel
theorem dL_law_998 : decode cL_law 998 = .ok (.ireturn, 1) := by decide +kernel
theorem dL_law_999 : decode cL_law 999 = .ok (.iinc 3 6, 3) := by decide +kernel
theorem dL_law_1002 : decode cL_law 1002 = .ok (.goto (-984), 3) := by decide +kernel
theorem dL_law_1005 : decode cL_law 1005 = .ok (.iconst 1, 1) := by decide +kernel
theorem dL_law_1006 : decode cL_law 1006 = .ok (.ireturn, 1) := by decide +kernel
end
section
section WP
variable {φ : Fr} {ad : Nat → Nat} {cc : ByteArray} {ret : Option FieldType} {own : String} {n fr lo pc : Nat} {lv lv' : List (Nat × Value)} {st : List Value} {σ : Sto}
theorem w_sub (ks : List Nat) (hl : lv_pick lv ks = lv') (K : wpm φ ad pc lv' st σ) : wpm φ ad pc lv st σ := by
  obtain ⟨⟨p, l, e, R, s, m, args, below⟩, ⟨meth, c, D, c3, A, H0⟩, ⟨nL, cells, slots, Q⟩⟩ := φ
  intro H locs ls hP hS hh
  exact K H locs ls hP hS (lv_sub hh ks hl)
theorem w_at {pc' : Nat} (h : pc' = pc) (K : wpm φ ad pc' lv st σ) : wpm φ ad pc lv st σ := h ▸ K
theorem w_iconst {z : Int} {v : Int32} (X : Cx φ ad cc ret own n fr lo) (hd : decode cc pc = .ok (.iconst z, 1)) (hv : Int32.ofInt z = v) (K : wpm φ ad (pc + 1) lv (.int v :: st) σ) : wpm φ ad pc lv st σ := by
  obtain ⟨⟨p, l, e, R, s, m, args, below⟩, ⟨meth, c, D, c3, A, H0⟩, ⟨nL, cells, slots, Q⟩⟩ := φ
  obtain ⟨hx, hb, hr, hml, hnl, hown, hts, hlk, hK, hD, hA, hfr, hlo, hce, hsl, hN⟩ := X
  subst hnl
  intro H locs ls hP hS hl
  exact lv_iconst hx hb hd hv (K H locs ls hP hS hl)
theorem w_bipush {z : Int} {v : Int32} (X : Cx φ ad cc ret own n fr lo) (hd : decode cc pc = .ok (.bipush z, 2)) (hv : (Int8.ofInt z).toInt32 = v) (K : wpm φ ad (pc + 2) lv (.int v :: st) σ) : wpm φ ad pc lv st σ := by
  obtain ⟨⟨p, l, e, R, s, m, args, below⟩, ⟨meth, c, D, c3, A, H0⟩, ⟨nL, cells, slots, Q⟩⟩ := φ
  obtain ⟨hx, hb, hr, hml, hnl, hown, hts, hlk, hK, hD, hA, hfr, hlo, hce, hsl, hN⟩ := X
  subst hnl
  intro H locs ls hP hS hl
  exact lv_bipush hx hb hd hv (K H locs ls hP hS hl)
theorem w_sipush {z : Int} {v : Int32} (X : Cx φ ad cc ret own n fr lo) (hd : decode cc pc = .ok (.sipush z, 3)) (hv : (Int16.ofInt z).toInt32 = v) (K : wpm φ ad (pc + 3) lv (.int v :: st) σ) : wpm φ ad pc lv st σ := by
  obtain ⟨⟨p, l, e, R, s, m, args, below⟩, ⟨meth, c, D, c3, A, H0⟩, ⟨nL, cells, slots, Q⟩⟩ := φ
  obtain ⟨hx, hb, hr, hml, hnl, hown, hts, hlk, hK, hD, hA, hfr, hlo, hce, hsl, hN⟩ := X
  subst hnl
  intro H locs ls hP hS hl
  exact lv_sipush hx hb hd hv (K H locs ls hP hS hl)
theorem w_lconst {z : Fin 2} {v : Int64} (X : Cx φ ad cc ret own n fr lo) (hd : decode cc pc = .ok (.lconst z, 1)) (hv : Int64.ofNat (z : Nat) = v) (K : wpm φ ad (pc + 1) lv (.long v :: st) σ) : wpm φ ad pc lv st σ := by
  obtain ⟨⟨p, l, e, R, s, m, args, below⟩, ⟨meth, c, D, c3, A, H0⟩, ⟨nL, cells, slots, Q⟩⟩ := φ
  obtain ⟨hx, hb, hr, hml, hnl, hown, hts, hlk, hK, hD, hA, hfr, hlo, hce, hsl, hN⟩ := X
  subst hnl
  intro H locs ls hP hS hl
  exact lv_lconst hx hb hd hv (K H locs ls hP hS hl)
theorem w_ldc {idx : Nat} {v : Int32} (X : Cx φ ad cc ret own n fr lo) (hd : decode cc pc = .ok (.ldc idx, 2)) (hw : Cond.constant own idx v ∈ lw_gd) (K : wpm φ ad (pc + 2) lv (.int v :: st) σ) : wpm φ ad pc lv st σ := by
  obtain ⟨⟨p, l, e, R, s, m, args, below⟩, ⟨meth, c, D, c3, A, H0⟩, ⟨nL, cells, slots, Q⟩⟩ := φ
  obtain ⟨hx, hb, hr, hml, hnl, hown, hts, hlk, hK, hD, hA, hfr, hlo, hce, hsl, hN⟩ := X
  subst hnl
  intro H locs ls hP hS hl
  exact lv_ldc hx hb hown (hts _ hw) hd (K H locs ls hP hS hl)
theorem w_ldc2 {idx : Nat} {v : Int64} (X : Cx φ ad cc ret own n fr lo) (hd : decode cc pc = .ok (.ldc2_w idx, 3)) (hw : Cond.constantLong own idx v ∈ lw_gd) (K : wpm φ ad (pc + 3) lv (.long v :: st) σ) : wpm φ ad pc lv st σ := by
  obtain ⟨⟨p, l, e, R, s, m, args, below⟩, ⟨meth, c, D, c3, A, H0⟩, ⟨nL, cells, slots, Q⟩⟩ := φ
  obtain ⟨hx, hb, hr, hml, hnl, hown, hts, hlk, hK, hD, hA, hfr, hlo, hce, hsl, hN⟩ := X
  subst hnl
  intro H locs ls hP hS hl
  exact lv_ldc2 hx hb hown (hts _ hw) hd (K H locs ls hP hS hl)
theorem w_iload_n {k : Fin 4} {x : Int32} (X : Cx φ ad cc ret own n fr lo) (hd : decode cc pc = .ok (.iload_n k, 1)) (j : Nat) (hj : lv[j]? = some ((k : Nat), .int x)) (K : wpm φ ad (pc + 1) lv (.int x :: st) σ) : wpm φ ad pc lv st σ := by
  obtain ⟨⟨p, l, e, R, s, m, args, below⟩, ⟨meth, c, D, c3, A, H0⟩, ⟨nL, cells, slots, Q⟩⟩ := φ
  obtain ⟨hx, hb, hr, hml, hnl, hown, hts, hlk, hK, hD, hA, hfr, hlo, hce, hsl, hN⟩ := X
  subst hnl
  intro H locs ls hP hS hl
  exact lv_iload_n hx hb hd rfl (lv_at hl j hj) (K H locs ls hP hS hl)
theorem w_iload {k : Nat} {x : Int32} (X : Cx φ ad cc ret own n fr lo) (hd : decode cc pc = .ok (.iload k, 2)) (j : Nat) (hj : lv[j]? = some (k, .int x)) (K : wpm φ ad (pc + 2) lv (.int x :: st) σ) : wpm φ ad pc lv st σ := by
  obtain ⟨⟨p, l, e, R, s, m, args, below⟩, ⟨meth, c, D, c3, A, H0⟩, ⟨nL, cells, slots, Q⟩⟩ := φ
  obtain ⟨hx, hb, hr, hml, hnl, hown, hts, hlk, hK, hD, hA, hfr, hlo, hce, hsl, hN⟩ := X
  subst hnl
  intro H locs ls hP hS hl
  exact lv_iload hx hb hd (lv_at hl j hj) (K H locs ls hP hS hl)
theorem w_lload_n {k : Fin 4} {x : Int64} (X : Cx φ ad cc ret own n fr lo) (hd : decode cc pc = .ok (.lload_n k, 1)) (j : Nat) (hj : lv[j]? = some ((k : Nat), .long x)) (K : wpm φ ad (pc + 1) lv (.long x :: st) σ) : wpm φ ad pc lv st σ := by
  obtain ⟨⟨p, l, e, R, s, m, args, below⟩, ⟨meth, c, D, c3, A, H0⟩, ⟨nL, cells, slots, Q⟩⟩ := φ
  obtain ⟨hx, hb, hr, hml, hnl, hown, hts, hlk, hK, hD, hA, hfr, hlo, hce, hsl, hN⟩ := X
  subst hnl
  intro H locs ls hP hS hl
  exact lv_lload_n hx hb hd rfl (lv_at hl j hj) (K H locs ls hP hS hl)
theorem w_lload {k : Nat} {x : Int64} (X : Cx φ ad cc ret own n fr lo) (hd : decode cc pc = .ok (.lload k, 2)) (j : Nat) (hj : lv[j]? = some (k, .long x)) (K : wpm φ ad (pc + 2) lv (.long x :: st) σ) : wpm φ ad pc lv st σ := by
  obtain ⟨⟨p, l, e, R, s, m, args, below⟩, ⟨meth, c, D, c3, A, H0⟩, ⟨nL, cells, slots, Q⟩⟩ := φ
  obtain ⟨hx, hb, hr, hml, hnl, hown, hts, hlk, hK, hD, hA, hfr, hlo, hce, hsl, hN⟩ := X
  subst hnl
  intro H locs ls hP hS hl
  exact lv_lload hx hb hd (lv_at hl j hj) (K H locs ls hP hS hl)
theorem w_aload_n {k : Fin 4} {x : Nat} (X : Cx φ ad cc ret own n fr lo) (hd : decode cc pc = .ok (.aload_n k, 1)) (j : Nat) (hj : lv[j]? = some ((k : Nat), .ref x)) (K : wpm φ ad (pc + 1) lv (.ref x :: st) σ) : wpm φ ad pc lv st σ := by
  obtain ⟨⟨p, l, e, R, s, m, args, below⟩, ⟨meth, c, D, c3, A, H0⟩, ⟨nL, cells, slots, Q⟩⟩ := φ
  obtain ⟨hx, hb, hr, hml, hnl, hown, hts, hlk, hK, hD, hA, hfr, hlo, hce, hsl, hN⟩ := X
  subst hnl
  intro H locs ls hP hS hl
  exact lv_aload_n hx hb hd rfl (lv_at hl j hj) (K H locs ls hP hS hl)
theorem w_aload {k : Nat} {x : Nat} (X : Cx φ ad cc ret own n fr lo) (hd : decode cc pc = .ok (.aload k, 2)) (j : Nat) (hj : lv[j]? = some (k, .ref x)) (K : wpm φ ad (pc + 2) lv (.ref x :: st) σ) : wpm φ ad pc lv st σ := by
  obtain ⟨⟨p, l, e, R, s, m, args, below⟩, ⟨meth, c, D, c3, A, H0⟩, ⟨nL, cells, slots, Q⟩⟩ := φ
  obtain ⟨hx, hb, hr, hml, hnl, hown, hts, hlk, hK, hD, hA, hfr, hlo, hce, hsl, hN⟩ := X
  subst hnl
  intro H locs ls hP hS hl
  exact lv_aload hx hb hd (lv_at hl j hj) (K H locs ls hP hS hl)
theorem w_istore_n {k : Fin 4} {x : Int32} (X : Cx φ ad cc ret own n fr lo) (hd : decode cc pc = .ok (.istore_n k, 1)) (i : Nat) (hi : (k : Nat) = i) (hn : i < n) (hv : (i, Value.int x) :: lv.filter (fun q => !(q.1 == i) && !(q.1 + 1 == i && q.2.category == 2)) = lv') (K : wpm φ ad (pc + 1) lv' st σ) : wpm φ ad pc lv (.int x :: st) σ := by
  obtain ⟨⟨p, l, e, R, s, m, args, below⟩, ⟨meth, c, D, c3, A, H0⟩, ⟨nL, cells, slots, Q⟩⟩ := φ
  obtain ⟨hx, hb, hr, hml, hnl, hown, hts, hlk, hK, hD, hA, hfr, hlo, hce, hsl, hN⟩ := X
  subst hnl
  intro H locs ls hP hS hl
  exact lv_istore_n hx hb hd hi hl hn hv (fun ls' hl' => K H locs ls' hP hS hl')
theorem w_istore {i : Nat} {x : Int32} (X : Cx φ ad cc ret own n fr lo) (hd : decode cc pc = .ok (.istore i, 2)) (hn : i < n) (hv : (i, Value.int x) :: lv.filter (fun q => !(q.1 == i) && !(q.1 + 1 == i && q.2.category == 2)) = lv') (K : wpm φ ad (pc + 2) lv' st σ) : wpm φ ad pc lv (.int x :: st) σ := by
  obtain ⟨⟨p, l, e, R, s, m, args, below⟩, ⟨meth, c, D, c3, A, H0⟩, ⟨nL, cells, slots, Q⟩⟩ := φ
  obtain ⟨hx, hb, hr, hml, hnl, hown, hts, hlk, hK, hD, hA, hfr, hlo, hce, hsl, hN⟩ := X
  subst hnl
  intro H locs ls hP hS hl
  exact lv_istore hx hb hd hl hn hv (fun ls' hl' => K H locs ls' hP hS hl')
theorem w_lstore_n {k : Fin 4} {x : Int64} (X : Cx φ ad cc ret own n fr lo) (hd : decode cc pc = .ok (.lstore_n k, 1)) (i : Nat) (hi : (k : Nat) = i) (hn : i + 1 < n) (hv : (i, Value.long x) :: lv.filter (fun q => !(q.1 == i) && (!(q.1 == i + 1) && !(q.1 + 1 == i && q.2.category == 2))) = lv') (K : wpm φ ad (pc + 1) lv' st σ) : wpm φ ad pc lv (.long x :: st) σ := by
  obtain ⟨⟨p, l, e, R, s, m, args, below⟩, ⟨meth, c, D, c3, A, H0⟩, ⟨nL, cells, slots, Q⟩⟩ := φ
  obtain ⟨hx, hb, hr, hml, hnl, hown, hts, hlk, hK, hD, hA, hfr, hlo, hce, hsl, hN⟩ := X
  subst hnl
  intro H locs ls hP hS hl
  exact lv_lstore_n hx hb hd hi hl hn hv (fun ls' hl' => K H locs ls' hP hS hl')
theorem w_lstore {i : Nat} {x : Int64} (X : Cx φ ad cc ret own n fr lo) (hd : decode cc pc = .ok (.lstore i, 2)) (hn : i + 1 < n) (hv : (i, Value.long x) :: lv.filter (fun q => !(q.1 == i) && (!(q.1 == i + 1) && !(q.1 + 1 == i && q.2.category == 2))) = lv') (K : wpm φ ad (pc + 2) lv' st σ) : wpm φ ad pc lv (.long x :: st) σ := by
  obtain ⟨⟨p, l, e, R, s, m, args, below⟩, ⟨meth, c, D, c3, A, H0⟩, ⟨nL, cells, slots, Q⟩⟩ := φ
  obtain ⟨hx, hb, hr, hml, hnl, hown, hts, hlk, hK, hD, hA, hfr, hlo, hce, hsl, hN⟩ := X
  subst hnl
  intro H locs ls hP hS hl
  exact lv_lstore hx hb hd hl hn hv (fun ls' hl' => K H locs ls' hP hS hl')
theorem w_astore_n {k : Fin 4} {x : Nat} (X : Cx φ ad cc ret own n fr lo) (hd : decode cc pc = .ok (.astore_n k, 1)) (i : Nat) (hi : (k : Nat) = i) (hn : i < n) (hv : (i, Value.ref x) :: lv.filter (fun q => !(q.1 == i) && !(q.1 + 1 == i && q.2.category == 2)) = lv') (K : wpm φ ad (pc + 1) lv' st σ) : wpm φ ad pc lv (.ref x :: st) σ := by
  obtain ⟨⟨p, l, e, R, s, m, args, below⟩, ⟨meth, c, D, c3, A, H0⟩, ⟨nL, cells, slots, Q⟩⟩ := φ
  obtain ⟨hx, hb, hr, hml, hnl, hown, hts, hlk, hK, hD, hA, hfr, hlo, hce, hsl, hN⟩ := X
  subst hnl
  intro H locs ls hP hS hl
  exact lv_astore_n hx hb hd hi hl hn hv (fun ls' hl' => K H locs ls' hP hS hl')
theorem w_astore {i : Nat} {x : Nat} (X : Cx φ ad cc ret own n fr lo) (hd : decode cc pc = .ok (.astore i, 2)) (hn : i < n) (hv : (i, Value.ref x) :: lv.filter (fun q => !(q.1 == i) && !(q.1 + 1 == i && q.2.category == 2)) = lv') (K : wpm φ ad (pc + 2) lv' st σ) : wpm φ ad pc lv (.ref x :: st) σ := by
  obtain ⟨⟨p, l, e, R, s, m, args, below⟩, ⟨meth, c, D, c3, A, H0⟩, ⟨nL, cells, slots, Q⟩⟩ := φ
  obtain ⟨hx, hb, hr, hml, hnl, hown, hts, hlk, hK, hD, hA, hfr, hlo, hce, hsl, hN⟩ := X
  subst hnl
  intro H locs ls hP hS hl
  exact lv_astore hx hb hd hl hn hv (fun ls' hl' => K H locs ls' hP hS hl')
theorem w_iinc {i : Nat} {z : Int} {x v : Int32} (X : Cx φ ad cc ret own n fr lo) (hd : decode cc pc = .ok (.iinc i z, 3)) (j : Nat) (hj : lv[j]? = some (i, .int x)) (hz : x + Int32.ofInt z = v) (hn : i < n) (hv : (i, Value.int v) :: lv.filter (fun q => !(q.1 == i) && !(q.1 + 1 == i && q.2.category == 2)) = lv') (K : wpm φ ad (pc + 3) lv' st σ) : wpm φ ad pc lv st σ := by
  obtain ⟨⟨p, l, e, R, s, m, args, below⟩, ⟨meth, c, D, c3, A, H0⟩, ⟨nL, cells, slots, Q⟩⟩ := φ
  obtain ⟨hx, hb, hr, hml, hnl, hown, hts, hlk, hK, hD, hA, hfr, hlo, hce, hsl, hN⟩ := X
  subst hnl
  intro H locs ls hP hS hl
  exact lv_iinc hx hb hd hl (k := j) hj hz hn hv (fun ls' hl' => K H locs ls' hP hS hl')
theorem w_iadd {x y : Int32} (X : Cx φ ad cc ret own n fr lo) (hd : decode cc pc = .ok (.iadd, 1))  (K : wpm φ ad (pc + 1) lv (.int (x + y) :: st) σ) : wpm φ ad pc lv (.int y :: .int x :: st) σ := by
  obtain ⟨⟨p, l, e, R, s, m, args, below⟩, ⟨meth, c, D, c3, A, H0⟩, ⟨nL, cells, slots, Q⟩⟩ := φ
  obtain ⟨hx, hb, hr, hml, hnl, hown, hts, hlk, hK, hD, hA, hfr, hlo, hce, hsl, hN⟩ := X
  subst hnl
  intro H locs ls hP hS hl
  exact lv_iadd hx hb hd (K H locs ls hP hS hl)
theorem w_isub {x y : Int32} (X : Cx φ ad cc ret own n fr lo) (hd : decode cc pc = .ok (.isub, 1))  (K : wpm φ ad (pc + 1) lv (.int (x - y) :: st) σ) : wpm φ ad pc lv (.int y :: .int x :: st) σ := by
  obtain ⟨⟨p, l, e, R, s, m, args, below⟩, ⟨meth, c, D, c3, A, H0⟩, ⟨nL, cells, slots, Q⟩⟩ := φ
  obtain ⟨hx, hb, hr, hml, hnl, hown, hts, hlk, hK, hD, hA, hfr, hlo, hce, hsl, hN⟩ := X
  subst hnl
  intro H locs ls hP hS hl
  exact lv_isub hx hb hd (K H locs ls hP hS hl)
theorem w_imul {x y : Int32} (X : Cx φ ad cc ret own n fr lo) (hd : decode cc pc = .ok (.imul, 1))  (K : wpm φ ad (pc + 1) lv (.int (x * y) :: st) σ) : wpm φ ad pc lv (.int y :: .int x :: st) σ := by
  obtain ⟨⟨p, l, e, R, s, m, args, below⟩, ⟨meth, c, D, c3, A, H0⟩, ⟨nL, cells, slots, Q⟩⟩ := φ
  obtain ⟨hx, hb, hr, hml, hnl, hown, hts, hlk, hK, hD, hA, hfr, hlo, hce, hsl, hN⟩ := X
  subst hnl
  intro H locs ls hP hS hl
  exact lv_imul hx hb hd (K H locs ls hP hS hl)
theorem w_iand {x y : Int32} (X : Cx φ ad cc ret own n fr lo) (hd : decode cc pc = .ok (.iand, 1))  (K : wpm φ ad (pc + 1) lv (.int (x &&& y) :: st) σ) : wpm φ ad pc lv (.int y :: .int x :: st) σ := by
  obtain ⟨⟨p, l, e, R, s, m, args, below⟩, ⟨meth, c, D, c3, A, H0⟩, ⟨nL, cells, slots, Q⟩⟩ := φ
  obtain ⟨hx, hb, hr, hml, hnl, hown, hts, hlk, hK, hD, hA, hfr, hlo, hce, hsl, hN⟩ := X
  subst hnl
  intro H locs ls hP hS hl
  exact lv_iand hx hb hd (K H locs ls hP hS hl)
theorem w_ior {x y : Int32} (X : Cx φ ad cc ret own n fr lo) (hd : decode cc pc = .ok (.ior, 1))  (K : wpm φ ad (pc + 1) lv (.int (x ||| y) :: st) σ) : wpm φ ad pc lv (.int y :: .int x :: st) σ := by
  obtain ⟨⟨p, l, e, R, s, m, args, below⟩, ⟨meth, c, D, c3, A, H0⟩, ⟨nL, cells, slots, Q⟩⟩ := φ
  obtain ⟨hx, hb, hr, hml, hnl, hown, hts, hlk, hK, hD, hA, hfr, hlo, hce, hsl, hN⟩ := X
  subst hnl
  intro H locs ls hP hS hl
  exact lv_ior hx hb hd (K H locs ls hP hS hl)
theorem w_ixor {x y : Int32} (X : Cx φ ad cc ret own n fr lo) (hd : decode cc pc = .ok (.ixor, 1))  (K : wpm φ ad (pc + 1) lv (.int (x ^^^ y) :: st) σ) : wpm φ ad pc lv (.int y :: .int x :: st) σ := by
  obtain ⟨⟨p, l, e, R, s, m, args, below⟩, ⟨meth, c, D, c3, A, H0⟩, ⟨nL, cells, slots, Q⟩⟩ := φ
  obtain ⟨hx, hb, hr, hml, hnl, hown, hts, hlk, hK, hD, hA, hfr, hlo, hce, hsl, hN⟩ := X
  subst hnl
  intro H locs ls hP hS hl
  exact lv_ixor hx hb hd (K H locs ls hP hS hl)
theorem w_ishl {x y : Int32} (X : Cx φ ad cc ret own n fr lo) (hd : decode cc pc = .ok (.ishl, 1))  (K : wpm φ ad (pc + 1) lv (.int (x <<< (y &&& 31)) :: st) σ) : wpm φ ad pc lv (.int y :: .int x :: st) σ := by
  obtain ⟨⟨p, l, e, R, s, m, args, below⟩, ⟨meth, c, D, c3, A, H0⟩, ⟨nL, cells, slots, Q⟩⟩ := φ
  obtain ⟨hx, hb, hr, hml, hnl, hown, hts, hlk, hK, hD, hA, hfr, hlo, hce, hsl, hN⟩ := X
  subst hnl
  intro H locs ls hP hS hl
  exact lv_ishl hx hb hd (K H locs ls hP hS hl)
theorem w_ishr {x y : Int32} (X : Cx φ ad cc ret own n fr lo) (hd : decode cc pc = .ok (.ishr, 1))  (K : wpm φ ad (pc + 1) lv (.int (x >>> (y &&& 31)) :: st) σ) : wpm φ ad pc lv (.int y :: .int x :: st) σ := by
  obtain ⟨⟨p, l, e, R, s, m, args, below⟩, ⟨meth, c, D, c3, A, H0⟩, ⟨nL, cells, slots, Q⟩⟩ := φ
  obtain ⟨hx, hb, hr, hml, hnl, hown, hts, hlk, hK, hD, hA, hfr, hlo, hce, hsl, hN⟩ := X
  subst hnl
  intro H locs ls hP hS hl
  exact lv_ishr hx hb hd (K H locs ls hP hS hl)
theorem w_ladd {x y : Int64} (X : Cx φ ad cc ret own n fr lo) (hd : decode cc pc = .ok (.ladd, 1))  (K : wpm φ ad (pc + 1) lv (.long (x + y) :: st) σ) : wpm φ ad pc lv (.long y :: .long x :: st) σ := by
  obtain ⟨⟨p, l, e, R, s, m, args, below⟩, ⟨meth, c, D, c3, A, H0⟩, ⟨nL, cells, slots, Q⟩⟩ := φ
  obtain ⟨hx, hb, hr, hml, hnl, hown, hts, hlk, hK, hD, hA, hfr, hlo, hce, hsl, hN⟩ := X
  subst hnl
  intro H locs ls hP hS hl
  exact lv_ladd hx hb hd (K H locs ls hP hS hl)
theorem w_lmul {x y : Int64} (X : Cx φ ad cc ret own n fr lo) (hd : decode cc pc = .ok (.lmul, 1))  (K : wpm φ ad (pc + 1) lv (.long (x * y) :: st) σ) : wpm φ ad pc lv (.long y :: .long x :: st) σ := by
  obtain ⟨⟨p, l, e, R, s, m, args, below⟩, ⟨meth, c, D, c3, A, H0⟩, ⟨nL, cells, slots, Q⟩⟩ := φ
  obtain ⟨hx, hb, hr, hml, hnl, hown, hts, hlk, hK, hD, hA, hfr, hlo, hce, hsl, hN⟩ := X
  subst hnl
  intro H locs ls hP hS hl
  exact lv_lmul hx hb hd (K H locs ls hP hS hl)
theorem w_idiv {x y : Int32} (X : Cx φ ad cc ret own n fr lo) (hd : decode cc pc = .ok (.idiv, 1)) (h0 : ¬ y = 0) (K : wpm φ ad (pc + 1) lv (.int (x / y) :: st) σ) : wpm φ ad pc lv (.int y :: .int x :: st) σ := by
  obtain ⟨⟨p, l, e, R, s, m, args, below⟩, ⟨meth, c, D, c3, A, H0⟩, ⟨nL, cells, slots, Q⟩⟩ := φ
  obtain ⟨hx, hb, hr, hml, hnl, hown, hts, hlk, hK, hD, hA, hfr, hlo, hce, hsl, hN⟩ := X
  subst hnl
  intro H locs ls hP hS hl
  exact lv_idiv hx hb hd h0 (K H locs ls hP hS hl)
theorem w_irem {x y : Int32} (X : Cx φ ad cc ret own n fr lo) (hd : decode cc pc = .ok (.irem, 1)) (h0 : ¬ y = 0) (K : wpm φ ad (pc + 1) lv (.int (x - x / y * y) :: st) σ) : wpm φ ad pc lv (.int y :: .int x :: st) σ := by
  obtain ⟨⟨p, l, e, R, s, m, args, below⟩, ⟨meth, c, D, c3, A, H0⟩, ⟨nL, cells, slots, Q⟩⟩ := φ
  obtain ⟨hx, hb, hr, hml, hnl, hown, hts, hlk, hK, hD, hA, hfr, hlo, hce, hsl, hN⟩ := X
  subst hnl
  intro H locs ls hP hS hl
  exact lv_irem hx hb hd h0 (K H locs ls hP hS hl)
theorem w_ldiv {x y : Int64} (X : Cx φ ad cc ret own n fr lo) (hd : decode cc pc = .ok (.ldiv, 1)) (h0 : ¬ y = 0) (K : wpm φ ad (pc + 1) lv (.long (x / y) :: st) σ) : wpm φ ad pc lv (.long y :: .long x :: st) σ := by
  obtain ⟨⟨p, l, e, R, s, m, args, below⟩, ⟨meth, c, D, c3, A, H0⟩, ⟨nL, cells, slots, Q⟩⟩ := φ
  obtain ⟨hx, hb, hr, hml, hnl, hown, hts, hlk, hK, hD, hA, hfr, hlo, hce, hsl, hN⟩ := X
  subst hnl
  intro H locs ls hP hS hl
  exact lv_ldiv hx hb hd h0 (K H locs ls hP hS hl)
theorem w_lrem {x y : Int64} (X : Cx φ ad cc ret own n fr lo) (hd : decode cc pc = .ok (.lrem, 1)) (h0 : ¬ y = 0) (K : wpm φ ad (pc + 1) lv (.long (x - x / y * y) :: st) σ) : wpm φ ad pc lv (.long y :: .long x :: st) σ := by
  obtain ⟨⟨p, l, e, R, s, m, args, below⟩, ⟨meth, c, D, c3, A, H0⟩, ⟨nL, cells, slots, Q⟩⟩ := φ
  obtain ⟨hx, hb, hr, hml, hnl, hown, hts, hlk, hK, hD, hA, hfr, hlo, hce, hsl, hN⟩ := X
  subst hnl
  intro H locs ls hP hS hl
  exact lv_lrem hx hb hd h0 (K H locs ls hP hS hl)
theorem w_i2l {x : Int32} (X : Cx φ ad cc ret own n fr lo) (hd : decode cc pc = .ok (.i2l, 1))  (K : wpm φ ad (pc + 1) lv (.long x.toInt64 :: st) σ) : wpm φ ad pc lv (.int x :: st) σ := by
  obtain ⟨⟨p, l, e, R, s, m, args, below⟩, ⟨meth, c, D, c3, A, H0⟩, ⟨nL, cells, slots, Q⟩⟩ := φ
  obtain ⟨hx, hb, hr, hml, hnl, hown, hts, hlk, hK, hD, hA, hfr, hlo, hce, hsl, hN⟩ := X
  subst hnl
  intro H locs ls hP hS hl
  exact lv_i2l hx hb hd rfl (K H locs ls hP hS hl)
theorem w_l2i {x : Int64} (X : Cx φ ad cc ret own n fr lo) (hd : decode cc pc = .ok (.l2i, 1))  (K : wpm φ ad (pc + 1) lv (.int x.toInt32 :: st) σ) : wpm φ ad pc lv (.long x :: st) σ := by
  obtain ⟨⟨p, l, e, R, s, m, args, below⟩, ⟨meth, c, D, c3, A, H0⟩, ⟨nL, cells, slots, Q⟩⟩ := φ
  obtain ⟨hx, hb, hr, hml, hnl, hown, hts, hlk, hK, hD, hA, hfr, hlo, hce, hsl, hN⟩ := X
  subst hnl
  intro H locs ls hP hS hl
  exact lv_l2i hx hb hd rfl (K H locs ls hP hS hl)
theorem w_dup {v : Value} (X : Cx φ ad cc ret own n fr lo) (hd : decode cc pc = .ok (.dup, 1)) (h1 : v.category = 1) (K : wpm φ ad (pc + 1) lv (v :: v :: st) σ) : wpm φ ad pc lv (v :: st) σ := by
  obtain ⟨⟨p, l, e, R, s, m, args, below⟩, ⟨meth, c, D, c3, A, H0⟩, ⟨nL, cells, slots, Q⟩⟩ := φ
  obtain ⟨hx, hb, hr, hml, hnl, hown, hts, hlk, hK, hD, hA, hfr, hlo, hce, hsl, hN⟩ := X
  subst hnl
  intro H locs ls hP hS hl
  exact lv_dup hx hb hd h1 (K H locs ls hP hS hl)
theorem w_dup2 {v w : Value} (X : Cx φ ad cc ret own n fr lo) (hd : decode cc pc = .ok (.dup2, 1)) (h1 : v.category = 1) (h2 : w.category = 1) (K : wpm φ ad (pc + 1) lv (v :: w :: v :: w :: st) σ) : wpm φ ad pc lv (v :: w :: st) σ := by
  obtain ⟨⟨p, l, e, R, s, m, args, below⟩, ⟨meth, c, D, c3, A, H0⟩, ⟨nL, cells, slots, Q⟩⟩ := φ
  obtain ⟨hx, hb, hr, hml, hnl, hown, hts, hlk, hK, hD, hA, hfr, hlo, hce, hsl, hN⟩ := X
  subst hnl
  intro H locs ls hP hS hl
  exact lv_dup2_11 hx hb hd h1 h2 (K H locs ls hP hS hl)
theorem w_pop {v : Value} (X : Cx φ ad cc ret own n fr lo) (hd : decode cc pc = .ok (.pop, 1)) (h1 : v.category = 1) (K : wpm φ ad (pc + 1) lv st σ) : wpm φ ad pc lv (v :: st) σ := by
  obtain ⟨⟨p, l, e, R, s, m, args, below⟩, ⟨meth, c, D, c3, A, H0⟩, ⟨nL, cells, slots, Q⟩⟩ := φ
  obtain ⟨hx, hb, hr, hml, hnl, hown, hts, hlk, hK, hD, hA, hfr, hlo, hce, hsl, hN⟩ := X
  subst hnl
  intro H locs ls hP hS hl
  exact lv_pop hx hb hd h1 (K H locs ls hP hS hl)
theorem w_lcmp {x y : Int64} (X : Cx φ ad cc ret own n fr lo) (hd : decode cc pc = .ok (.lcmp, 1))  (K : wpm φ ad (pc + 1) lv (.int (lg_cmp x y) :: st) σ) : wpm φ ad pc lv (.long y :: .long x :: st) σ := by
  obtain ⟨⟨p, l, e, R, s, m, args, below⟩, ⟨meth, c, D, c3, A, H0⟩, ⟨nL, cells, slots, Q⟩⟩ := φ
  obtain ⟨hx, hb, hr, hml, hnl, hown, hts, hlk, hK, hD, hA, hfr, hlo, hce, hsl, hN⟩ := X
  subst hnl
  intro H locs ls hP hS hl
  exact W.lcmp hx hb hd (K H locs ls hP hS hl)
theorem w_goto {off : Int} {tgt : Nat} (X : Cx φ ad cc ret own n fr lo) (hd : decode cc pc = .ok (.goto off, 3)) (ht : (pc : Int) + off = (tgt : Int)) (K : wpm φ ad tgt lv st σ) : wpm φ ad pc lv st σ := by
  obtain ⟨⟨p, l, e, R, s, m, args, below⟩, ⟨meth, c, D, c3, A, H0⟩, ⟨nL, cells, slots, Q⟩⟩ := φ
  obtain ⟨hx, hb, hr, hml, hnl, hown, hts, hlk, hK, hD, hA, hfr, hlo, hce, hsl, hN⟩ := X
  subst hnl
  intro H locs ls hP hS hl
  exact lv_goto hx hb hd ht (K H locs ls hP hS hl)
theorem w_if_eq {x : Int32} {off : Int} {tgt : Nat} (X : Cx φ ad cc ret own n fr lo) (hd : decode cc pc = .ok (.ifCond .eq off, 3)) (ht : (pc : Int) + off = (tgt : Int)) (kt : x = 0 → wpm φ ad tgt lv st σ) (kf : ¬ x = 0 → wpm φ ad (pc + 3) lv st σ) : wpm φ ad pc lv (.int x :: st) σ := by
  obtain ⟨⟨p, l, e, R, s, m, args, below⟩, ⟨meth, c, D, c3, A, H0⟩, ⟨nL, cells, slots, Q⟩⟩ := φ
  obtain ⟨hx, hb, hr, hml, hnl, hown, hts, hlk, hK, hD, hA, hfr, hlo, hce, hsl, hN⟩ := X
  subst hnl
  intro H locs ls hP hS hl
  exact lv_if_eq hx hb hd ht (fun q => kt q H locs ls hP hS hl) (fun q => kf q H locs ls hP hS hl)
theorem w_if_ne {x : Int32} {off : Int} {tgt : Nat} (X : Cx φ ad cc ret own n fr lo) (hd : decode cc pc = .ok (.ifCond .ne off, 3)) (ht : (pc : Int) + off = (tgt : Int)) (kt : ¬ x = 0 → wpm φ ad tgt lv st σ) (kf : x = 0 → wpm φ ad (pc + 3) lv st σ) : wpm φ ad pc lv (.int x :: st) σ := by
  obtain ⟨⟨p, l, e, R, s, m, args, below⟩, ⟨meth, c, D, c3, A, H0⟩, ⟨nL, cells, slots, Q⟩⟩ := φ
  obtain ⟨hx, hb, hr, hml, hnl, hown, hts, hlk, hK, hD, hA, hfr, hlo, hce, hsl, hN⟩ := X
  subst hnl
  intro H locs ls hP hS hl
  exact lv_if_ne hx hb hd ht (fun q => kt q H locs ls hP hS hl) (fun q => kf q H locs ls hP hS hl)
theorem w_if_lt {x : Int32} {off : Int} {tgt : Nat} (X : Cx φ ad cc ret own n fr lo) (hd : decode cc pc = .ok (.ifCond .lt off, 3)) (ht : (pc : Int) + off = (tgt : Int)) (kt : x < 0 → wpm φ ad tgt lv st σ) (kf : ¬ x < 0 → wpm φ ad (pc + 3) lv st σ) : wpm φ ad pc lv (.int x :: st) σ := by
  obtain ⟨⟨p, l, e, R, s, m, args, below⟩, ⟨meth, c, D, c3, A, H0⟩, ⟨nL, cells, slots, Q⟩⟩ := φ
  obtain ⟨hx, hb, hr, hml, hnl, hown, hts, hlk, hK, hD, hA, hfr, hlo, hce, hsl, hN⟩ := X
  subst hnl
  intro H locs ls hP hS hl
  exact lv_if_lt hx hb hd ht (fun q => kt q H locs ls hP hS hl) (fun q => kf q H locs ls hP hS hl)
theorem w_if_ge {x : Int32} {off : Int} {tgt : Nat} (X : Cx φ ad cc ret own n fr lo) (hd : decode cc pc = .ok (.ifCond .ge off, 3)) (ht : (pc : Int) + off = (tgt : Int)) (kt : 0 ≤ x → wpm φ ad tgt lv st σ) (kf : ¬ 0 ≤ x → wpm φ ad (pc + 3) lv st σ) : wpm φ ad pc lv (.int x :: st) σ := by
  obtain ⟨⟨p, l, e, R, s, m, args, below⟩, ⟨meth, c, D, c3, A, H0⟩, ⟨nL, cells, slots, Q⟩⟩ := φ
  obtain ⟨hx, hb, hr, hml, hnl, hown, hts, hlk, hK, hD, hA, hfr, hlo, hce, hsl, hN⟩ := X
  subst hnl
  intro H locs ls hP hS hl
  exact lv_if_ge hx hb hd ht (fun q => kt q H locs ls hP hS hl) (fun q => kf q H locs ls hP hS hl)
theorem w_if_gt {x : Int32} {off : Int} {tgt : Nat} (X : Cx φ ad cc ret own n fr lo) (hd : decode cc pc = .ok (.ifCond .gt off, 3)) (ht : (pc : Int) + off = (tgt : Int)) (kt : 0 < x → wpm φ ad tgt lv st σ) (kf : ¬ 0 < x → wpm φ ad (pc + 3) lv st σ) : wpm φ ad pc lv (.int x :: st) σ := by
  obtain ⟨⟨p, l, e, R, s, m, args, below⟩, ⟨meth, c, D, c3, A, H0⟩, ⟨nL, cells, slots, Q⟩⟩ := φ
  obtain ⟨hx, hb, hr, hml, hnl, hown, hts, hlk, hK, hD, hA, hfr, hlo, hce, hsl, hN⟩ := X
  subst hnl
  intro H locs ls hP hS hl
  exact lv_if_gt hx hb hd ht (fun q => kt q H locs ls hP hS hl) (fun q => kf q H locs ls hP hS hl)
theorem w_if_le {x : Int32} {off : Int} {tgt : Nat} (X : Cx φ ad cc ret own n fr lo) (hd : decode cc pc = .ok (.ifCond .le off, 3)) (ht : (pc : Int) + off = (tgt : Int)) (kt : x ≤ 0 → wpm φ ad tgt lv st σ) (kf : ¬ x ≤ 0 → wpm φ ad (pc + 3) lv st σ) : wpm φ ad pc lv (.int x :: st) σ := by
  obtain ⟨⟨p, l, e, R, s, m, args, below⟩, ⟨meth, c, D, c3, A, H0⟩, ⟨nL, cells, slots, Q⟩⟩ := φ
  obtain ⟨hx, hb, hr, hml, hnl, hown, hts, hlk, hK, hD, hA, hfr, hlo, hce, hsl, hN⟩ := X
  subst hnl
  intro H locs ls hP hS hl
  exact lv_if_le hx hb hd ht (fun q => kt q H locs ls hP hS hl) (fun q => kf q H locs ls hP hS hl)
theorem w_icmp_eq {x y : Int32} {off : Int} {tgt : Nat} (X : Cx φ ad cc ret own n fr lo) (hd : decode cc pc = .ok (.if_icmp .eq off, 3)) (ht : (pc : Int) + off = (tgt : Int)) (kt : x = y → wpm φ ad tgt lv st σ) (kf : ¬ x = y → wpm φ ad (pc + 3) lv st σ) : wpm φ ad pc lv (.int y :: .int x :: st) σ := by
  obtain ⟨⟨p, l, e, R, s, m, args, below⟩, ⟨meth, c, D, c3, A, H0⟩, ⟨nL, cells, slots, Q⟩⟩ := φ
  obtain ⟨hx, hb, hr, hml, hnl, hown, hts, hlk, hK, hD, hA, hfr, hlo, hce, hsl, hN⟩ := X
  subst hnl
  intro H locs ls hP hS hl
  exact lv_icmp_eq hx hb hd ht (fun q => kt q H locs ls hP hS hl) (fun q => kf q H locs ls hP hS hl)
theorem w_icmp_ne {x y : Int32} {off : Int} {tgt : Nat} (X : Cx φ ad cc ret own n fr lo) (hd : decode cc pc = .ok (.if_icmp .ne off, 3)) (ht : (pc : Int) + off = (tgt : Int)) (kt : ¬ x = y → wpm φ ad tgt lv st σ) (kf : x = y → wpm φ ad (pc + 3) lv st σ) : wpm φ ad pc lv (.int y :: .int x :: st) σ := by
  obtain ⟨⟨p, l, e, R, s, m, args, below⟩, ⟨meth, c, D, c3, A, H0⟩, ⟨nL, cells, slots, Q⟩⟩ := φ
  obtain ⟨hx, hb, hr, hml, hnl, hown, hts, hlk, hK, hD, hA, hfr, hlo, hce, hsl, hN⟩ := X
  subst hnl
  intro H locs ls hP hS hl
  exact lv_icmp_ne hx hb hd ht (fun q => kt q H locs ls hP hS hl) (fun q => kf q H locs ls hP hS hl)
theorem w_icmp_lt {x y : Int32} {off : Int} {tgt : Nat} (X : Cx φ ad cc ret own n fr lo) (hd : decode cc pc = .ok (.if_icmp .lt off, 3)) (ht : (pc : Int) + off = (tgt : Int)) (kt : x < y → wpm φ ad tgt lv st σ) (kf : ¬ x < y → wpm φ ad (pc + 3) lv st σ) : wpm φ ad pc lv (.int y :: .int x :: st) σ := by
  obtain ⟨⟨p, l, e, R, s, m, args, below⟩, ⟨meth, c, D, c3, A, H0⟩, ⟨nL, cells, slots, Q⟩⟩ := φ
  obtain ⟨hx, hb, hr, hml, hnl, hown, hts, hlk, hK, hD, hA, hfr, hlo, hce, hsl, hN⟩ := X
  subst hnl
  intro H locs ls hP hS hl
  exact lv_icmp_lt hx hb hd ht (fun q => kt q H locs ls hP hS hl) (fun q => kf q H locs ls hP hS hl)
theorem w_icmp_ge {x y : Int32} {off : Int} {tgt : Nat} (X : Cx φ ad cc ret own n fr lo) (hd : decode cc pc = .ok (.if_icmp .ge off, 3)) (ht : (pc : Int) + off = (tgt : Int)) (kt : y ≤ x → wpm φ ad tgt lv st σ) (kf : ¬ y ≤ x → wpm φ ad (pc + 3) lv st σ) : wpm φ ad pc lv (.int y :: .int x :: st) σ := by
  obtain ⟨⟨p, l, e, R, s, m, args, below⟩, ⟨meth, c, D, c3, A, H0⟩, ⟨nL, cells, slots, Q⟩⟩ := φ
  obtain ⟨hx, hb, hr, hml, hnl, hown, hts, hlk, hK, hD, hA, hfr, hlo, hce, hsl, hN⟩ := X
  subst hnl
  intro H locs ls hP hS hl
  exact lv_icmp_ge hx hb hd ht (fun q => kt q H locs ls hP hS hl) (fun q => kf q H locs ls hP hS hl)
theorem w_icmp_gt {x y : Int32} {off : Int} {tgt : Nat} (X : Cx φ ad cc ret own n fr lo) (hd : decode cc pc = .ok (.if_icmp .gt off, 3)) (ht : (pc : Int) + off = (tgt : Int)) (kt : y < x → wpm φ ad tgt lv st σ) (kf : ¬ y < x → wpm φ ad (pc + 3) lv st σ) : wpm φ ad pc lv (.int y :: .int x :: st) σ := by
  obtain ⟨⟨p, l, e, R, s, m, args, below⟩, ⟨meth, c, D, c3, A, H0⟩, ⟨nL, cells, slots, Q⟩⟩ := φ
  obtain ⟨hx, hb, hr, hml, hnl, hown, hts, hlk, hK, hD, hA, hfr, hlo, hce, hsl, hN⟩ := X
  subst hnl
  intro H locs ls hP hS hl
  exact lv_icmp_gt hx hb hd ht (fun q => kt q H locs ls hP hS hl) (fun q => kf q H locs ls hP hS hl)
theorem w_icmp_le {x y : Int32} {off : Int} {tgt : Nat} (X : Cx φ ad cc ret own n fr lo) (hd : decode cc pc = .ok (.if_icmp .le off, 3)) (ht : (pc : Int) + off = (tgt : Int)) (kt : x ≤ y → wpm φ ad tgt lv st σ) (kf : ¬ x ≤ y → wpm φ ad (pc + 3) lv st σ) : wpm φ ad pc lv (.int y :: .int x :: st) σ := by
  obtain ⟨⟨p, l, e, R, s, m, args, below⟩, ⟨meth, c, D, c3, A, H0⟩, ⟨nL, cells, slots, Q⟩⟩ := φ
  obtain ⟨hx, hb, hr, hml, hnl, hown, hts, hlk, hK, hD, hA, hfr, hlo, hce, hsl, hN⟩ := X
  subst hnl
  intro H locs ls hP hS hl
  exact lv_icmp_le hx hb hd ht (fun q => kt q H locs ls hP hS hl) (fun q => kf q H locs ls hP hS hl)
theorem w_tswIn {dflt lw hi : Int} {offs : Array Int} {len : Nat} {x v : Int32} {off : Int} {tgt : Nat} (X : Cx φ ad cc ret own n fr lo) (hd : decode cc pc = .ok (.tableswitch dflt lw hi offs, len)) (hv : x = v) (h1 : ¬ v.toInt < lw) (h2 : ¬ hi < v.toInt) (ho : offs[(v.toInt - lw).toNat]? = some off) (ht : (pc : Int) + off = (tgt : Int)) (K : wpm φ ad tgt lv st σ) : wpm φ ad pc lv (.int x :: st) σ := by
  obtain ⟨⟨p, l, e, R, s, m, args, below⟩, ⟨meth, c, D, c3, A, H0⟩, ⟨nL, cells, slots, Q⟩⟩ := φ
  obtain ⟨hx, hb, hr, hml, hnl, hown, hts, hlk, hK, hD, hA, hfr, hlo, hce, hsl, hN⟩ := X
  subst hnl
  intro H locs ls hP hS hl
  subst hv
  exact lv_tableIn hx hb hd h1 h2 ho ht (K H locs ls hP hS hl)
theorem w_tswOut {dflt lw hi : Int} {offs : Array Int} {len : Nat} {x : Int32} {tgt : Nat} (X : Cx φ ad cc ret own n fr lo) (hd : decode cc pc = .ok (.tableswitch dflt lw hi offs, len)) (h : ∀ i : Int, lw ≤ i → i ≤ hi → ¬ x = Int32.ofInt i) (ht : (pc : Int) + dflt = (tgt : Int)) (K : wpm φ ad tgt lv st σ) : wpm φ ad pc lv (.int x :: st) σ := by
  obtain ⟨⟨p, l, e, R, s, m, args, below⟩, ⟨meth, c, D, c3, A, H0⟩, ⟨nL, cells, slots, Q⟩⟩ := φ
  obtain ⟨hx, hb, hr, hml, hnl, hown, hts, hlk, hK, hD, hA, hfr, hlo, hce, hsl, hN⟩ := X
  subst hnl
  intro H locs ls hP hS hl
  refine lv_tableOut hx hb hd ?_ ht (K H locs ls hP hS hl)
  by_cases q : x.toInt < lw
  · exact Or.inl q
  · by_cases q2 : hi < x.toInt
    · exact Or.inr q2
    · exact absurd (Int32.ofInt_toInt x).symm (h x.toInt (by omega) (by omega))
theorem w_lsw {dflt : Int} {ps : Array (Int × Int)} {len : Nat} {x : Int32} {off : Int} {tgt : Nat} (X : Cx φ ad cc ret own n fr lo) (hd : decode cc pc = .ok (.lookupswitch dflt ps, len)) (hp : (ps.toList.zip (ps.toList.drop 1)).all (fun (a, next) => a.1 < next.1) = true) (ho : Op.lookupswitch.offset ps.toList dflt x.toInt = off) (ht : (pc : Int) + off = (tgt : Int)) (K : wpm φ ad tgt lv st σ) : wpm φ ad pc lv (.int x :: st) σ := by
  obtain ⟨⟨p, l, e, R, s, m, args, below⟩, ⟨meth, c, D, c3, A, H0⟩, ⟨nL, cells, slots, Q⟩⟩ := φ
  obtain ⟨hx, hb, hr, hml, hnl, hown, hts, hlk, hK, hD, hA, hfr, hlo, hce, hsl, hN⟩ := X
  subst hnl
  intro H locs ls hP hS hl
  exact lv_lookup hx hb hd hp ho ht (K H locs ls hP hS hl)
/-- a class of cls, its fields' names and types -/
def CO (ci : Nat) (C : String) (T : u_T) (N : Nat) (ty : Nat → FieldType) : Prop := cls[ci]? = some (C, T, N) ∧ ci ≤ 9 ∧ N = fn ci ∧ (∀ w ∈ u_ws C T N, w ∈ lw_gd) ∧ (∀ k, k < N → parseFieldDescriptor (T k).2.2.1 = some (ty k)) ∧ ∀ a, a < N → ∀ b, b < N → a ≠ b → (T a).2.1 ≠ (T b).2.1
theorem w_getI {ci idx N k : Nat} {C : String} {T : u_T} {ty : Nat → FieldType} (X : Cx φ ad cc ret own n fr lo) (hd : decode cc pc = .ok (.getfield idx, 3)) (hC : CO ci C T N ty) (hk : kd k = ci) (j : Nat) (hj : j < N) (hf : fo ci j = none) (hw : Cond.fieldLink own idx (T j).1 (T j).2.1 (T j).2.2.1 ∈ lw_gd) (K : wpm φ ad (pc + 3) lv (.int (σ.1 k j) :: st) σ) : wpm φ ad pc lv (.ref (ad k) :: st) σ := by
  obtain ⟨⟨p, l, e, R, s, m, args, below⟩, ⟨meth, c, D, c3, A, H0⟩, ⟨nL, cells, slots, Q⟩⟩ := φ
  obtain ⟨hx, hb, hr, hml, hnl, hown, hts, hlk, hK, hD, hA, hfr, hlo, hce, hsl, hN⟩ := X
  subst hnl
  intro H locs ls hP hS hl
  obtain ⟨h1, h9, h2, h3, h4, h5⟩ := hC
  refine va_get (D := D) (ci := ci) (v := .int (σ.1 k j)) (C := C) (T := T) (N := N) hx hb hts h3 hown hK hP k (wv_obj hk h9) h1 j hj (hts _ hw) (fun _ q => q) ?_ hd (K H locs ls hP hS hl)
  rw [List.getElem?_map, List.getElem?_range (by omega)]
  show some (fv ad σ k j) = _
  unfold fv
  rw [hk, hf]
theorem w_getR {ci idx N k d : Nat} {C : String} {T : u_T} {ty : Nat → FieldType} (X : Cx φ ad cc ret own n fr lo) (hd : decode cc pc = .ok (.getfield idx, 3)) (hC : CO ci C T N ty) (hk : kd k = ci) (j : Nat) (hj : j < N) (hf : fo ci j = some d) (hw : Cond.fieldLink own idx (T j).1 (T j).2.1 (T j).2.2.1 ∈ lw_gd) (K : wpm φ ad (pc + 3) lv (.ref (ad (k + d)) :: st) σ) : wpm φ ad pc lv (.ref (ad k) :: st) σ := by
  obtain ⟨⟨p, l, e, R, s, m, args, below⟩, ⟨meth, c, D, c3, A, H0⟩, ⟨nL, cells, slots, Q⟩⟩ := φ
  obtain ⟨hx, hb, hr, hml, hnl, hown, hts, hlk, hK, hD, hA, hfr, hlo, hce, hsl, hN⟩ := X
  subst hnl
  intro H locs ls hP hS hl
  obtain ⟨h1, h9, h2, h3, h4, h5⟩ := hC
  refine va_get (D := D) (ci := ci) (v := .ref (ad (k + d))) (C := C) (T := T) (N := N) hx hb hts h3 hown hK hP k (wv_obj hk h9) h1 j hj (hts _ hw) (fun _ q => q) ?_ hd (K H locs ls hP hS hl)
  rw [List.getElem?_map, List.getElem?_range (by omega)]
  show some (fv ad σ k j) = _
  unfold fv
  rw [hk, hf]
theorem w_putI {ci idx N k : Nat} {C : String} {T : u_T} {ty : Nat → FieldType} {v : Int32} (X : Cx φ ad cc ret own n fr lo) (hd : decode cc pc = .ok (.putfield idx, 3)) (hC : CO ci C T N ty) (hk : kd k = ci) (j : Nat) (hj : j < N) (hf : fo ci j = none) (hfi : (T j).2.2.2 = false) (hty : ty j = .int ∨ (ty j = .boolean ∧ (v = 0 ∨ v = 1))) (hw : Cond.fieldLink own idx (T j).1 (T j).2.1 (T j).2.2.1 ∈ lw_gd) (K : wpm φ ad (pc + 3) lv st (stI σ k j v)) : wpm φ ad pc lv (.int v :: .ref (ad k) :: st) σ := by
  obtain ⟨⟨p, l, e, R, s, m, args, below⟩, ⟨meth, c, D, c3, A, H0⟩, ⟨nL, cells, slots, Q⟩⟩ := φ
  obtain ⟨hx, hb, hr, hml, hnl, hown, hts, hlk, hK, hD, hA, hfr, hlo, hce, hsl, hN⟩ := X
  subst hnl
  intro H locs ls hP hS hl
  obtain ⟨h1, h9, h2, h3, h4, h5⟩ := hC
  have hn : narrow (ty j) (.int v) = .int v ∧ fits (ty j) (.int v) = true := by
    rcases hty with h | ⟨h, rfl | rfl⟩ <;> rw [h] <;> exact ⟨rfl, rfl⟩
  refine va_put (D := D) (ci := ci) (v := .int v) (C := C) (T := T) (N := N) hx hb hts h3 ty h4 h5 hown hK hP (hD σ) hS k (wv_obj hk h9) h1 j hj (hts _ hw) (fun _ q => q) hfi (h4 j hj) hn.1 hn.2 (by simp; omega) hd (fun H1 locs1 hP1 hD1 hS1 => ?_)
  rw [wv_stO hk h9 (by omega) hf] at hP1
  exact K H1 locs1 ls hP1 hS1 hl
def inb (i : Int32) (n : Nat) : Prop := 0 ≤ i.toInt ∧ i.toInt < (n : Int)
theorem inb_vp {i : Int32} {n : Nat} (h : inb i n) : vp_in i n := vp_in_iff.mpr h
theorem w_iald {k : Nat} {i : Int32} (X : Cx φ ad cc ret own n fr lo) (hd : decode cc pc = .ok (.iaload, 1)) (hk : kd k = 10) (hi : inb i (ln k)) (K : wpm φ ad (pc + 1) lv (.int (σ.1 k i.toNatClampNeg) :: st) σ) : wpm φ ad pc lv (.int i :: .ref (ad k) :: st) σ := by
  obtain ⟨⟨p, l, e, R, s, m, args, below⟩, ⟨meth, c, D, c3, A, H0⟩, ⟨nL, cells, slots, Q⟩⟩ := φ
  obtain ⟨hx, hb, hr, hml, hnl, hown, hts, hlk, hK, hD, hA, hfr, hlo, hce, hsl, hN⟩ := X
  subst hnl
  intro H locs ls hP hS hl
  exact va_iald (D := D) hx hb hK hP k 0 (wv_int hk) rfl (inb_vp hi) hd (K H locs ls hP hS hl)
theorem w_zald {k : Nat} {i : Int32} (X : Cx φ ad cc ret own n fr lo) (hd : decode cc pc = .ok (.baload, 1)) (hk : kd k = 12) (hi : inb i (ln k)) (K : wpm φ ad (pc + 1) lv (.int (σ.1 k i.toNatClampNeg) :: st) σ) : wpm φ ad pc lv (.int i :: .ref (ad k) :: st) σ := by
  obtain ⟨⟨p, l, e, R, s, m, args, below⟩, ⟨meth, c, D, c3, A, H0⟩, ⟨nL, cells, slots, Q⟩⟩ := φ
  obtain ⟨hx, hb, hr, hml, hnl, hown, hts, hlk, hK, hD, hA, hfr, hlo, hce, hsl, hN⟩ := X
  subst hnl
  intro H locs ls hP hS hl
  exact va_zald (D := D) hx hb hK hP k 2 (wv_boo hk) rfl (inb_vp hi) hd (K H locs ls hP hS hl)
theorem w_lald {k : Nat} {i : Int32} (X : Cx φ ad cc ret own n fr lo) (hd : decode cc pc = .ok (.laload, 1)) (hk : kd k = 11) (hi : inb i (ln k)) (K : wpm φ ad (pc + 1) lv (.long (σ.2 k i.toNatClampNeg) :: st) σ) : wpm φ ad pc lv (.int i :: .ref (ad k) :: st) σ := by
  obtain ⟨⟨p, l, e, R, s, m, args, below⟩, ⟨meth, c, D, c3, A, H0⟩, ⟨nL, cells, slots, Q⟩⟩ := φ
  obtain ⟨hx, hb, hr, hml, hnl, hown, hts, hlk, hK, hD, hA, hfr, hlo, hce, hsl, hN⟩ := X
  subst hnl
  intro H locs ls hP hS hl
  exact va_lald (D := D) hx hb hK hP k 1 (wv_lng hk) rfl (inb_vp hi) hd (K H locs ls hP hS hl)
theorem w_iast {k : Nat} {i v : Int32} (X : Cx φ ad cc ret own n fr lo) (hd : decode cc pc = .ok (.iastore, 1)) (hk : kd k = 10) (hi : inb i (ln k)) (K : wpm φ ad (pc + 1) lv st (stI σ k i.toNatClampNeg v)) : wpm φ ad pc lv (.int v :: .int i :: .ref (ad k) :: st) σ := by
  obtain ⟨⟨p, l, e, R, s, m, args, below⟩, ⟨meth, c, D, c3, A, H0⟩, ⟨nL, cells, slots, Q⟩⟩ := φ
  obtain ⟨hx, hb, hr, hml, hnl, hown, hts, hlk, hK, hD, hA, hfr, hlo, hce, hsl, hN⟩ := X
  subst hnl
  intro H locs ls hP hS hl
  refine va_iast (D := D) hx hb hK hP (hD σ) hS k 0 (wv_int hk) rfl (inb_vp hi) hd (fun H1 locs1 hP1 hD1 hS1 => ?_)
  rw [wv_stA hk] at hP1
  exact K H1 locs1 ls hP1 hS1 hl
theorem w_zast {k : Nat} {i v : Int32} (X : Cx φ ad cc ret own n fr lo) (hd : decode cc pc = .ok (.bastore, 1)) (hk : kd k = 12) (hi : inb i (ln k)) (hv : v = 0 ∨ v = 1) (K : wpm φ ad (pc + 1) lv st (stI σ k i.toNatClampNeg v)) : wpm φ ad pc lv (.int v :: .int i :: .ref (ad k) :: st) σ := by
  obtain ⟨⟨p, l, e, R, s, m, args, below⟩, ⟨meth, c, D, c3, A, H0⟩, ⟨nL, cells, slots, Q⟩⟩ := φ
  obtain ⟨hx, hb, hr, hml, hnl, hown, hts, hlk, hK, hD, hA, hfr, hlo, hce, hsl, hN⟩ := X
  subst hnl
  intro H locs ls hP hS hl
  refine va_zast (D := D) hx hb hK hP (hD σ) hS k 2 (wv_boo hk) rfl (inb_vp hi) hd (fun H1 locs1 hP1 hD1 hS1 => ?_)
  have hz : vp_nar .boolean v = v := by rcases hv with rfl | rfl <;> rfl
  rw [hz, wv_stZ hk] at hP1
  exact K H1 locs1 ls hP1 hS1 hl
theorem w_last {k : Nat} {i : Int32} {v : Int64} (X : Cx φ ad cc ret own n fr lo) (hd : decode cc pc = .ok (.lastore, 1)) (hk : kd k = 11) (hi : inb i (ln k)) (K : wpm φ ad (pc + 1) lv st (stL σ k i.toNatClampNeg v)) : wpm φ ad pc lv (.long v :: .int i :: .ref (ad k) :: st) σ := by
  obtain ⟨⟨p, l, e, R, s, m, args, below⟩, ⟨meth, c, D, c3, A, H0⟩, ⟨nL, cells, slots, Q⟩⟩ := φ
  obtain ⟨hx, hb, hr, hml, hnl, hown, hts, hlk, hK, hD, hA, hfr, hlo, hce, hsl, hN⟩ := X
  subst hnl
  intro H locs ls hP hS hl
  refine va_last (D := D) hx hb hK hP (hD σ) hS k 1 (wv_lng hk) rfl (inb_vp hi) hd (fun H1 locs1 hP1 hD1 hS1 => ?_)
  rw [wv_stL hk] at hP1
  exact K H1 locs1 ls hP1 hS1 hl
theorem w_alenI {k : Nat} (X : Cx φ ad cc ret own n fr lo) (hd : decode cc pc = .ok (.arraylength, 1)) (hk : kd k = 10) (K : wpm φ ad (pc + 1) lv (.int (nI (ln k)) :: st) σ) : wpm φ ad pc lv (.ref (ad k) :: st) σ := by
  obtain ⟨⟨p, l, e, R, s, m, args, below⟩, ⟨meth, c, D, c3, A, H0⟩, ⟨nL, cells, slots, Q⟩⟩ := φ
  obtain ⟨hx, hb, hr, hml, hnl, hown, hts, hlk, hK, hD, hA, hfr, hlo, hce, hsl, hN⟩ := X
  subst hnl
  intro H locs ls hP hS hl
  exact va_alen (D := D) hx hb hK hP k 0 (wv_int hk) (ty := .int) rfl rfl hd (K H locs ls hP hS hl)
theorem w_alenJ {k : Nat} (X : Cx φ ad cc ret own n fr lo) (hd : decode cc pc = .ok (.arraylength, 1)) (hk : kd k = 11) (K : wpm φ ad (pc + 1) lv (.int (nI (ln k)) :: st) σ) : wpm φ ad pc lv (.ref (ad k) :: st) σ := by
  obtain ⟨⟨p, l, e, R, s, m, args, below⟩, ⟨meth, c, D, c3, A, H0⟩, ⟨nL, cells, slots, Q⟩⟩ := φ
  obtain ⟨hx, hb, hr, hml, hnl, hown, hts, hlk, hK, hD, hA, hfr, hlo, hce, hsl, hN⟩ := X
  subst hnl
  intro H locs ls hP hS hl
  exact va_alen (D := D) hx hb hK hP k 1 (wv_lng hk) (ty := .long) rfl rfl hd (K H locs ls hP hS hl)
theorem w_alenZ {k : Nat} (X : Cx φ ad cc ret own n fr lo) (hd : decode cc pc = .ok (.arraylength, 1)) (hk : kd k = 12) (K : wpm φ ad (pc + 1) lv (.int (nI (ln k)) :: st) σ) : wpm φ ad pc lv (.ref (ad k) :: st) σ := by
  obtain ⟨⟨p, l, e, R, s, m, args, below⟩, ⟨meth, c, D, c3, A, H0⟩, ⟨nL, cells, slots, Q⟩⟩ := φ
  obtain ⟨hx, hb, hr, hml, hnl, hown, hts, hlk, hK, hD, hA, hfr, hlo, hce, hsl, hN⟩ := X
  subst hnl
  intro H locs ls hP hS hl
  exact va_alen (D := D) hx hb hK hP k 2 (wv_boo hk) (ty := .boolean) rfl rfl hd (K H locs ls hP hS hl)
theorem w_iret {r : Int32} (X : Cx φ ad cc (some .int) own n fr lo) (hQ : Fini φ ad (some (.int r)) σ) (hd : decode cc pc = .ok (.ireturn, 1)) : wpm φ ad pc lv [.int r] σ := by
  obtain ⟨⟨p, l, e, R, s, m, args, below⟩, ⟨meth, c, D, c3, A, H0⟩, ⟨nL, cells, slots, Q⟩⟩ := φ
  obtain ⟨hx, hb, hr, hml, hnl, hown, hts, hlk, hK, hD, hA, hfr, hlo, hce, hsl, hN⟩ := X
  subst hnl
  intro H locs ls hP hS hl
  obtain ⟨rfl, rfl⟩ := hQ
  exact W.iret (v := r) hx hb hr (fun t ht hW => ⟨⟨rfl, by rw [ht]; exact hP⟩, hS.F ht⟩) hS.2.2 hd hlk
theorem w_zret {r : Int32} (X : Cx φ ad cc (some .boolean) own n fr lo) (hQ : Fini φ ad (some (.int r)) σ) (hd : decode cc pc = .ok (.ireturn, 1)) (h01 : r = 0 ∨ r = 1) : wpm φ ad pc lv [.int r] σ := by
  obtain ⟨⟨p, l, e, R, s, m, args, below⟩, ⟨meth, c, D, c3, A, H0⟩, ⟨nL, cells, slots, Q⟩⟩ := φ
  obtain ⟨hx, hb, hr, hml, hnl, hown, hts, hlk, hK, hD, hA, hfr, hlo, hce, hsl, hN⟩ := X
  subst hnl
  intro H locs ls hP hS hl
  obtain ⟨rfl, rfl⟩ := hQ
  exact W.zret (v := r) hx hb hr (by rcases h01 with rfl | rfl <;> rfl) (fun t ht hW => ⟨⟨rfl, by rw [ht]; exact hP⟩, hS.F ht⟩) hS.2.2 hd hlk
theorem w_lret {r : Int64} (X : Cx φ ad cc (some .long) own n fr lo) (hQ : Fini φ ad (some (.long r)) σ) (hd : decode cc pc = .ok (.lreturn, 1)) : wpm φ ad pc lv [.long r] σ := by
  obtain ⟨⟨p, l, e, R, s, m, args, below⟩, ⟨meth, c, D, c3, A, H0⟩, ⟨nL, cells, slots, Q⟩⟩ := φ
  obtain ⟨hx, hb, hr, hml, hnl, hown, hts, hlk, hK, hD, hA, hfr, hlo, hce, hsl, hN⟩ := X
  subst hnl
  intro H locs ls hP hS hl
  obtain ⟨rfl, rfl⟩ := hQ
  exact W.lret (v := r) hx hb hr (fun t ht hW => ⟨⟨rfl, by rw [ht]; exact hP⟩, hS.F ht⟩) hS.2.2 hd hlk
theorem w_vret (X : Cx φ ad cc none own n fr lo) (hQ : Fini φ ad none σ) (hd : decode cc pc = .ok (.return_, 1)) : wpm φ ad pc lv [] σ := by
  obtain ⟨⟨p, l, e, R, s, m, args, below⟩, ⟨meth, c, D, c3, A, H0⟩, ⟨nL, cells, slots, Q⟩⟩ := φ
  obtain ⟨hx, hb, hr, hml, hnl, hown, hts, hlk, hK, hD, hA, hfr, hlo, hce, hsl, hN⟩ := X
  subst hnl
  intro H locs ls hP hS hl
  obtain ⟨rfl, rfl⟩ := hQ
  exact W.vret hx hb hr (fun t ht hW => ⟨⟨rfl, by rw [ht]; exact hP⟩, hS.F ht⟩) hS.2.2 hd hlk
theorem w_aret {k : Nat} {nm : String} (X : Cx φ ad cc (some (.object nm)) own n fr lo) (hQ : Fini φ ad (some (.ref (ad k))) σ) (hd : decode cc pc = .ok (.areturn, 1)) : wpm φ ad pc lv [.ref (ad k)] σ := by
  obtain ⟨⟨p, l, e, R, s, m, args, below⟩, ⟨meth, c, D, c3, A, H0⟩, ⟨nL, cells, slots, Q⟩⟩ := φ
  obtain ⟨hx, hb, hr, hml, hnl, hown, hts, hlk, hK, hD, hA, hfr, hlo, hce, hsl, hN⟩ := X
  subst hnl
  intro H locs ls hP hS hl
  obtain ⟨rfl, rfl⟩ := hQ
  exact W.aret (v := .ref (ad k)) hx hb hr (Or.inl ⟨nm, rfl⟩) (Or.inr ⟨_, rfl⟩) (fun t ht hW => ⟨⟨rfl, by rw [ht]; exact hP⟩, hS.F ht⟩) hS.2.2 hd hlk
end WP
end
section
section WC
theorem w_after {p : Program} {l : Launch} {e : Env} {R : Room} {s : State} {m : MethodId} {args : Array Value} {below : List Frame} {meth : Method} {c : Code} {H : Heap} {locs : List Loc} {cells slots : Nat} {Q : State → Prop} {pc : Nat} {ls : Array Slot} {rest st0 : List Value} {a : Array Value} {A0 A1 : Nat → Prop} {H0 : Heap} {free : Addr → Prop} {D : va_G} {ad : Nat → Nat} {c3 : C3} {r : Option Value} {σ' : Sto}
    (hr : va_Run p l e R s m args below meth c H locs cells slots 0 0 (F0 m pc ls st0) rest (Qm D ad c3 A1 r σ' a) free) (hS : va_S A0 H0 H locs) (hA : ∀ q, q < H.size → A1 q → A0 q) (hf : ∀ q, free q → A0 q)
    (kk : ∀ (H1 : Heap) (locs1 : List Loc), va_P D cls (wv ad c3 σ') H1 → va_S A0 H0 H1 locs1 → W p l e R s m args below meth c H1 locs1 cells slots Q (F0 m (pc + 3) ls (r.toList ++ rest))) : W p l e R s m args below meth c H locs cells slots Q (F0 m pc ls st0) := by
  intro T hT X
  obtain ⟨v, st₀, t, T', L, h0, X', hL, e1, e2, ⟨⟨hv, hb⟩, hz, hk⟩, st⟩ := hr T hT X
  cases hv
  rw [h0] at hz hk
  obtain ⟨t2, a1, b1⟩ := kk T'.heap (locs ++ L) (by rw [e1]; exact hb)
    ⟨Nat.le_trans hS.1 (by rw [e1]; exact hz), fun q h1 h2 => by rw [e1, hk q (Nat.lt_of_lt_of_le h1 hS.1) (fun z => h2 (hA q (Nat.lt_of_lt_of_le h1 hS.1) z))]; exact hS.2.1 q h1 h2, fun q hq => by
      rcases List.mem_append.mp hq with h | h
      · exact hS.2.2 q h
      · exact hf _ (hL q h)⟩ T' rfl X'
  exact ⟨t2, st t2 a1, b1⟩
theorem wv_free {A : Nat → Prop} {ad : Nat → Nat} {c3 : C3} {σ : Sto} {H0 H : Heap} {locs : List Loc} (hD : va_D A (wv ad c3 σ)) (hS : va_S A H0 H locs) (hA : ∀ q, H0.size ≤ q → A q) : ∀ q, va_A (wv ad c3 σ) H.size q → A q := by
  intro q h
  rcases h with ⟨k, e, h⟩ | h
  · exact hD.2 k _ h
  · exact hA q (Nat.le_trans hS.1 h)
variable {φ : Fr} {ad : Nat → Nat} {cc : ByteArray} {ret : Option FieldType} {own : String} {n fr lo pc : Nat} {lv lv' : List (Nat × Value)} {st rest : List Value} {σ σ' : Sto}
variable {y : MethodName} {cy : ByteArray} {ny fy ly idx np : Nat} {ry : Option FieldType} {av : (Nat → Nat) → List Value} {r : (Nat → Nat) → Option Value}
abbrev PcOf (D : va_G) (ad : Nat → Nat) (c3 : C3) (sz : Nat) (av : List Value) (σ : Sto) : Array Value → State → Prop := va_Pc av (fun U => U.heap.size = sz ∧ va_P D cls (wv ad c3 σ) U.heap ∧ va_K D cls (tysOf c3) U ∧ va_D (fun _ => True) (wv ad c3 σ) ∧ Nst U)
theorem PcOf_blind {D : va_G} {c3 : C3} {sz : Nat} {av : List Value} : FrameBlind (PcOf D ad c3 sz av σ) := by
  intro a U g mk q
  obtain ⟨q0, q1, qP, qK, qD, qN⟩ := q
  exact ⟨q0, q1, qP, va_K.moved (u := U) (U := U.calling g mk a) (Vm.Alike.refl U.vm) qK, qD, fun a i y h hm => va_Nw.same (u := U) rfl rfl (qN a i y h hm)⟩
theorem PcOf_here {D : va_G} {c3 : C3} {s : State} {H : Heap} {A : Nat → Prop} {av : List Value} (hK : va_K D cls (tysOf c3) s) (hP : va_P D cls (wv ad c3 σ) H) (hD : va_D A (wv ad c3 σ)) (hN : Nst s) : ∀ U : State, U.heap = H → s.WarmedH U.vm → PcOf D ad c3 H.size av σ av.toArray U :=
  fun U hU hW => ⟨rfl, by rw [hU], by rw [hU]; exact hP, va_K.moved hW.alike hK, hD.weaken (fun _ _ _ _ => trivial), fun a i y h hm => va_Nw.warmM hW (hN a i y h hm)⟩
def CW (ws : List Cond) (y : MethodName) (np : Nat) : Prop := (∀ w ∈ ws, w ∈ lw_gd) ∧ (y.cls ≠ "java/lang/invoke/MethodHandle" ∧ y.cls ≠ "java/lang/invoke/VarHandle" ∧ (parseMethodDescriptor y.desc).map (fun d => d.parameters.length) = some np)
theorem good_code {ws : List Cond} {y : MethodName} (h : ∀ w ∈ ws, w ∈ lw_gd) (hc : Cond.code y cy ny ry ∈ ws) : GoodIn lw_gd (.code y cy ny ry :: lw_gd) :=
  lw_goodIn (fun w hw => (List.mem_cons.mp hw).elim (fun e => e ▸ h _ hc) (fun h => h))
theorem w_callV {k ci : Nat} {As : (Nat → Nat) → List Value} {T : u_T} {N : Nat} (X : Cx φ ad cc ret own n fr lo) (hd : decode cc pc = .ok (.invokevirtual idx, 3))
    (hC : Ct y cy ny ry fy ly (fun ad => .ref (ad k) :: As ad) σ r σ') (hk : kd k = ci) (hci : ci ≤ 9) (hcl : cls[ci]? = some (y.cls, T, N)) (hw : CW [.methodLink own idx y, .instanceMethod y, .selects y.cls y y, .initialized y.cls, .code y cy ny ry] y np) (hR : fy + 1 ≤ fr ∧ 8 + (ny + 11) + ly ≤ lo)
    (hnp : (As ad).length = np) (hst : st = (As ad).reverse ++ .ref (ad k) :: rest) (hW : (rest.map fun v => v.category).sum ≤ 8)
    (K : wpm φ ad (pc + 3) lv ((r ad).toList ++ rest) σ') : wpm φ ad pc lv st σ := by
  obtain ⟨⟨p, l, e, R, s, m, args, below⟩, ⟨meth, c, D, c3, A, H0⟩, ⟨nL, cells, slots, Q⟩⟩ := φ
  obtain ⟨hx, hb, hr, hml, hnl, hown, hts, hlk, hK, hD, hA, hfr, hlo, hce, hsl, hN⟩ := X
  subst hnl
  intro H locs ls hP hS hl
  have hG : GoodIn lw_gd (wsV own idx y.cls y (.code y cy ny ry :: lw_gd)) := lw_goodIn (fun w hw1 => by
    rcases List.mem_append.mp hw1 with h | h
    · refine hw.1 w ?_
      simp only [List.mem_cons, List.not_mem_nil, or_false] at h ⊢
      rcases h with h | h | h | h <;> simp [h]
    · rcases List.mem_cons.mp h with h | h
      · exact hw.1 w (by simp [h])
      · exact h)
  have hfree := wv_free (hD σ) hS hA
  refine w_after (a := (Value.ref (ad k) :: As ad).toArray) (va_runV (As := As ad) (rest := rest) (n := np) ⟨hx, hb, hml, hown, hts⟩ (hC l D c3 ad H.size) (cwV np hts hG rfl rfl rfl ⟨rfl, hw.2⟩ ⟨by show fy + 1 ≤ R.frames; omega, by show 8 + (ny + 11) + ly ≤ R.locals; omega⟩) ⟨PcOf_blind, va_recv hK hP hcl (wv_obj hk hci), PcOf_here hK hP (hD σ) hN⟩ rfl hnp hl.1 hst (lv_room hW) hd ⟨hce, hsl⟩) hS (fun q _ h => hfree q h) hfree (fun H1 locs1 hP1 hS1 => ?_)
  exact K H1 locs1 ls hP1 hS1 hl
theorem w_callS (X : Cx φ ad cc ret own n fr lo) (hd : decode cc pc = .ok (.invokestatic idx, 3))
    (hC : Ct y cy ny ry fy ly av σ r σ') (hy : y.cls = own) (hw : CW [.methodLink own idx y, .static y, .initialized own, .code y cy ny ry] y np) (hR : fy + 1 ≤ fr ∧ 8 + (ny + 11) + ly ≤ lo)
    (hnp : (av ad).length = np) (hst : st = (av ad).reverse ++ rest) (hW : (rest.map fun v => v.category).sum ≤ 8)
    (K : wpm φ ad (pc + 3) lv ((r ad).toList ++ rest) σ') : wpm φ ad pc lv st σ := by
  obtain ⟨⟨p, l, e, R, s, m, args, below⟩, ⟨meth, c, D, c3, A, H0⟩, ⟨nL, cells, slots, Q⟩⟩ := φ
  obtain ⟨hx, hb, hr, hml, hnl, hown, hts, hlk, hK, hD, hA, hfr, hlo, hce, hsl, hN⟩ := X
  subst hnl
  intro H locs ls hP hS hl
  have hG : GoodIn lw_gd (wsS own idx y (.code y cy ny ry :: lw_gd)) := lw_goodIn (fun w hw1 => by
    rcases List.mem_append.mp hw1 with h | h
    · refine hw.1 w ?_
      simp only [List.mem_cons, List.not_mem_nil, or_false] at h ⊢
      rcases h with h | h | h <;> simp [h]
    · rcases List.mem_cons.mp h with h | h
      · exact hw.1 w (by simp [h])
      · exact h)
  have hfree := wv_free (hD σ) hS hA
  refine w_after (a := (av ad).toArray) (va_runS (As := av ad) (rest := rest) (n := np) ⟨hx, hb, hml, hown, hts⟩ (hC l D c3 ad H.size) (cwS np hts hG rfl rfl rfl ⟨hy, hw.2⟩ ⟨by show fy + 1 ≤ R.frames; omega, by show 8 + (ny + 11) + ly ≤ R.locals; omega⟩) ⟨PcOf_blind, PcOf_here hK hP (hD σ) hN⟩ rfl hnp hl.1 hst (lv_room hW) hd ⟨hce, hsl⟩) hS (fun q _ h => hfree q h) hfree (fun H1 locs1 hP1 hS1 => ?_)
  exact K H1 locs1 ls hP1 hS1 hl
theorem w_callSN {host : String} (X : Cx φ ad cc ret own n fr lo) (hd : decode cc pc = .ok (.invokestatic idx, 3))
    (hC : Ct y cy ny ry fy ly av σ r σ') (hl0 : Cond.methodLinkNest own idx y host ∈ lw_tbl) (hw : CW [.static y, .initialized y.cls, .code y cy ny ry] y np) (hR : fy + 1 ≤ fr ∧ 8 + (ny + 11) + ly ≤ lo)
    (hnp : (av ad).length = np) (hst : st = (av ad).reverse ++ rest) (hW : (rest.map fun v => v.category).sum ≤ 8)
    (K : wpm φ ad (pc + 3) lv ((r ad).toList ++ rest) σ') : wpm φ ad pc lv st σ := by
  obtain ⟨⟨p, l, e, R, s, m, args, below⟩, ⟨meth, c, D, c3, A, H0⟩, ⟨nL, cells, slots, Q⟩⟩ := φ
  obtain ⟨hx, hb, hr, hml, hnl, hown, hts, hlk, hK, hD, hA, hfr, hlo, hce, hsl, hN⟩ := X
  subst hnl
  intro H locs ls hP hS hl
  have hG : GoodIn lw_gd (.code y cy ny ry :: lw_gd) := good_code hw.1 (by simp)
  have hfree := wv_free (hD σ) hS hA
  refine w_after (a := (av ad).toArray) (va_runSN (As := av ad) (rest := rest) (n := np) ⟨hx, hb, hml, hown, hts⟩ (hC l D c3 ad H.size) ⟨va_cnB np hts hG rfl rfl rfl (hN own idx y host hl0) (hts _ (hw.1 _ (by simp))) hw.2 ⟨by show fy + 1 ≤ R.frames; omega, by show 8 + (ny + 11) + ly ≤ R.locals; omega⟩, hts _ (hw.1 _ (by simp)), trivial⟩ ⟨PcOf_blind, PcOf_here hK hP (hD σ) hN⟩ rfl hnp hl.1 hst (lv_room hW) hd ⟨hce, hsl⟩) hS (fun q _ h => hfree q h) hfree (fun H1 locs1 hP1 hS1 => ?_)
  exact K H1 locs1 ls hP1 hS1 hl
theorem w_mmax {x y : Int32} (X : Cx φ ad cc ret own n fr lo) (hd : decode cc pc = .ok (.invokestatic idx, 3)) (hw : ∀ w ∈ [Cond.methodLink own idx Lib.Math.max.name, .static Lib.Math.max.name, .initialized "java/lang/Math", .code Lib.Math.max.name Lib.Math.max.code 2 (some .int)], w ∈ lw_gd) (hR : 1 ≤ fr ∧ (rest.map fun v => v.category).sum + 13 ≤ lo)
    (K : wpm φ ad (pc + 3) lv (.int (if x < y then y else x) :: rest) σ) : wpm φ ad pc lv (.int y :: .int x :: rest) σ := by
  obtain ⟨⟨p, l, e, R, s, m, args, below⟩, ⟨meth, c, D, c3, A, H0⟩, ⟨nL, cells, slots, Q⟩⟩ := φ
  obtain ⟨hx, hb, hr, hml, hnl, hown, hts, hlk, hK, hD, hA, hfr, hlo, hce, hsl, hN⟩ := X
  subst hnl
  intro H locs ls hP hS hl
  exact va_mmax hx hb (hml.trans hl.1.symm) hown (hts _ (hw _ (by simp))) (hts _ (hw _ (by simp))) (hts _ (hw _ (by simp))) (hts _ (hw _ (by simp))) (by omega) (by omega) hce hsl hd (K H locs ls hP hS hl)
theorem w_mmin {x y : Int32} (X : Cx φ ad cc ret own n fr lo) (hd : decode cc pc = .ok (.invokestatic idx, 3)) (hw : ∀ w ∈ [Cond.methodLink own idx Lib.Math.min.name, .static Lib.Math.min.name, .initialized "java/lang/Math", .code Lib.Math.min.name Lib.Math.min.code 2 (some .int)], w ∈ lw_gd) (hR : 1 ≤ fr ∧ (rest.map fun v => v.category).sum + 13 ≤ lo)
    (K : wpm φ ad (pc + 3) lv (.int (if y < x then y else x) :: rest) σ) : wpm φ ad pc lv (.int y :: .int x :: rest) σ := by
  obtain ⟨⟨p, l, e, R, s, m, args, below⟩, ⟨meth, c, D, c3, A, H0⟩, ⟨nL, cells, slots, Q⟩⟩ := φ
  obtain ⟨hx, hb, hr, hml, hnl, hown, hts, hlk, hK, hD, hA, hfr, hlo, hce, hsl, hN⟩ := X
  subst hnl
  intro H locs ls hP hS hl
  exact va_mmin hx hb (hml.trans hl.1.symm) hown (hts _ (hw _ (by simp))) (hts _ (hw _ (by simp))) (hts _ (hw _ (by simp))) (hts _ (hw _ (by simp))) (by omega) (by omega) hce hsl hd (K H locs ls hP hS hl)
/-- System.arraycopy(a, 0, b, 0, k), of ints -/
theorem w_copy {a b : Nat} {k : Int32} (X : Cx φ ad cc ret own n fr lo) (hd : decode cc pc = .ok (.invokestatic idx, 3)) (hw : ∀ w ∈ [Cond.methodLink own idx arraycopyName, .native arraycopyName, .static arraycopyName, .initialized "java/lang/System"], w ∈ lw_gd) (hR : 1 ≤ fr ∧ (rest.map fun v => v.category).sum + (nativeFrameWords "java/lang/System" "arraycopy" 5 + 11) ≤ lo)
    (ha : kd a = 10) (hb0 : kd b = 10) (h0 : ¬ k < 0) (h4 : k.toNatClampNeg ≤ ln a) (h5 : k.toNatClampNeg ≤ ln b)
    (K : wpm φ ad (pc + 3) lv rest (stC σ a b k.toNatClampNeg)) : wpm φ ad pc lv (.int k :: .int 0 :: .ref (ad b) :: .int 0 :: .ref (ad a) :: rest) σ := by
  obtain ⟨⟨p, l, e, R, s, m, args, below⟩, ⟨meth, c, D, c3, A, H0⟩, ⟨nL, cells, slots, Q⟩⟩ := φ
  obtain ⟨hx, hb, hr, hml, hnl, hown, hts, hlk, hK, hD, hA, hfr, hlo, hce, hsl, hN⟩ := X
  subst hnl
  intro H locs ls hP hS hl
  have z0 : (0 : Int32).toNatClampNeg = 0 := by decide
  refine va_copyi (D := D) hx hb (hml.trans hl.1.symm) hown (hts _ (hw _ (by simp))) (hts _ (hw _ (by simp))) (hts _ (hw _ (by simp))) (hts _ (hw _ (by simp))) hK hP (hD σ) hS a b 0 0 (wv_int ha) (wv_int hb0) rfl rfl rfl (by decide) (by decide) h0 (by rw [z0]; omega) (by rw [z0]; omega) (fun i _ => rfl) (by omega) (by omega) hd (fun H1 locs1 hP1 hD1 hS1 => ?_)
  rw [z0, wv_stC hb0] at hP1
  exact K H1 locs1 ls hP1 hS1 hl
end WC
end
