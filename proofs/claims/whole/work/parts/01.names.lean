-- ===== PART A: goes FIRST, ahead of the names: the tables' words, and 'selects' of the private methods out of them =====
/-- a private method of a class that the tables say can be made, by its rows of tables_1 -/
def lw_okq (q : MethodName × Nat) : Prop := (q.1.cls ≠ "java/lang/invoke/MethodHandle" ∧ q.1.cls ≠ "java/lang/invoke/VarHandle") ∧ Cond.instantiable q.1.cls q.2 ∈ tables_1 ∧ Cond.privateMethod q.1 ∈ tables_1 ∧ Cond.instanceMethod q.1 ∈ tables_1
theorem lw_p0 : lw_okq (⟨"ToyVillage$Scanner", "word", "()I"⟩, 5) := ⟨⟨by decide +kernel, by decide +kernel⟩, List.mem_of_getElem? (i := 51) (by decide +kernel), List.mem_of_getElem? (i := 436) (by decide +kernel), List.mem_of_getElem? (i := 437) (by decide +kernel)⟩
theorem lw_p1 : lw_okq (⟨"ToyVillage$Scanner", "variable", "()I"⟩, 5) := ⟨⟨by decide +kernel, by decide +kernel⟩, List.mem_of_getElem? (i := 51) (by decide +kernel), List.mem_of_getElem? (i := 440) (by decide +kernel), List.mem_of_getElem? (i := 441) (by decide +kernel)⟩
theorem lw_p2 : lw_okq (⟨"ToyVillage$Scanner", "spells", "(Ljava/lang/String;)Z"⟩, 5) := ⟨⟨by decide +kernel, by decide +kernel⟩, List.mem_of_getElem? (i := 51) (by decide +kernel), List.mem_of_getElem? (i := 445) (by decide +kernel), List.mem_of_getElem? (i := 446) (by decide +kernel)⟩
theorem lw_p3 : lw_okq (⟨"ToyVillage$Scanner", "keyword", "()I"⟩, 5) := ⟨⟨by decide +kernel, by decide +kernel⟩, List.mem_of_getElem? (i := 51) (by decide +kernel), List.mem_of_getElem? (i := 504) (by decide +kernel), List.mem_of_getElem? (i := 505) (by decide +kernel)⟩
theorem lw_p4 : lw_okq (⟨"ToyVillage$Scanner", "number", "()I"⟩, 5) := ⟨⟨by decide +kernel, by decide +kernel⟩, List.mem_of_getElem? (i := 51) (by decide +kernel), List.mem_of_getElem? (i := 517) (by decide +kernel), List.mem_of_getElem? (i := 518) (by decide +kernel)⟩
theorem lw_p5 : lw_okq (⟨"ToyVillage$Scanner", "sign", "(I)I"⟩, 5) := ⟨⟨by decide +kernel, by decide +kernel⟩, List.mem_of_getElem? (i := 51) (by decide +kernel), List.mem_of_getElem? (i := 521) (by decide +kernel), List.mem_of_getElem? (i := 522) (by decide +kernel)⟩
theorem lw_p6 : lw_okq (⟨"ToyVillage$Scanner", "tookEqualSign", "()Z"⟩, 5) := ⟨⟨by decide +kernel, by decide +kernel⟩, List.mem_of_getElem? (i := 51) (by decide +kernel), List.mem_of_getElem? (i := 525) (by decide +kernel), List.mem_of_getElem? (i := 526) (by decide +kernel)⟩
theorem lw_p7 : lw_okq (⟨"ToyVillage$Parser", "goesOnWith", "(I)Z"⟩, 4) := ⟨⟨by decide +kernel, by decide +kernel⟩, List.mem_of_getElem? (i := 45) (by decide +kernel), List.mem_of_getElem? (i := 529) (by decide +kernel), List.mem_of_getElem? (i := 530) (by decide +kernel)⟩
theorem lw_p8 : lw_okq (⟨"ToyVillage$Parser", "goesOnBehindSide", "(I)Z"⟩, 4) := ⟨⟨by decide +kernel, by decide +kernel⟩, List.mem_of_getElem? (i := 45) (by decide +kernel), List.mem_of_getElem? (i := 533) (by decide +kernel), List.mem_of_getElem? (i := 534) (by decide +kernel)⟩
theorem lw_p9 : lw_okq (⟨"ToyVillage$Parser", "lacksRoomFor", "(ILToyVillage$Rules;)Z"⟩, 4) := ⟨⟨by decide +kernel, by decide +kernel⟩, List.mem_of_getElem? (i := 45) (by decide +kernel), List.mem_of_getElem? (i := 537) (by decide +kernel), List.mem_of_getElem? (i := 538) (by decide +kernel)⟩
theorem lw_p10 : lw_okq (⟨"ToyVillage$Parser", "moveBehind", "(I)V"⟩, 4) := ⟨⟨by decide +kernel, by decide +kernel⟩, List.mem_of_getElem? (i := 45) (by decide +kernel), List.mem_of_getElem? (i := 549) (by decide +kernel), List.mem_of_getElem? (i := 550) (by decide +kernel)⟩
theorem lw_p11 : lw_okq (⟨"ToyVillage", "putDraftInForce", "()V"⟩, 14) := ⟨⟨by decide +kernel, by decide +kernel⟩, List.mem_of_getElem? (i := 21) (by decide +kernel), List.mem_of_getElem? (i := 553) (by decide +kernel), List.mem_of_getElem? (i := 554) (by decide +kernel)⟩
theorem lw_p12 : lw_okq (⟨"ToyVillage$Cutter", "leaveOut", "(I)V"⟩, 4) := ⟨⟨by decide +kernel, by decide +kernel⟩, List.mem_of_getElem? (i := 188) (by decide +kernel), List.mem_of_getElem? (i := 640) (by decide +kernel), List.mem_of_getElem? (i := 641) (by decide +kernel)⟩
theorem lw_p13 : lw_okq (⟨"ToyVillage$Cutter", "fits", "(IIIJ)Z"⟩, 4) := ⟨⟨by decide +kernel, by decide +kernel⟩, List.mem_of_getElem? (i := 188) (by decide +kernel), List.mem_of_getElem? (i := 644) (by decide +kernel), List.mem_of_getElem? (i := 645) (by decide +kernel)⟩
theorem lw_p14 : lw_okq (⟨"ToyVillage$Cutter", "tryRing", "(II)V"⟩, 4) := ⟨⟨by decide +kernel, by decide +kernel⟩, List.mem_of_getElem? (i := 188) (by decide +kernel), List.mem_of_getElem? (i := 648) (by decide +kernel), List.mem_of_getElem? (i := 649) (by decide +kernel)⟩
theorem lw_p15 : lw_okq (⟨"ToyVillage", "storeCutLog", "(I)I"⟩, 14) := ⟨⟨by decide +kernel, by decide +kernel⟩, List.mem_of_getElem? (i := 21) (by decide +kernel), List.mem_of_getElem? (i := 656) (by decide +kernel), List.mem_of_getElem? (i := 657) (by decide +kernel)⟩
def lw_privs_1 : List (MethodName × Nat) := [(⟨"ToyVillage$Scanner", "word", "()I"⟩, 5), (⟨"ToyVillage$Scanner", "variable", "()I"⟩, 5), (⟨"ToyVillage$Scanner", "spells", "(Ljava/lang/String;)Z"⟩, 5), (⟨"ToyVillage$Scanner", "keyword", "()I"⟩, 5), (⟨"ToyVillage$Scanner", "number", "()I"⟩, 5), (⟨"ToyVillage$Scanner", "sign", "(I)I"⟩, 5), (⟨"ToyVillage$Scanner", "tookEqualSign", "()Z"⟩, 5), (⟨"ToyVillage$Parser", "goesOnWith", "(I)Z"⟩, 4), (⟨"ToyVillage$Parser", "goesOnBehindSide", "(I)Z"⟩, 4), (⟨"ToyVillage$Parser", "lacksRoomFor", "(ILToyVillage$Rules;)Z"⟩, 4), (⟨"ToyVillage$Parser", "moveBehind", "(I)V"⟩, 4), (⟨"ToyVillage", "putDraftInForce", "()V"⟩, 14), (⟨"ToyVillage$Cutter", "leaveOut", "(I)V"⟩, 4), (⟨"ToyVillage$Cutter", "fits", "(IIIJ)Z"⟩, 4), (⟨"ToyVillage$Cutter", "tryRing", "(II)V"⟩, 4), (⟨"ToyVillage", "storeCutLog", "(I)I"⟩, 14)]
theorem lw_r1 : ∀ q ∈ lw_privs_1, lw_okq q := List.forall_mem_cons.mpr ⟨lw_p0, List.forall_mem_cons.mpr ⟨lw_p1, List.forall_mem_cons.mpr ⟨lw_p2, List.forall_mem_cons.mpr ⟨lw_p3, List.forall_mem_cons.mpr ⟨lw_p4, List.forall_mem_cons.mpr ⟨lw_p5, List.forall_mem_cons.mpr ⟨lw_p6, List.forall_mem_cons.mpr ⟨lw_p7, List.forall_mem_cons.mpr ⟨lw_p8, List.forall_mem_cons.mpr ⟨lw_p9, List.forall_mem_cons.mpr ⟨lw_p10, List.forall_mem_cons.mpr ⟨lw_p11, List.forall_mem_cons.mpr ⟨lw_p12, List.forall_mem_cons.mpr ⟨lw_p13, List.forall_mem_cons.mpr ⟨lw_p14, List.forall_mem_cons.mpr ⟨lw_p15, fun _ h => absurd h List.not_mem_nil⟩⟩⟩⟩⟩⟩⟩⟩⟩⟩⟩⟩⟩⟩⟩⟩
theorem lw_p16 : lw_okq (⟨"ToyVillage", "takerOf", "(I)I"⟩, 14) := ⟨⟨by decide +kernel, by decide +kernel⟩, List.mem_of_getElem? (i := 21) (by decide +kernel), List.mem_of_getElem? (i := 676) (by decide +kernel), List.mem_of_getElem? (i := 677) (by decide +kernel)⟩
theorem lw_p17 : lw_okq (⟨"ToyVillage", "tellFacts", "(II)V"⟩, 14) := ⟨⟨by decide +kernel, by decide +kernel⟩, List.mem_of_getElem? (i := 21) (by decide +kernel), List.mem_of_getElem? (i := 680) (by decide +kernel), List.mem_of_getElem? (i := 681) (by decide +kernel)⟩
theorem lw_p18 : lw_okq (⟨"ToyVillage$Rules", "takeToken", "()I"⟩, 8) := ⟨⟨by decide +kernel, by decide +kernel⟩, List.mem_of_getElem? (i := 89) (by decide +kernel), List.mem_of_getElem? (i := 692) (by decide +kernel), List.mem_of_getElem? (i := 693) (by decide +kernel)⟩
theorem lw_p19 : lw_okq (⟨"ToyVillage$Rules", "expression", "([I)I"⟩, 8) := ⟨⟨by decide +kernel, by decide +kernel⟩, List.mem_of_getElem? (i := 89) (by decide +kernel), List.mem_of_getElem? (i := 696) (by decide +kernel), List.mem_of_getElem? (i := 697) (by decide +kernel)⟩
theorem lw_p20 : lw_okq (⟨"ToyVillage$Rules", "beginSum", "(I)V"⟩, 8) := ⟨⟨by decide +kernel, by decide +kernel⟩, List.mem_of_getElem? (i := 89) (by decide +kernel), List.mem_of_getElem? (i := 700) (by decide +kernel), List.mem_of_getElem? (i := 701) (by decide +kernel)⟩
theorem lw_p21 : lw_okq (⟨"ToyVillage$Rules", "beginPart", "(II)V"⟩, 8) := ⟨⟨by decide +kernel, by decide +kernel⟩, List.mem_of_getElem? (i := 89) (by decide +kernel), List.mem_of_getElem? (i := 704) (by decide +kernel), List.mem_of_getElem? (i := 705) (by decide +kernel)⟩
theorem lw_p22 : lw_okq (⟨"ToyVillage$Rules", "factor", "(I[I)I"⟩, 8) := ⟨⟨by decide +kernel, by decide +kernel⟩, List.mem_of_getElem? (i := 89) (by decide +kernel), List.mem_of_getElem? (i := 717) (by decide +kernel), List.mem_of_getElem? (i := 718) (by decide +kernel)⟩
theorem lw_p23 : lw_okq (⟨"ToyVillage$Rules", "condition", "([I)Z"⟩, 8) := ⟨⟨by decide +kernel, by decide +kernel⟩, List.mem_of_getElem? (i := 89) (by decide +kernel), List.mem_of_getElem? (i := 721) (by decide +kernel), List.mem_of_getElem? (i := 722) (by decide +kernel)⟩
theorem lw_p24 : lw_okq (⟨"ToyVillage$Rules", "relation", "([I)Z"⟩, 8) := ⟨⟨by decide +kernel, by decide +kernel⟩, List.mem_of_getElem? (i := 89) (by decide +kernel), List.mem_of_getElem? (i := 725) (by decide +kernel), List.mem_of_getElem? (i := 726) (by decide +kernel)⟩
theorem lw_p25 : lw_okq (⟨"ToyVillage", "carve", "(II)V"⟩, 14) := ⟨⟨by decide +kernel, by decide +kernel⟩, List.mem_of_getElem? (i := 21) (by decide +kernel), List.mem_of_getElem? (i := 733) (by decide +kernel), List.mem_of_getElem? (i := 734) (by decide +kernel)⟩
theorem lw_p26 : lw_okq (⟨"ToyVillage$Boxing", "countSupply", "()V"⟩, 4) := ⟨⟨by decide +kernel, by decide +kernel⟩, List.mem_of_getElem? (i := 332) (by decide +kernel), List.mem_of_getElem? (i := 796) (by decide +kernel), List.mem_of_getElem? (i := 797) (by decide +kernel)⟩
theorem lw_p27 : lw_okq (⟨"ToyVillage$Boxing", "isAhead", "(II)Z"⟩, 4) := ⟨⟨by decide +kernel, by decide +kernel⟩, List.mem_of_getElem? (i := 332) (by decide +kernel), List.mem_of_getElem? (i := 818) (by decide +kernel), List.mem_of_getElem? (i := 819) (by decide +kernel)⟩
theorem lw_p28 : lw_okq (⟨"ToyVillage$Boxing", "canFill", "(I)Z"⟩, 4) := ⟨⟨by decide +kernel, by decide +kernel⟩, List.mem_of_getElem? (i := 332) (by decide +kernel), List.mem_of_getElem? (i := 835) (by decide +kernel), List.mem_of_getElem? (i := 836) (by decide +kernel)⟩
theorem lw_p29 : lw_okq (⟨"ToyVillage$Boxing", "countDemand", "(I)V"⟩, 4) := ⟨⟨by decide +kernel, by decide +kernel⟩, List.mem_of_getElem? (i := 332) (by decide +kernel), List.mem_of_getElem? (i := 839) (by decide +kernel), List.mem_of_getElem? (i := 840) (by decide +kernel)⟩
theorem lw_p30 : lw_okq (⟨"ToyVillage$Boxing", "fillNeeds", "(IZ)V"⟩, 4) := ⟨⟨by decide +kernel, by decide +kernel⟩, List.mem_of_getElem? (i := 332) (by decide +kernel), List.mem_of_getElem? (i := 852) (by decide +kernel), List.mem_of_getElem? (i := 853) (by decide +kernel)⟩
theorem lw_p31 : lw_okq (⟨"ToyVillage$Boxing", "fillNeed", "(II)V"⟩, 4) := ⟨⟨by decide +kernel, by decide +kernel⟩, List.mem_of_getElem? (i := 332) (by decide +kernel), List.mem_of_getElem? (i := 856) (by decide +kernel), List.mem_of_getElem? (i := 857) (by decide +kernel)⟩
def lw_privs_2 : List (MethodName × Nat) := [(⟨"ToyVillage", "takerOf", "(I)I"⟩, 14), (⟨"ToyVillage", "tellFacts", "(II)V"⟩, 14), (⟨"ToyVillage$Rules", "takeToken", "()I"⟩, 8), (⟨"ToyVillage$Rules", "expression", "([I)I"⟩, 8), (⟨"ToyVillage$Rules", "beginSum", "(I)V"⟩, 8), (⟨"ToyVillage$Rules", "beginPart", "(II)V"⟩, 8), (⟨"ToyVillage$Rules", "factor", "(I[I)I"⟩, 8), (⟨"ToyVillage$Rules", "condition", "([I)Z"⟩, 8), (⟨"ToyVillage$Rules", "relation", "([I)Z"⟩, 8), (⟨"ToyVillage", "carve", "(II)V"⟩, 14), (⟨"ToyVillage$Boxing", "countSupply", "()V"⟩, 4), (⟨"ToyVillage$Boxing", "isAhead", "(II)Z"⟩, 4), (⟨"ToyVillage$Boxing", "canFill", "(I)Z"⟩, 4), (⟨"ToyVillage$Boxing", "countDemand", "(I)V"⟩, 4), (⟨"ToyVillage$Boxing", "fillNeeds", "(IZ)V"⟩, 4), (⟨"ToyVillage$Boxing", "fillNeed", "(II)V"⟩, 4)]
theorem lw_r2 : ∀ q ∈ lw_privs_2, lw_okq q := List.forall_mem_cons.mpr ⟨lw_p16, List.forall_mem_cons.mpr ⟨lw_p17, List.forall_mem_cons.mpr ⟨lw_p18, List.forall_mem_cons.mpr ⟨lw_p19, List.forall_mem_cons.mpr ⟨lw_p20, List.forall_mem_cons.mpr ⟨lw_p21, List.forall_mem_cons.mpr ⟨lw_p22, List.forall_mem_cons.mpr ⟨lw_p23, List.forall_mem_cons.mpr ⟨lw_p24, List.forall_mem_cons.mpr ⟨lw_p25, List.forall_mem_cons.mpr ⟨lw_p26, List.forall_mem_cons.mpr ⟨lw_p27, List.forall_mem_cons.mpr ⟨lw_p28, List.forall_mem_cons.mpr ⟨lw_p29, List.forall_mem_cons.mpr ⟨lw_p30, List.forall_mem_cons.mpr ⟨lw_p31, fun _ h => absurd h List.not_mem_nil⟩⟩⟩⟩⟩⟩⟩⟩⟩⟩⟩⟩⟩⟩⟩⟩
theorem lw_p32 : lw_okq (⟨"ToyVillage", "payFor", "(I)V"⟩, 14) := ⟨⟨by decide +kernel, by decide +kernel⟩, List.mem_of_getElem? (i := 21) (by decide +kernel), List.mem_of_getElem? (i := 865) (by decide +kernel), List.mem_of_getElem? (i := 866) (by decide +kernel)⟩
theorem lw_p33 : lw_okq (⟨"ToyVillage", "unbox", "(I)V"⟩, 14) := ⟨⟨by decide +kernel, by decide +kernel⟩, List.mem_of_getElem? (i := 21) (by decide +kernel), List.mem_of_getElem? (i := 880) (by decide +kernel), List.mem_of_getElem? (i := 881) (by decide +kernel)⟩
theorem lw_p34 : lw_okq (⟨"ToyVillageModel", "put", "(I)V"⟩, 85) := ⟨⟨by decide +kernel, by decide +kernel⟩, List.mem_of_getElem? (i := 946) (by decide +kernel), List.mem_of_getElem? (i := 1217) (by decide +kernel), List.mem_of_getElem? (i := 1218) (by decide +kernel)⟩
theorem lw_p35 : lw_okq (⟨"ToyVillageModel", "cut", "()V"⟩, 85) := ⟨⟨by decide +kernel, by decide +kernel⟩, List.mem_of_getElem? (i := 946) (by decide +kernel), List.mem_of_getElem? (i := 1229) (by decide +kernel), List.mem_of_getElem? (i := 1230) (by decide +kernel)⟩
theorem lw_p36 : lw_okq (⟨"ToyVillageModel", "at", "(I)I"⟩, 85) := ⟨⟨by decide +kernel, by decide +kernel⟩, List.mem_of_getElem? (i := 946) (by decide +kernel), List.mem_of_getElem? (i := 1233) (by decide +kernel), List.mem_of_getElem? (i := 1234) (by decide +kernel)⟩
theorem lw_p37 : lw_okq (⟨"ToyVillageModel", "token", "(IIIJ)V"⟩, 85) := ⟨⟨by decide +kernel, by decide +kernel⟩, List.mem_of_getElem? (i := 946) (by decide +kernel), List.mem_of_getElem? (i := 1237) (by decide +kernel), List.mem_of_getElem? (i := 1238) (by decide +kernel)⟩
theorem lw_p38 : lw_okq (⟨"ToyVillageModel", "sign", "(III)I"⟩, 85) := ⟨⟨by decide +kernel, by decide +kernel⟩, List.mem_of_getElem? (i := 946) (by decide +kernel), List.mem_of_getElem? (i := 1247) (by decide +kernel), List.mem_of_getElem? (i := 1248) (by decide +kernel)⟩
theorem lw_p39 : lw_okq (⟨"ToyVillageModel", "is", "(I)Z"⟩, 85) := ⟨⟨by decide +kernel, by decide +kernel⟩, List.mem_of_getElem? (i := 946) (by decide +kernel), List.mem_of_getElem? (i := 1251) (by decide +kernel), List.mem_of_getElem? (i := 1252) (by decide +kernel)⟩
theorem lw_p40 : lw_okq (⟨"ToyVillageModel", "tellRule", "()V"⟩, 85) := ⟨⟨by decide +kernel, by decide +kernel⟩, List.mem_of_getElem? (i := 946) (by decide +kernel), List.mem_of_getElem? (i := 1255) (by decide +kernel), List.mem_of_getElem? (i := 1256) (by decide +kernel)⟩
theorem lw_p41 : lw_okq (⟨"ToyVillageModel", "fail", "(I)V"⟩, 85) := ⟨⟨by decide +kernel, by decide +kernel⟩, List.mem_of_getElem? (i := 946) (by decide +kernel), List.mem_of_getElem? (i := 1259) (by decide +kernel), List.mem_of_getElem? (i := 1260) (by decide +kernel)⟩
theorem lw_p42 : lw_okq (⟨"ToyVillageModel", "next", "()V"⟩, 85) := ⟨⟨by decide +kernel, by decide +kernel⟩, List.mem_of_getElem? (i := 946) (by decide +kernel), List.mem_of_getElem? (i := 1263) (by decide +kernel), List.mem_of_getElem? (i := 1264) (by decide +kernel)⟩
theorem lw_p43 : lw_okq (⟨"ToyVillageModel", "expression", "()V"⟩, 85) := ⟨⟨by decide +kernel, by decide +kernel⟩, List.mem_of_getElem? (i := 946) (by decide +kernel), List.mem_of_getElem? (i := 1267) (by decide +kernel), List.mem_of_getElem? (i := 1268) (by decide +kernel)⟩
theorem lw_p44 : lw_okq (⟨"ToyVillageModel", "emit", "(II)V"⟩, 85) := ⟨⟨by decide +kernel, by decide +kernel⟩, List.mem_of_getElem? (i := 946) (by decide +kernel), List.mem_of_getElem? (i := 1271) (by decide +kernel), List.mem_of_getElem? (i := 1272) (by decide +kernel)⟩
theorem lw_p45 : lw_okq (⟨"ToyVillageModel", "comesOut", "(Z)V"⟩, 85) := ⟨⟨by decide +kernel, by decide +kernel⟩, List.mem_of_getElem? (i := 946) (by decide +kernel), List.mem_of_getElem? (i := 1275) (by decide +kernel), List.mem_of_getElem? (i := 1276) (by decide +kernel)⟩
theorem lw_p46 : lw_okq (⟨"ToyVillageModel", "relation", "(Z)V"⟩, 85) := ⟨⟨by decide +kernel, by decide +kernel⟩, List.mem_of_getElem? (i := 946) (by decide +kernel), List.mem_of_getElem? (i := 1279) (by decide +kernel), List.mem_of_getElem? (i := 1280) (by decide +kernel)⟩
theorem lw_p47 : lw_okq (⟨"ToyVillageModel", "must", "(I)V"⟩, 85) := ⟨⟨by decide +kernel, by decide +kernel⟩, List.mem_of_getElem? (i := 946) (by decide +kernel), List.mem_of_getElem? (i := 1283) (by decide +kernel), List.mem_of_getElem? (i := 1284) (by decide +kernel)⟩
def lw_privs_3 : List (MethodName × Nat) := [(⟨"ToyVillage", "payFor", "(I)V"⟩, 14), (⟨"ToyVillage", "unbox", "(I)V"⟩, 14), (⟨"ToyVillageModel", "put", "(I)V"⟩, 85), (⟨"ToyVillageModel", "cut", "()V"⟩, 85), (⟨"ToyVillageModel", "at", "(I)I"⟩, 85), (⟨"ToyVillageModel", "token", "(IIIJ)V"⟩, 85), (⟨"ToyVillageModel", "sign", "(III)I"⟩, 85), (⟨"ToyVillageModel", "is", "(I)Z"⟩, 85), (⟨"ToyVillageModel", "tellRule", "()V"⟩, 85), (⟨"ToyVillageModel", "fail", "(I)V"⟩, 85), (⟨"ToyVillageModel", "next", "()V"⟩, 85), (⟨"ToyVillageModel", "expression", "()V"⟩, 85), (⟨"ToyVillageModel", "emit", "(II)V"⟩, 85), (⟨"ToyVillageModel", "comesOut", "(Z)V"⟩, 85), (⟨"ToyVillageModel", "relation", "(Z)V"⟩, 85), (⟨"ToyVillageModel", "must", "(I)V"⟩, 85)]
theorem lw_r3 : ∀ q ∈ lw_privs_3, lw_okq q := List.forall_mem_cons.mpr ⟨lw_p32, List.forall_mem_cons.mpr ⟨lw_p33, List.forall_mem_cons.mpr ⟨lw_p34, List.forall_mem_cons.mpr ⟨lw_p35, List.forall_mem_cons.mpr ⟨lw_p36, List.forall_mem_cons.mpr ⟨lw_p37, List.forall_mem_cons.mpr ⟨lw_p38, List.forall_mem_cons.mpr ⟨lw_p39, List.forall_mem_cons.mpr ⟨lw_p40, List.forall_mem_cons.mpr ⟨lw_p41, List.forall_mem_cons.mpr ⟨lw_p42, List.forall_mem_cons.mpr ⟨lw_p43, List.forall_mem_cons.mpr ⟨lw_p44, List.forall_mem_cons.mpr ⟨lw_p45, List.forall_mem_cons.mpr ⟨lw_p46, List.forall_mem_cons.mpr ⟨lw_p47, fun _ h => absurd h List.not_mem_nil⟩⟩⟩⟩⟩⟩⟩⟩⟩⟩⟩⟩⟩⟩⟩⟩
theorem lw_p48 : lw_okq (⟨"ToyVillageModel", "isFamily", "(I)Z"⟩, 85) := ⟨⟨by decide +kernel, by decide +kernel⟩, List.mem_of_getElem? (i := 946) (by decide +kernel), List.mem_of_getElem? (i := 1303) (by decide +kernel), List.mem_of_getElem? (i := 1304) (by decide +kernel)⟩
theorem lw_p49 : lw_okq (⟨"ToyVillageModel", "isKind", "(I)Z"⟩, 85) := ⟨⟨by decide +kernel, by decide +kernel⟩, List.mem_of_getElem? (i := 946) (by decide +kernel), List.mem_of_getElem? (i := 1307) (by decide +kernel), List.mem_of_getElem? (i := 1308) (by decide +kernel)⟩
theorem lw_p50 : lw_okq (⟨"ToyVillageModel", "mayCarve", "(III)Z"⟩, 85) := ⟨⟨by decide +kernel, by decide +kernel⟩, List.mem_of_getElem? (i := 946) (by decide +kernel), List.mem_of_getElem? (i := 1319) (by decide +kernel), List.mem_of_getElem? (i := 1320) (by decide +kernel)⟩
theorem lw_p51 : lw_okq (⟨"ToyVillageModel", "isBarred", "(II)Z"⟩, 85) := ⟨⟨by decide +kernel, by decide +kernel⟩, List.mem_of_getElem? (i := 946) (by decide +kernel), List.mem_of_getElem? (i := 1339) (by decide +kernel), List.mem_of_getElem? (i := 1340) (by decide +kernel)⟩
theorem lw_p52 : lw_okq (⟨"ToyVillageModel", "asks", "(II)V"⟩, 85) := ⟨⟨by decide +kernel, by decide +kernel⟩, List.mem_of_getElem? (i := 946) (by decide +kernel), List.mem_of_getElem? (i := 1343) (by decide +kernel), List.mem_of_getElem? (i := 1344) (by decide +kernel)⟩
theorem lw_p53 : lw_okq (⟨"ToyVillageModel", "holds", "(I)Z"⟩, 85) := ⟨⟨by decide +kernel, by decide +kernel⟩, List.mem_of_getElem? (i := 946) (by decide +kernel), List.mem_of_getElem? (i := 1347) (by decide +kernel), List.mem_of_getElem? (i := 1348) (by decide +kernel)⟩
theorem lw_p54 : lw_okq (⟨"ToyVillageModel", "value", "(II)I"⟩, 85) := ⟨⟨by decide +kernel, by decide +kernel⟩, List.mem_of_getElem? (i := 946) (by decide +kernel), List.mem_of_getElem? (i := 1351) (by decide +kernel), List.mem_of_getElem? (i := 1352) (by decide +kernel)⟩
theorem lw_p55 : lw_okq (⟨"ToyVillageModel", "says", "(III)I"⟩, 85) := ⟨⟨by decide +kernel, by decide +kernel⟩, List.mem_of_getElem? (i := 946) (by decide +kernel), List.mem_of_getElem? (i := 1355) (by decide +kernel), List.mem_of_getElem? (i := 1356) (by decide +kernel)⟩
theorem lw_p56 : lw_okq (⟨"ToyVillageModel", "isFigure", "(I)Z"⟩, 85) := ⟨⟨by decide +kernel, by decide +kernel⟩, List.mem_of_getElem? (i := 946) (by decide +kernel), List.mem_of_getElem? (i := 1367) (by decide +kernel), List.mem_of_getElem? (i := 1368) (by decide +kernel)⟩
theorem lw_p57 : lw_okq (⟨"ToyVillageModel", "isOrder", "(I)Z"⟩, 85) := ⟨⟨by decide +kernel, by decide +kernel⟩, List.mem_of_getElem? (i := 946) (by decide +kernel), List.mem_of_getElem? (i := 1379) (by decide +kernel), List.mem_of_getElem? (i := 1380) (by decide +kernel)⟩
theorem lw_p58 : lw_okq (⟨"ToyVillageModel", "counts", "()V"⟩, 85) := ⟨⟨by decide +kernel, by decide +kernel⟩, List.mem_of_getElem? (i := 946) (by decide +kernel), List.mem_of_getElem? (i := 1387) (by decide +kernel), List.mem_of_getElem? (i := 1388) (by decide +kernel)⟩
theorem lw_p59 : lw_okq (⟨"ToyVillageModel", "kindOf", "(I)I"⟩, 85) := ⟨⟨by decide +kernel, by decide +kernel⟩, List.mem_of_getElem? (i := 946) (by decide +kernel), List.mem_of_getElem? (i := 1391) (by decide +kernel), List.mem_of_getElem? (i := 1392) (by decide +kernel)⟩
theorem lw_p60 : lw_okq (⟨"ToyVillageModel", "colourOf", "(I)I"⟩, 85) := ⟨⟨by decide +kernel, by decide +kernel⟩, List.mem_of_getElem? (i := 946) (by decide +kernel), List.mem_of_getElem? (i := 1395) (by decide +kernel), List.mem_of_getElem? (i := 1396) (by decide +kernel)⟩
theorem lw_p61 : lw_okq (⟨"ToyVillageModel", "isAhead", "(II)Z"⟩, 85) := ⟨⟨by decide +kernel, by decide +kernel⟩, List.mem_of_getElem? (i := 946) (by decide +kernel), List.mem_of_getElem? (i := 1399) (by decide +kernel), List.mem_of_getElem? (i := 1400) (by decide +kernel)⟩
theorem lw_p62 : lw_okq (⟨"ToyVillageModel", "worthOf", "(I)I"⟩, 85) := ⟨⟨by decide +kernel, by decide +kernel⟩, List.mem_of_getElem? (i := 946) (by decide +kernel), List.mem_of_getElem? (i := 1403) (by decide +kernel), List.mem_of_getElem? (i := 1404) (by decide +kernel)⟩
theorem lw_p63 : lw_okq (⟨"ToyVillageModel", "fills", "(I)Z"⟩, 85) := ⟨⟨by decide +kernel, by decide +kernel⟩, List.mem_of_getElem? (i := 946) (by decide +kernel), List.mem_of_getElem? (i := 1410) (by decide +kernel), List.mem_of_getElem? (i := 1411) (by decide +kernel)⟩
def lw_privs_4 : List (MethodName × Nat) := [(⟨"ToyVillageModel", "isFamily", "(I)Z"⟩, 85), (⟨"ToyVillageModel", "isKind", "(I)Z"⟩, 85), (⟨"ToyVillageModel", "mayCarve", "(III)Z"⟩, 85), (⟨"ToyVillageModel", "isBarred", "(II)Z"⟩, 85), (⟨"ToyVillageModel", "asks", "(II)V"⟩, 85), (⟨"ToyVillageModel", "holds", "(I)Z"⟩, 85), (⟨"ToyVillageModel", "value", "(II)I"⟩, 85), (⟨"ToyVillageModel", "says", "(III)I"⟩, 85), (⟨"ToyVillageModel", "isFigure", "(I)Z"⟩, 85), (⟨"ToyVillageModel", "isOrder", "(I)Z"⟩, 85), (⟨"ToyVillageModel", "counts", "()V"⟩, 85), (⟨"ToyVillageModel", "kindOf", "(I)I"⟩, 85), (⟨"ToyVillageModel", "colourOf", "(I)I"⟩, 85), (⟨"ToyVillageModel", "isAhead", "(II)Z"⟩, 85), (⟨"ToyVillageModel", "worthOf", "(I)I"⟩, 85), (⟨"ToyVillageModel", "fills", "(I)Z"⟩, 85)]
theorem lw_r4 : ∀ q ∈ lw_privs_4, lw_okq q := List.forall_mem_cons.mpr ⟨lw_p48, List.forall_mem_cons.mpr ⟨lw_p49, List.forall_mem_cons.mpr ⟨lw_p50, List.forall_mem_cons.mpr ⟨lw_p51, List.forall_mem_cons.mpr ⟨lw_p52, List.forall_mem_cons.mpr ⟨lw_p53, List.forall_mem_cons.mpr ⟨lw_p54, List.forall_mem_cons.mpr ⟨lw_p55, List.forall_mem_cons.mpr ⟨lw_p56, List.forall_mem_cons.mpr ⟨lw_p57, List.forall_mem_cons.mpr ⟨lw_p58, List.forall_mem_cons.mpr ⟨lw_p59, List.forall_mem_cons.mpr ⟨lw_p60, List.forall_mem_cons.mpr ⟨lw_p61, List.forall_mem_cons.mpr ⟨lw_p62, List.forall_mem_cons.mpr ⟨lw_p63, fun _ h => absurd h List.not_mem_nil⟩⟩⟩⟩⟩⟩⟩⟩⟩⟩⟩⟩⟩⟩⟩⟩
theorem lw_p64 : lw_okq (⟨"ToyVillageModel", "takesOf", "(III)Z"⟩, 85) := ⟨⟨by decide +kernel, by decide +kernel⟩, List.mem_of_getElem? (i := 946) (by decide +kernel), List.mem_of_getElem? (i := 1414) (by decide +kernel), List.mem_of_getElem? (i := 1415) (by decide +kernel)⟩
theorem lw_p65 : lw_okq (⟨"ToyVillageModel", "packs", "(II)V"⟩, 85) := ⟨⟨by decide +kernel, by decide +kernel⟩, List.mem_of_getElem? (i := 946) (by decide +kernel), List.mem_of_getElem? (i := 1418) (by decide +kernel), List.mem_of_getElem? (i := 1419) (by decide +kernel)⟩
def lw_privs_5 : List (MethodName × Nat) := [(⟨"ToyVillageModel", "takesOf", "(III)Z"⟩, 85), (⟨"ToyVillageModel", "packs", "(II)V"⟩, 85)]
theorem lw_r5 : ∀ q ∈ lw_privs_5, lw_okq q := List.forall_mem_cons.mpr ⟨lw_p64, List.forall_mem_cons.mpr ⟨lw_p65, fun _ h => absurd h List.not_mem_nil⟩⟩
def lw_privs : List (MethodName × Nat) := lw_privs_1 ++ (lw_privs_2 ++ (lw_privs_3 ++ (lw_privs_4 ++ (lw_privs_5))))
def lw_tbl : List Cond := k2_sels lw_privs ++ tables_1
theorem lw_privs_ok : ∀ q ∈ lw_privs, lw_okq q := by
  show ∀ q ∈ lw_privs_1 ++ (lw_privs_2 ++ (lw_privs_3 ++ (lw_privs_4 ++ (lw_privs_5)))), lw_okq q
  exact List.forall_mem_append.mpr ⟨lw_r1, List.forall_mem_append.mpr ⟨lw_r2, List.forall_mem_append.mpr ⟨lw_r3, List.forall_mem_append.mpr ⟨lw_r4, lw_r5⟩⟩⟩⟩
def RX0 : String := "ToyVillage$Boxing"
def TX0 : u_T := fun k => match k with
  | 0 => ("ToyVillage$Boxing", "orders", "LToyVillage$Orders;", true)
  | 1 => ("ToyVillage$Boxing", "figures", "LToyVillage$Figures;", true)
  | 2 => ("ToyVillage$Boxing", "supply", "[I", true)
  | _ => ("ToyVillage$Boxing", "demand", "[I", true)
def tyX0 : Nat → FieldType := fun k => match k with
  | 0 => .object "ToyVillage$Orders"
  | 1 => .object "ToyVillage$Figures"
  | 2 => .array .int
  | _ => .array .int
abbrev wsX00 : List Cond := u_ws RX0 TX0 4
theorem nmX0 : ∀ a, a < 4 → ∀ b, b < 4 → a ≠ b → (TX0 a).2.1 ≠ (TX0 b).2.1 := by decide +kernel
theorem tyX0_ok : ∀ k, k < 4 → parseFieldDescriptor (TX0 k).2.2.1 = some (tyX0 k) := by decide +kernel
abbrev cX0_init : ByteArray := prog_2_method_1_code
def yX0_init : MethodName := ⟨RX0, "<init>", "(LToyVillage$Orders;LToyVillage$Figures;)V"⟩
abbrev cX0_bestSet : ByteArray := prog_2_method_2_code
def yX0_bestSet : MethodName := ⟨RX0, "bestSet", "()I"⟩
abbrev cX0_fill : ByteArray := prog_2_method_3_code
def yX0_fill : MethodName := ⟨RX0, "fill", "(I)V"⟩
abbrev cX0_countSupply : ByteArray := prog_2_method_4_code
def yX0_countSupply : MethodName := ⟨RX0, "countSupply", "()V"⟩
abbrev cX0_isAhead : ByteArray := prog_2_method_5_code
def yX0_isAhead : MethodName := ⟨RX0, "isAhead", "(II)Z"⟩
abbrev cX0_canFill : ByteArray := prog_2_method_6_code
def yX0_canFill : MethodName := ⟨RX0, "canFill", "(I)Z"⟩
abbrev cX0_countDemand : ByteArray := prog_2_method_7_code
def yX0_countDemand : MethodName := ⟨RX0, "countDemand", "(I)V"⟩
abbrev cX0_fillNeeds : ByteArray := prog_2_method_8_code
def yX0_fillNeeds : MethodName := ⟨RX0, "fillNeeds", "(IZ)V"⟩
abbrev cX0_fillNeed : ByteArray := prog_2_method_9_code
def yX0_fillNeed : MethodName := ⟨RX0, "fillNeed", "(II)V"⟩
abbrev cX0_row : ByteArray := prog_2_method_10_code
def yX0_row : MethodName := ⟨RX0, "row", "(II)I"⟩
abbrev cX0_clear : ByteArray := prog_2_method_11_code
def yX0_clear : MethodName := ⟨RX0, "clear", "([I)V"⟩
def RX1 : String := "ToyVillage$Cutter"
def TX1 : u_T := fun k => match k with
  | 0 => ("ToyVillage$Cutter", "kinds", "LToyVillage$Kinds;", true)
  | 1 => ("ToyVillage$Cutter", "bestWorth", "[I", true)
  | 2 => ("ToyVillage$Cutter", "fewestRings", "[I", true)
  | _ => ("ToyVillage$Cutter", "choice", "[I", true)
def tyX1 : Nat → FieldType := fun k => match k with
  | 0 => .object "ToyVillage$Kinds"
  | 1 => .array .int
  | 2 => .array .int
  | _ => .array .int
abbrev wsX10 : List Cond := u_ws RX1 TX1 4
theorem nmX1 : ∀ a, a < 4 → ∀ b, b < 4 → a ≠ b → (TX1 a).2.1 ≠ (TX1 b).2.1 := by decide +kernel
theorem tyX1_ok : ∀ k, k < 4 → parseFieldDescriptor (TX1 k).2.2.1 = some (tyX1 k) := by decide +kernel
abbrev cX1_init : ByteArray := prog_3_method_1_code
def yX1_init : MethodName := ⟨RX1, "<init>", "(LToyVillage$Kinds;)V"⟩
abbrev cX1_cut : ByteArray := prog_3_method_2_code
def yX1_cut : MethodName := ⟨RX1, "cut", "(IJI)V"⟩
abbrev cX1_ringsOfBest : ByteArray := prog_3_method_3_code
def yX1_ringsOfBest : MethodName := ⟨RX1, "ringsOfBest", "()I"⟩
abbrev cX1_choiceAt : ByteArray := prog_3_method_4_code
def yX1_choiceAt : MethodName := ⟨RX1, "choiceAt", "(I)I"⟩
abbrev cX1_fits : ByteArray := prog_3_method_5_code
def yX1_fits : MethodName := ⟨RX1, "fits", "(IIIJ)Z"⟩
abbrev cX1_leaveOut : ByteArray := prog_3_method_6_code
def yX1_leaveOut : MethodName := ⟨RX1, "leaveOut", "(I)V"⟩
abbrev cX1_tryRing : ByteArray := prog_3_method_7_code
def yX1_tryRing : MethodName := ⟨RX1, "tryRing", "(II)V"⟩
def RX2 : String := "ToyVillage$Families"
def TX2 : u_T := fun k => match k with
  | 0 => ("ToyVillage$Families", "count", "I", false)
  | 1 => ("ToyVillage$Families", "hands", "[I", true)
  | 2 => ("ToyVillage$Families", "widow", "[Z", true)
  | 3 => ("ToyVillage$Families", "money", "[I", true)
  | 4 => ("ToyVillage$Families", "owned", "[Z", true)
  | 5 => ("ToyVillage$Families", "lentSeasons", "[J", true)
  | 6 => ("ToyVillage$Families", "lendings", "I", false)
  | _ => ("ToyVillage$Families", "carved", "[I", true)
def tyX2 : Nat → FieldType := fun k => match k with
  | 0 => .int
  | 1 => .array .int
  | 2 => .array .boolean
  | 3 => .array .int
  | 4 => .array .boolean
  | 5 => .array .long
  | 6 => .int
  | _ => .array .int
abbrev wsX20 : List Cond := u_ws RX2 TX2 8
theorem nmX2 : ∀ a, a < 8 → ∀ b, b < 8 → a ≠ b → (TX2 a).2.1 ≠ (TX2 b).2.1 := by decide +kernel
theorem tyX2_ok : ∀ k, k < 8 → parseFieldDescriptor (TX2 k).2.2.1 = some (tyX2 k) := by decide +kernel
abbrev cX2_init : ByteArray := prog_4_method_1_code
def yX2_init : MethodName := ⟨RX2, "<init>", "()V"⟩
abbrev cX2_has : ByteArray := prog_4_method_2_code
def yX2_has : MethodName := ⟨RX2, "has", "(I)Z"⟩
abbrev cX2_add : ByteArray := prog_4_method_3_code
def yX2_add : MethodName := ⟨RX2, "add", "(IZ)I"⟩
abbrev cX2_owns : ByteArray := prog_4_method_4_code
def yX2_owns : MethodName := ⟨RX2, "owns", "(II)Z"⟩
abbrev cX2_makeOwner : ByteArray := prog_4_method_5_code
def yX2_makeOwner : MethodName := ⟨RX2, "makeOwner", "(II)V"⟩
abbrev cX2_addLending : ByteArray := prog_4_method_6_code
def yX2_addLending : MethodName := ⟨RX2, "addLending", "(IIII)Z"⟩
abbrev cX2_mayCarve : ByteArray := prog_4_method_7_code
def yX2_mayCarve : MethodName := ⟨RX2, "mayCarve", "(III)Z"⟩
abbrev cX2_carvable : ByteArray := prog_4_method_8_code
def yX2_carvable : MethodName := ⟨RX2, "carvable", "(I)I"⟩
abbrev cX2_carvedIn : ByteArray := prog_4_method_9_code
def yX2_carvedIn : MethodName := ⟨RX2, "carvedIn", "(II)I"⟩
abbrev cX2_addCarved : ByteArray := prog_4_method_10_code
def yX2_addCarved : MethodName := ⟨RX2, "addCarved", "(III)V"⟩
def RX3 : String := "ToyVillage$Figures"
def TX3 : u_T := fun k => match k with
  | 0 => ("ToyVillage$Figures", "rings", "LToyVillage$Rings;", true)
  | 1 => ("ToyVillage$Figures", "count", "I", false)
  | 2 => ("ToyVillage$Figures", "ring", "[I", true)
  | 3 => ("ToyVillage$Figures", "season", "[I", true)
  | 4 => ("ToyVillage$Figures", "lot", "[I", true)
  | 5 => ("ToyVillage$Figures", "order", "[I", true)
  | 6 => ("ToyVillage$Figures", "pay", "[I", true)
  | 7 => ("ToyVillage$Figures", "lots", "I", false)
  | _ => ("ToyVillage$Figures", "colour", "[I", true)
def tyX3 : Nat → FieldType := fun k => match k with
  | 0 => .object "ToyVillage$Rings"
  | 1 => .int
  | 2 => .array .int
  | 3 => .array .int
  | 4 => .array .int
  | 5 => .array .int
  | 6 => .array .int
  | 7 => .int
  | _ => .array .int
abbrev wsX30 : List Cond := u_ws RX3 TX3 9
theorem nmX3 : ∀ a, a < 9 → ∀ b, b < 9 → a ≠ b → (TX3 a).2.1 ≠ (TX3 b).2.1 := by decide +kernel
theorem tyX3_ok : ∀ k, k < 9 → parseFieldDescriptor (TX3 k).2.2.1 = some (tyX3 k) := by decide +kernel
abbrev cX3_init : ByteArray := prog_5_method_1_code
def yX3_init : MethodName := ⟨RX3, "<init>", "(LToyVillage$Rings;)V"⟩
abbrev cX3_has : ByteArray := prog_5_method_2_code
def yX3_has : MethodName := ⟨RX3, "has", "(I)Z"⟩
abbrev cX3_add : ByteArray := prog_5_method_3_code
def yX3_add : MethodName := ⟨RX3, "add", "(II)V"⟩
abbrev cX3_kindOf : ByteArray := prog_5_method_4_code
def yX3_kindOf : MethodName := ⟨RX3, "kindOf", "(I)I"⟩
abbrev cX3_familyOf : ByteArray := prog_5_method_5_code
def yX3_familyOf : MethodName := ⟨RX3, "familyOf", "(I)I"⟩
abbrev cX3_colourOf : ByteArray := prog_5_method_6_code
def yX3_colourOf : MethodName := ⟨RX3, "colourOf", "(I)I"⟩
abbrev cX3_isFree : ByteArray := prog_5_method_7_code
def yX3_isFree : MethodName := ⟨RX3, "isFree", "(II)Z"⟩
abbrev cX3_boxed : ByteArray := prog_5_method_8_code
def yX3_boxed : MethodName := ⟨RX3, "boxed", "()I"⟩
abbrev cX3_hasLot : ByteArray := prog_5_method_9_code
def yX3_hasLot : MethodName := ⟨RX3, "hasLot", "(I)Z"⟩
abbrev cX3_addLot : ByteArray := prog_5_method_10_code
def yX3_addLot : MethodName := ⟨RX3, "addLot", "(I)I"⟩
abbrev cX3_isLotInBoxOf : ByteArray := prog_5_method_11_code
def yX3_isLotInBoxOf : MethodName := ⟨RX3, "isLotInBoxOf", "(II)Z"⟩
def RX4 : String := "ToyVillage$Kinds"
def TX4 : u_T := fun k => match k with
  | 0 => ("ToyVillage$Kinds", "count", "I", false)
  | 1 => ("ToyVillage$Kinds", "width", "[I", true)
  | 2 => ("ToyVillage$Kinds", "slices", "[I", true)
  | _ => ("ToyVillage$Kinds", "worth", "[I", true)
def tyX4 : Nat → FieldType := fun k => match k with
  | 0 => .int
  | 1 => .array .int
  | 2 => .array .int
  | _ => .array .int
abbrev wsX40 : List Cond := u_ws RX4 TX4 4
theorem nmX4 : ∀ a, a < 4 → ∀ b, b < 4 → a ≠ b → (TX4 a).2.1 ≠ (TX4 b).2.1 := by decide +kernel
theorem tyX4_ok : ∀ k, k < 4 → parseFieldDescriptor (TX4 k).2.2.1 = some (tyX4 k) := by decide +kernel
abbrev cX4_init : ByteArray := prog_6_method_1_code
def yX4_init : MethodName := ⟨RX4, "<init>", "()V"⟩
abbrev cX4_has : ByteArray := prog_6_method_2_code
def yX4_has : MethodName := ⟨RX4, "has", "(I)Z"⟩
abbrev cX4_add : ByteArray := prog_6_method_3_code
def yX4_add : MethodName := ⟨RX4, "add", "(III)I"⟩
def RX5 : String := "ToyVillage$Orders"
def TX5 : u_T := fun k => match k with
  | 0 => ("ToyVillage$Orders", "count", "I", false)
  | 1 => ("ToyVillage$Orders", "worth", "[I", true)
  | 2 => ("ToyVillage$Orders", "state", "[I", true)
  | 3 => ("ToyVillage$Orders", "season", "[I", true)
  | 4 => ("ToyVillage$Orders", "needs", "[I", true)
  | 5 => ("ToyVillage$Orders", "many", "[I", true)
  | 6 => ("ToyVillage$Orders", "kind", "[I", true)
  | _ => ("ToyVillage$Orders", "colour", "[I", true)
def tyX5 : Nat → FieldType := fun k => match k with
  | 0 => .int
  | 1 => .array .int
  | 2 => .array .int
  | 3 => .array .int
  | 4 => .array .int
  | 5 => .array .int
  | 6 => .array .int
  | _ => .array .int
abbrev wsX50 : List Cond := u_ws RX5 TX5 8
theorem nmX5 : ∀ a, a < 8 → ∀ b, b < 8 → a ≠ b → (TX5 a).2.1 ≠ (TX5 b).2.1 := by decide +kernel
theorem tyX5_ok : ∀ k, k < 8 → parseFieldDescriptor (TX5 k).2.2.1 = some (tyX5 k) := by decide +kernel
abbrev cX5_init : ByteArray := prog_7_method_1_code
def yX5_init : MethodName := ⟨RX5, "<init>", "()V"⟩
abbrev cX5_isIn : ByteArray := prog_7_method_2_code
def yX5_isIn : MethodName := ⟨RX5, "isIn", "(II)Z"⟩
abbrev cX5_has : ByteArray := prog_7_method_3_code
def yX5_has : MethodName := ⟨RX5, "has", "(I)Z"⟩
abbrev cX5_add : ByteArray := prog_7_method_4_code
def yX5_add : MethodName := ⟨RX5, "add", "(I)I"⟩
abbrev cX5_addNeed : ByteArray := prog_7_method_5_code
def yX5_addNeed : MethodName := ⟨RX5, "addNeed", "(IIII)I"⟩
abbrev cX5_figuresNeeded : ByteArray := prog_7_method_6_code
def yX5_figuresNeeded : MethodName := ⟨RX5, "figuresNeeded", "(I)I"⟩
abbrev cX5_openOnes : ByteArray := prog_7_method_7_code
def yX5_openOnes : MethodName := ⟨RX5, "openOnes", "()I"⟩
abbrev cX5_worthOf : ByteArray := prog_7_method_8_code
def yX5_worthOf : MethodName := ⟨RX5, "worthOf", "(I)I"⟩
abbrev cX5_markBoxed : ByteArray := prog_7_method_9_code
def yX5_markBoxed : MethodName := ⟨RX5, "markBoxed", "(II)V"⟩
def RX6 : String := "ToyVillage$Parser"
def TX6 : u_T := fun k => match k with
  | 0 => ("ToyVillage$Parser", "scanner", "LToyVillage$Scanner;", true)
  | 1 => ("ToyVillage$Parser", "state", "I", false)
  | 2 => ("ToyVillage$Parser", "side", "I", false)
  | _ => ("ToyVillage$Parser", "open", "I", false)
def tyX6 : Nat → FieldType := fun k => match k with
  | 0 => .object "ToyVillage$Scanner"
  | 1 => .int
  | 2 => .int
  | _ => .int
abbrev wsX60 : List Cond := u_ws RX6 TX6 4
theorem nmX6 : ∀ a, a < 4 → ∀ b, b < 4 → a ≠ b → (TX6 a).2.1 ≠ (TX6 b).2.1 := by decide +kernel
theorem tyX6_ok : ∀ k, k < 4 → parseFieldDescriptor (TX6 k).2.2.1 = some (tyX6 k) := by decide +kernel
abbrev cX6_init : ByteArray := prog_8_method_1_code
def yX6_init : MethodName := ⟨RX6, "<init>", "(LToyVillage$Tape;)V"⟩
abbrev cX6_parseInto : ByteArray := prog_8_method_2_code
def yX6_parseInto : MethodName := ⟨RX6, "parseInto", "(LToyVillage$Rules;)I"⟩
abbrev cX6_reached : ByteArray := prog_8_method_3_code
def yX6_reached : MethodName := ⟨RX6, "reached", "()I"⟩
abbrev cX6_goesOnWith : ByteArray := prog_8_method_4_code
def yX6_goesOnWith : MethodName := ⟨RX6, "goesOnWith", "(I)Z"⟩
abbrev cX6_goesOnBehindSide : ByteArray := prog_8_method_5_code
def yX6_goesOnBehindSide : MethodName := ⟨RX6, "goesOnBehindSide", "(I)Z"⟩
abbrev cX6_lacksRoomFor : ByteArray := prog_8_method_6_code
def yX6_lacksRoomFor : MethodName := ⟨RX6, "lacksRoomFor", "(ILToyVillage$Rules;)Z"⟩
abbrev cX6_moveBehind : ByteArray := prog_8_method_7_code
def yX6_moveBehind : MethodName := ⟨RX6, "moveBehind", "(I)V"⟩
def RX7 : String := "ToyVillage$Rings"
def TX7 : u_T := fun k => match k with
  | 0 => ("ToyVillage$Rings", "logs", "I", false)
  | 1 => ("ToyVillage$Rings", "wasted", "[I", true)
  | 2 => ("ToyVillage$Rings", "count", "I", false)
  | 3 => ("ToyVillage$Rings", "log", "[I", true)
  | 4 => ("ToyVillage$Rings", "unit", "[I", true)
  | 5 => ("ToyVillage$Rings", "kind", "[I", true)
  | 6 => ("ToyVillage$Rings", "family", "[I", true)
  | _ => ("ToyVillage$Rings", "firstFigure", "[I", true)
def tyX7 : Nat → FieldType := fun k => match k with
  | 0 => .int
  | 1 => .array .int
  | 2 => .int
  | 3 => .array .int
  | 4 => .array .int
  | 5 => .array .int
  | 6 => .array .int
  | _ => .array .int
abbrev wsX70 : List Cond := u_ws RX7 TX7 8
theorem nmX7 : ∀ a, a < 8 → ∀ b, b < 8 → a ≠ b → (TX7 a).2.1 ≠ (TX7 b).2.1 := by decide +kernel
theorem tyX7_ok : ∀ k, k < 8 → parseFieldDescriptor (TX7 k).2.2.1 = some (tyX7 k) := by decide +kernel
abbrev cX7_init : ByteArray := prog_9_method_1_code
def yX7_init : MethodName := ⟨RX7, "<init>", "()V"⟩
abbrev cX7_has : ByteArray := prog_9_method_2_code
def yX7_has : MethodName := ⟨RX7, "has", "(I)Z"⟩
abbrev cX7_addLog : ByteArray := prog_9_method_3_code
def yX7_addLog : MethodName := ⟨RX7, "addLog", "()I"⟩
abbrev cX7_add : ByteArray := prog_9_method_4_code
def yX7_add : MethodName := ⟨RX7, "add", "(III)V"⟩
abbrev cX7_waiting : ByteArray := prog_9_method_5_code
def yX7_waiting : MethodName := ⟨RX7, "waiting", "()I"⟩
def RX8 : String := "ToyVillage$Rules"
def TX8 : u_T := fun k => match k with
  | 0 => ("ToyVillage$Rules", "count", "I", false)
  | 1 => ("ToyVillage$Rules", "start", "[I", true)
  | 2 => ("ToyVillage$Rules", "tokens", "I", false)
  | 3 => ("ToyVillage$Rules", "token", "[I", true)
  | 4 => ("ToyVillage$Rules", "value", "[I", true)
  | 5 => ("ToyVillage$Rules", "at", "I", false)
  | 6 => ("ToyVillage$Rules", "sum", "[I", true)
  | _ => ("ToyVillage$Rules", "part", "[I", true)
def tyX8 : Nat → FieldType := fun k => match k with
  | 0 => .int
  | 1 => .array .int
  | 2 => .int
  | 3 => .array .int
  | 4 => .array .int
  | 5 => .int
  | 6 => .array .int
  | _ => .array .int
abbrev wsX80 : List Cond := u_ws RX8 TX8 8
theorem nmX8 : ∀ a, a < 8 → ∀ b, b < 8 → a ≠ b → (TX8 a).2.1 ≠ (TX8 b).2.1 := by decide +kernel
theorem tyX8_ok : ∀ k, k < 8 → parseFieldDescriptor (TX8 k).2.2.1 = some (tyX8 k) := by decide +kernel
abbrev cX8_init : ByteArray := prog_10_method_1_code
def yX8_init : MethodName := ⟨RX8, "<init>", "()V"⟩
abbrev cX8_clear : ByteArray := prog_10_method_2_code
def yX8_clear : MethodName := ⟨RX8, "clear", "()V"⟩
abbrev cX8_beginRule : ByteArray := prog_10_method_3_code
def yX8_beginRule : MethodName := ⟨RX8, "beginRule", "()V"⟩
abbrev cX8_addToken : ByteArray := prog_10_method_4_code
def yX8_addToken : MethodName := ⟨RX8, "addToken", "(II)V"⟩
abbrev cX8_firstValue : ByteArray := prog_10_method_5_code
def yX8_firstValue : MethodName := ⟨RX8, "firstValue", "(I[I)I"⟩
abbrev cX8_bars : ByteArray := prog_10_method_6_code
def yX8_bars : MethodName := ⟨RX8, "bars", "([I)Z"⟩
abbrev cX8_takeToken : ByteArray := prog_10_method_7_code
def yX8_takeToken : MethodName := ⟨RX8, "takeToken", "()I"⟩
abbrev cX8_condition : ByteArray := prog_10_method_8_code
def yX8_condition : MethodName := ⟨RX8, "condition", "([I)Z"⟩
abbrev cX8_relation : ByteArray := prog_10_method_9_code
def yX8_relation : MethodName := ⟨RX8, "relation", "([I)Z"⟩
abbrev cX8_expression : ByteArray := prog_10_method_10_code
def yX8_expression : MethodName := ⟨RX8, "expression", "([I)I"⟩
abbrev cX8_beginSum : ByteArray := prog_10_method_11_code
def yX8_beginSum : MethodName := ⟨RX8, "beginSum", "(I)V"⟩
abbrev cX8_beginPart : ByteArray := prog_10_method_12_code
def yX8_beginPart : MethodName := ⟨RX8, "beginPart", "(II)V"⟩
abbrev cX8_isFactor : ByteArray := prog_10_method_13_code
def yX8_isFactor : MethodName := ⟨RX8, "isFactor", "(I)Z"⟩
abbrev cX8_factor : ByteArray := prog_10_method_14_code
def yX8_factor : MethodName := ⟨RX8, "factor", "(I[I)I"⟩
def RX9 : String := "ToyVillage$Scanner"
def TX9 : u_T := fun k => match k with
  | 0 => ("ToyVillage$Scanner", "tape", "LToyVillage$Tape;", true)
  | 1 => ("ToyVillage$Scanner", "start", "I", false)
  | 2 => ("ToyVillage$Scanner", "next", "I", false)
  | 3 => ("ToyVillage$Scanner", "token", "I", false)
  | _ => ("ToyVillage$Scanner", "value", "I", false)
def tyX9 : Nat → FieldType := fun k => match k with
  | 0 => .object "ToyVillage$Tape"
  | 1 => .int
  | 2 => .int
  | 3 => .int
  | _ => .int
abbrev wsX90 : List Cond := u_ws RX9 TX9 5
theorem nmX9 : ∀ a, a < 5 → ∀ b, b < 5 → a ≠ b → (TX9 a).2.1 ≠ (TX9 b).2.1 := by decide +kernel
theorem tyX9_ok : ∀ k, k < 5 → parseFieldDescriptor (TX9 k).2.2.1 = some (tyX9 k) := by decide +kernel
abbrev cX9_init : ByteArray := prog_11_method_1_code
def yX9_init : MethodName := ⟨RX9, "<init>", "(LToyVillage$Tape;)V"⟩
abbrev cX9_restart : ByteArray := prog_11_method_2_code
def yX9_restart : MethodName := ⟨RX9, "restart", "()V"⟩
abbrev cX9_step : ByteArray := prog_11_method_3_code
def yX9_step : MethodName := ⟨RX9, "step", "()V"⟩
abbrev cX9_isBlank : ByteArray := prog_11_method_4_code
def yX9_isBlank : MethodName := ⟨RX9, "isBlank", "(I)Z"⟩
abbrev cX9_isLetter : ByteArray := prog_11_method_5_code
def yX9_isLetter : MethodName := ⟨RX9, "isLetter", "(I)Z"⟩
abbrev cX9_isDigit : ByteArray := prog_11_method_6_code
def yX9_isDigit : MethodName := ⟨RX9, "isDigit", "(I)Z"⟩
abbrev cX9_word : ByteArray := prog_11_method_7_code
def yX9_word : MethodName := ⟨RX9, "word", "()I"⟩
abbrev cX9_variable : ByteArray := prog_11_method_8_code
def yX9_variable : MethodName := ⟨RX9, "variable", "()I"⟩
abbrev cX9_keyword : ByteArray := prog_11_method_9_code
def yX9_keyword : MethodName := ⟨RX9, "keyword", "()I"⟩
abbrev cX9_spells : ByteArray := prog_11_method_10_code
def yX9_spells : MethodName := ⟨RX9, "spells", "(Ljava/lang/String;)Z"⟩
abbrev cX9_number : ByteArray := prog_11_method_11_code
def yX9_number : MethodName := ⟨RX9, "number", "()I"⟩
abbrev cX9_sign : ByteArray := prog_11_method_12_code
def yX9_sign : MethodName := ⟨RX9, "sign", "(I)I"⟩
abbrev cX9_tookEqualSign : ByteArray := prog_11_method_13_code
def yX9_tookEqualSign : MethodName := ⟨RX9, "tookEqualSign", "()Z"⟩
def RX10 : String := "ToyVillage$Tape"
def TX10 : u_T := fun k => match k with
  | 0 => ("ToyVillage$Tape", "bytes", "[B", true)
  | _ => ("ToyVillage$Tape", "length", "I", false)
def tyX10 : Nat → FieldType := fun k => match k with
  | 0 => .array .byte
  | _ => .int
abbrev wsX100 : List Cond := u_ws RX10 TX10 2
theorem nmX10 : ∀ a, a < 2 → ∀ b, b < 2 → a ≠ b → (TX10 a).2.1 ≠ (TX10 b).2.1 := by decide +kernel
theorem tyX10_ok : ∀ k, k < 2 → parseFieldDescriptor (TX10 k).2.2.1 = some (tyX10 k) := by decide +kernel
abbrev cX10_init : ByteArray := prog_12_method_1_code
def yX10_init : MethodName := ⟨RX10, "<init>", "()V"⟩
abbrev cX10_append : ByteArray := prog_12_method_2_code
def yX10_append : MethodName := ⟨RX10, "append", "(I)V"⟩
abbrev cX10_at : ByteArray := prog_12_method_3_code
def yX10_at : MethodName := ⟨RX10, "at", "(I)I"⟩
def RX11 : String := "ToyVillage"
def TX11 : u_T := fun k => match k with
  | 0 => ("ToyVillage", "tape", "LToyVillage$Tape;", true)
  | 1 => ("ToyVillage", "parser", "LToyVillage$Parser;", true)
  | 2 => ("ToyVillage", "rules", "LToyVillage$Rules;", false)
  | 3 => ("ToyVillage", "draft", "LToyVillage$Rules;", false)
  | 4 => ("ToyVillage", "faultPlace", "I", false)
  | 5 => ("ToyVillage", "now", "I", false)
  | 6 => ("ToyVillage", "kinds", "LToyVillage$Kinds;", true)
  | 7 => ("ToyVillage", "families", "LToyVillage$Families;", true)
  | 8 => ("ToyVillage", "cutter", "LToyVillage$Cutter;", true)
  | 9 => ("ToyVillage", "rings", "LToyVillage$Rings;", true)
  | 10 => ("ToyVillage", "figures", "LToyVillage$Figures;", true)
  | 11 => ("ToyVillage", "orders", "LToyVillage$Orders;", true)
  | 12 => ("ToyVillage", "boxing", "LToyVillage$Boxing;", true)
  | _ => ("ToyVillage", "facts", "[I", true)
def tyX11 : Nat → FieldType := fun k => match k with
  | 0 => .object "ToyVillage$Tape"
  | 1 => .object "ToyVillage$Parser"
  | 2 => .object "ToyVillage$Rules"
  | 3 => .object "ToyVillage$Rules"
  | 4 => .int
  | 5 => .int
  | 6 => .object "ToyVillage$Kinds"
  | 7 => .object "ToyVillage$Families"
  | 8 => .object "ToyVillage$Cutter"
  | 9 => .object "ToyVillage$Rings"
  | 10 => .object "ToyVillage$Figures"
  | 11 => .object "ToyVillage$Orders"
  | 12 => .object "ToyVillage$Boxing"
  | _ => .array .int
abbrev wsX110 : List Cond := u_ws RX11 TX11 14
theorem nmX11 : ∀ a, a < 14 → ∀ b, b < 14 → a ≠ b → (TX11 a).2.1 ≠ (TX11 b).2.1 := by decide +kernel
theorem tyX11_ok : ∀ k, k < 14 → parseFieldDescriptor (TX11 k).2.2.1 = some (tyX11 k) := by decide +kernel
abbrev cX11_init : ByteArray := prog_1_method_1_code
def yX11_init : MethodName := ⟨RX11, "<init>", "()V"⟩
abbrev cX11_feed : ByteArray := prog_1_method_2_code
def yX11_feed : MethodName := ⟨RX11, "feed", "(IIIII)I"⟩
abbrev cX11_back : ByteArray := prog_1_method_3_code
def yX11_back : MethodName := ⟨RX11, "back", "(I)I"⟩
abbrev cX11_read : ByteArray := prog_1_method_4_code
def yX11_read : MethodName := ⟨RX11, "read", "()I"⟩
abbrev cX11_place : ByteArray := prog_1_method_5_code
def yX11_place : MethodName := ⟨RX11, "place", "()I"⟩
abbrev cX11_kind : ByteArray := prog_1_method_6_code
def yX11_kind : MethodName := ⟨RX11, "kind", "(III)I"⟩
abbrev cX11_family : ByteArray := prog_1_method_7_code
def yX11_family : MethodName := ⟨RX11, "family", "(IZ)I"⟩
abbrev cX11_own : ByteArray := prog_1_method_8_code
def yX11_own : MethodName := ⟨RX11, "own", "(II)Z"⟩
abbrev cX11_lend : ByteArray := prog_1_method_9_code
def yX11_lend : MethodName := ⟨RX11, "lend", "(IIII)Z"⟩
abbrev cX11_may : ByteArray := prog_1_method_10_code
def yX11_may : MethodName := ⟨RX11, "may", "(III)I"⟩
abbrev cX11_season : ByteArray := prog_1_method_11_code
def yX11_season : MethodName := ⟨RX11, "season", "()I"⟩
abbrev cX11_log : ByteArray := prog_1_method_12_code
def yX11_log : MethodName := ⟨RX11, "log", "(IJ)I"⟩
abbrev cX11_give : ByteArray := prog_1_method_13_code
def yX11_give : MethodName := ⟨RX11, "give", "()I"⟩
abbrev cX11_lot : ByteArray := prog_1_method_14_code
def yX11_lot : MethodName := ⟨RX11, "lot", "(I)I"⟩
abbrev cX11_paint : ByteArray := prog_1_method_15_code
def yX11_paint : MethodName := ⟨RX11, "paint", "(III)I"⟩
abbrev cX11_order : ByteArray := prog_1_method_16_code
def yX11_order : MethodName := ⟨RX11, "order", "(I)I"⟩
abbrev cX11_need : ByteArray := prog_1_method_17_code
def yX11_need : MethodName := ⟨RX11, "need", "(IIII)I"⟩
abbrev cX11_box : ByteArray := prog_1_method_18_code
def yX11_box : MethodName := ⟨RX11, "box", "()I"⟩
abbrev cX11_refuse : ByteArray := prog_1_method_19_code
def yX11_refuse : MethodName := ⟨RX11, "refuse", "(I)I"⟩
abbrev cX11_ring : ByteArray := prog_1_method_20_code
def yX11_ring : MethodName := ⟨RX11, "ring", "(II)I"⟩
abbrev cX11_figure : ByteArray := prog_1_method_21_code
def yX11_figure : MethodName := ⟨RX11, "figure", "(II)I"⟩
abbrev cX11_packed : ByteArray := prog_1_method_22_code
def yX11_packed : MethodName := ⟨RX11, "packed", "(II)I"⟩
abbrev cX11_told : ByteArray := prog_1_method_23_code
def yX11_told : MethodName := ⟨RX11, "told", "(II)I"⟩
abbrev cX11_found : ByteArray := prog_1_method_24_code
def yX11_found : MethodName := ⟨RX11, "found", "(II)I"⟩
abbrev cX11_rest : ByteArray := prog_1_method_25_code
def yX11_rest : MethodName := ⟨RX11, "rest", "(II)I"⟩
abbrev cX11_money : ByteArray := prog_1_method_26_code
def yX11_money : MethodName := ⟨RX11, "money", "(I)I"⟩
abbrev cX11_load : ByteArray := prog_1_method_27_code
def yX11_load : MethodName := ⟨RX11, "load", "(II)I"⟩
abbrev cX11_waste : ByteArray := prog_1_method_28_code
def yX11_waste : MethodName := ⟨RX11, "waste", "(I)I"⟩
abbrev cX11_count : ByteArray := prog_1_method_29_code
def yX11_count : MethodName := ⟨RX11, "count", "(I)I"⟩
abbrev cX11_isWithin : ByteArray := prog_1_method_30_code
def yX11_isWithin : MethodName := ⟨RX11, "isWithin", "(III)Z"⟩
abbrev cX11_isSeason : ByteArray := prog_1_method_31_code
def yX11_isSeason : MethodName := ⟨RX11, "isSeason", "(I)Z"⟩
abbrev cX11_isColourOrNone : ByteArray := prog_1_method_32_code
def yX11_isColourOrNone : MethodName := ⟨RX11, "isColourOrNone", "(I)Z"⟩
abbrev cX11_putDraftInForce : ByteArray := prog_1_method_33_code
def yX11_putDraftInForce : MethodName := ⟨RX11, "putDraftInForce", "()V"⟩
abbrev cX11_storeCutLog : ByteArray := prog_1_method_34_code
def yX11_storeCutLog : MethodName := ⟨RX11, "storeCutLog", "(I)I"⟩
abbrev cX11_takerOf : ByteArray := prog_1_method_35_code
def yX11_takerOf : MethodName := ⟨RX11, "takerOf", "(I)I"⟩
abbrev cX11_carve : ByteArray := prog_1_method_36_code
def yX11_carve : MethodName := ⟨RX11, "carve", "(II)V"⟩
abbrev cX11_tellFacts : ByteArray := prog_1_method_37_code
def yX11_tellFacts : MethodName := ⟨RX11, "tellFacts", "(II)V"⟩
abbrev cX11_payFor : ByteArray := prog_1_method_38_code
def yX11_payFor : MethodName := ⟨RX11, "payFor", "(I)V"⟩
abbrev cX11_unbox : ByteArray := prog_1_method_39_code
def yX11_unbox : MethodName := ⟨RX11, "unbox", "(I)V"⟩
def RX12 : String := "ToyVillageModel"
def TX12 : u_T := fun k => match k with
  | 0 => ("ToyVillageModel", "thrown", "I", false)
  | 1 => ("ToyVillageModel", "tape", "[B", true)
  | 2 => ("ToyVillageModel", "taped", "I", false)
  | 3 => ("ToyVillageModel", "text", "[B", true)
  | 4 => ("ToyVillageModel", "size", "I", false)
  | 5 => ("ToyVillageModel", "tKind", "[I", true)
  | 6 => ("ToyVillageModel", "tPlace", "[I", true)
  | 7 => ("ToyVillageModel", "tValue", "[I", true)
  | 8 => ("ToyVillageModel", "tName", "[J", true)
  | 9 => ("ToyVillageModel", "keys", "[J", true)
  | 10 => ("ToyVillageModel", "tokens", "I", false)
  | 11 => ("ToyVillageModel", "t", "I", false)
  | 12 => ("ToyVillageModel", "open", "I", false)
  | 13 => ("ToyVillageModel", "fault", "I", false)
  | 14 => ("ToyVillageModel", "faultPlace", "I", false)
  | 15 => ("ToyVillageModel", "worst", "I", false)
  | 16 => ("ToyVillageModel", "worstPlace", "I", false)
  | 17 => ("ToyVillageModel", "place", "I", false)
  | 18 => ("ToyVillageModel", "live", "I", false)
  | 19 => ("ToyVillageModel", "side", "I", false)
  | 20 => ("ToyVillageModel", "rules", "[I", true)
  | 21 => ("ToyVillageModel", "ruleSort", "[I", true)
  | 22 => ("ToyVillageModel", "ruleFrom", "[I", true)
  | 23 => ("ToyVillageModel", "ruleTo", "[I", true)
  | 24 => ("ToyVillageModel", "relFirst", "[I", true)
  | 25 => ("ToyVillageModel", "relLast", "[I", true)
  | 26 => ("ToyVillageModel", "relations", "[I", true)
  | 27 => ("ToyVillageModel", "relSort", "[I", true)
  | 28 => ("ToyVillageModel", "relLeft", "[I", true)
  | 29 => ("ToyVillageModel", "relRight", "[I", true)
  | 30 => ("ToyVillageModel", "relEnd", "[I", true)
  | 31 => ("ToyVillageModel", "relOr", "[Z", true)
  | 32 => ("ToyVillageModel", "codes", "I", false)
  | 33 => ("ToyVillageModel", "code", "[I", true)
  | 34 => ("ToyVillageModel", "codeInt", "[I", true)
  | 35 => ("ToyVillageModel", "waits", "[I", true)
  | 36 => ("ToyVillageModel", "waiting", "I", false)
  | 37 => ("ToyVillageModel", "kinds", "I", false)
  | 38 => ("ToyVillageModel", "width", "[I", true)
  | 39 => ("ToyVillageModel", "slices", "[I", true)
  | 40 => ("ToyVillageModel", "worth", "[I", true)
  | 41 => ("ToyVillageModel", "families", "I", false)
  | 42 => ("ToyVillageModel", "hands", "[I", true)
  | 43 => ("ToyVillageModel", "isWidow", "[Z", true)
  | 44 => ("ToyVillageModel", "money", "[I", true)
  | 45 => ("ToyVillageModel", "owns", "[Z", true)
  | 46 => ("ToyVillageModel", "lent", "I", false)
  | 47 => ("ToyVillageModel", "lentTo", "[I", true)
  | 48 => ("ToyVillageModel", "lentKind", "[I", true)
  | 49 => ("ToyVillageModel", "lentFrom", "[I", true)
  | 50 => ("ToyVillageModel", "lentUntil", "[I", true)
  | 51 => ("ToyVillageModel", "season", "I", false)
  | 52 => ("ToyVillageModel", "loads", "[I", true)
  | 53 => ("ToyVillageModel", "logs", "I", false)
  | 54 => ("ToyVillageModel", "logWaste", "[I", true)
  | 55 => ("ToyVillageModel", "rings", "I", false)
  | 56 => ("ToyVillageModel", "ringLog", "[I", true)
  | 57 => ("ToyVillageModel", "ringAt", "[I", true)
  | 58 => ("ToyVillageModel", "ringKind", "[I", true)
  | 59 => ("ToyVillageModel", "ringFamily", "[I", true)
  | 60 => ("ToyVillageModel", "ringFirst", "[I", true)
  | 61 => ("ToyVillageModel", "most", "[I", true)
  | 62 => ("ToyVillageModel", "fewest", "[I", true)
  | 63 => ("ToyVillageModel", "begins", "[I", true)
  | 64 => ("ToyVillageModel", "variables", "[I", true)
  | 65 => ("ToyVillageModel", "pile", "[I", true)
  | 66 => ("ToyVillageModel", "figures", "I", false)
  | 67 => ("ToyVillageModel", "figRing", "[I", true)
  | 68 => ("ToyVillageModel", "figLot", "[I", true)
  | 69 => ("ToyVillageModel", "figOrder", "[I", true)
  | 70 => ("ToyVillageModel", "figPay", "[I", true)
  | 71 => ("ToyVillageModel", "figSeason", "[I", true)
  | 72 => ("ToyVillageModel", "lots", "I", false)
  | 73 => ("ToyVillageModel", "colour", "[I", true)
  | 74 => ("ToyVillageModel", "orders", "I", false)
  | 75 => ("ToyVillageModel", "ordWorth", "[I", true)
  | 76 => ("ToyVillageModel", "ordState", "[I", true)
  | 77 => ("ToyVillageModel", "ordSeason", "[I", true)
  | 78 => ("ToyVillageModel", "needs", "[I", true)
  | 79 => ("ToyVillageModel", "needMany", "[I", true)
  | 80 => ("ToyVillageModel", "needKind", "[I", true)
  | 81 => ("ToyVillageModel", "needColour", "[I", true)
  | 82 => ("ToyVillageModel", "there", "[I", true)
  | 83 => ("ToyVillageModel", "left", "[I", true)
  | _ => ("ToyVillageModel", "isNew", "[Z", true)
def tyX12 : Nat → FieldType := fun k => match k with
  | 0 => .int
  | 1 => .array .byte
  | 2 => .int
  | 3 => .array .byte
  | 4 => .int
  | 5 => .array .int
  | 6 => .array .int
  | 7 => .array .int
  | 8 => .array .long
  | 9 => .array .long
  | 10 => .int
  | 11 => .int
  | 12 => .int
  | 13 => .int
  | 14 => .int
  | 15 => .int
  | 16 => .int
  | 17 => .int
  | 18 => .int
  | 19 => .int
  | 20 => .array .int
  | 21 => .array .int
  | 22 => .array .int
  | 23 => .array .int
  | 24 => .array .int
  | 25 => .array .int
  | 26 => .array .int
  | 27 => .array .int
  | 28 => .array .int
  | 29 => .array .int
  | 30 => .array .int
  | 31 => .array .boolean
  | 32 => .int
  | 33 => .array .int
  | 34 => .array .int
  | 35 => .array .int
  | 36 => .int
  | 37 => .int
  | 38 => .array .int
  | 39 => .array .int
  | 40 => .array .int
  | 41 => .int
  | 42 => .array .int
  | 43 => .array .boolean
  | 44 => .array .int
  | 45 => .array .boolean
  | 46 => .int
  | 47 => .array .int
  | 48 => .array .int
  | 49 => .array .int
  | 50 => .array .int
  | 51 => .int
  | 52 => .array .int
  | 53 => .int
  | 54 => .array .int
  | 55 => .int
  | 56 => .array .int
  | 57 => .array .int
  | 58 => .array .int
  | 59 => .array .int
  | 60 => .array .int
  | 61 => .array .int
  | 62 => .array .int
  | 63 => .array .int
  | 64 => .array .int
  | 65 => .array .int
  | 66 => .int
  | 67 => .array .int
  | 68 => .array .int
  | 69 => .array .int
  | 70 => .array .int
  | 71 => .array .int
  | 72 => .int
  | 73 => .array .int
  | 74 => .int
  | 75 => .array .int
  | 76 => .array .int
  | 77 => .array .int
  | 78 => .array .int
  | 79 => .array .int
  | 80 => .array .int
  | 81 => .array .int
  | 82 => .array .int
  | 83 => .array .int
  | _ => .array .boolean
abbrev wsX120 : List Cond := u_ws RX12 TX12 85
theorem nmX12 : ∀ a, a < 85 → ∀ b, b < 85 → a ≠ b → (TX12 a).2.1 ≠ (TX12 b).2.1 := by decide +kernel
theorem tyX12_ok : ∀ k, k < 85 → parseFieldDescriptor (TX12 k).2.2.1 = some (tyX12 k) := by decide +kernel
abbrev cX12_init : ByteArray := prog_14_method_2_code
def yX12_init : MethodName := ⟨RX12, "<init>", "()V"⟩
abbrev cX12_feed : ByteArray := prog_14_method_3_code
def yX12_feed : MethodName := ⟨RX12, "feed", "(IIIII)I"⟩
abbrev cX12_put : ByteArray := prog_14_method_4_code
def yX12_put : MethodName := ⟨RX12, "put", "(I)V"⟩
abbrev cX12_back : ByteArray := prog_14_method_5_code
def yX12_back : MethodName := ⟨RX12, "back", "(I)I"⟩
abbrev cX12_at : ByteArray := prog_14_method_6_code
def yX12_at : MethodName := ⟨RX12, "at", "(I)I"⟩
abbrev cX12_isDigit : ByteArray := prog_14_method_7_code
def yX12_isDigit : MethodName := ⟨RX12, "isDigit", "(I)Z"⟩
abbrev cX12_isLetter : ByteArray := prog_14_method_8_code
def yX12_isLetter : MethodName := ⟨RX12, "isLetter", "(I)Z"⟩
abbrev cX12_more : ByteArray := prog_14_method_9_code
def yX12_more : MethodName := ⟨RX12, "more", "(JI)J"⟩
abbrev cX12_word : ByteArray := prog_14_method_10_code
def yX12_word : MethodName := ⟨RX12, "word", "(IIIIIII)J"⟩
abbrev cX12_token : ByteArray := prog_14_method_11_code
def yX12_token : MethodName := ⟨RX12, "token", "(IIIJ)V"⟩
abbrev cX12_cut : ByteArray := prog_14_method_12_code
def yX12_cut : MethodName := ⟨RX12, "cut", "()V"⟩
abbrev cX12_sign : ByteArray := prog_14_method_13_code
def yX12_sign : MethodName := ⟨RX12, "sign", "(III)I"⟩
abbrev cX12_is : ByteArray := prog_14_method_14_code
def yX12_is : MethodName := ⟨RX12, "is", "(I)Z"⟩
abbrev cX12_fail : ByteArray := prog_14_method_15_code
def yX12_fail : MethodName := ⟨RX12, "fail", "(I)V"⟩
abbrev cX12_next : ByteArray := prog_14_method_17_code
def yX12_next : MethodName := ⟨RX12, "next", "()V"⟩
abbrev cX12_must : ByteArray := prog_14_method_18_code
def yX12_must : MethodName := ⟨RX12, "must", "(I)V"⟩
abbrev cX12_read : ByteArray := prog_14_method_19_code
def yX12_read : MethodName := ⟨RX12, "read", "()I"⟩
abbrev cX12_place : ByteArray := prog_14_method_20_code
def yX12_place : MethodName := ⟨RX12, "place", "()I"⟩
abbrev cX12_tellRule : ByteArray := prog_14_method_21_code
def yX12_tellRule : MethodName := ⟨RX12, "tellRule", "()V"⟩
abbrev cX12_relation : ByteArray := prog_14_method_22_code
def yX12_relation : MethodName := ⟨RX12, "relation", "(Z)V"⟩
abbrev cX12_emit : ByteArray := prog_14_method_23_code
def yX12_emit : MethodName := ⟨RX12, "emit", "(II)V"⟩
abbrev cX12_comesOut : ByteArray := prog_14_method_24_code
def yX12_comesOut : MethodName := ⟨RX12, "comesOut", "(Z)V"⟩
abbrev cX12_expression : ByteArray := prog_14_method_25_code
def yX12_expression : MethodName := ⟨RX12, "expression", "()V"⟩
abbrev cX12_isKind : ByteArray := prog_14_method_26_code
def yX12_isKind : MethodName := ⟨RX12, "isKind", "(I)Z"⟩
abbrev cX12_isFamily : ByteArray := prog_14_method_27_code
def yX12_isFamily : MethodName := ⟨RX12, "isFamily", "(I)Z"⟩
abbrev cX12_kind : ByteArray := prog_14_method_28_code
def yX12_kind : MethodName := ⟨RX12, "kind", "(III)I"⟩
abbrev cX12_family : ByteArray := prog_14_method_29_code
def yX12_family : MethodName := ⟨RX12, "family", "(IZ)I"⟩
abbrev cX12_own : ByteArray := prog_14_method_30_code
def yX12_own : MethodName := ⟨RX12, "own", "(II)Z"⟩
abbrev cX12_lend : ByteArray := prog_14_method_31_code
def yX12_lend : MethodName := ⟨RX12, "lend", "(IIII)Z"⟩
abbrev cX12_mayCarve : ByteArray := prog_14_method_32_code
def yX12_mayCarve : MethodName := ⟨RX12, "mayCarve", "(III)Z"⟩
abbrev cX12_may : ByteArray := prog_14_method_33_code
def yX12_may : MethodName := ⟨RX12, "may", "(III)I"⟩
abbrev cX12_season : ByteArray := prog_14_method_34_code
def yX12_season : MethodName := ⟨RX12, "season", "()I"⟩
abbrev cX12_log : ByteArray := prog_14_method_35_code
def yX12_log : MethodName := ⟨RX12, "log", "(IJ)I"⟩
abbrev cX12_waste : ByteArray := prog_14_method_36_code
def yX12_waste : MethodName := ⟨RX12, "waste", "(I)I"⟩
abbrev cX12_asks : ByteArray := prog_14_method_37_code
def yX12_asks : MethodName := ⟨RX12, "asks", "(II)V"⟩
abbrev cX12_value : ByteArray := prog_14_method_38_code
def yX12_value : MethodName := ⟨RX12, "value", "(II)I"⟩
abbrev cX12_holds : ByteArray := prog_14_method_39_code
def yX12_holds : MethodName := ⟨RX12, "holds", "(I)Z"⟩
abbrev cX12_says : ByteArray := prog_14_method_40_code
def yX12_says : MethodName := ⟨RX12, "says", "(III)I"⟩
abbrev cX12_isBarred : ByteArray := prog_14_method_41_code
def yX12_isBarred : MethodName := ⟨RX12, "isBarred", "(II)Z"⟩
abbrev cX12_give : ByteArray := prog_14_method_42_code
def yX12_give : MethodName := ⟨RX12, "give", "()I"⟩
abbrev cX12_lot : ByteArray := prog_14_method_43_code
def yX12_lot : MethodName := ⟨RX12, "lot", "(I)I"⟩
abbrev cX12_isFigure : ByteArray := prog_14_method_44_code
def yX12_isFigure : MethodName := ⟨RX12, "isFigure", "(I)Z"⟩
abbrev cX12_paint : ByteArray := prog_14_method_45_code
def yX12_paint : MethodName := ⟨RX12, "paint", "(III)I"⟩
abbrev cX12_kindOf : ByteArray := prog_14_method_46_code
def yX12_kindOf : MethodName := ⟨RX12, "kindOf", "(I)I"⟩
abbrev cX12_colourOf : ByteArray := prog_14_method_47_code
def yX12_colourOf : MethodName := ⟨RX12, "colourOf", "(I)I"⟩
abbrev cX12_order : ByteArray := prog_14_method_48_code
def yX12_order : MethodName := ⟨RX12, "order", "(I)I"⟩
abbrev cX12_isOrder : ByteArray := prog_14_method_49_code
def yX12_isOrder : MethodName := ⟨RX12, "isOrder", "(I)Z"⟩
abbrev cX12_need : ByteArray := prog_14_method_50_code
def yX12_need : MethodName := ⟨RX12, "need", "(IIII)I"⟩
abbrev cX12_counts : ByteArray := prog_14_method_51_code
def yX12_counts : MethodName := ⟨RX12, "counts", "()V"⟩
abbrev cX12_fills : ByteArray := prog_14_method_52_code
def yX12_fills : MethodName := ⟨RX12, "fills", "(I)Z"⟩
abbrev cX12_takesOf : ByteArray := prog_14_method_53_code
def yX12_takesOf : MethodName := ⟨RX12, "takesOf", "(III)Z"⟩
abbrev cX12_bits : ByteArray := prog_14_method_54_code
def yX12_bits : MethodName := ⟨RX12, "bits", "(I)I"⟩
abbrev cX12_worthOf : ByteArray := prog_14_method_55_code
def yX12_worthOf : MethodName := ⟨RX12, "worthOf", "(I)I"⟩
abbrev cX12_isAhead : ByteArray := prog_14_method_56_code
def yX12_isAhead : MethodName := ⟨RX12, "isAhead", "(II)Z"⟩
abbrev cX12_box : ByteArray := prog_14_method_57_code
def yX12_box : MethodName := ⟨RX12, "box", "()I"⟩
abbrev cX12_packs : ByteArray := prog_14_method_58_code
def yX12_packs : MethodName := ⟨RX12, "packs", "(II)V"⟩
abbrev cX12_refuse : ByteArray := prog_14_method_59_code
def yX12_refuse : MethodName := ⟨RX12, "refuse", "(I)I"⟩
abbrev cX12_ring : ByteArray := prog_14_method_60_code
def yX12_ring : MethodName := ⟨RX12, "ring", "(II)I"⟩
abbrev cX12_figure : ByteArray := prog_14_method_61_code
def yX12_figure : MethodName := ⟨RX12, "figure", "(II)I"⟩
abbrev cX12_packed : ByteArray := prog_14_method_62_code
def yX12_packed : MethodName := ⟨RX12, "packed", "(II)I"⟩
abbrev cX12_told : ByteArray := prog_14_method_63_code
def yX12_told : MethodName := ⟨RX12, "told", "(II)I"⟩
abbrev cX12_found : ByteArray := prog_14_method_64_code
def yX12_found : MethodName := ⟨RX12, "found", "(II)I"⟩
abbrev cX12_rest : ByteArray := prog_14_method_65_code
def yX12_rest : MethodName := ⟨RX12, "rest", "(II)I"⟩
abbrev cX12_money : ByteArray := prog_14_method_66_code
def yX12_money : MethodName := ⟨RX12, "money", "(I)I"⟩
abbrev cX12_load : ByteArray := prog_14_method_67_code
def yX12_load : MethodName := ⟨RX12, "load", "(II)I"⟩
abbrev cX12_count : ByteArray := prog_14_method_68_code
def yX12_count : MethodName := ⟨RX12, "count", "(I)I"⟩
def RJ6 : String := "java/lang/Integer"
def TJ6 : u_T := fun k => match k with
  | _ => ("", "", "", false)
def tyJ6 : Nat → FieldType := fun k => match k with
  | _ => .int
abbrev wsJ60 : List Cond := u_ws RJ6 TJ6 0
theorem nmJ6 : ∀ a, a < 0 → ∀ b, b < 0 → a ≠ b → (TJ6 a).2.1 ≠ (TJ6 b).2.1 := by decide +kernel
theorem tyJ6_ok : ∀ k, k < 0 → parseFieldDescriptor (TJ6 k).2.2.1 = some (tyJ6 k) := by decide +kernel
abbrev cJ6_bitCount_0f7a4 : ByteArray := prog_15_method_49_code
def yJ6_bitCount_0f7a4 : MethodName := ⟨RJ6, "bitCount", "(I)I"⟩
def RJ9 : String := "java/lang/Math"
def TJ9 : u_T := fun k => match k with
  | _ => ("", "", "", false)
def tyJ9 : Nat → FieldType := fun k => match k with
  | _ => .int
abbrev wsJ90 : List Cond := u_ws RJ9 TJ9 0
theorem nmJ9 : ∀ a, a < 0 → ∀ b, b < 0 → a ≠ b → (TJ9 a).2.1 ≠ (TJ9 b).2.1 := by decide +kernel
theorem tyJ9_ok : ∀ k, k < 0 → parseFieldDescriptor (TJ9 k).2.2.1 = some (tyJ9 k) := by decide +kernel
abbrev cJ9_max_7cf53 : ByteArray := prog_16_method_65_code
def yJ9_max_7cf53 : MethodName := ⟨RJ9, "max", "(II)I"⟩
abbrev cJ9_min_7cf53 : ByteArray := prog_16_method_69_code
def yJ9_min_7cf53 : MethodName := ⟨RJ9, "min", "(II)I"⟩
def RJ0 : String := "java/lang/String"
def TJ0 : u_T := fun k => match k with
  | _ => ("", "", "", false)
def tyJ0 : Nat → FieldType := fun k => match k with
  | _ => .int
abbrev wsJ00 : List Cond := u_ws RJ0 TJ0 0
theorem nmJ0 : ∀ a, a < 0 → ∀ b, b < 0 → a ≠ b → (TJ0 a).2.1 ≠ (TJ0 b).2.1 := by decide +kernel
theorem tyJ0_ok : ∀ k, k < 0 → parseFieldDescriptor (TJ0 k).2.2.1 = some (tyJ0 k) := by decide +kernel
abbrev cJ0_length_8abf5 : ByteArray := prog_17_method_54_code
def yJ0_length_8abf5 : MethodName := ⟨RJ0, "length", "()I"⟩
abbrev cJ0_charAt_5068e : ByteArray := prog_17_method_56_code
def yJ0_charAt_5068e : MethodName := ⟨RJ0, "charAt", "(I)C"⟩
abbrev cJ0_coder_7d493 : ByteArray := prog_17_method_152_code
def yJ0_coder_7d493 : MethodName := ⟨RJ0, "coder", "()B"⟩
abbrev cJ0_isLatin1_aae02 : ByteArray := prog_17_method_154_code
def yJ0_isLatin1_aae02 : MethodName := ⟨RJ0, "isLatin1", "()Z"⟩
abbrev cJ0_checkIndex_df160 : ByteArray := prog_17_method_155_code
def yJ0_checkIndex_df160 : MethodName := ⟨RJ0, "checkIndex", "(II)V"⟩
def RJ1 : String := "java/lang/StringLatin1"
def TJ1 : u_T := fun k => match k with
  | _ => ("", "", "", false)
def tyJ1 : Nat → FieldType := fun k => match k with
  | _ => .int
abbrev wsJ10 : List Cond := u_ws RJ1 TJ1 0
theorem nmJ1 : ∀ a, a < 0 → ∀ b, b < 0 → a ≠ b → (TJ1 a).2.1 ≠ (TJ1 b).2.1 := by decide +kernel
theorem tyJ1_ok : ∀ k, k < 0 → parseFieldDescriptor (TJ1 k).2.2.1 = some (tyJ1 k) := by decide +kernel
abbrev cJ1_charAt_3b067 : ByteArray := prog_18_method_2_code
def yJ1_charAt_3b067 : MethodName := ⟨RJ1, "charAt", "([BI)C"⟩
def RJ2 : String := "java/lang/StringUTF16"
def TJ2 : u_T := fun k => match k with
  | _ => ("", "", "", false)
def tyJ2 : Nat → FieldType := fun k => match k with
  | _ => .int
abbrev wsJ20 : List Cond := u_ws RJ2 TJ2 0
theorem nmJ2 : ∀ a, a < 0 → ∀ b, b < 0 → a ≠ b → (TJ2 a).2.1 ≠ (TJ2 b).2.1 := by decide +kernel
theorem tyJ2_ok : ∀ k, k < 0 → parseFieldDescriptor (TJ2 k).2.2.1 = some (tyJ2 k) := by decide +kernel
abbrev cJ2_getChar_3b067 : ByteArray := prog_19_method_5_code
def yJ2_getChar_3b067 : MethodName := ⟨RJ2, "getChar", "([BI)C"⟩
abbrev cJ2_length_9d52b : ByteArray := prog_19_method_6_code
def yJ2_length_9d52b : MethodName := ⟨RJ2, "length", "([B)I"⟩
abbrev cJ2_charAt_3b067 : ByteArray := prog_19_method_83_code
def yJ2_charAt_3b067 : MethodName := ⟨RJ2, "charAt", "([BI)C"⟩
abbrev cJ2_checkIndex_2214a : ByteArray := prog_19_method_91_code
def yJ2_checkIndex_2214a : MethodName := ⟨RJ2, "checkIndex", "(I[B)V"⟩
def RJ3 : String := "jdk/internal/util/Preconditions"
def TJ3 : u_T := fun k => match k with
  | _ => ("", "", "", false)
def tyJ3 : Nat → FieldType := fun k => match k with
  | _ => .int
abbrev wsJ30 : List Cond := u_ws RJ3 TJ3 0
theorem nmJ3 : ∀ a, a < 0 → ∀ b, b < 0 → a ≠ b → (TJ3 a).2.1 ≠ (TJ3 b).2.1 := by decide +kernel
theorem tyJ3_ok : ∀ k, k < 0 → parseFieldDescriptor (TJ3 k).2.2.1 = some (tyJ3 k) := by decide +kernel
abbrev cJ3_checkIndex_8e157 : ByteArray := prog_20_method_11_code
def yJ3_checkIndex_8e157 : MethodName := ⟨RJ3, "checkIndex", "(IILjava/util/function/BiFunction;)I"⟩
def RL : String := "ToyVillageLaw"
abbrev cL_law : ByteArray := code
def yL_law : MethodName := ⟨RL, "law", "([I)Z"⟩
