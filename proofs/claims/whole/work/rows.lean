section
-- ===== PART A: goes FIRST, ahead of the names: the tables' words, and 'selects' of the private methods out of them =====
/-- a private method of a class that the tables say can be made, by its rows of tables_1 -/
def lw_okq (q : MethodName × Nat) : Prop := (q.1.cls ≠ "java/lang/invoke/MethodHandle" ∧ q.1.cls ≠ "java/lang/invoke/VarHandle") ∧ Cond.instantiable q.1.cls q.2 ∈ tables_1 ∧ Cond.privateMethod q.1 ∈ tables_1 ∧ Cond.instanceMethod q.1 ∈ tables_1
theorem lw_p0 : lw_okq (⟨"ToyVillage$Scanner", "word", "()I"⟩, 5) := ⟨⟨by decide +kernel, by decide +kernel⟩, List.mem_of_getElem? (i := 51) (by decide +kernel), List.mem_of_getElem? (i := 436) (by decide +kernel), List.mem_of_getElem? (i := 437) (by decide +kernel)⟩
theorem lw_p1 : lw_okq (⟨"ToyVillage$Scanner", "variable", "()I"⟩, 5) := ⟨⟨by decide +kernel, by decide +kernel⟩, List.mem_of_getElem? (i := 51) (by decide +kernel), List.mem_of_getElem? (i := 440) (by decide +kernel), List.mem_of_getElem? (i := 441) (by decide +kernel)⟩
theorem lw_p2 : lw_okq (⟨"ToyVillage$Scanner", "spells", "(Ljava/lang/String;)Z"⟩, 5) := ⟨⟨by decide +kernel, by decide +kernel⟩, List.mem_of_getElem? (i := 51) (by decide +kernel), List.mem_of_getElem? (i := 445) (by decide +kernel), List.mem_of_getElem? (i := 446) (by decide +kernel)⟩
theorem lw_p3 : lw_okq (⟨"ToyVillage$Scanner", "keyword", "()I"⟩, 5) := ⟨⟨by decide +kernel, by decide +kernel⟩, List.mem_of_getElem? (i := 51) (by decide +kernel), List.mem_of_getElem? (i := 504) (by decide +kernel), List.mem_of_getElem? (i := 505) (by decide +kernel)⟩
theorem lw_p4 : lw_okq (⟨"ToyVillage$Scanner", "number", "()I"⟩, 5) := ⟨⟨by decide +kernel, by decide +kernel⟩, List.mem_of_getElem? (i := 51) (by decide +kernel), List.mem_of_getElem? (i := 517) (by decide +kernel), List.mem_of_getElem? (i := 518) (by decide +kernel)⟩
theorem lw_p5 : lw_okq (⟨"ToyVillage$Scanner", "sign", "(I)I"⟩, 5) := ⟨⟨by decide +kernel, by decide +kernel⟩, List.mem_of_getElem? (i := 51) (by decide +kernel), List.mem_of_getElem? (i := 521) (by decide +kernel), List.mem_of_getElem? (i := 522) (by decide +kernel)⟩
theorem lw_p6 : lw_okq (⟨"ToyVillage$Scanner", "tookEqualSign", "()Z"⟩, 5) := ⟨⟨by decide +kernel, by decide +kernel⟩, List.mem_of_getElem? (i := 51) (by decide +kernel), List.mem_of_getElem? (i := 525) (by decide +kernel), List.mem_of_getElem? (i := 526) (by decide +kernel)⟩
theorem lw_p7 : lw_okq (⟨"ToyVillage$Parser", "goesOnWith", "(I)Z"⟩, 4) := ⟨⟨by decide +kernel, by decide +kernel⟩, List.mem_of_getElem? (i := 45) (by decide +kernel), List.mem_of_getElem? (i := 529) (by decide +kernel), List.mem_of_getElem? (i := 530) (by decide +kernel)⟩
theorem lw_p8 : lw_okq (⟨"ToyVillage$Parser", "goesOnBehindSide", "(I)Z"⟩, 4) := ⟨⟨by decide +kernel, by decide +kernel⟩, List.mem_of_getElem? (i := 45) (by decide +kernel), List.mem_of_getElem? (i := 533) (by decide +kernel), List.mem_of_getElem? (i := 534) (by decide +kernel)⟩
theorem lw_p9 : lw_okq (⟨"ToyVillage$Parser", "lacksRoomFor", "(ILToyVillage$Rules;)Z"⟩, 4) := ⟨⟨by decide +kernel, by decide +kernel⟩, List.mem_of_getElem? (i := 45) (by decide +kernel), List.mem_of_getElem? (i := 537) (by decide +kernel), List.mem_of_getElem? (i := 538) (by decide +kernel)⟩
theorem lw_p10 : lw_okq (⟨"ToyVillage$Parser", "moveBehind", "(I)V"⟩, 4) := ⟨⟨by decide +kernel, by decide +kernel⟩, List.mem_of_getElem? (i := 45) (by decide +kernel), List.mem_of_getElem? (i := 549) (by decide +kernel), List.mem_of_getElem? (i := 550) (by decide +kernel)⟩
theorem lw_p11 : lw_okq (⟨"ToyVillage", "putDraftInForce", "()V"⟩, 14) := ⟨⟨by decide +kernel, by decide +kernel⟩, List.mem_of_getElem? (i := 21) (by decide +kernel), List.mem_of_getElem? (i := 553) (by decide +kernel), List.mem_of_getElem? (i := 554) (by decide +kernel)⟩
theorem lw_p12 : lw_okq (⟨"ToyVillage$Cutter", "leaveOut", "(I)V"⟩, 4) := ⟨⟨by decide +kernel, by decide +kernel⟩, List.mem_of_getElem? (i := 188) (by decide +kernel), List.mem_of_getElem? (i := 640) (by decide +kernel), List.mem_of_getElem? (i := 641) (by decide +kernel)⟩
theorem lw_p13 : lw_okq (⟨"ToyVillage$Cutter", "fits", "(IIIJ)Z"⟩, 4) := ⟨⟨by decide +kernel, by decide +kernel⟩, List.mem_of_getElem? (i := 188) (by decide +kernel), List.mem_of_getElem? (i := 644) (by decide +kernel), List.mem_of_getElem? (i := 645) (by decide +kernel)⟩
theorem lw_p14 : lw_okq (⟨"ToyVillage$Cutter", "tryRing", "(II)V"⟩, 4) := ⟨⟨by decide +kernel, by decide +kernel⟩, List.mem_of_getElem? (i := 188) (by decide +kernel), List.mem_of_getElem? (i := 648) (by decide +kernel), List.mem_of_getElem? (i := 649) (by decide +kernel)⟩
theorem lw_p15 : lw_okq (⟨"ToyVillage", "storeCutLog", "(I)I"⟩, 14) := ⟨⟨by decide +kernel, by decide +kernel⟩, List.mem_of_getElem? (i := 21) (by decide +kernel), List.mem_of_getElem? (i := 656) (by decide +kernel), List.mem_of_getElem? (i := 657) (by decide +kernel)⟩
def lw_privs_1 : List (MethodName × Nat) := [(⟨"ToyVillage$Scanner", "word", "()I"⟩, 5), (⟨"ToyVillage$Scanner", "variable", "()I"⟩, 5), (⟨"ToyVillage$Scanner", "spells", "(Ljava/lang/String;)Z"⟩, 5), (⟨"ToyVillage$Scanner", "keyword", "()I"⟩, 5), (⟨"ToyVillage$Scanner", "number", "()I"⟩, 5), (⟨"ToyVillage$Scanner", "sign", "(I)I"⟩, 5), (⟨"ToyVillage$Scanner", "tookEqualSign", "()Z"⟩, 5), (⟨"ToyVillage$Parser", "goesOnWith", "(I)Z"⟩, 4), (⟨"ToyVillage$Parser", "goesOnBehindSide", "(I)Z"⟩, 4), (⟨"ToyVillage$Parser", "lacksRoomFor", "(ILToyVillage$Rules;)Z"⟩, 4), (⟨"ToyVillage$Parser", "moveBehind", "(I)V"⟩, 4), (⟨"ToyVillage", "putDraftInForce", "()V"⟩, 14), (⟨"ToyVillage$Cutter", "leaveOut", "(I)V"⟩, 4), (⟨"ToyVillage$Cutter", "fits", "(IIIJ)Z"⟩, 4), (⟨"ToyVillage$Cutter", "tryRing", "(II)V"⟩, 4), (⟨"ToyVillage", "storeCutLog", "(I)I"⟩, 14)]
theorem lw_r1 : ∀ q ∈ lw_privs_1, lw_okq q := List.forall_mem_cons.mpr ⟨lw_p0, List.forall_mem_cons.mpr ⟨lw_p1, List.forall_mem_cons.mpr ⟨lw_p2, List.forall_mem_cons.mpr ⟨lw_p3, List.forall_mem_cons.mpr ⟨lw_p4, List.forall_mem_cons.mpr ⟨lw_p5, List.forall_mem_cons.mpr ⟨lw_p6, List.forall_mem_cons.mpr ⟨lw_p7, List.forall_mem_cons.mpr ⟨lw_p8, List.forall_mem_cons.mpr ⟨lw_p9, List.forall_mem_cons.mpr ⟨lw_p10, List.forall_mem_cons.mpr ⟨lw_p11, List.forall_mem_cons.mpr ⟨lw_p12, List.forall_mem_cons.mpr ⟨lw_p13, List.forall_mem_cons.mpr ⟨lw_p14, List.forall_mem_cons.mpr ⟨lw_p15, fun _ h => absurd h List.not_mem_nil⟩⟩⟩⟩⟩⟩⟩⟩⟩⟩⟩⟩⟩⟩⟩⟩
theorem lw_p16 : lw_okq (⟨"ToyVillage", "takerOf", "(I)I"⟩, 14) := ⟨⟨by decide +kernel, by decide +kernel⟩, List.mem_of_getElem? (i := 21) (by decide +kernel), List.mem_of_getElem? (i := 676) (by decide +kernel), List.mem_of_getElem? (i := 677) (by decide +kernel)⟩
theorem lw_p17 : lw_okq (⟨"ToyVillage", "tellFacts", "(II)V"⟩, 14) := ⟨⟨by decide +kernel, by decide +kernel⟩, List.mem_of_getElem? (i := 21) (by decide +kernel), List.mem_of_getElem? (i := 680) (by decide +kernel), List.mem_of_getElem? (i := 681) (by decide +kernel)⟩
theorem lw_p18 : lw_okq (⟨"ToyVillage$Rules", "takeToken", "()I"⟩, 8) := ⟨⟨by decide +kernel, by decide +kernel⟩, List.mem_of_getElem? (i := 89) (by decide +kernel), List.mem_of_getElem? (i := 692) (by decide +kernel), List.mem_of_getElem? (i := 693) (by decide +kernel)⟩
theorem lw_p19 : lw_okq (⟨"ToyVillage$Rules", "expression", "([I)I"⟩, 8) := ⟨⟨by decide +kernel, by decide +kernel⟩, List.mem_of_getElem? (i := 89) (by decide +kernel), List.mem_of_getElem? (i := 696) (by decide +kernel), List.mem_of_getElem? (i := 697) (by decide +kernel)⟩
theorem lw_p20 : lw_okq (⟨"ToyVillage$Rules", "beginSum", "(I)V"⟩, 8) := ⟨⟨by decide +kernel, by decide +kernel⟩, List.mem_of_getElem? (i := 89) (by decide +kernel), List.mem_of_getElem? (i := 700) (by decide +kernel), List.mem_of_getElem? (i := 701) (by decide +kernel)⟩
theorem lw_p21 : lw_okq (⟨"ToyVillage$Rules", "beginPart", "(II)V"⟩, 8) := ⟨⟨by decide +kernel, by decide +kernel⟩, List.mem_of_getElem? (i := 89) (by decide +kernel), List.mem_of_getElem? (i := 704) (by decide +kernel), List.mem_of_getElem? (i := 705) (by decide +kernel)⟩
theorem lw_p22 : lw_okq (⟨"ToyVillage$Rules", "factor", "(I[I)I"⟩, 8) := ⟨⟨by decide +kernel, by decide +kernel⟩, List.mem_of_getElem? (i := 89) (by decide +kernel), List.mem_of_getElem? (i := 717) (by decide +kernel), List.mem_of_getElem? (i := 718) (by decide +kernel)⟩
theorem lw_p23 : lw_okq (⟨"ToyVillage$Rules", "condition", "([I)Z"⟩, 8) := ⟨⟨by decide +kernel, by decide +kernel⟩, List.mem_of_getElem? (i := 89) (by decide +kernel), List.mem_of_getElem? (i := 721) (by decide +kernel), List.mem_of_getElem? (i := 722) (by decide +kernel)⟩
theorem lw_p24 : lw_okq (⟨"ToyVillage$Rules", "relation", "([I)Z"⟩, 8) := ⟨⟨by decide +kernel, by decide +kernel⟩, List.mem_of_getElem? (i := 89) (by decide +kernel), List.mem_of_getElem? (i := 725) (by decide +kernel), List.mem_of_getElem? (i := 726) (by decide +kernel)⟩
theorem lw_p25 : lw_okq (⟨"ToyVillage", "carve", "(II)V"⟩, 14) := ⟨⟨by decide +kernel, by decide +kernel⟩, List.mem_of_getElem? (i := 21) (by decide +kernel), List.mem_of_getElem? (i := 733) (by decide +kernel), List.mem_of_getElem? (i := 734) (by decide +kernel)⟩
theorem lw_p26 : lw_okq (⟨"ToyVillage$Boxing", "countSupply", "()V"⟩, 4) := ⟨⟨by decide +kernel, by decide +kernel⟩, List.mem_of_getElem? (i := 332) (by decide +kernel), List.mem_of_getElem? (i := 796) (by decide +kernel), List.mem_of_getElem? (i := 797) (by decide +kernel)⟩
theorem lw_p27 : lw_okq (⟨"ToyVillage$Boxing", "isAhead", "(II)Z"⟩, 4) := ⟨⟨by decide +kernel, by decide +kernel⟩, List.mem_of_getElem? (i := 332) (by decide +kernel), List.mem_of_getElem? (i := 818) (by decide +kernel), List.mem_of_getElem? (i := 819) (by decide +kernel)⟩
theorem lw_p28 : lw_okq (⟨"ToyVillage$Boxing", "canFill", "(I)Z"⟩, 4) := ⟨⟨by decide +kernel, by decide +kernel⟩, List.mem_of_getElem? (i := 332) (by decide +kernel), List.mem_of_getElem? (i := 835) (by decide +kernel), List.mem_of_getElem? (i := 836) (by decide +kernel)⟩
theorem lw_p29 : lw_okq (⟨"ToyVillage$Boxing", "countDemand", "(I)V"⟩, 4) := ⟨⟨by decide +kernel, by decide +kernel⟩, List.mem_of_getElem? (i := 332) (by decide +kernel), List.mem_of_getElem? (i := 839) (by decide +kernel), List.mem_of_getElem? (i := 840) (by decide +kernel)⟩
theorem lw_p30 : lw_okq (⟨"ToyVillage$Boxing", "fillNeeds", "(IZ)V"⟩, 4) := ⟨⟨by decide +kernel, by decide +kernel⟩, List.mem_of_getElem? (i := 332) (by decide +kernel), List.mem_of_getElem? (i := 852) (by decide +kernel), List.mem_of_getElem? (i := 853) (by decide +kernel)⟩
theorem lw_p31 : lw_okq (⟨"ToyVillage$Boxing", "fillNeed", "(II)V"⟩, 4) := ⟨⟨by decide +kernel, by decide +kernel⟩, List.mem_of_getElem? (i := 332) (by decide +kernel), List.mem_of_getElem? (i := 856) (by decide +kernel), List.mem_of_getElem? (i := 857) (by decide +kernel)⟩
def lw_privs_2 : List (MethodName × Nat) := [(⟨"ToyVillage", "takerOf", "(I)I"⟩, 14), (⟨"ToyVillage", "tellFacts", "(II)V"⟩, 14), (⟨"ToyVillage$Rules", "takeToken", "()I"⟩, 8), (⟨"ToyVillage$Rules", "expression", "([I)I"⟩, 8), (⟨"ToyVillage$Rules", "beginSum", "(I)V"⟩, 8), (⟨"ToyVillage$Rules", "beginPart", "(II)V"⟩, 8), (⟨"ToyVillage$Rules", "factor", "(I[I)I"⟩, 8), (⟨"ToyVillage$Rules", "condition", "([I)Z"⟩, 8), (⟨"ToyVillage$Rules", "relation", "([I)Z"⟩, 8), (⟨"ToyVillage", "carve", "(II)V"⟩, 14), (⟨"ToyVillage$Boxing", "countSupply", "()V"⟩, 4), (⟨"ToyVillage$Boxing", "isAhead", "(II)Z"⟩, 4), (⟨"ToyVillage$Boxing", "canFill", "(I)Z"⟩, 4), (⟨"ToyVillage$Boxing", "countDemand", "(I)V"⟩, 4), (⟨"ToyVillage$Boxing", "fillNeeds", "(IZ)V"⟩, 4), (⟨"ToyVillage$Boxing", "fillNeed", "(II)V"⟩, 4)]
theorem lw_r2 : ∀ q ∈ lw_privs_2, lw_okq q := List.forall_mem_cons.mpr ⟨lw_p16, List.forall_mem_cons.mpr ⟨lw_p17, List.forall_mem_cons.mpr ⟨lw_p18, List.forall_mem_cons.mpr ⟨lw_p19, List.forall_mem_cons.mpr ⟨lw_p20, List.forall_mem_cons.mpr ⟨lw_p21, List.forall_mem_cons.mpr ⟨lw_p22, List.forall_mem_cons.mpr ⟨lw_p23, List.forall_mem_cons.mpr ⟨lw_p24, List.forall_mem_cons.mpr ⟨lw_p25, List.forall_mem_cons.mpr ⟨lw_p26, List.forall_mem_cons.mpr ⟨lw_p27, List.forall_mem_cons.mpr ⟨lw_p28, List.forall_mem_cons.mpr ⟨lw_p29, List.forall_mem_cons.mpr ⟨lw_p30, List.forall_mem_cons.mpr ⟨lw_p31, fun _ h => absurd h List.not_mem_nil⟩⟩⟩⟩⟩⟩⟩⟩⟩⟩⟩⟩⟩⟩⟩⟩
theorem lw_p32 : lw_okq (⟨"ToyVillage", "payFor", "(I)V"⟩, 14) := ⟨⟨by decide +kernel, by decide +kernel⟩, List.mem_of_getElem? (i := 21) (by decide +kernel), List.mem_of_getElem? (i := 865) (by decide +kernel), List.mem_of_getElem? (i := 866) (by decide +kernel)⟩
theorem lw_p33 : lw_okq (⟨"ToyVillage", "unbox", "(I)V"⟩, 14) := ⟨⟨by decide +kernel, by decide +kernel⟩, List.mem_of_getElem? (i := 21) (by decide +kernel), List.mem_of_getElem? (i := 880) (by decide +kernel), List.mem_of_getElem? (i := 881) (by decide +kernel)⟩
theorem lw_p34 : lw_okq (⟨"ToyVillageModel", "put", "(I)V"⟩, 85) := ⟨⟨by decide +kernel, by decide +kernel⟩, List.mem_of_getElem? (i := 946) (by decide +kernel), List.mem_of_getElem? (i := 1217) (by decide +kernel), List.mem_of_getElem? (i := 1218) (by decide +kernel)⟩
theorem lw_p35 : lw_okq (⟨"ToyVillageModel", "cut", "()V"⟩, 85) := ⟨⟨by decide +kernel, by decide +kernel⟩, List.mem_of_getElem? (i := 946) (by decide +kernel), List.mem_of_getElem? (i := 1229) (by decide +kernel), List.mem_of_getElem? (i := 1230) (by decide +kernel)⟩
theorem lw_p36 : lw_okq (⟨"ToyVillageModel", "at", "(I)I"⟩, 85) := ⟨⟨by decide +kernel, by decide +kernel⟩, List.mem_of_getElem? (i := 946) (by decide +kernel), List.mem_of_getElem? (i := 1233) (by decide +kernel), List.mem_of_getElem? (i := 1234) (by decide +kernel)⟩
theorem lw_p37 : lw_okq (⟨"ToyVillageModel", "token", "(IIIJ)V"⟩, 85) := ⟨⟨by decide +kernel, by decide +kernel⟩, List.mem_of_getElem? (i := 946) (by decide +kernel), List.mem_of_getElem? (i := 1237) (by decide +kernel), List.mem_of_getElem? (i := 1238) (by decide +kernel)⟩
theorem lw_p38 : lw_okq (⟨"ToyVillageModel", "sign", "(III)I"⟩, 85) := ⟨⟨by decide +kernel, by decide +kernel⟩, List.mem_of_getElem? (i := 946) (by decide +kernel), List.mem_of_getElem? (i := 1247) (by decide +kernel), List.mem_of_getElem? (i := 1248) (by decide +kernel)⟩
theorem lw_p39 : lw_okq (⟨"ToyVillageModel", "is", "(I)Z"⟩, 85) := ⟨⟨by decide +kernel, by decide +kernel⟩, List.mem_of_getElem? (i := 946) (by decide +kernel), List.mem_of_getElem? (i := 1251) (by decide +kernel), List.mem_of_getElem? (i := 1252) (by decide +kernel)⟩
theorem lw_p40 : lw_okq (⟨"ToyVillageModel", "tellRule", "()V"⟩, 85) := ⟨⟨by decide +kernel, by decide +kernel⟩, List.mem_of_getElem? (i := 946) (by decide +kernel), List.mem_of_getElem? (i := 1255) (by decide +kernel), List.mem_of_getElem? (i := 1256) (by decide +kernel)⟩
theorem lw_p41 : lw_okq (⟨"ToyVillageModel", "fail", "(I)V"⟩, 85) := ⟨⟨by decide +kernel, by decide +kernel⟩, List.mem_of_getElem? (i := 946) (by decide +kernel), List.mem_of_getElem? (i := 1259) (by decide +kernel), List.mem_of_getElem? (i := 1260) (by decide +kernel)⟩
theorem lw_p42 : lw_okq (⟨"ToyVillageModel", "next", "()V"⟩, 85) := ⟨⟨by decide +kernel, by decide +kernel⟩, List.mem_of_getElem? (i := 946) (by decide +kernel), List.mem_of_getElem? (i := 1263) (by decide +kernel), List.mem_of_getElem? (i := 1264) (by decide +kernel)⟩
theorem lw_p43 : lw_okq (⟨"ToyVillageModel", "expression", "()V"⟩, 85) := ⟨⟨by decide +kernel, by decide +kernel⟩, List.mem_of_getElem? (i := 946) (by decide +kernel), List.mem_of_getElem? (i := 1267) (by decide +kernel), List.mem_of_getElem? (i := 1268) (by decide +kernel)⟩
theorem lw_p44 : lw_okq (⟨"ToyVillageModel", "emit", "(II)V"⟩, 85) := ⟨⟨by decide +kernel, by decide +kernel⟩, List.mem_of_getElem? (i := 946) (by decide +kernel), List.mem_of_getElem? (i := 1271) (by decide +kernel), List.mem_of_getElem? (i := 1272) (by decide +kernel)⟩
theorem lw_p45 : lw_okq (⟨"ToyVillageModel", "comesOut", "(Z)V"⟩, 85) := ⟨⟨by decide +kernel, by decide +kernel⟩, List.mem_of_getElem? (i := 946) (by decide +kernel), List.mem_of_getElem? (i := 1275) (by decide +kernel), List.mem_of_getElem? (i := 1276) (by decide +kernel)⟩
theorem lw_p46 : lw_okq (⟨"ToyVillageModel", "relation", "(Z)V"⟩, 85) := ⟨⟨by decide +kernel, by decide +kernel⟩, List.mem_of_getElem? (i := 946) (by decide +kernel), List.mem_of_getElem? (i := 1279) (by decide +kernel), List.mem_of_getElem? (i := 1280) (by decide +kernel)⟩
theorem lw_p47 : lw_okq (⟨"ToyVillageModel", "must", "(I)V"⟩, 85) := ⟨⟨by decide +kernel, by decide +kernel⟩, List.mem_of_getElem? (i := 946) (by decide +kernel), List.mem_of_getElem? (i := 1283) (by decide +kernel), List.mem_of_getElem? (i := 1284) (by decide +kernel)⟩
def lw_privs_3 : List (MethodName × Nat) := [(⟨"ToyVillage", "payFor", "(I)V"⟩, 14), (⟨"ToyVillage", "unbox", "(I)V"⟩, 14), (⟨"ToyVillageModel", "put", "(I)V"⟩, 85), (⟨"ToyVillageModel", "cut", "()V"⟩, 85), (⟨"ToyVillageModel", "at", "(I)I"⟩, 85), (⟨"ToyVillageModel", "token", "(IIIJ)V"⟩, 85), (⟨"ToyVillageModel", "sign", "(III)I"⟩, 85), (⟨"ToyVillageModel", "is", "(I)Z"⟩, 85), (⟨"ToyVillageModel", "tellRule", "()V"⟩, 85), (⟨"ToyVillageModel", "fail", "(I)V"⟩, 85), (⟨"ToyVillageModel", "next", "()V"⟩, 85), (⟨"ToyVillageModel", "expression", "()V"⟩, 85), (⟨"ToyVillageModel", "emit", "(II)V"⟩, 85), (⟨"ToyVillageModel", "comesOut", "(Z)V"⟩, 85), (⟨"ToyVillageModel", "relation", "(Z)V"⟩, 85), (⟨"ToyVillageModel", "must", "(I)V"⟩, 85)]
theorem lw_r3 : ∀ q ∈ lw_privs_3, lw_okq q := List.forall_mem_cons.mpr ⟨lw_p32, List.forall_mem_cons.mpr ⟨lw_p33, List.forall_mem_cons.mpr ⟨lw_p34, List.forall_mem_cons.mpr ⟨lw_p35, List.forall_mem_cons.mpr ⟨lw_p36, List.forall_mem_cons.mpr ⟨lw_p37, List.forall_mem_cons.mpr ⟨lw_p38, List.forall_mem_cons.mpr ⟨lw_p39, List.forall_mem_cons.mpr ⟨lw_p40, List.forall_mem_cons.mpr ⟨lw_p41, List.forall_mem_cons.mpr ⟨lw_p42, List.forall_mem_cons.mpr ⟨lw_p43, List.forall_mem_cons.mpr ⟨lw_p44, List.forall_mem_cons.mpr ⟨lw_p45, List.forall_mem_cons.mpr ⟨lw_p46, List.forall_mem_cons.mpr ⟨lw_p47, fun _ h => absurd h List.not_mem_nil⟩⟩⟩⟩⟩⟩⟩⟩⟩⟩⟩⟩⟩⟩⟩⟩
theorem lw_p48 : lw_okq (⟨"ToyVillageModel", "isFamily", "(I)Z"⟩, 85) := ⟨⟨by decide +kernel, by decide +kernel⟩, List.mem_of_getElem? (i := 946) (by decide +kernel), List.mem_of_getElem? (i := 1303) (by decide +kernel), List.mem_of_getElem? (i := 1304) (by decide +kernel)⟩
theorem lw_p49 : lw_okq (⟨"ToyVillageModel", "isKind", "(I)Z"⟩, 85) := ⟨⟨by decide +kernel, by decide +kernel⟩, List.mem_of_getElem? (i := 946) (by decide +kernel), List.mem_of_getElem? (i := 1307) (by decide +kernel), List.mem_of_getElem? (i := 1308) (by decide +kernel)⟩
theorem lw_p50 : lw_okq (⟨"ToyVillageModel", "mayCarve", "(III)Z"⟩, 85) := ⟨⟨by decide +kernel, by decide +kernel⟩, List.mem_of_getElem? (i := 946) (by decide +kernel), List.mem_of_getElem? (i := 1319) (by decide +kernel), List.mem_of_getElem? (i := 1320) (by decide +kernel)⟩
theorem lw_p51 : lw_okq (⟨"ToyVillageModel", "isBarred", "(II)Z"⟩, 85) := ⟨⟨by decide +kernel, by decide +kernel⟩, List.mem_of_getElem? (i := 946) (by decide +kernel), List.mem_of_getElem? (i := 1339) (by decide +kernel), List.mem_of_getElem? (i := 1340) (by decide +kernel)⟩
theorem lw_p52 : lw_okq (⟨"ToyVillageModel", "asks", "(II)V"⟩, 85) := ⟨⟨by decide +kernel, by decide +kernel⟩, List.mem_of_getElem? (i := 946) (by decide +kernel), List.mem_of_getElem? (i := 1343) (by decide +kernel), List.mem_of_getElem? (i := 1344) (by decide +kernel)⟩
theorem lw_p53 : lw_okq (⟨"ToyVillageModel", "holds", "(I)Z"⟩, 85) := ⟨⟨by decide +kernel, by decide +kernel⟩, List.mem_of_getElem? (i := 946) (by decide +kernel), List.mem_of_getElem? (i := 1347) (by decide +kernel), List.mem_of_getElem? (i := 1348) (by decide +kernel)⟩
theorem lw_p54 : lw_okq (⟨"ToyVillageModel", "value", "(II)I"⟩, 85) := ⟨⟨by decide +kernel, by decide +kernel⟩, List.mem_of_getElem? (i := 946) (by decide +kernel), List.mem_of_getElem? (i := 1351) (by decide +kernel), List.mem_of_getElem? (i := 1352) (by decide +kernel)⟩
theorem lw_p55 : lw_okq (⟨"ToyVillageModel", "says", "(III)I"⟩, 85) := ⟨⟨by decide +kernel, by decide +kernel⟩, List.mem_of_getElem? (i := 946) (by decide +kernel), List.mem_of_getElem? (i := 1355) (by decide +kernel), List.mem_of_getElem? (i := 1356) (by decide +kernel)⟩
theorem lw_p56 : lw_okq (⟨"ToyVillageModel", "isFigure", "(I)Z"⟩, 85) := ⟨⟨by decide +kernel, by decide +kernel⟩, List.mem_of_getElem? (i := 946) (by decide +kernel), List.mem_of_getElem? (i := 1367) (by decide +kernel), List.mem_of_getElem? (i := 1368) (by decide +kernel)⟩
theorem lw_p57 : lw_okq (⟨"ToyVillageModel", "isOrder", "(I)Z"⟩, 85) := ⟨⟨by decide +kernel, by decide +kernel⟩, List.mem_of_getElem? (i := 946) (by decide +kernel), List.mem_of_getElem? (i := 1379) (by decide +kernel), List.mem_of_getElem? (i := 1380) (by decide +kernel)⟩
theorem lw_p58 : lw_okq (⟨"ToyVillageModel", "counts", "()V"⟩, 85) := ⟨⟨by decide +kernel, by decide +kernel⟩, List.mem_of_getElem? (i := 946) (by decide +kernel), List.mem_of_getElem? (i := 1387) (by decide +kernel), List.mem_of_getElem? (i := 1388) (by decide +kernel)⟩
theorem lw_p59 : lw_okq (⟨"ToyVillageModel", "kindOf", "(I)I"⟩, 85) := ⟨⟨by decide +kernel, by decide +kernel⟩, List.mem_of_getElem? (i := 946) (by decide +kernel), List.mem_of_getElem? (i := 1391) (by decide +kernel), List.mem_of_getElem? (i := 1392) (by decide +kernel)⟩
theorem lw_p60 : lw_okq (⟨"ToyVillageModel", "colourOf", "(I)I"⟩, 85) := ⟨⟨by decide +kernel, by decide +kernel⟩, List.mem_of_getElem? (i := 946) (by decide +kernel), List.mem_of_getElem? (i := 1395) (by decide +kernel), List.mem_of_getElem? (i := 1396) (by decide +kernel)⟩
theorem lw_p61 : lw_okq (⟨"ToyVillageModel", "isAhead", "(II)Z"⟩, 85) := ⟨⟨by decide +kernel, by decide +kernel⟩, List.mem_of_getElem? (i := 946) (by decide +kernel), List.mem_of_getElem? (i := 1399) (by decide +kernel), List.mem_of_getElem? (i := 1400) (by decide +kernel)⟩
theorem lw_p62 : lw_okq (⟨"ToyVillageModel", "worthOf", "(I)I"⟩, 85) := ⟨⟨by decide +kernel, by decide +kernel⟩, List.mem_of_getElem? (i := 946) (by decide +kernel), List.mem_of_getElem? (i := 1403) (by decide +kernel), List.mem_of_getElem? (i := 1404) (by decide +kernel)⟩
theorem lw_p63 : lw_okq (⟨"ToyVillageModel", "fills", "(I)Z"⟩, 85) := ⟨⟨by decide +kernel, by decide +kernel⟩, List.mem_of_getElem? (i := 946) (by decide +kernel), List.mem_of_getElem? (i := 1410) (by decide +kernel), List.mem_of_getElem? (i := 1411) (by decide +kernel)⟩
def lw_privs_4 : List (MethodName × Nat) := [(⟨"ToyVillageModel", "isFamily", "(I)Z"⟩, 85), (⟨"ToyVillageModel", "isKind", "(I)Z"⟩, 85), (⟨"ToyVillageModel", "mayCarve", "(III)Z"⟩, 85), (⟨"ToyVillageModel", "isBarred", "(II)Z"⟩, 85), (⟨"ToyVillageModel", "asks", "(II)V"⟩, 85), (⟨"ToyVillageModel", "holds", "(I)Z"⟩, 85), (⟨"ToyVillageModel", "value", "(II)I"⟩, 85), (⟨"ToyVillageModel", "says", "(III)I"⟩, 85), (⟨"ToyVillageModel", "isFigure", "(I)Z"⟩, 85), (⟨"ToyVillageModel", "isOrder", "(I)Z"⟩, 85), (⟨"ToyVillageModel", "counts", "()V"⟩, 85), (⟨"ToyVillageModel", "kindOf", "(I)I"⟩, 85), (⟨"ToyVillageModel", "colourOf", "(I)I"⟩, 85), (⟨"ToyVillageModel", "isAhead", "(II)Z"⟩, 85), (⟨"ToyVillageModel", "worthOf", "(I)I"⟩, 85), (⟨"ToyVillageModel", "fills", "(I)Z"⟩, 85)]
theorem lw_r4 : ∀ q ∈ lw_privs_4, lw_okq q := List.forall_mem_cons.mpr ⟨lw_p48, List.forall_mem_cons.mpr ⟨lw_p49, List.forall_mem_cons.mpr ⟨lw_p50, List.forall_mem_cons.mpr ⟨lw_p51, List.forall_mem_cons.mpr ⟨lw_p52, List.forall_mem_cons.mpr ⟨lw_p53, List.forall_mem_cons.mpr ⟨lw_p54, List.forall_mem_cons.mpr ⟨lw_p55, List.forall_mem_cons.mpr ⟨lw_p56, List.forall_mem_cons.mpr ⟨lw_p57, List.forall_mem_cons.mpr ⟨lw_p58, List.forall_mem_cons.mpr ⟨lw_p59, List.forall_mem_cons.mpr ⟨lw_p60, List.forall_mem_cons.mpr ⟨lw_p61, List.forall_mem_cons.mpr ⟨lw_p62, List.forall_mem_cons.mpr ⟨lw_p63, fun _ h => absurd h List.not_mem_nil⟩⟩⟩⟩⟩⟩⟩⟩⟩⟩⟩⟩⟩⟩⟩⟩
theorem lw_p64 : lw_okq (⟨"ToyVillageModel", "takesOf", "(III)Z"⟩, 85) := ⟨⟨by decide +kernel, by decide +kernel⟩, List.mem_of_getElem? (i := 946) (by decide +kernel), List.mem_of_getElem? (i := 1414) (by decide +kernel), List.mem_of_getElem? (i := 1415) (by decide +kernel)⟩
theorem lw_p65 : lw_okq (⟨"ToyVillageModel", "packs", "(II)V"⟩, 85) := ⟨⟨by decide +kernel, by decide +kernel⟩, List.mem_of_getElem? (i := 946) (by decide +kernel), List.mem_of_getElem? (i := 1418) (by decide +kernel), List.mem_of_getElem? (i := 1419) (by decide +kernel)⟩
def lw_privs_5 : List (MethodName × Nat) := [(⟨"ToyVillageModel", "takesOf", "(III)Z"⟩, 85), (⟨"ToyVillageModel", "packs", "(II)V"⟩, 85)]
theorem lw_r5 : ∀ q ∈ lw_privs_5, lw_okq q := List.forall_mem_cons.mpr ⟨lw_p64, List.forall_mem_cons.mpr ⟨lw_p65, fun _ h => absurd h List.not_mem_nil⟩⟩
def lw_privs : List (MethodName × Nat) := lw_privs_1 ++ (lw_privs_2 ++ (lw_privs_3 ++ (lw_privs_4 ++ (lw_privs_5))))
def lw_tbl : List Cond := k2_sels lw_privs ++ tables_1
theorem lw_privs_ok : ∀ q ∈ lw_privs, lw_okq q := by
  show ∀ q ∈ lw_privs_1 ++ (lw_privs_2 ++ (lw_privs_3 ++ (lw_privs_4 ++ (lw_privs_5)))), lw_okq q
  exact List.forall_mem_append.mpr ⟨lw_r1, List.forall_mem_append.mpr ⟨lw_r2, List.forall_mem_append.mpr ⟨lw_r3, List.forall_mem_append.mpr ⟨lw_r4, lw_r5⟩⟩⟩⟩
def RX0 : String := "ToyVillage$Boxing"
def TX0 : u_T := fun k => match k with
  | 0 => ("ToyVillage$Boxing", "orders", "LToyVillage$Orders;", true)
  | 1 => ("ToyVillage$Boxing", "figures", "LToyVillage$Figures;", true)
  | 2 => ("ToyVillage$Boxing", "supply", "[I", true)
  | _ => ("ToyVillage$Boxing", "demand", "[I", true)
def tyX0 : Nat → FieldType := fun k => match k with
  | 0 => .object "ToyVillage$Orders"
  | 1 => .object "ToyVillage$Figures"
  | 2 => .array .int
  | _ => .array .int
abbrev wsX00 : List Cond := u_ws RX0 TX0 4
theorem nmX0 : ∀ a, a < 4 → ∀ b, b < 4 → a ≠ b → (TX0 a).2.1 ≠ (TX0 b).2.1 := by decide +kernel
theorem tyX0_ok : ∀ k, k < 4 → parseFieldDescriptor (TX0 k).2.2.1 = some (tyX0 k) := by decide +kernel
abbrev cX0_init : ByteArray := prog_2_method_1_code
def yX0_init : MethodName := ⟨RX0, "<init>", "(LToyVillage$Orders;LToyVillage$Figures;)V"⟩
abbrev cX0_bestSet : ByteArray := prog_2_method_2_code
def yX0_bestSet : MethodName := ⟨RX0, "bestSet", "()I"⟩
abbrev cX0_fill : ByteArray := prog_2_method_3_code
def yX0_fill : MethodName := ⟨RX0, "fill", "(I)V"⟩
abbrev cX0_countSupply : ByteArray := prog_2_method_4_code
def yX0_countSupply : MethodName := ⟨RX0, "countSupply", "()V"⟩
abbrev cX0_isAhead : ByteArray := prog_2_method_5_code
def yX0_isAhead : MethodName := ⟨RX0, "isAhead", "(II)Z"⟩
abbrev cX0_canFill : ByteArray := prog_2_method_6_code
def yX0_canFill : MethodName := ⟨RX0, "canFill", "(I)Z"⟩
abbrev cX0_countDemand : ByteArray := prog_2_method_7_code
def yX0_countDemand : MethodName := ⟨RX0, "countDemand", "(I)V"⟩
abbrev cX0_fillNeeds : ByteArray := prog_2_method_8_code
def yX0_fillNeeds : MethodName := ⟨RX0, "fillNeeds", "(IZ)V"⟩
abbrev cX0_fillNeed : ByteArray := prog_2_method_9_code
def yX0_fillNeed : MethodName := ⟨RX0, "fillNeed", "(II)V"⟩
abbrev cX0_row : ByteArray := prog_2_method_10_code
def yX0_row : MethodName := ⟨RX0, "row", "(II)I"⟩
abbrev cX0_clear : ByteArray := prog_2_method_11_code
def yX0_clear : MethodName := ⟨RX0, "clear", "([I)V"⟩
def RX1 : String := "ToyVillage$Cutter"
def TX1 : u_T := fun k => match k with
  | 0 => ("ToyVillage$Cutter", "kinds", "LToyVillage$Kinds;", true)
  | 1 => ("ToyVillage$Cutter", "bestWorth", "[I", true)
  | 2 => ("ToyVillage$Cutter", "fewestRings", "[I", true)
  | _ => ("ToyVillage$Cutter", "choice", "[I", true)
def tyX1 : Nat → FieldType := fun k => match k with
  | 0 => .object "ToyVillage$Kinds"
  | 1 => .array .int
  | 2 => .array .int
  | _ => .array .int
abbrev wsX10 : List Cond := u_ws RX1 TX1 4
theorem nmX1 : ∀ a, a < 4 → ∀ b, b < 4 → a ≠ b → (TX1 a).2.1 ≠ (TX1 b).2.1 := by decide +kernel
theorem tyX1_ok : ∀ k, k < 4 → parseFieldDescriptor (TX1 k).2.2.1 = some (tyX1 k) := by decide +kernel
abbrev cX1_init : ByteArray := prog_3_method_1_code
def yX1_init : MethodName := ⟨RX1, "<init>", "(LToyVillage$Kinds;)V"⟩
abbrev cX1_cut : ByteArray := prog_3_method_2_code
def yX1_cut : MethodName := ⟨RX1, "cut", "(IJI)V"⟩
abbrev cX1_ringsOfBest : ByteArray := prog_3_method_3_code
def yX1_ringsOfBest : MethodName := ⟨RX1, "ringsOfBest", "()I"⟩
abbrev cX1_choiceAt : ByteArray := prog_3_method_4_code
def yX1_choiceAt : MethodName := ⟨RX1, "choiceAt", "(I)I"⟩
abbrev cX1_fits : ByteArray := prog_3_method_5_code
def yX1_fits : MethodName := ⟨RX1, "fits", "(IIIJ)Z"⟩
abbrev cX1_leaveOut : ByteArray := prog_3_method_6_code
def yX1_leaveOut : MethodName := ⟨RX1, "leaveOut", "(I)V"⟩
abbrev cX1_tryRing : ByteArray := prog_3_method_7_code
def yX1_tryRing : MethodName := ⟨RX1, "tryRing", "(II)V"⟩
def RX2 : String := "ToyVillage$Families"
def TX2 : u_T := fun k => match k with
  | 0 => ("ToyVillage$Families", "count", "I", false)
  | 1 => ("ToyVillage$Families", "hands", "[I", true)
  | 2 => ("ToyVillage$Families", "widow", "[Z", true)
  | 3 => ("ToyVillage$Families", "money", "[I", true)
  | 4 => ("ToyVillage$Families", "owned", "[Z", true)
  | 5 => ("ToyVillage$Families", "lentSeasons", "[J", true)
  | 6 => ("ToyVillage$Families", "lendings", "I", false)
  | _ => ("ToyVillage$Families", "carved", "[I", true)
def tyX2 : Nat → FieldType := fun k => match k with
  | 0 => .int
  | 1 => .array .int
  | 2 => .array .boolean
  | 3 => .array .int
  | 4 => .array .boolean
  | 5 => .array .long
  | 6 => .int
  | _ => .array .int
abbrev wsX20 : List Cond := u_ws RX2 TX2 8
theorem nmX2 : ∀ a, a < 8 → ∀ b, b < 8 → a ≠ b → (TX2 a).2.1 ≠ (TX2 b).2.1 := by decide +kernel
theorem tyX2_ok : ∀ k, k < 8 → parseFieldDescriptor (TX2 k).2.2.1 = some (tyX2 k) := by decide +kernel
abbrev cX2_init : ByteArray := prog_4_method_1_code
def yX2_init : MethodName := ⟨RX2, "<init>", "()V"⟩
abbrev cX2_has : ByteArray := prog_4_method_2_code
def yX2_has : MethodName := ⟨RX2, "has", "(I)Z"⟩
abbrev cX2_add : ByteArray := prog_4_method_3_code
def yX2_add : MethodName := ⟨RX2, "add", "(IZ)I"⟩
abbrev cX2_owns : ByteArray := prog_4_method_4_code
def yX2_owns : MethodName := ⟨RX2, "owns", "(II)Z"⟩
abbrev cX2_makeOwner : ByteArray := prog_4_method_5_code
def yX2_makeOwner : MethodName := ⟨RX2, "makeOwner", "(II)V"⟩
abbrev cX2_addLending : ByteArray := prog_4_method_6_code
def yX2_addLending : MethodName := ⟨RX2, "addLending", "(IIII)Z"⟩
abbrev cX2_mayCarve : ByteArray := prog_4_method_7_code
def yX2_mayCarve : MethodName := ⟨RX2, "mayCarve", "(III)Z"⟩
abbrev cX2_carvable : ByteArray := prog_4_method_8_code
def yX2_carvable : MethodName := ⟨RX2, "carvable", "(I)I"⟩
abbrev cX2_carvedIn : ByteArray := prog_4_method_9_code
def yX2_carvedIn : MethodName := ⟨RX2, "carvedIn", "(II)I"⟩
abbrev cX2_addCarved : ByteArray := prog_4_method_10_code
def yX2_addCarved : MethodName := ⟨RX2, "addCarved", "(III)V"⟩
def RX3 : String := "ToyVillage$Figures"
def TX3 : u_T := fun k => match k with
  | 0 => ("ToyVillage$Figures", "rings", "LToyVillage$Rings;", true)
  | 1 => ("ToyVillage$Figures", "count", "I", false)
  | 2 => ("ToyVillage$Figures", "ring", "[I", true)
  | 3 => ("ToyVillage$Figures", "season", "[I", true)
  | 4 => ("ToyVillage$Figures", "lot", "[I", true)
  | 5 => ("ToyVillage$Figures", "order", "[I", true)
  | 6 => ("ToyVillage$Figures", "pay", "[I", true)
  | 7 => ("ToyVillage$Figures", "lots", "I", false)
  | _ => ("ToyVillage$Figures", "colour", "[I", true)
def tyX3 : Nat → FieldType := fun k => match k with
  | 0 => .object "ToyVillage$Rings"
  | 1 => .int
  | 2 => .array .int
  | 3 => .array .int
  | 4 => .array .int
  | 5 => .array .int
  | 6 => .array .int
  | 7 => .int
  | _ => .array .int
abbrev wsX30 : List Cond := u_ws RX3 TX3 9
theorem nmX3 : ∀ a, a < 9 → ∀ b, b < 9 → a ≠ b → (TX3 a).2.1 ≠ (TX3 b).2.1 := by decide +kernel
theorem tyX3_ok : ∀ k, k < 9 → parseFieldDescriptor (TX3 k).2.2.1 = some (tyX3 k) := by decide +kernel
abbrev cX3_init : ByteArray := prog_5_method_1_code
def yX3_init : MethodName := ⟨RX3, "<init>", "(LToyVillage$Rings;)V"⟩
abbrev cX3_has : ByteArray := prog_5_method_2_code
def yX3_has : MethodName := ⟨RX3, "has", "(I)Z"⟩
abbrev cX3_add : ByteArray := prog_5_method_3_code
def yX3_add : MethodName := ⟨RX3, "add", "(II)V"⟩
abbrev cX3_kindOf : ByteArray := prog_5_method_4_code
def yX3_kindOf : MethodName := ⟨RX3, "kindOf", "(I)I"⟩
abbrev cX3_familyOf : ByteArray := prog_5_method_5_code
def yX3_familyOf : MethodName := ⟨RX3, "familyOf", "(I)I"⟩
abbrev cX3_colourOf : ByteArray := prog_5_method_6_code
def yX3_colourOf : MethodName := ⟨RX3, "colourOf", "(I)I"⟩
abbrev cX3_isFree : ByteArray := prog_5_method_7_code
def yX3_isFree : MethodName := ⟨RX3, "isFree", "(II)Z"⟩
abbrev cX3_boxed : ByteArray := prog_5_method_8_code
def yX3_boxed : MethodName := ⟨RX3, "boxed", "()I"⟩
abbrev cX3_hasLot : ByteArray := prog_5_method_9_code
def yX3_hasLot : MethodName := ⟨RX3, "hasLot", "(I)Z"⟩
abbrev cX3_addLot : ByteArray := prog_5_method_10_code
def yX3_addLot : MethodName := ⟨RX3, "addLot", "(I)I"⟩
abbrev cX3_isLotInBoxOf : ByteArray := prog_5_method_11_code
def yX3_isLotInBoxOf : MethodName := ⟨RX3, "isLotInBoxOf", "(II)Z"⟩
def RX4 : String := "ToyVillage$Kinds"
def TX4 : u_T := fun k => match k with
  | 0 => ("ToyVillage$Kinds", "count", "I", false)
  | 1 => ("ToyVillage$Kinds", "width", "[I", true)
  | 2 => ("ToyVillage$Kinds", "slices", "[I", true)
  | _ => ("ToyVillage$Kinds", "worth", "[I", true)
def tyX4 : Nat → FieldType := fun k => match k with
  | 0 => .int
  | 1 => .array .int
  | 2 => .array .int
  | _ => .array .int
abbrev wsX40 : List Cond := u_ws RX4 TX4 4
theorem nmX4 : ∀ a, a < 4 → ∀ b, b < 4 → a ≠ b → (TX4 a).2.1 ≠ (TX4 b).2.1 := by decide +kernel
theorem tyX4_ok : ∀ k, k < 4 → parseFieldDescriptor (TX4 k).2.2.1 = some (tyX4 k) := by decide +kernel
abbrev cX4_init : ByteArray := prog_6_method_1_code
def yX4_init : MethodName := ⟨RX4, "<init>", "()V"⟩
abbrev cX4_has : ByteArray := prog_6_method_2_code
def yX4_has : MethodName := ⟨RX4, "has", "(I)Z"⟩
abbrev cX4_add : ByteArray := prog_6_method_3_code
def yX4_add : MethodName := ⟨RX4, "add", "(III)I"⟩
def RX5 : String := "ToyVillage$Orders"
def TX5 : u_T := fun k => match k with
  | 0 => ("ToyVillage$Orders", "count", "I", false)
  | 1 => ("ToyVillage$Orders", "worth", "[I", true)
  | 2 => ("ToyVillage$Orders", "state", "[I", true)
  | 3 => ("ToyVillage$Orders", "season", "[I", true)
  | 4 => ("ToyVillage$Orders", "needs", "[I", true)
  | 5 => ("ToyVillage$Orders", "many", "[I", true)
  | 6 => ("ToyVillage$Orders", "kind", "[I", true)
  | _ => ("ToyVillage$Orders", "colour", "[I", true)
def tyX5 : Nat → FieldType := fun k => match k with
  | 0 => .int
  | 1 => .array .int
  | 2 => .array .int
  | 3 => .array .int
  | 4 => .array .int
  | 5 => .array .int
  | 6 => .array .int
  | _ => .array .int
abbrev wsX50 : List Cond := u_ws RX5 TX5 8
theorem nmX5 : ∀ a, a < 8 → ∀ b, b < 8 → a ≠ b → (TX5 a).2.1 ≠ (TX5 b).2.1 := by decide +kernel
theorem tyX5_ok : ∀ k, k < 8 → parseFieldDescriptor (TX5 k).2.2.1 = some (tyX5 k) := by decide +kernel
abbrev cX5_init : ByteArray := prog_7_method_1_code
def yX5_init : MethodName := ⟨RX5, "<init>", "()V"⟩
abbrev cX5_isIn : ByteArray := prog_7_method_2_code
def yX5_isIn : MethodName := ⟨RX5, "isIn", "(II)Z"⟩
abbrev cX5_has : ByteArray := prog_7_method_3_code
def yX5_has : MethodName := ⟨RX5, "has", "(I)Z"⟩
abbrev cX5_add : ByteArray := prog_7_method_4_code
def yX5_add : MethodName := ⟨RX5, "add", "(I)I"⟩
abbrev cX5_addNeed : ByteArray := prog_7_method_5_code
def yX5_addNeed : MethodName := ⟨RX5, "addNeed", "(IIII)I"⟩
abbrev cX5_figuresNeeded : ByteArray := prog_7_method_6_code
def yX5_figuresNeeded : MethodName := ⟨RX5, "figuresNeeded", "(I)I"⟩
abbrev cX5_openOnes : ByteArray := prog_7_method_7_code
def yX5_openOnes : MethodName := ⟨RX5, "openOnes", "()I"⟩
abbrev cX5_worthOf : ByteArray := prog_7_method_8_code
def yX5_worthOf : MethodName := ⟨RX5, "worthOf", "(I)I"⟩
abbrev cX5_markBoxed : ByteArray := prog_7_method_9_code
def yX5_markBoxed : MethodName := ⟨RX5, "markBoxed", "(II)V"⟩
def RX6 : String := "ToyVillage$Parser"
def TX6 : u_T := fun k => match k with
  | 0 => ("ToyVillage$Parser", "scanner", "LToyVillage$Scanner;", true)
  | 1 => ("ToyVillage$Parser", "state", "I", false)
  | 2 => ("ToyVillage$Parser", "side", "I", false)
  | _ => ("ToyVillage$Parser", "open", "I", false)
def tyX6 : Nat → FieldType := fun k => match k with
  | 0 => .object "ToyVillage$Scanner"
  | 1 => .int
  | 2 => .int
  | _ => .int
abbrev wsX60 : List Cond := u_ws RX6 TX6 4
theorem nmX6 : ∀ a, a < 4 → ∀ b, b < 4 → a ≠ b → (TX6 a).2.1 ≠ (TX6 b).2.1 := by decide +kernel
theorem tyX6_ok : ∀ k, k < 4 → parseFieldDescriptor (TX6 k).2.2.1 = some (tyX6 k) := by decide +kernel
abbrev cX6_init : ByteArray := prog_8_method_1_code
def yX6_init : MethodName := ⟨RX6, "<init>", "(LToyVillage$Tape;)V"⟩
abbrev cX6_parseInto : ByteArray := prog_8_method_2_code
def yX6_parseInto : MethodName := ⟨RX6, "parseInto", "(LToyVillage$Rules;)I"⟩
abbrev cX6_reached : ByteArray := prog_8_method_3_code
def yX6_reached : MethodName := ⟨RX6, "reached", "()I"⟩
abbrev cX6_goesOnWith : ByteArray := prog_8_method_4_code
def yX6_goesOnWith : MethodName := ⟨RX6, "goesOnWith", "(I)Z"⟩
abbrev cX6_goesOnBehindSide : ByteArray := prog_8_method_5_code
def yX6_goesOnBehindSide : MethodName := ⟨RX6, "goesOnBehindSide", "(I)Z"⟩
abbrev cX6_lacksRoomFor : ByteArray := prog_8_method_6_code
def yX6_lacksRoomFor : MethodName := ⟨RX6, "lacksRoomFor", "(ILToyVillage$Rules;)Z"⟩
abbrev cX6_moveBehind : ByteArray := prog_8_method_7_code
def yX6_moveBehind : MethodName := ⟨RX6, "moveBehind", "(I)V"⟩
def RX7 : String := "ToyVillage$Rings"
def TX7 : u_T := fun k => match k with
  | 0 => ("ToyVillage$Rings", "logs", "I", false)
  | 1 => ("ToyVillage$Rings", "wasted", "[I", true)
  | 2 => ("ToyVillage$Rings", "count", "I", false)
  | 3 => ("ToyVillage$Rings", "log", "[I", true)
  | 4 => ("ToyVillage$Rings", "unit", "[I", true)
  | 5 => ("ToyVillage$Rings", "kind", "[I", true)
  | 6 => ("ToyVillage$Rings", "family", "[I", true)
  | _ => ("ToyVillage$Rings", "firstFigure", "[I", true)
def tyX7 : Nat → FieldType := fun k => match k with
  | 0 => .int
  | 1 => .array .int
  | 2 => .int
  | 3 => .array .int
  | 4 => .array .int
  | 5 => .array .int
  | 6 => .array .int
  | _ => .array .int
abbrev wsX70 : List Cond := u_ws RX7 TX7 8
theorem nmX7 : ∀ a, a < 8 → ∀ b, b < 8 → a ≠ b → (TX7 a).2.1 ≠ (TX7 b).2.1 := by decide +kernel
theorem tyX7_ok : ∀ k, k < 8 → parseFieldDescriptor (TX7 k).2.2.1 = some (tyX7 k) := by decide +kernel
abbrev cX7_init : ByteArray := prog_9_method_1_code
def yX7_init : MethodName := ⟨RX7, "<init>", "()V"⟩
abbrev cX7_has : ByteArray := prog_9_method_2_code
def yX7_has : MethodName := ⟨RX7, "has", "(I)Z"⟩
abbrev cX7_addLog : ByteArray := prog_9_method_3_code
def yX7_addLog : MethodName := ⟨RX7, "addLog", "()I"⟩
abbrev cX7_add : ByteArray := prog_9_method_4_code
def yX7_add : MethodName := ⟨RX7, "add", "(III)V"⟩
abbrev cX7_waiting : ByteArray := prog_9_method_5_code
def yX7_waiting : MethodName := ⟨RX7, "waiting", "()I"⟩
def RX8 : String := "ToyVillage$Rules"
def TX8 : u_T := fun k => match k with
  | 0 => ("ToyVillage$Rules", "count", "I", false)
  | 1 => ("ToyVillage$Rules", "start", "[I", true)
  | 2 => ("ToyVillage$Rules", "tokens", "I", false)
  | 3 => ("ToyVillage$Rules", "token", "[I", true)
  | 4 => ("ToyVillage$Rules", "value", "[I", true)
  | 5 => ("ToyVillage$Rules", "at", "I", false)
  | 6 => ("ToyVillage$Rules", "sum", "[I", true)
  | _ => ("ToyVillage$Rules", "part", "[I", true)
def tyX8 : Nat → FieldType := fun k => match k with
  | 0 => .int
  | 1 => .array .int
  | 2 => .int
  | 3 => .array .int
  | 4 => .array .int
  | 5 => .int
  | 6 => .array .int
  | _ => .array .int
abbrev wsX80 : List Cond := u_ws RX8 TX8 8
theorem nmX8 : ∀ a, a < 8 → ∀ b, b < 8 → a ≠ b → (TX8 a).2.1 ≠ (TX8 b).2.1 := by decide +kernel
theorem tyX8_ok : ∀ k, k < 8 → parseFieldDescriptor (TX8 k).2.2.1 = some (tyX8 k) := by decide +kernel
abbrev cX8_init : ByteArray := prog_10_method_1_code
def yX8_init : MethodName := ⟨RX8, "<init>", "()V"⟩
abbrev cX8_clear : ByteArray := prog_10_method_2_code
def yX8_clear : MethodName := ⟨RX8, "clear", "()V"⟩
abbrev cX8_beginRule : ByteArray := prog_10_method_3_code
def yX8_beginRule : MethodName := ⟨RX8, "beginRule", "()V"⟩
abbrev cX8_addToken : ByteArray := prog_10_method_4_code
def yX8_addToken : MethodName := ⟨RX8, "addToken", "(II)V"⟩
abbrev cX8_firstValue : ByteArray := prog_10_method_5_code
def yX8_firstValue : MethodName := ⟨RX8, "firstValue", "(I[I)I"⟩
abbrev cX8_bars : ByteArray := prog_10_method_6_code
def yX8_bars : MethodName := ⟨RX8, "bars", "([I)Z"⟩
abbrev cX8_takeToken : ByteArray := prog_10_method_7_code
def yX8_takeToken : MethodName := ⟨RX8, "takeToken", "()I"⟩
abbrev cX8_condition : ByteArray := prog_10_method_8_code
def yX8_condition : MethodName := ⟨RX8, "condition", "([I)Z"⟩
abbrev cX8_relation : ByteArray := prog_10_method_9_code
def yX8_relation : MethodName := ⟨RX8, "relation", "([I)Z"⟩
abbrev cX8_expression : ByteArray := prog_10_method_10_code
def yX8_expression : MethodName := ⟨RX8, "expression", "([I)I"⟩
abbrev cX8_beginSum : ByteArray := prog_10_method_11_code
def yX8_beginSum : MethodName := ⟨RX8, "beginSum", "(I)V"⟩
abbrev cX8_beginPart : ByteArray := prog_10_method_12_code
def yX8_beginPart : MethodName := ⟨RX8, "beginPart", "(II)V"⟩
abbrev cX8_isFactor : ByteArray := prog_10_method_13_code
def yX8_isFactor : MethodName := ⟨RX8, "isFactor", "(I)Z"⟩
abbrev cX8_factor : ByteArray := prog_10_method_14_code
def yX8_factor : MethodName := ⟨RX8, "factor", "(I[I)I"⟩
def RX9 : String := "ToyVillage$Scanner"
def TX9 : u_T := fun k => match k with
  | 0 => ("ToyVillage$Scanner", "tape", "LToyVillage$Tape;", true)
  | 1 => ("ToyVillage$Scanner", "start", "I", false)
  | 2 => ("ToyVillage$Scanner", "next", "I", false)
  | 3 => ("ToyVillage$Scanner", "token", "I", false)
  | _ => ("ToyVillage$Scanner", "value", "I", false)
def tyX9 : Nat → FieldType := fun k => match k with
  | 0 => .object "ToyVillage$Tape"
  | 1 => .int
  | 2 => .int
  | 3 => .int
  | _ => .int
abbrev wsX90 : List Cond := u_ws RX9 TX9 5
theorem nmX9 : ∀ a, a < 5 → ∀ b, b < 5 → a ≠ b → (TX9 a).2.1 ≠ (TX9 b).2.1 := by decide +kernel
theorem tyX9_ok : ∀ k, k < 5 → parseFieldDescriptor (TX9 k).2.2.1 = some (tyX9 k) := by decide +kernel
abbrev cX9_init : ByteArray := prog_11_method_1_code
def yX9_init : MethodName := ⟨RX9, "<init>", "(LToyVillage$Tape;)V"⟩
abbrev cX9_restart : ByteArray := prog_11_method_2_code
def yX9_restart : MethodName := ⟨RX9, "restart", "()V"⟩
abbrev cX9_step : ByteArray := prog_11_method_3_code
def yX9_step : MethodName := ⟨RX9, "step", "()V"⟩
abbrev cX9_isBlank : ByteArray := prog_11_method_4_code
def yX9_isBlank : MethodName := ⟨RX9, "isBlank", "(I)Z"⟩
abbrev cX9_isLetter : ByteArray := prog_11_method_5_code
def yX9_isLetter : MethodName := ⟨RX9, "isLetter", "(I)Z"⟩
abbrev cX9_isDigit : ByteArray := prog_11_method_6_code
def yX9_isDigit : MethodName := ⟨RX9, "isDigit", "(I)Z"⟩
abbrev cX9_word : ByteArray := prog_11_method_7_code
def yX9_word : MethodName := ⟨RX9, "word", "()I"⟩
abbrev cX9_variable : ByteArray := prog_11_method_8_code
def yX9_variable : MethodName := ⟨RX9, "variable", "()I"⟩
abbrev cX9_keyword : ByteArray := prog_11_method_9_code
def yX9_keyword : MethodName := ⟨RX9, "keyword", "()I"⟩
abbrev cX9_spells : ByteArray := prog_11_method_10_code
def yX9_spells : MethodName := ⟨RX9, "spells", "(Ljava/lang/String;)Z"⟩
abbrev cX9_number : ByteArray := prog_11_method_11_code
def yX9_number : MethodName := ⟨RX9, "number", "()I"⟩
abbrev cX9_sign : ByteArray := prog_11_method_12_code
def yX9_sign : MethodName := ⟨RX9, "sign", "(I)I"⟩
abbrev cX9_tookEqualSign : ByteArray := prog_11_method_13_code
def yX9_tookEqualSign : MethodName := ⟨RX9, "tookEqualSign", "()Z"⟩
def RX10 : String := "ToyVillage$Tape"
def TX10 : u_T := fun k => match k with
  | 0 => ("ToyVillage$Tape", "bytes", "[B", true)
  | _ => ("ToyVillage$Tape", "length", "I", false)
def tyX10 : Nat → FieldType := fun k => match k with
  | 0 => .array .byte
  | _ => .int
abbrev wsX100 : List Cond := u_ws RX10 TX10 2
theorem nmX10 : ∀ a, a < 2 → ∀ b, b < 2 → a ≠ b → (TX10 a).2.1 ≠ (TX10 b).2.1 := by decide +kernel
theorem tyX10_ok : ∀ k, k < 2 → parseFieldDescriptor (TX10 k).2.2.1 = some (tyX10 k) := by decide +kernel
abbrev cX10_init : ByteArray := prog_12_method_1_code
def yX10_init : MethodName := ⟨RX10, "<init>", "()V"⟩
abbrev cX10_append : ByteArray := prog_12_method_2_code
def yX10_append : MethodName := ⟨RX10, "append", "(I)V"⟩
abbrev cX10_at : ByteArray := prog_12_method_3_code
def yX10_at : MethodName := ⟨RX10, "at", "(I)I"⟩
def RX11 : String := "ToyVillage"
def TX11 : u_T := fun k => match k with
  | 0 => ("ToyVillage", "tape", "LToyVillage$Tape;", true)
  | 1 => ("ToyVillage", "parser", "LToyVillage$Parser;", true)
  | 2 => ("ToyVillage", "rules", "LToyVillage$Rules;", false)
  | 3 => ("ToyVillage", "draft", "LToyVillage$Rules;", false)
  | 4 => ("ToyVillage", "faultPlace", "I", false)
  | 5 => ("ToyVillage", "now", "I", false)
  | 6 => ("ToyVillage", "kinds", "LToyVillage$Kinds;", true)
  | 7 => ("ToyVillage", "families", "LToyVillage$Families;", true)
  | 8 => ("ToyVillage", "cutter", "LToyVillage$Cutter;", true)
  | 9 => ("ToyVillage", "rings", "LToyVillage$Rings;", true)
  | 10 => ("ToyVillage", "figures", "LToyVillage$Figures;", true)
  | 11 => ("ToyVillage", "orders", "LToyVillage$Orders;", true)
  | 12 => ("ToyVillage", "boxing", "LToyVillage$Boxing;", true)
  | _ => ("ToyVillage", "facts", "[I", true)
def tyX11 : Nat → FieldType := fun k => match k with
  | 0 => .object "ToyVillage$Tape"
  | 1 => .object "ToyVillage$Parser"
  | 2 => .object "ToyVillage$Rules"
  | 3 => .object "ToyVillage$Rules"
  | 4 => .int
  | 5 => .int
  | 6 => .object "ToyVillage$Kinds"
  | 7 => .object "ToyVillage$Families"
  | 8 => .object "ToyVillage$Cutter"
  | 9 => .object "ToyVillage$Rings"
  | 10 => .object "ToyVillage$Figures"
  | 11 => .object "ToyVillage$Orders"
  | 12 => .object "ToyVillage$Boxing"
  | _ => .array .int
abbrev wsX110 : List Cond := u_ws RX11 TX11 14
theorem nmX11 : ∀ a, a < 14 → ∀ b, b < 14 → a ≠ b → (TX11 a).2.1 ≠ (TX11 b).2.1 := by decide +kernel
theorem tyX11_ok : ∀ k, k < 14 → parseFieldDescriptor (TX11 k).2.2.1 = some (tyX11 k) := by decide +kernel
abbrev cX11_init : ByteArray := prog_1_method_1_code
def yX11_init : MethodName := ⟨RX11, "<init>", "()V"⟩
abbrev cX11_feed : ByteArray := prog_1_method_2_code
def yX11_feed : MethodName := ⟨RX11, "feed", "(IIIII)I"⟩
abbrev cX11_back : ByteArray := prog_1_method_3_code
def yX11_back : MethodName := ⟨RX11, "back", "(I)I"⟩
abbrev cX11_read : ByteArray := prog_1_method_4_code
def yX11_read : MethodName := ⟨RX11, "read", "()I"⟩
abbrev cX11_place : ByteArray := prog_1_method_5_code
def yX11_place : MethodName := ⟨RX11, "place", "()I"⟩
abbrev cX11_kind : ByteArray := prog_1_method_6_code
def yX11_kind : MethodName := ⟨RX11, "kind", "(III)I"⟩
abbrev cX11_family : ByteArray := prog_1_method_7_code
def yX11_family : MethodName := ⟨RX11, "family", "(IZ)I"⟩
abbrev cX11_own : ByteArray := prog_1_method_8_code
def yX11_own : MethodName := ⟨RX11, "own", "(II)Z"⟩
abbrev cX11_lend : ByteArray := prog_1_method_9_code
def yX11_lend : MethodName := ⟨RX11, "lend", "(IIII)Z"⟩
abbrev cX11_may : ByteArray := prog_1_method_10_code
def yX11_may : MethodName := ⟨RX11, "may", "(III)I"⟩
abbrev cX11_season : ByteArray := prog_1_method_11_code
def yX11_season : MethodName := ⟨RX11, "season", "()I"⟩
abbrev cX11_log : ByteArray := prog_1_method_12_code
def yX11_log : MethodName := ⟨RX11, "log", "(IJ)I"⟩
abbrev cX11_give : ByteArray := prog_1_method_13_code
def yX11_give : MethodName := ⟨RX11, "give", "()I"⟩
abbrev cX11_lot : ByteArray := prog_1_method_14_code
def yX11_lot : MethodName := ⟨RX11, "lot", "(I)I"⟩
abbrev cX11_paint : ByteArray := prog_1_method_15_code
def yX11_paint : MethodName := ⟨RX11, "paint", "(III)I"⟩
abbrev cX11_order : ByteArray := prog_1_method_16_code
def yX11_order : MethodName := ⟨RX11, "order", "(I)I"⟩
abbrev cX11_need : ByteArray := prog_1_method_17_code
def yX11_need : MethodName := ⟨RX11, "need", "(IIII)I"⟩
abbrev cX11_box : ByteArray := prog_1_method_18_code
def yX11_box : MethodName := ⟨RX11, "box", "()I"⟩
abbrev cX11_refuse : ByteArray := prog_1_method_19_code
def yX11_refuse : MethodName := ⟨RX11, "refuse", "(I)I"⟩
abbrev cX11_ring : ByteArray := prog_1_method_20_code
def yX11_ring : MethodName := ⟨RX11, "ring", "(II)I"⟩
abbrev cX11_figure : ByteArray := prog_1_method_21_code
def yX11_figure : MethodName := ⟨RX11, "figure", "(II)I"⟩
abbrev cX11_packed : ByteArray := prog_1_method_22_code
def yX11_packed : MethodName := ⟨RX11, "packed", "(II)I"⟩
abbrev cX11_told : ByteArray := prog_1_method_23_code
def yX11_told : MethodName := ⟨RX11, "told", "(II)I"⟩
abbrev cX11_found : ByteArray := prog_1_method_24_code
def yX11_found : MethodName := ⟨RX11, "found", "(II)I"⟩
abbrev cX11_rest : ByteArray := prog_1_method_25_code
def yX11_rest : MethodName := ⟨RX11, "rest", "(II)I"⟩
abbrev cX11_money : ByteArray := prog_1_method_26_code
def yX11_money : MethodName := ⟨RX11, "money", "(I)I"⟩
abbrev cX11_load : ByteArray := prog_1_method_27_code
def yX11_load : MethodName := ⟨RX11, "load", "(II)I"⟩
abbrev cX11_waste : ByteArray := prog_1_method_28_code
def yX11_waste : MethodName := ⟨RX11, "waste", "(I)I"⟩
abbrev cX11_count : ByteArray := prog_1_method_29_code
def yX11_count : MethodName := ⟨RX11, "count", "(I)I"⟩
abbrev cX11_isWithin : ByteArray := prog_1_method_30_code
def yX11_isWithin : MethodName := ⟨RX11, "isWithin", "(III)Z"⟩
abbrev cX11_isSeason : ByteArray := prog_1_method_31_code
def yX11_isSeason : MethodName := ⟨RX11, "isSeason", "(I)Z"⟩
abbrev cX11_isColourOrNone : ByteArray := prog_1_method_32_code
def yX11_isColourOrNone : MethodName := ⟨RX11, "isColourOrNone", "(I)Z"⟩
abbrev cX11_putDraftInForce : ByteArray := prog_1_method_33_code
def yX11_putDraftInForce : MethodName := ⟨RX11, "putDraftInForce", "()V"⟩
abbrev cX11_storeCutLog : ByteArray := prog_1_method_34_code
def yX11_storeCutLog : MethodName := ⟨RX11, "storeCutLog", "(I)I"⟩
abbrev cX11_takerOf : ByteArray := prog_1_method_35_code
def yX11_takerOf : MethodName := ⟨RX11, "takerOf", "(I)I"⟩
abbrev cX11_carve : ByteArray := prog_1_method_36_code
def yX11_carve : MethodName := ⟨RX11, "carve", "(II)V"⟩
abbrev cX11_tellFacts : ByteArray := prog_1_method_37_code
def yX11_tellFacts : MethodName := ⟨RX11, "tellFacts", "(II)V"⟩
abbrev cX11_payFor : ByteArray := prog_1_method_38_code
def yX11_payFor : MethodName := ⟨RX11, "payFor", "(I)V"⟩
abbrev cX11_unbox : ByteArray := prog_1_method_39_code
def yX11_unbox : MethodName := ⟨RX11, "unbox", "(I)V"⟩
def RX12 : String := "ToyVillageModel"
def TX12 : u_T := fun k => match k with
  | 0 => ("ToyVillageModel", "thrown", "I", false)
  | 1 => ("ToyVillageModel", "tape", "[B", true)
  | 2 => ("ToyVillageModel", "taped", "I", false)
  | 3 => ("ToyVillageModel", "text", "[B", true)
  | 4 => ("ToyVillageModel", "size", "I", false)
  | 5 => ("ToyVillageModel", "tKind", "[I", true)
  | 6 => ("ToyVillageModel", "tPlace", "[I", true)
  | 7 => ("ToyVillageModel", "tValue", "[I", true)
  | 8 => ("ToyVillageModel", "tName", "[J", true)
  | 9 => ("ToyVillageModel", "keys", "[J", true)
  | 10 => ("ToyVillageModel", "tokens", "I", false)
  | 11 => ("ToyVillageModel", "t", "I", false)
  | 12 => ("ToyVillageModel", "open", "I", false)
  | 13 => ("ToyVillageModel", "fault", "I", false)
  | 14 => ("ToyVillageModel", "faultPlace", "I", false)
  | 15 => ("ToyVillageModel", "worst", "I", false)
  | 16 => ("ToyVillageModel", "worstPlace", "I", false)
  | 17 => ("ToyVillageModel", "place", "I", false)
  | 18 => ("ToyVillageModel", "live", "I", false)
  | 19 => ("ToyVillageModel", "side", "I", false)
  | 20 => ("ToyVillageModel", "rules", "[I", true)
  | 21 => ("ToyVillageModel", "ruleSort", "[I", true)
  | 22 => ("ToyVillageModel", "ruleFrom", "[I", true)
  | 23 => ("ToyVillageModel", "ruleTo", "[I", true)
  | 24 => ("ToyVillageModel", "relFirst", "[I", true)
  | 25 => ("ToyVillageModel", "relLast", "[I", true)
  | 26 => ("ToyVillageModel", "relations", "[I", true)
  | 27 => ("ToyVillageModel", "relSort", "[I", true)
  | 28 => ("ToyVillageModel", "relLeft", "[I", true)
  | 29 => ("ToyVillageModel", "relRight", "[I", true)
  | 30 => ("ToyVillageModel", "relEnd", "[I", true)
  | 31 => ("ToyVillageModel", "relOr", "[Z", true)
  | 32 => ("ToyVillageModel", "codes", "I", false)
  | 33 => ("ToyVillageModel", "code", "[I", true)
  | 34 => ("ToyVillageModel", "codeInt", "[I", true)
  | 35 => ("ToyVillageModel", "waits", "[I", true)
  | 36 => ("ToyVillageModel", "waiting", "I", false)
  | 37 => ("ToyVillageModel", "kinds", "I", false)
  | 38 => ("ToyVillageModel", "width", "[I", true)
  | 39 => ("ToyVillageModel", "slices", "[I", true)
  | 40 => ("ToyVillageModel", "worth", "[I", true)
  | 41 => ("ToyVillageModel", "families", "I", false)
  | 42 => ("ToyVillageModel", "hands", "[I", true)
  | 43 => ("ToyVillageModel", "isWidow", "[Z", true)
  | 44 => ("ToyVillageModel", "money", "[I", true)
  | 45 => ("ToyVillageModel", "owns", "[Z", true)
  | 46 => ("ToyVillageModel", "lent", "I", false)
  | 47 => ("ToyVillageModel", "lentTo", "[I", true)
  | 48 => ("ToyVillageModel", "lentKind", "[I", true)
  | 49 => ("ToyVillageModel", "lentFrom", "[I", true)
  | 50 => ("ToyVillageModel", "lentUntil", "[I", true)
  | 51 => ("ToyVillageModel", "season", "I", false)
  | 52 => ("ToyVillageModel", "loads", "[I", true)
  | 53 => ("ToyVillageModel", "logs", "I", false)
  | 54 => ("ToyVillageModel", "logWaste", "[I", true)
  | 55 => ("ToyVillageModel", "rings", "I", false)
  | 56 => ("ToyVillageModel", "ringLog", "[I", true)
  | 57 => ("ToyVillageModel", "ringAt", "[I", true)
  | 58 => ("ToyVillageModel", "ringKind", "[I", true)
  | 59 => ("ToyVillageModel", "ringFamily", "[I", true)
  | 60 => ("ToyVillageModel", "ringFirst", "[I", true)
  | 61 => ("ToyVillageModel", "most", "[I", true)
  | 62 => ("ToyVillageModel", "fewest", "[I", true)
  | 63 => ("ToyVillageModel", "begins", "[I", true)
  | 64 => ("ToyVillageModel", "variables", "[I", true)
  | 65 => ("ToyVillageModel", "pile", "[I", true)
  | 66 => ("ToyVillageModel", "figures", "I", false)
  | 67 => ("ToyVillageModel", "figRing", "[I", true)
  | 68 => ("ToyVillageModel", "figLot", "[I", true)
  | 69 => ("ToyVillageModel", "figOrder", "[I", true)
  | 70 => ("ToyVillageModel", "figPay", "[I", true)
  | 71 => ("ToyVillageModel", "figSeason", "[I", true)
  | 72 => ("ToyVillageModel", "lots", "I", false)
  | 73 => ("ToyVillageModel", "colour", "[I", true)
  | 74 => ("ToyVillageModel", "orders", "I", false)
  | 75 => ("ToyVillageModel", "ordWorth", "[I", true)
  | 76 => ("ToyVillageModel", "ordState", "[I", true)
  | 77 => ("ToyVillageModel", "ordSeason", "[I", true)
  | 78 => ("ToyVillageModel", "needs", "[I", true)
  | 79 => ("ToyVillageModel", "needMany", "[I", true)
  | 80 => ("ToyVillageModel", "needKind", "[I", true)
  | 81 => ("ToyVillageModel", "needColour", "[I", true)
  | 82 => ("ToyVillageModel", "there", "[I", true)
  | 83 => ("ToyVillageModel", "left", "[I", true)
  | _ => ("ToyVillageModel", "isNew", "[Z", true)
def tyX12 : Nat → FieldType := fun k => match k with
  | 0 => .int
  | 1 => .array .byte
  | 2 => .int
  | 3 => .array .byte
  | 4 => .int
  | 5 => .array .int
  | 6 => .array .int
  | 7 => .array .int
  | 8 => .array .long
  | 9 => .array .long
  | 10 => .int
  | 11 => .int
  | 12 => .int
  | 13 => .int
  | 14 => .int
  | 15 => .int
  | 16 => .int
  | 17 => .int
  | 18 => .int
  | 19 => .int
  | 20 => .array .int
  | 21 => .array .int
  | 22 => .array .int
  | 23 => .array .int
  | 24 => .array .int
  | 25 => .array .int
  | 26 => .array .int
  | 27 => .array .int
  | 28 => .array .int
  | 29 => .array .int
  | 30 => .array .int
  | 31 => .array .boolean
  | 32 => .int
  | 33 => .array .int
  | 34 => .array .int
  | 35 => .array .int
  | 36 => .int
  | 37 => .int
  | 38 => .array .int
  | 39 => .array .int
  | 40 => .array .int
  | 41 => .int
  | 42 => .array .int
  | 43 => .array .boolean
  | 44 => .array .int
  | 45 => .array .boolean
  | 46 => .int
  | 47 => .array .int
  | 48 => .array .int
  | 49 => .array .int
  | 50 => .array .int
  | 51 => .int
  | 52 => .array .int
  | 53 => .int
  | 54 => .array .int
  | 55 => .int
  | 56 => .array .int
  | 57 => .array .int
  | 58 => .array .int
  | 59 => .array .int
  | 60 => .array .int
  | 61 => .array .int
  | 62 => .array .int
  | 63 => .array .int
  | 64 => .array .int
  | 65 => .array .int
  | 66 => .int
  | 67 => .array .int
  | 68 => .array .int
  | 69 => .array .int
  | 70 => .array .int
  | 71 => .array .int
  | 72 => .int
  | 73 => .array .int
  | 74 => .int
  | 75 => .array .int
  | 76 => .array .int
  | 77 => .array .int
  | 78 => .array .int
  | 79 => .array .int
  | 80 => .array .int
  | 81 => .array .int
  | 82 => .array .int
  | 83 => .array .int
  | _ => .array .boolean
abbrev wsX120 : List Cond := u_ws RX12 TX12 85
theorem nmX12 : ∀ a, a < 85 → ∀ b, b < 85 → a ≠ b → (TX12 a).2.1 ≠ (TX12 b).2.1 := by decide +kernel
theorem tyX12_ok : ∀ k, k < 85 → parseFieldDescriptor (TX12 k).2.2.1 = some (tyX12 k) := by decide +kernel
abbrev cX12_init : ByteArray := prog_14_method_2_code
def yX12_init : MethodName := ⟨RX12, "<init>", "()V"⟩
abbrev cX12_feed : ByteArray := prog_14_method_3_code
def yX12_feed : MethodName := ⟨RX12, "feed", "(IIIII)I"⟩
abbrev cX12_put : ByteArray := prog_14_method_4_code
def yX12_put : MethodName := ⟨RX12, "put", "(I)V"⟩
abbrev cX12_back : ByteArray := prog_14_method_5_code
def yX12_back : MethodName := ⟨RX12, "back", "(I)I"⟩
abbrev cX12_at : ByteArray := prog_14_method_6_code
def yX12_at : MethodName := ⟨RX12, "at", "(I)I"⟩
abbrev cX12_isDigit : ByteArray := prog_14_method_7_code
def yX12_isDigit : MethodName := ⟨RX12, "isDigit", "(I)Z"⟩
abbrev cX12_isLetter : ByteArray := prog_14_method_8_code
def yX12_isLetter : MethodName := ⟨RX12, "isLetter", "(I)Z"⟩
abbrev cX12_more : ByteArray := prog_14_method_9_code
def yX12_more : MethodName := ⟨RX12, "more", "(JI)J"⟩
abbrev cX12_word : ByteArray := prog_14_method_10_code
def yX12_word : MethodName := ⟨RX12, "word", "(IIIIIII)J"⟩
abbrev cX12_token : ByteArray := prog_14_method_11_code
def yX12_token : MethodName := ⟨RX12, "token", "(IIIJ)V"⟩
abbrev cX12_cut : ByteArray := prog_14_method_12_code
def yX12_cut : MethodName := ⟨RX12, "cut", "()V"⟩
abbrev cX12_sign : ByteArray := prog_14_method_13_code
def yX12_sign : MethodName := ⟨RX12, "sign", "(III)I"⟩
abbrev cX12_is : ByteArray := prog_14_method_14_code
def yX12_is : MethodName := ⟨RX12, "is", "(I)Z"⟩
abbrev cX12_fail : ByteArray := prog_14_method_15_code
def yX12_fail : MethodName := ⟨RX12, "fail", "(I)V"⟩
abbrev cX12_next : ByteArray := prog_14_method_17_code
def yX12_next : MethodName := ⟨RX12, "next", "()V"⟩
abbrev cX12_must : ByteArray := prog_14_method_18_code
def yX12_must : MethodName := ⟨RX12, "must", "(I)V"⟩
abbrev cX12_read : ByteArray := prog_14_method_19_code
def yX12_read : MethodName := ⟨RX12, "read", "()I"⟩
abbrev cX12_place : ByteArray := prog_14_method_20_code
def yX12_place : MethodName := ⟨RX12, "place", "()I"⟩
abbrev cX12_tellRule : ByteArray := prog_14_method_21_code
def yX12_tellRule : MethodName := ⟨RX12, "tellRule", "()V"⟩
abbrev cX12_relation : ByteArray := prog_14_method_22_code
def yX12_relation : MethodName := ⟨RX12, "relation", "(Z)V"⟩
abbrev cX12_emit : ByteArray := prog_14_method_23_code
def yX12_emit : MethodName := ⟨RX12, "emit", "(II)V"⟩
abbrev cX12_comesOut : ByteArray := prog_14_method_24_code
def yX12_comesOut : MethodName := ⟨RX12, "comesOut", "(Z)V"⟩
abbrev cX12_expression : ByteArray := prog_14_method_25_code
def yX12_expression : MethodName := ⟨RX12, "expression", "()V"⟩
abbrev cX12_isKind : ByteArray := prog_14_method_26_code
def yX12_isKind : MethodName := ⟨RX12, "isKind", "(I)Z"⟩
abbrev cX12_isFamily : ByteArray := prog_14_method_27_code
def yX12_isFamily : MethodName := ⟨RX12, "isFamily", "(I)Z"⟩
abbrev cX12_kind : ByteArray := prog_14_method_28_code
def yX12_kind : MethodName := ⟨RX12, "kind", "(III)I"⟩
abbrev cX12_family : ByteArray := prog_14_method_29_code
def yX12_family : MethodName := ⟨RX12, "family", "(IZ)I"⟩
abbrev cX12_own : ByteArray := prog_14_method_30_code
def yX12_own : MethodName := ⟨RX12, "own", "(II)Z"⟩
abbrev cX12_lend : ByteArray := prog_14_method_31_code
def yX12_lend : MethodName := ⟨RX12, "lend", "(IIII)Z"⟩
abbrev cX12_mayCarve : ByteArray := prog_14_method_32_code
def yX12_mayCarve : MethodName := ⟨RX12, "mayCarve", "(III)Z"⟩
abbrev cX12_may : ByteArray := prog_14_method_33_code
def yX12_may : MethodName := ⟨RX12, "may", "(III)I"⟩
abbrev cX12_season : ByteArray := prog_14_method_34_code
def yX12_season : MethodName := ⟨RX12, "season", "()I"⟩
abbrev cX12_log : ByteArray := prog_14_method_35_code
def yX12_log : MethodName := ⟨RX12, "log", "(IJ)I"⟩
abbrev cX12_waste : ByteArray := prog_14_method_36_code
def yX12_waste : MethodName := ⟨RX12, "waste", "(I)I"⟩
abbrev cX12_asks : ByteArray := prog_14_method_37_code
def yX12_asks : MethodName := ⟨RX12, "asks", "(II)V"⟩
abbrev cX12_value : ByteArray := prog_14_method_38_code
def yX12_value : MethodName := ⟨RX12, "value", "(II)I"⟩
abbrev cX12_holds : ByteArray := prog_14_method_39_code
def yX12_holds : MethodName := ⟨RX12, "holds", "(I)Z"⟩
abbrev cX12_says : ByteArray := prog_14_method_40_code
def yX12_says : MethodName := ⟨RX12, "says", "(III)I"⟩
abbrev cX12_isBarred : ByteArray := prog_14_method_41_code
def yX12_isBarred : MethodName := ⟨RX12, "isBarred", "(II)Z"⟩
abbrev cX12_give : ByteArray := prog_14_method_42_code
def yX12_give : MethodName := ⟨RX12, "give", "()I"⟩
abbrev cX12_lot : ByteArray := prog_14_method_43_code
def yX12_lot : MethodName := ⟨RX12, "lot", "(I)I"⟩
abbrev cX12_isFigure : ByteArray := prog_14_method_44_code
def yX12_isFigure : MethodName := ⟨RX12, "isFigure", "(I)Z"⟩
abbrev cX12_paint : ByteArray := prog_14_method_45_code
def yX12_paint : MethodName := ⟨RX12, "paint", "(III)I"⟩
abbrev cX12_kindOf : ByteArray := prog_14_method_46_code
def yX12_kindOf : MethodName := ⟨RX12, "kindOf", "(I)I"⟩
abbrev cX12_colourOf : ByteArray := prog_14_method_47_code
def yX12_colourOf : MethodName := ⟨RX12, "colourOf", "(I)I"⟩
abbrev cX12_order : ByteArray := prog_14_method_48_code
def yX12_order : MethodName := ⟨RX12, "order", "(I)I"⟩
abbrev cX12_isOrder : ByteArray := prog_14_method_49_code
def yX12_isOrder : MethodName := ⟨RX12, "isOrder", "(I)Z"⟩
abbrev cX12_need : ByteArray := prog_14_method_50_code
def yX12_need : MethodName := ⟨RX12, "need", "(IIII)I"⟩
abbrev cX12_counts : ByteArray := prog_14_method_51_code
def yX12_counts : MethodName := ⟨RX12, "counts", "()V"⟩
abbrev cX12_fills : ByteArray := prog_14_method_52_code
def yX12_fills : MethodName := ⟨RX12, "fills", "(I)Z"⟩
abbrev cX12_takesOf : ByteArray := prog_14_method_53_code
def yX12_takesOf : MethodName := ⟨RX12, "takesOf", "(III)Z"⟩
abbrev cX12_bits : ByteArray := prog_14_method_54_code
def yX12_bits : MethodName := ⟨RX12, "bits", "(I)I"⟩
abbrev cX12_worthOf : ByteArray := prog_14_method_55_code
def yX12_worthOf : MethodName := ⟨RX12, "worthOf", "(I)I"⟩
abbrev cX12_isAhead : ByteArray := prog_14_method_56_code
def yX12_isAhead : MethodName := ⟨RX12, "isAhead", "(II)Z"⟩
abbrev cX12_box : ByteArray := prog_14_method_57_code
def yX12_box : MethodName := ⟨RX12, "box", "()I"⟩
abbrev cX12_packs : ByteArray := prog_14_method_58_code
def yX12_packs : MethodName := ⟨RX12, "packs", "(II)V"⟩
abbrev cX12_refuse : ByteArray := prog_14_method_59_code
def yX12_refuse : MethodName := ⟨RX12, "refuse", "(I)I"⟩
abbrev cX12_ring : ByteArray := prog_14_method_60_code
def yX12_ring : MethodName := ⟨RX12, "ring", "(II)I"⟩
abbrev cX12_figure : ByteArray := prog_14_method_61_code
def yX12_figure : MethodName := ⟨RX12, "figure", "(II)I"⟩
abbrev cX12_packed : ByteArray := prog_14_method_62_code
def yX12_packed : MethodName := ⟨RX12, "packed", "(II)I"⟩
abbrev cX12_told : ByteArray := prog_14_method_63_code
def yX12_told : MethodName := ⟨RX12, "told", "(II)I"⟩
abbrev cX12_found : ByteArray := prog_14_method_64_code
def yX12_found : MethodName := ⟨RX12, "found", "(II)I"⟩
abbrev cX12_rest : ByteArray := prog_14_method_65_code
def yX12_rest : MethodName := ⟨RX12, "rest", "(II)I"⟩
abbrev cX12_money : ByteArray := prog_14_method_66_code
def yX12_money : MethodName := ⟨RX12, "money", "(I)I"⟩
abbrev cX12_load : ByteArray := prog_14_method_67_code
def yX12_load : MethodName := ⟨RX12, "load", "(II)I"⟩
abbrev cX12_count : ByteArray := prog_14_method_68_code
def yX12_count : MethodName := ⟨RX12, "count", "(I)I"⟩
def RJ6 : String := "java/lang/Integer"
def TJ6 : u_T := fun k => match k with
  | _ => ("", "", "", false)
def tyJ6 : Nat → FieldType := fun k => match k with
  | _ => .int
abbrev wsJ60 : List Cond := u_ws RJ6 TJ6 0
theorem nmJ6 : ∀ a, a < 0 → ∀ b, b < 0 → a ≠ b → (TJ6 a).2.1 ≠ (TJ6 b).2.1 := by decide +kernel
theorem tyJ6_ok : ∀ k, k < 0 → parseFieldDescriptor (TJ6 k).2.2.1 = some (tyJ6 k) := by decide +kernel
abbrev cJ6_bitCount_0f7a4 : ByteArray := prog_15_method_49_code
def yJ6_bitCount_0f7a4 : MethodName := ⟨RJ6, "bitCount", "(I)I"⟩
def RJ9 : String := "java/lang/Math"
def TJ9 : u_T := fun k => match k with
  | _ => ("", "", "", false)
def tyJ9 : Nat → FieldType := fun k => match k with
  | _ => .int
abbrev wsJ90 : List Cond := u_ws RJ9 TJ9 0
theorem nmJ9 : ∀ a, a < 0 → ∀ b, b < 0 → a ≠ b → (TJ9 a).2.1 ≠ (TJ9 b).2.1 := by decide +kernel
theorem tyJ9_ok : ∀ k, k < 0 → parseFieldDescriptor (TJ9 k).2.2.1 = some (tyJ9 k) := by decide +kernel
abbrev cJ9_max_7cf53 : ByteArray := prog_16_method_65_code
def yJ9_max_7cf53 : MethodName := ⟨RJ9, "max", "(II)I"⟩
abbrev cJ9_min_7cf53 : ByteArray := prog_16_method_69_code
def yJ9_min_7cf53 : MethodName := ⟨RJ9, "min", "(II)I"⟩
def RJ0 : String := "java/lang/String"
def TJ0 : u_T := fun k => match k with
  | _ => ("", "", "", false)
def tyJ0 : Nat → FieldType := fun k => match k with
  | _ => .int
abbrev wsJ00 : List Cond := u_ws RJ0 TJ0 0
theorem nmJ0 : ∀ a, a < 0 → ∀ b, b < 0 → a ≠ b → (TJ0 a).2.1 ≠ (TJ0 b).2.1 := by decide +kernel
theorem tyJ0_ok : ∀ k, k < 0 → parseFieldDescriptor (TJ0 k).2.2.1 = some (tyJ0 k) := by decide +kernel
abbrev cJ0_length_8abf5 : ByteArray := prog_17_method_54_code
def yJ0_length_8abf5 : MethodName := ⟨RJ0, "length", "()I"⟩
abbrev cJ0_charAt_5068e : ByteArray := prog_17_method_56_code
def yJ0_charAt_5068e : MethodName := ⟨RJ0, "charAt", "(I)C"⟩
abbrev cJ0_coder_7d493 : ByteArray := prog_17_method_152_code
def yJ0_coder_7d493 : MethodName := ⟨RJ0, "coder", "()B"⟩
abbrev cJ0_isLatin1_aae02 : ByteArray := prog_17_method_154_code
def yJ0_isLatin1_aae02 : MethodName := ⟨RJ0, "isLatin1", "()Z"⟩
abbrev cJ0_checkIndex_df160 : ByteArray := prog_17_method_155_code
def yJ0_checkIndex_df160 : MethodName := ⟨RJ0, "checkIndex", "(II)V"⟩
def RJ1 : String := "java/lang/StringLatin1"
def TJ1 : u_T := fun k => match k with
  | _ => ("", "", "", false)
def tyJ1 : Nat → FieldType := fun k => match k with
  | _ => .int
abbrev wsJ10 : List Cond := u_ws RJ1 TJ1 0
theorem nmJ1 : ∀ a, a < 0 → ∀ b, b < 0 → a ≠ b → (TJ1 a).2.1 ≠ (TJ1 b).2.1 := by decide +kernel
theorem tyJ1_ok : ∀ k, k < 0 → parseFieldDescriptor (TJ1 k).2.2.1 = some (tyJ1 k) := by decide +kernel
abbrev cJ1_charAt_3b067 : ByteArray := prog_18_method_2_code
def yJ1_charAt_3b067 : MethodName := ⟨RJ1, "charAt", "([BI)C"⟩
def RJ2 : String := "java/lang/StringUTF16"
def TJ2 : u_T := fun k => match k with
  | _ => ("", "", "", false)
def tyJ2 : Nat → FieldType := fun k => match k with
  | _ => .int
abbrev wsJ20 : List Cond := u_ws RJ2 TJ2 0
theorem nmJ2 : ∀ a, a < 0 → ∀ b, b < 0 → a ≠ b → (TJ2 a).2.1 ≠ (TJ2 b).2.1 := by decide +kernel
theorem tyJ2_ok : ∀ k, k < 0 → parseFieldDescriptor (TJ2 k).2.2.1 = some (tyJ2 k) := by decide +kernel
abbrev cJ2_getChar_3b067 : ByteArray := prog_19_method_5_code
def yJ2_getChar_3b067 : MethodName := ⟨RJ2, "getChar", "([BI)C"⟩
abbrev cJ2_length_9d52b : ByteArray := prog_19_method_6_code
def yJ2_length_9d52b : MethodName := ⟨RJ2, "length", "([B)I"⟩
abbrev cJ2_charAt_3b067 : ByteArray := prog_19_method_83_code
def yJ2_charAt_3b067 : MethodName := ⟨RJ2, "charAt", "([BI)C"⟩
abbrev cJ2_checkIndex_2214a : ByteArray := prog_19_method_91_code
def yJ2_checkIndex_2214a : MethodName := ⟨RJ2, "checkIndex", "(I[B)V"⟩
def RJ3 : String := "jdk/internal/util/Preconditions"
def TJ3 : u_T := fun k => match k with
  | _ => ("", "", "", false)
def tyJ3 : Nat → FieldType := fun k => match k with
  | _ => .int
abbrev wsJ30 : List Cond := u_ws RJ3 TJ3 0
theorem nmJ3 : ∀ a, a < 0 → ∀ b, b < 0 → a ≠ b → (TJ3 a).2.1 ≠ (TJ3 b).2.1 := by decide +kernel
theorem tyJ3_ok : ∀ k, k < 0 → parseFieldDescriptor (TJ3 k).2.2.1 = some (tyJ3 k) := by decide +kernel
abbrev cJ3_checkIndex_8e157 : ByteArray := prog_20_method_11_code
def yJ3_checkIndex_8e157 : MethodName := ⟨RJ3, "checkIndex", "(IILjava/util/function/BiFunction;)I"⟩
def RL : String := "ToyVillageLaw"
abbrev cL_law : ByteArray := code
def yL_law : MethodName := ⟨RL, "law", "([I)Z"⟩
end
section
/-! ===== the abstract machine: static tables (printed by wip/gen/tables.py) ===== -/
abbrev am_cl : List vw_C := [(RX0, TX0, 4), (RX1, TX1, 4), (RX2, TX2, 8), (RX3, TX3, 9), (RX4, TX4, 4), (RX5, TX5, 8), (RX6, TX6, 4), (RX7, TX7, 8), (RX8, TX8, 8), (RX9, TX9, 5), (RX10, TX10, 2), (RX11, TX11, 14), (RX12, TX12, 85)]
def am_nm (own : Nat) : String := [RX0, RX1, RX2, RX3, RX4, RX5, RX6, RX7, RX8, RX9, RX10, RX11, RX12, RJ6, RJ9, RL].getD own ""
def am_sh : List (Nat ⊕ (Nat × Nat)) := [.inl 11, .inl 10, .inr (1, 2000), .inl 6, .inl 9, .inl 8, .inr (0, 20), .inr (0, 400), .inr (0, 400), .inr (0, 7), .inr (0, 7), .inl 8, .inr (0, 20), .inr (0, 400), .inr (0, 400), .inr (0, 7), .inr (0, 7), .inl 4, .inr (0, 8), .inr (0, 8), .inr (0, 8), .inl 2, .inr (0, 8), .inr (3, 8), .inr (0, 8), .inr (3, 64), .inr (2, 64), .inr (0, 320), .inl 1, .inr (0, 61), .inr (0, 61), .inr (0, 61), .inl 7, .inr (0, 30), .inr (0, 200), .inr (0, 200), .inr (0, 200), .inr (0, 200), .inr (0, 200), .inl 3, .inr (0, 400), .inr (0, 400), .inr (0, 400), .inr (0, 400), .inr (0, 400), .inr (0, 20), .inl 5, .inr (0, 8), .inr (0, 8), .inr (0, 8), .inr (0, 8), .inr (0, 32), .inr (0, 32), .inr (0, 32), .inl 0, .inr (0, 48), .inr (0, 48), .inr (0, 8), .inl 12, .inr (1, 2000), .inr (1, 2000), .inr (0, 403), .inr (0, 403), .inr (0, 403), .inr (2, 403), .inr (2, 14), .inr (0, 2), .inr (0, 40), .inr (0, 40), .inr (0, 40), .inr (0, 40), .inr (0, 40), .inr (0, 2), .inr (0, 400), .inr (0, 400), .inr (0, 400), .inr (0, 400), .inr (3, 400), .inr (0, 1000), .inr (0, 1000), .inr (0, 48), .inr (0, 8), .inr (0, 8), .inr (0, 8), .inr (0, 8), .inr (3, 8), .inr (0, 8), .inr (3, 64), .inr (0, 100), .inr (0, 100), .inr (0, 100), .inr (0, 100), .inr (0, 320), .inr (0, 30), .inr (0, 200), .inr (0, 200), .inr (0, 200), .inr (0, 200), .inr (0, 200), .inr (0, 61), .inr (0, 61), .inr (0, 61), .inr (0, 8), .inr (0, 500), .inr (0, 400), .inr (0, 400), .inr (0, 400), .inr (0, 400), .inr (0, 400), .inr (0, 20), .inr (0, 8), .inr (0, 8), .inr (0, 8), .inr (0, 8), .inr (0, 32), .inr (0, 32), .inr (0, 32), .inr (0, 48), .inr (0, 48), .inr (3, 400)]
/-- which fields are ints -/
def am_fk (ci : Nat) : List Bool := [[false, false, false, false], [false, false, false, false], [true, false, false, false, false, false, true, false], [false, true, false, false, false, false, false, true, false], [true, false, false, false], [true, false, false, false, false, false, false, false], [false, true, true, true], [true, false, true, false, false, false, false, false], [true, false, true, false, false, true, false, false], [false, true, true, true, true], [false, true], [false, false, false, false, true, true, false, false, false, false, false, false, false, false], [true, false, true, false, true, false, false, false, false, false, true, true, true, true, true, true, true, true, true, true, false, false, false, false, false, false, false, false, false, false, false, false, true, false, false, false, true, true, false, false, false, true, false, false, false, false, true, false, false, false, false, true, false, true, false, true, false, false, false, false, false, false, false, false, false, false, true, false, false, false, false, false, true, false, true, false, false, false, false, false, false, false, false, false, false]].getD ci []
def am_ff (ci : Nat) : List Bool := [[true, true, true, true], [true, true, true, true], [false, true, true, true, true, true, false, true], [true, false, true, true, true, true, true, false, true], [false, true, true, true], [false, true, true, true, true, true, true, true], [true, false, false, false], [false, true, false, true, true, true, true, true], [false, true, false, true, true, false, true, true], [true, false, false, false, false], [true, false], [true, true, false, false, false, false, true, true, true, true, true, true, true, true], [false, true, false, true, false, true, true, true, true, true, false, false, false, false, false, false, false, false, false, false, true, true, true, true, true, true, true, true, true, true, true, true, false, true, true, true, false, false, true, true, true, false, true, true, true, true, false, true, true, true, true, false, true, false, true, false, true, true, true, true, true, true, true, true, true, true, false, true, true, true, true, true, false, true, false, true, true, true, true, true, true, true, true, true, true]].getD ci []
/-- fields by pool index: class, place, place of the word, nest -/
def am_fl0 : List (List (Nat × Nat × Nat × Nat × Bool)) := [[(11, 0, 2, 405, false), (15, 0, 3, 406, false), (18, 0, 0, 403, false), (22, 0, 1, 404, false), (51, 3, 1, 321, true), (57, 3, 5, 330, true), (83, 5, 0, 363, true), (87, 5, 4, 372, true), (90, 5, 6, 377, true), (93, 5, 7, 379, true), (96, 5, 5, 375, true)],
  [(9, 1, 1, 260, false), (15, 1, 2, 261, false), (18, 1, 3, 262, false), (21, 1, 0, 259, false), (29, 4, 0, 196, true), (43, 4, 1, 199, true), (46, 4, 2, 202, true), (49, 4, 3, 205, true)],
  [(9, 2, 0, 222, false), (15, 2, 1, 224, false), (19, 2, 2, 226, false), (23, 2, 3, 228, false), (26, 2, 4, 230, false), (29, 2, 5, 231, false), (33, 2, 6, 232, false), (36, 2, 7, 233, false)],
  [(9, 3, 1, 320, false), (15, 3, 2, 323, false), (19, 3, 3, 325, false), (22, 3, 4, 327, false), (25, 3, 5, 329, false), (28, 3, 6, 332, false), (31, 3, 7, 334, false), (34, 3, 8, 336, false), (37, 3, 0, 319, false), (41, 7, 5, 289, true), (46, 7, 6, 292, true)],
  [(9, 4, 0, 195, false), (15, 4, 1, 198, false), (19, 4, 2, 201, false), (22, 4, 3, 204, false)],
  [(9, 5, 0, 362, false), (15, 5, 1, 365, false), (19, 5, 2, 367, false), (22, 5, 3, 369, false), (25, 5, 4, 371, false), (28, 5, 5, 374, false), (31, 5, 6, 376, false), (34, 5, 7, 378, false)],
  [(11, 6, 1, 142, false), (15, 6, 2, 143, false), (18, 6, 3, 144, false), (26, 6, 0, 141, false), (41, 9, 3, 127, true), (55, 9, 4, 129, true), (66, 9, 1, 124, true), (72, 8, 2, 165, true), (75, 8, 0, 161, true)],
  [(9, 7, 0, 278, false), (15, 7, 1, 280, false), (19, 7, 2, 282, false), (22, 7, 3, 284, false), (25, 7, 4, 286, false), (28, 7, 5, 288, false), (31, 7, 6, 291, false), (34, 7, 7, 294, false)],
  [(9, 8, 0, 160, false), (15, 8, 1, 163, false), (19, 8, 2, 164, false), (22, 8, 3, 166, false), (25, 8, 4, 167, false), (28, 8, 5, 168, false), (31, 8, 6, 169, false), (34, 8, 7, 170, false)],
  [(9, 9, 1, 123, false), (15, 9, 2, 125, false), (18, 9, 3, 126, false), (21, 9, 4, 128, false), (24, 9, 0, 122, false), (28, 10, 1, 103, true)],
  [(9, 10, 0, 100, false), (15, 10, 1, 101, false)],
  [(10, 11, 0, 416, false), (21, 11, 1, 417, false), (28, 11, 2, 418, false), (32, 11, 3, 419, false), (35, 11, 4, 420, false), (39, 11, 5, 421, false), (45, 11, 6, 422, false), (52, 11, 7, 423, false), (61, 11, 8, 424, false), (68, 11, 9, 425, false), (77, 11, 10, 426, false), (84, 11, 11, 427, false), (93, 11, 12, 428, false), (97, 11, 13, 429, false), (101, 10, 1, 102, true), (161, 7, 0, 279, true), (167, 7, 2, 283, true), (173, 7, 5, 290, true), (176, 7, 6, 293, true), (179, 4, 2, 203, true), (182, 3, 1, 322, true), (196, 3, 4, 328, true), (199, 3, 5, 331, true), (205, 5, 2, 368, true), (234, 7, 3, 285, true), (237, 7, 4, 287, true), (240, 7, 7, 295, true), (243, 3, 2, 324, true), (246, 3, 6, 333, true), (249, 3, 3, 326, true), (252, 5, 1, 366, true), (258, 5, 4, 373, true), (261, 5, 3, 370, true), (262, 5, 0, 364, true), (272, 2, 3, 229, true), (279, 7, 1, 281, true), (282, 4, 0, 197, true), (283, 2, 0, 223, true), (290, 3, 7, 335, true), (293, 8, 0, 162, true), (303, 4, 1, 200, true), (322, 2, 1, 225, true), (325, 2, 2, 227, true), (329, 4, 3, 206, true)],
  [(13, 12, 1, 1024, false), (17, 12, 3, 1026, false), (20, 12, 5, 1028, false), (24, 12, 6, 1029, false), (27, 12, 7, 1030, false), (30, 12, 8, 1031, false), (34, 12, 9, 1032, false), (37, 12, 17, 1039, false), (40, 12, 20, 1042, false), (43, 12, 21, 1043, false), (46, 12, 22, 1044, false), (49, 12, 23, 1045, false), (52, 12, 24, 1046, false), (55, 12, 25, 1047, false), (58, 12, 26, 1048, false), (61, 12, 27, 1049, false), (64, 12, 28, 1050, false), (67, 12, 29, 1051, false), (70, 12, 30, 1052, false), (73, 12, 31, 1053, false), (77, 12, 33, 1055, false), (80, 12, 34, 1056, false), (83, 12, 35, 1057, false), (86, 12, 38, 1060, false), (89, 12, 39, 1061, false), (92, 12, 40, 1062, false), (95, 12, 42, 1064, false), (98, 12, 43, 1065, false), (101, 12, 44, 1066, false), (104, 12, 45, 1067, false), (107, 12, 47, 1069, false), (110, 12, 48, 1070, false), (113, 12, 49, 1071, false), (116, 12, 50, 1072, false), (119, 12, 52, 1074, false), (122, 12, 54, 1076, false), (125, 12, 56, 1078, false), (128, 12, 57, 1079, false), (131, 12, 58, 1080, false), (134, 12, 59, 1081, false), (137, 12, 60, 1082, false), (140, 12, 61, 1083, false), (143, 12, 62, 1084, false), (146, 12, 63, 1085, false), (149, 12, 64, 1086, false), (152, 12, 65, 1087, false), (155, 12, 67, 1089, false), (158, 12, 68, 1090, false), (161, 12, 69, 1091, false), (164, 12, 70, 1092, false), (167, 12, 71, 1093, false), (170, 12, 73, 1095, false), (173, 12, 75, 1097, false), (176, 12, 76, 1098, false), (179, 12, 77, 1099, false), (182, 12, 78, 1100, false), (185, 12, 79, 1101, false), (188, 12, 80, 1102, false), (191, 12, 81, 1103, false), (194, 12, 82, 1104, false), (197, 12, 83, 1105, false), (200, 12, 84, 1106, false), (207, 12, 2, 1025, false), (214, 12, 4, 1027, false), (223, 12, 10, 1033, false), (245, 12, 13, 1036, false), (248, 12, 11, 1034, false), (251, 12, 14, 1037, false), (254, 12, 15, 1038, false), (272, 12, 12, 1035, false), (275, 12, 18, 1040, false), (278, 12, 19, 1041, false), (281, 12, 32, 1054, false), (297, 12, 36, 1058, false), (307, 12, 37, 1059, false), (310, 12, 41, 1063, false), (319, 12, 51, 1073, false), (322, 12, 46, 1068, false), (329, 12, 53, 1075, false), (332, 12, 55, 1077, false), (345, 12, 66, 1088, false), (355, 12, 72, 1094, false), (361, 12, 74, 1096, false)],
  [],
  [],
  []]
def am_cn0 : List (List (Nat × Nat × Nat)) := [[], [], [], [], [], [], [(21, 9, 116)], [], [], [], [], [(7, 10, 94), (16, 6, 110), (25, 8, 154), (42, 4, 189), (49, 2, 216), (56, 1, 253), (65, 7, 272), (72, 3, 313), (81, 5, 356), (88, 0, 397)], [], [], [], [(7, 11, 86), (10, 12, 1011)]]
def am_ob0 : List (List (Nat × Nat)) := [[(3, 402)], [(3, 258)], [(3, 221)], [(3, 318)], [(3, 194)], [(3, 361)], [(3, 115)], [(3, 277)], [(3, 159)], [(3, 121)], [(3, 99)], [(1, 91)], [(7, 1016)], [], [], []]
def am_kc0 : List (List (Nat × Int32 × Nat)) := [[], [], [], [], [], [], [], [], [], [], [], [], [], [(265, 1431655765, 897), (266, 858993459, 898), (267, 252645135, 899)], [], []]
def am_kl0 : List (List (Nat × Nat × Nat)) := [[], [], [], [], [], [], [], [], [], [], [], [], [(217, 27, 1023)], [], [], [(60, 4294967295, 1527)]]
/-- the String constants of the scanner: pool index, text -/
def am_sx0 : List (Nat × String) := [(63, "hands"), (69, "widow"), (71, "load"), (73, "money"), (75, "kind"), (77, "worth"), (79, "slices"), (81, "season"), (83, "give"), (85, "bar"), (87, "pay"), (89, "if"), (91, "and"), (93, "or")]
def am_sb : List (List Int32) := [[104, 97, 110, 100, 115], [119, 105, 100, 111, 119], [108, 111, 97, 100], [109, 111, 110, 101, 121], [107, 105, 110, 100], [119, 111, 114, 116, 104], [115, 108, 105, 99, 101, 115], [115, 101, 97, 115, 111, 110], [103, 105, 118, 101], [98, 97, 114], [112, 97, 121], [105, 102], [97, 110, 100], [111, 114]]
def am_rt0 : List (List Nat) := [[2, 4, 6, 12, 0, 0, 18, 22, 29, 33, 40, 47, 55, 58], [3, 0], [], [5, 0, 0, 0], [2, 0, 0, 0, 0], [0, 7, 0, 8, 9, 0, 10, 11], [], [], [], [], [], [0, 13, 0, 14, 15, 0, 16, 17], [], [], [], [], [], [0, 19, 20, 21], [], [], [], [0, 23, 24, 25, 26, 27, 0, 28], [], [], [], [], [], [], [18, 30, 31, 32], [], [], [], [0, 34, 0, 35, 36, 37, 38, 39], [], [], [], [], [], [], [33, 0, 41, 42, 43, 44, 45, 0, 46], [], [], [], [], [], [], [0, 48, 49, 50, 51, 52, 53, 54], [], [], [], [], [], [], [], [47, 40, 56, 57], [], [], [], [0, 60, 0, 61, 0, 62, 63, 64, 65, 66, 0, 0, 0, 0, 0, 0, 0, 0, 0, 0, 67, 68, 69, 70, 71, 72, 73, 74, 75, 76, 77, 78, 0, 79, 80, 81, 0, 0, 82, 83, 84, 0, 85, 86, 87, 88, 0, 89, 90, 91, 92, 0, 93, 0, 94, 0, 95, 96, 97, 98, 99, 100, 101, 102, 103, 104, 0, 105, 106, 107, 108, 109, 0, 110, 0, 111, 112, 113, 114, 115, 116, 117, 118, 119, 120], [], [], [], [], [], [], [], [], [], [], [], [], [], [], [], [], [], [], [], [], [], [], [], [], [], [], [], [], [], [], [], [], [], [], [], [], [], [], [], [], [], [], [], [], [], [], [], [], [], [], [], [], [], [], [], [], [], [], [], [], []]
end
section
/-! ===== the abstract machine: cells by their number, ints, longs and references as functions of cell and place ===== -/
abbrev am_H : Type := Nat × (Nat → Nat → Int32) × (Nat → Nat → Int64) × (Nat → Nat → Nat)
/-- an instruction made plain: kind, length, constant, targets -/
abbrev am_O : Type := Instr × Nat × Int32 × List Nat
/-- pc, locals, stack, heap -/
abbrev am_Q : Type := Nat × List Value × List Value × am_H
def am_up {α : Type} (f : Nat → Nat → α) (c k : Nat) (x : α) : Nat → Nat → α := fun c' k' => if c' = c then (if k' = k then x else f c' k') else f c' k'
def am_zr {α : Type} (f : Nat → Nat → α) (c : Nat) (x : α) : Nat → Nat → α := fun c' k' => if c' = c then x else f c' k'
def am_in (i : Int32) (n : Nat) : Bool := decide (0 ≤ i) && decide (i.toNatClampNeg < n)
def am_ld (al : List Value) (i : Nat) : Value := al.getD i .null
def am_kill (al : List Value) (i : Nat) : List Value := match i with
  | 0 => al
  | j + 1 => match am_ld al j with
    | .long _ => al.set j .null
    | .double _ => al.set j .null
    | _ => al
def am_lk {α : Type} : List (Nat × α) → Nat → Option α
  | [], _ => none
  | (j, x) :: r, i => bif Nat.beq j i then some x else am_lk r i
def am_fl (own idx : Nat) : Option (Nat × Nat × Nat × Bool) := am_lk (am_fl0.getD own []) idx
def am_cn (own idx : Nat) : Option (Nat × Nat) := am_lk (am_cn0.getD own []) idx
def am_ob (own idx : Nat) : Option Nat := am_lk (am_ob0.getD own []) idx
def am_kc (own idx : Nat) : Option (Int32 × Nat) := am_lk (am_kc0.getD own []) idx
def am_kl (own idx : Nat) : Option (Nat × Nat) := am_lk (am_kl0.getD own []) idx
def am_sxn : List (Nat × String) → Nat → Nat → Option Nat
  | [], _, _ => none
  | (j, _) :: r, i, k => bif Nat.beq j i then some k else am_sxn r i (k + 1)
def am_br (c : ClassFile.Cond) (x y : Int32) (t f : Nat) : Nat := match c with
  | .eq => bif decide (x = y) then t else f
  | .ne => bif decide (x = y) then f else t
  | .lt => bif decide (x < y) then t else f
  | .ge => bif decide (x < y) then f else t
  | .gt => bif decide (y < x) then t else f
  | .le => bif decide (y < x) then f else t
def am_sw (v k : Int32) (d : Nat) : List Nat → Nat
  | [] => d
  | t :: ts => bif decide (v = k) then t else am_sw v (k + 1) d ts
def am_aty (t : ClassFile.ArrayType) : Nat := match t with
  | .int => 0 | .byte => 1 | .long => 2 | .boolean => 3 | _ => 9
def am_nar (t : Nat) (x : Int32) : Int32 := match t with
  | 0 => x | 1 => x.toInt8.toInt32 | _ => x &&& 1
/-- one step that is neither a call nor a return; lim: how many cells there may be; ini: within a constructor -/
def am_nx (lim own : Nat) (ini : Bool) (o : am_O) (pc : Nat) (al st : List Value) (h : am_H) : Option am_Q :=
  match o.1 with
  | .iconst _ => some (pc + o.2.1, al, .int o.2.2.1 :: st, h)
  | .ldc_w i => match am_kc own i with
    | some (x, _) => some (pc + 3, al, .int x :: st, h)
    | none => none
  | .ldc2_w i => match am_kl own i with
    | some (x, _) => some (pc + 3, al, .long (lN x) :: st, h)
    | none => none
  | .ldc i => bif Nat.beq own 9 then (match am_sxn am_sx0 i 1000 with
    | some k => some (pc + 2, al, .ref k :: st, h)
    | none => none) else none
  | .lconst k => some (pc + 1, al, .long (lN (k : Nat)) :: st, h)
  | .iload i => match am_ld al i with
    | .int x => some (pc + o.2.1, al, .int x :: st, h)
    | _ => none
  | .lload i => match am_ld al i with
    | .long x => some (pc + o.2.1, al, .long x :: st, h)
    | _ => none
  | .aload i => match am_ld al i with
    | .ref x => some (pc + o.2.1, al, .ref x :: st, h)
    | _ => none
  | .istore i => match st with
    | .int x :: st => bif Nat.blt i al.length then some (pc + o.2.1, (am_kill al i).set i (.int x), st, h) else none
    | _ => none
  | .astore i => match st with
    | .ref x :: st => bif Nat.blt i al.length then some (pc + o.2.1, (am_kill al i).set i (.ref x), st, h) else none
    | _ => none
  | .lstore i => match st with
    | .long x :: st => bif Nat.blt (i + 1) al.length then some (pc + o.2.1, ((am_kill al i).set i (.long x)).set (i + 1) .null, st, h) else none
    | _ => none
  | .iinc i _ => match am_ld al i with
    | .int x => bif Nat.blt i al.length then some (pc + 3, (am_kill al i).set i (.int (x + o.2.2.1)), st, h) else none
    | _ => none
  | .iadd => match st with | .int y :: .int x :: st => some (pc + 1, al, .int (x + y) :: st, h) | _ => none
  | .isub => match st with | .int y :: .int x :: st => some (pc + 1, al, .int (x - y) :: st, h) | _ => none
  | .imul => match st with | .int y :: .int x :: st => some (pc + 1, al, .int (x * y) :: st, h) | _ => none
  | .iand => match st with | .int y :: .int x :: st => some (pc + 1, al, .int (x &&& y) :: st, h) | _ => none
  | .ior => match st with | .int y :: .int x :: st => some (pc + 1, al, .int (x ||| y) :: st, h) | _ => none
  | .ixor => match st with | .int y :: .int x :: st => some (pc + 1, al, .int (x ^^^ y) :: st, h) | _ => none
  | .ineg => match st with | .int x :: st => some (pc + 1, al, .int (-x) :: st, h) | _ => none
  | .ishl => match st with | .int y :: .int x :: st => some (pc + 1, al, .int (x <<< (y &&& 31)) :: st, h) | _ => none
  | .ishr => match st with | .int y :: .int x :: st => some (pc + 1, al, .int (x >>> (y &&& 31)) :: st, h) | _ => none
  | .iushr => match st with | .int y :: .int x :: st => some (pc + 1, al, .int (x.toUInt32 >>> (y.toUInt32 &&& Int32.toUInt32 31)).toInt32 :: st, h) | _ => none
  | .ladd => match st with | .long y :: .long x :: st => some (pc + 1, al, .long (x + y) :: st, h) | _ => none
  | .lsub => match st with | .long y :: .long x :: st => some (pc + 1, al, .long (x - y) :: st, h) | _ => none
  | .lmul => match st with | .long y :: .long x :: st => some (pc + 1, al, .long (x * y) :: st, h) | _ => none
  | .land => match st with | .long y :: .long x :: st => some (pc + 1, al, .long (x &&& y) :: st, h) | _ => none
  | .lor => match st with | .long y :: .long x :: st => some (pc + 1, al, .long (x ||| y) :: st, h) | _ => none
  | .lshl => match st with | .int y :: .long x :: st => some (pc + 1, al, .long (x <<< (y.toInt64 &&& 63)) :: st, h) | _ => none
  | .lshr => match st with | .int y :: .long x :: st => some (pc + 1, al, .long (x >>> (y.toInt64 &&& 63)) :: st, h) | _ => none
  | .lushr => match st with | .int y :: .long x :: st => some (pc + 1, al, .long (x.toUInt64 >>> (y.toInt64.toUInt64 &&& Int64.toUInt64 63)).toInt64 :: st, h) | _ => none
  | .lcmp => match st with | .long y :: .long x :: st => some (pc + 1, al, .int (lg_cmp x y) :: st, h) | _ => none
  | .i2l => match st with | .int x :: st => some (pc + 1, al, .long x.toInt64 :: st, h) | _ => none
  | .i2b => match st with | .int x :: st => some (pc + 1, al, .int x.toInt8.toInt32 :: st, h) | _ => none
  | .dup => match st with
    | .int x :: st => some (pc + 1, al, .int x :: .int x :: st, h)
    | .ref x :: st => some (pc + 1, al, .ref x :: .ref x :: st, h)
    | _ => none
  | .dup2 => match st with
    | .int x :: .ref y :: st => some (pc + 1, al, .int x :: .ref y :: .int x :: .ref y :: st, h)
    | _ => none
  | .pop => match st with | .int _ :: st => some (pc + 1, al, st, h) | _ => none
  | .ifCond c _ => match st with
    | .int x :: st => some (am_br c x 0 (o.2.2.2.headD 0) (pc + 3), al, st, h)
    | _ => none
  | .if_icmp c _ => match st with
    | .int y :: .int x :: st => some (am_br c x y (o.2.2.2.headD 0) (pc + 3), al, st, h)
    | _ => none
  | .goto _ => some (o.2.2.2.headD 0, al, st, h)
  | .tableswitch _ _ _ _ => match st with
    | .int x :: st => some (am_sw x o.2.2.1 (o.2.2.2.headD 0) o.2.2.2.tail, al, st, h)
    | _ => none
  | .getfield i => match st with
    | .ref c :: st => match am_fl own i, am_sh[c]? with
      | some (ci, k, _), some (.inl cj) => bif Nat.beq ci cj && Nat.blt c h.1 then
          (bif (am_fk ci).getD k true then some (pc + 3, al, .int (h.2.1 c k) :: st, h)
           else (match h.2.2.2 c k with
             | 0 => none
             | n + 1 => some (pc + 3, al, .ref n :: st, h))) else none
      | _, _ => none
    | _ => none
  | .putfield i => match st with
    | .int x :: .ref c :: st => match am_fl own i, am_sh[c]? with
      | some (ci, k, _, _), some (.inl cj) => bif Nat.beq ci cj && (Nat.blt c h.1 && ((am_fk ci).getD k false && !(am_ff ci).getD k true)) then some (pc + 3, al, st, (h.1, am_up h.2.1 c k x, h.2.2)) else none
      | _, _ => none
    | .ref n :: .ref c :: st => match am_fl own i, am_sh[c]? with
      | some (ci, k, _, nst), some (.inl cj) => bif Nat.beq ci cj && (Nat.blt c h.1 && (!(am_fk ci).getD k true && (Nat.blt n 200 && (Nat.blt k (am_fk ci).length && (!(am_ff ci).getD k true || (ini && (!nst && Nat.beq ci own))))))) then some (pc + 3, al, st, (h.1, h.2.1, h.2.2.1, am_up h.2.2.2 c k (n + 1))) else none
      | _, _ => none
    | _ => none
  | .iaload => match st with
    | .int i :: .ref c :: st => match am_sh[c]? with
      | some (.inr (t, n)) => bif Nat.beq t 0 && (Nat.blt c h.1 && am_in i n) then some (pc + 1, al, .int (h.2.1 c i.toNatClampNeg) :: st, h) else none
      | _ => none
    | _ => none
  | .baload => match st with
    | .int i :: .ref c :: st => match am_sh[c]? with
      | some (.inr (t, n)) => bif (Nat.beq t 1 || Nat.beq t 3) && (Nat.blt c h.1 && am_in i n) then some (pc + 1, al, .int (h.2.1 c i.toNatClampNeg) :: st, h) else none
      | _ => none
    | _ => none
  | .laload => match st with
    | .int i :: .ref c :: st => match am_sh[c]? with
      | some (.inr (t, n)) => bif Nat.beq t 2 && (Nat.blt c h.1 && am_in i n) then some (pc + 1, al, .long (h.2.2.1 c i.toNatClampNeg) :: st, h) else none
      | _ => none
    | _ => none
  | .iastore => match st with
    | .int x :: .int i :: .ref c :: st => match am_sh[c]? with
      | some (.inr (t, n)) => bif Nat.beq t 0 && (Nat.blt c h.1 && am_in i n) then some (pc + 1, al, st, (h.1, am_up h.2.1 c i.toNatClampNeg x, h.2.2)) else none
      | _ => none
    | _ => none
  | .bastore => match st with
    | .int x :: .int i :: .ref c :: st => match am_sh[c]? with
      | some (.inr (t, n)) => bif (Nat.beq t 1 || Nat.beq t 3) && (Nat.blt c h.1 && am_in i n) then some (pc + 1, al, st, (h.1, am_up h.2.1 c i.toNatClampNeg (am_nar t x), h.2.2)) else none
      | _ => none
    | _ => none
  | .lastore => match st with
    | .long x :: .int i :: .ref c :: st => match am_sh[c]? with
      | some (.inr (t, n)) => bif Nat.beq t 2 && (Nat.blt c h.1 && am_in i n) then some (pc + 1, al, st, (h.1, h.2.1, am_up h.2.2.1 c i.toNatClampNeg x, h.2.2.2)) else none
      | _ => none
    | _ => none
  | .arraylength => match st with
    | .ref c :: st => match am_sh[c]? with
      | some (.inr (t, n)) => bif Nat.blt t 4 && Nat.blt c h.1 then some (pc + 1, al, .int (Int32.ofNat n) :: st, h) else none
      | _ => none
    | _ => none
  | .new i => match am_cn own i, am_sh[h.1]? with
    | some (ci, _), some (.inl cj) => bif Nat.beq ci cj && Nat.blt h.1 lim then some (pc + 3, al, .ref h.1 :: st, (h.1 + 1, am_zr h.2.1 h.1 0, h.2.2.1, am_zr h.2.2.2 h.1 0)) else none
    | _, _ => none
  | .newarray ty => match st with
    | .int x :: st => match am_sh[h.1]? with
      | some (.inr (t, n)) => bif Nat.beq t (am_aty ty) && (Nat.blt t 4 && (Nat.blt h.1 lim && (Nat.ble n 3000 && decide (x = Int32.ofNat n)))) then some (pc + 2, al, .ref h.1 :: st, (h.1 + 1, am_zr h.2.1 h.1 0, am_zr h.2.2.1 h.1 0, h.2.2.2)) else none
      | _ => none
    | _ => none
  | .invokespecial i => match st with
    | .ref c :: st => match am_ob own i with
      | some _ => bif Nat.blt c 200 && Nat.ble ((st.map fun v => v.category).sum) 8 then some (pc + 3, al, st, h) else none
      | none => none
    | _ => none
  | _ => none
def am_rt (i : Instr) (rt : Option FieldType) (st : List Value) : Option (Option Value) := match i with
  | .ireturn => match st, rt with
    | [.int v], some .int => some (some (.int v))
    | [.int v], some .boolean => bif decide (v &&& 1 = v) then some (some (.int v)) else none
    | _, _ => none
  | .lreturn => match st, rt with
    | [.long v], some .long => some (some (.long v))
    | _, _ => none
  | .return_ => match st, rt with
    | [], none => some none
    | _, _ => none
  | _ => none
end
section
/-! ===== the abstract heap as a world of the kit ===== -/
def am_wd : List Cond := lw_tbl.filter goodWord
theorem am_wd_good : ∀ w ∈ am_wd, w ∈ lw_tbl ∧ goodWord w = true := fun w h => List.mem_filter.mp h
/-- a word by its place in the tables -/
theorem am_wat {w : Cond} (i : Nat) (h : lw_tbl[i]? = some w) (hg : goodWord w = true) : w ∈ am_wd := List.mem_filter.mpr ⟨List.mem_of_getElem? h, hg⟩
def am_ad (B : Nat) (adK : Nat → Nat) (n : Nat) : Nat := if n < 200 then B + n else adK (n - 1000)
def am_cv (ad : Nat → Nat) (v : Value) : Value := match v with
  | .ref n => .ref (ad n)
  | v => v
def am_rv (B : Nat) (n : Nat) : Value := match n with
  | 0 => .null
  | n + 1 => .ref (B + n)
def am_fv (B : Nat) (h : am_H) (c ci k : Nat) : Value := bif (am_fk ci).getD k true then .int (h.2.1 c k) else am_rv B (h.2.2.2 c k)
def am_ce (cA : Nat → ClassId) (B : Nat) (h : am_H) (c : Nat) : va_E := match am_sh[c]? with
  | some (.inl ci) => .inr (ci, (List.range (am_fk ci).length).map (am_fv B h c ci))
  | some (.inr (t, n)) => .inl (cA t, n, bif Nat.beq t 2 then .inr (.inl (h.2.2.1 c)) else .inl (h.2.1 c))
  | none => .inr (0, [])
def am_ws (cA : Nat → ClassId) (B : Nat) (h : am_H) : va_W := (List.range h.1).map fun c => (B + c, am_ce cA B h c)
def am_ty (cA : Nat → ClassId) : List (ClassId × FieldType) := [(cA 0, .int), (cA 1, .byte), (cA 2, .long), (cA 3, .boolean)]
def am_sz (c : Nat) : Nat := match am_sh[c]? with
  | some (.inl ci) => (am_fk ci).length
  | some (.inr (_, n)) => n
  | none => 0
def am_sl : Nat → Nat
  | 0 => 0
  | n + 1 => am_sl n + am_sz n
theorem am_sl_le {a b : Nat} (h : a ≤ b) : am_sl a ≤ am_sl b := by
  induction h with
  | refl => exact Nat.le_refl _
  | step _ ih => exact Nat.le_trans ih (Nat.le_add_right _ _)
theorem am_ws_at {cA : Nat → ClassId} {B : Nat} {h : am_H} {c : Nat} (hc : c < h.1) : (am_ws cA B h)[c]? = some (B + c, am_ce cA B h c) := by
  simp [am_ws, List.getElem?_map, List.getElem?_range hc]
theorem am_ws_in {cA : Nat → ClassId} {B : Nat} {h : am_H} {c : Nat} {q : Nat × va_E} (hq : (am_ws cA B h)[c]? = some q) : c < h.1 ∧ q = (B + c, am_ce cA B h c) := by
  have hl : c < h.1 := by
    have h1 := (List.getElem?_eq_some_iff.mp hq).1
    simpa [am_ws] using h1
  rw [am_ws_at hl] at hq
  exact ⟨hl, (Option.some.inj hq).symm⟩
theorem am_ws_D {cA : Nat → ClassId} {B : Nat} {h : am_H} : va_D (fun q => B ≤ q) (am_ws cA B h) := by
  refine ⟨fun i j x y hx hy e => ?_, fun k q hq => ?_⟩
  · obtain ⟨-, rfl⟩ := am_ws_in hx
    obtain ⟨-, rfl⟩ := am_ws_in hy
    dsimp only at e
    omega
  · obtain ⟨-, rfl⟩ := am_ws_in hq
    exact Nat.le_add_right _ _
theorem am_ws_set {cA : Nat → ClassId} {B : Nat} {h h' : am_H} {c : Nat} {e : va_E} (h1 : h'.1 = h.1) (h2 : am_ce cA B h' c = e) (h3 : ∀ c', c' ≠ c → am_ce cA B h' c' = am_ce cA B h c') : (am_ws cA B h).set c (B + c, e) = am_ws cA B h' := by
  apply List.ext_getElem?
  intro k
  rw [List.getElem?_set]
  by_cases hk : c = k
  · subst hk
    rw [if_pos rfl]
    by_cases hl : c < h.1
    · rw [if_pos (by simpa [am_ws] using hl), am_ws_at (by rw [h1]; exact hl), h2]
    · rw [if_neg (by simpa [am_ws] using hl), List.getElem?_eq_none (by simp [am_ws, h1]; omega)]
  · rw [if_neg hk]
    by_cases hl : k < h.1
    · rw [am_ws_at hl, am_ws_at (by rw [h1]; exact hl), h3 k (fun e => hk e.symm)]
    · rw [List.getElem?_eq_none (by simp [am_ws]; omega), List.getElem?_eq_none (by simp [am_ws, h1]; omega)]
theorem am_ws_push {cA : Nat → ClassId} {B : Nat} {h h' : am_H} {e : va_E} (h1 : h'.1 = h.1 + 1) (h2 : am_ce cA B h' h.1 = e) (h3 : ∀ c', c' ≠ h.1 → am_ce cA B h' c' = am_ce cA B h c') : am_ws cA B h ++ [(B + h.1, e)] = am_ws cA B h' := by
  unfold am_ws
  rw [h1, List.range_succ, List.map_append]
  congr 1
  · apply List.map_congr_left
    intro c hc
    rw [h3 c (Nat.ne_of_lt (List.mem_range.mp hc))]
  · simp [h2]
theorem am_up_row {α : Type} (f : Nat → Nat → α) (c k : Nat) (x : α) : am_up f c k x c = fun j => if j = k then x else f c j := by
  funext j
  simp [am_up]
theorem am_up_ne {α : Type} (f : Nat → Nat → α) {c c' : Nat} (k : Nat) (x : α) (h : c' ≠ c) : am_up f c k x c' = f c' := by
  funext j
  simp [am_up, h]
theorem am_zr_ne {α : Type} (f : Nat → Nat → α) {c c' : Nat} (x : α) (h : c' ≠ c) : am_zr f c x c' = f c' := by
  funext j
  simp [am_zr, h]
theorem am_zr_at {α : Type} (f : Nat → Nat → α) (c : Nat) (x : α) : am_zr f c x c = fun _ => x := by
  funext j
  simp [am_zr]
/-- a cell depends on its own row alone -/
theorem am_ce_eq {cA : Nat → ClassId} {B : Nat} {h h' : am_H} {c : Nat} (h1 : h'.2.1 c = h.2.1 c) (h2 : h'.2.2.1 c = h.2.2.1 c) (h3 : h'.2.2.2 c = h.2.2.2 c) : am_ce cA B h' c = am_ce cA B h c := by
  have e : am_fv B h' c = am_fv B h c := by
    funext ci k
    simp [am_fv, h1, h3]
  unfold am_ce
  rw [e, h1, h2]
/-- the locals -/
def am_L (ad : Nat → Nat) (nL : Nat) (al : List Value) (ls : Array Slot) : Prop := al.length = nL ∧ ls.size = nL ∧ lv_wf ls ∧ ∀ i : Nat, am_ld al i ≠ .null → ls[i]? = some (.val (am_cv ad (am_ld al i)))
def am_lv (ad : Nat → Nat) (al : List Value) : List (Nat × Value) := (List.range al.length).filterMap fun i => if am_ld al i = .null then none else some (i, am_cv ad (am_ld al i))
theorem am_lv_mem {ad : Nat → Nat} {al : List Value} {q : Nat × Value} : q ∈ am_lv ad al ↔ am_ld al q.1 ≠ .null ∧ q.2 = am_cv ad (am_ld al q.1) := by
  unfold am_lv
  rw [List.mem_filterMap]
  constructor
  · rintro ⟨i, -, h⟩
    split at h
    · cases h
    · rename_i hn
      cases h
      exact ⟨hn, rfl⟩
  · rintro ⟨h1, h2⟩
    refine ⟨q.1, List.mem_range.mpr ?_, ?_⟩
    · rcases Nat.lt_or_ge q.1 al.length with h | h
      · exact h
      · exfalso
        apply h1
        simp [am_ld, List.getElem?_eq_none h]
    · rw [if_neg h1, ← h2]
theorem am_L.has {ad : Nat → Nat} {nL : Nat} {al : List Value} {ls : Array Slot} (h : am_L ad nL al ls) : lv_has ls nL (am_lv ad al) := by
  refine ⟨h.2.1, h.2.2.1, fun q hq => ?_⟩
  obtain ⟨h1, h2⟩ := am_lv_mem.mp hq
  rw [h2]
  exact h.2.2.2 q.1 h1
theorem am_cv_cat (ad : Nat → Nat) (v : Value) : (am_cv ad v).category = v.category := by cases v <;> rfl
theorem am_cv_null {ad : Nat → Nat} {v : Value} : am_cv ad v = .null ↔ v = .null := by cases v <;> simp [am_cv]
theorem am_kill_len (al : List Value) (i : Nat) : (am_kill al i).length = al.length := by
  cases i with
  | zero => rfl
  | succ j => cases hn : am_ld al j <;> simp [am_kill, hn]
theorem am_ld_set {al : List Value} {i j : Nat} {v : Value} : am_ld (al.set i v) j = if i = j ∧ j < al.length then v else am_ld al j := by
  simp only [am_ld, List.getD_eq_getElem?_getD, List.getElem?_set]
  by_cases h : i = j
  · subst h
    by_cases h2 : i < al.length
    · simp [h2]
    · simp [h2]
  · simp [h]
theorem am_kill_ld {al : List Value} {i j : Nat} (h : am_ld (am_kill al i) j ≠ .null) : am_ld (am_kill al i) j = am_ld al j ∧ ¬ (j + 1 = i ∧ (am_ld al j).category = 2) := by
  cases i with
  | zero => exact ⟨rfl, fun q => by omega⟩
  | succ n =>
    have two : am_kill al (n + 1) = al.set n .null → am_ld (am_kill al (n + 1)) j = am_ld al j ∧ ¬ (j + 1 = n + 1 ∧ (am_ld al j).category = 2) := by
      intro e9
      rw [e9] at h ⊢
      by_cases e : j = n
      · subst e
        exfalso
        apply h
        rw [am_ld_set]
        by_cases hl : j < al.length
        · rw [if_pos ⟨rfl, hl⟩]
        · rw [if_neg (fun q => hl q.2)]
          simp [am_ld, List.getElem?_eq_none (Nat.not_lt.mp hl)]
      · refine ⟨?_, fun q => e (by omega)⟩
        rw [am_ld_set, if_neg (fun q => e q.1.symm)]
    have one : am_kill al (n + 1) = al → (am_ld al n).category ≠ 2 → am_ld (am_kill al (n + 1)) j = am_ld al j ∧ ¬ (j + 1 = n + 1 ∧ (am_ld al j).category = 2) := by
      intro e9 hc
      rw [e9]
      refine ⟨rfl, fun q => hc ?_⟩
      have e : j = n := by omega
      rw [← e]
      exact q.2
    cases hn : am_ld al n with
    | long x => exact two (by simp [am_kill, hn])
    | double x => exact two (by simp [am_kill, hn])
    | _ => exact one (by simp [am_kill, hn]) (by rw [hn]; simp [Value.category])
theorem am_L.store1 {ad : Nat → Nat} {nL i : Nat} {al : List Value} {ls ls' : Array Slot} {v : Value} (h : am_L ad nL al ls) (hl : lv_has ls' nL ((i, am_cv ad v) :: (am_lv ad al).filter (fun q => !(q.1 == i) && !(q.1 + 1 == i && q.2.category == 2)))) : am_L ad nL ((am_kill al i).set i v) ls' := by
  refine ⟨by simp [am_kill_len, h.1], hl.1, hl.2.1, fun j hj => ?_⟩
  rw [am_ld_set] at hj ⊢
  by_cases e : i = j ∧ j < (am_kill al i).length
  · obtain ⟨rfl, e2⟩ := e
    rw [if_pos ⟨rfl, e2⟩]
    exact hl.2.2 (i, am_cv ad v) List.mem_cons_self
  · rw [if_neg e] at hj ⊢
    obtain ⟨k1, k2⟩ := am_kill_ld hj
    rw [k1] at hj ⊢
    have hne : j ≠ i := by
      intro q
      subst q
      apply e
      refine ⟨rfl, ?_⟩
      rw [am_kill_len]
      rcases Nat.lt_or_ge j al.length with h | h
      · exact h
      · exact absurd (by simp [am_ld, List.getElem?_eq_none h]) hj
    refine hl.2.2 (j, am_cv ad (am_ld al j)) (List.mem_cons_of_mem _ (List.mem_filter.mpr ⟨am_lv_mem.mpr ⟨hj, rfl⟩, ?_⟩))
    simp only [am_cv_cat, Bool.and_eq_true, Bool.not_eq_true', beq_eq_false_iff_ne, ne_eq, hne, not_false_eq_true, true_and, Bool.and_eq_false_imp, beq_iff_eq]
    exact fun q h2 => k2 ⟨q, h2⟩
theorem am_L.store2 {ad : Nat → Nat} {nL i : Nat} {al : List Value} {ls ls' : Array Slot} {v : Value} (h : am_L ad nL al ls) (hl : lv_has ls' nL ((i, am_cv ad v) :: (am_lv ad al).filter (fun q => !(q.1 == i) && (!(q.1 == i + 1) && !(q.1 + 1 == i && q.2.category == 2))))) : am_L ad nL (((am_kill al i).set i v).set (i + 1) .null) ls' := by
  refine ⟨by simp [am_kill_len, h.1], hl.1, hl.2.1, fun j hj => ?_⟩
  rw [am_ld_set] at hj ⊢
  by_cases e0 : i + 1 = j ∧ j < ((am_kill al i).set i v).length
  · rw [if_pos e0] at hj
    exact absurd rfl hj
  rw [if_neg e0] at hj ⊢
  rw [am_ld_set] at hj ⊢
  by_cases e : i = j ∧ j < (am_kill al i).length
  · obtain ⟨rfl, e2⟩ := e
    rw [if_pos ⟨rfl, e2⟩]
    exact hl.2.2 (i, am_cv ad v) List.mem_cons_self
  · rw [if_neg e] at hj ⊢
    obtain ⟨k1, k2⟩ := am_kill_ld hj
    rw [k1] at hj ⊢
    have hlt : j < al.length := by
      rcases Nat.lt_or_ge j al.length with h | h
      · exact h
      · exact absurd (by simp [am_ld, List.getElem?_eq_none h]) hj
    have hne : j ≠ i := by
      intro q
      subst q
      exact e ⟨rfl, by rw [am_kill_len]; exact hlt⟩
    have hne1 : j ≠ i + 1 := by
      intro q
      subst q
      exact e0 ⟨rfl, by simp [am_kill_len]; exact hlt⟩
    refine hl.2.2 (j, am_cv ad (am_ld al j)) (List.mem_cons_of_mem _ (List.mem_filter.mpr ⟨am_lv_mem.mpr ⟨hj, rfl⟩, ?_⟩))
    simp only [am_cv_cat, Bool.and_eq_true, Bool.not_eq_true', beq_eq_false_iff_ne, ne_eq, hne, hne1, not_false_eq_true, true_and, Bool.and_eq_false_imp, beq_iff_eq]
    exact fun q h2 => k2 ⟨q, h2⟩
end
