section
-- ===== PART A: goes FIRST, ahead of the names: the tables' words, and 'selects' of the private methods out of them =====
/-- a private method of a class that the tables say can be made, by its rows of tables_1 -/
def lw_okq (q : MethodName × Nat) : Prop := (q.1.cls ≠ "java/lang/invoke/MethodHandle" ∧ q.1.cls ≠ "java/lang/invoke/VarHandle") ∧ Cond.instantiable q.1.cls q.2 ∈ tables_1 ∧ Cond.privateMethod q.1 ∈ tables_1 ∧ Cond.instanceMethod q.1 ∈ tables_1
theorem lw_p0 : lw_okq (⟨"DuskShelves", "beginDay", "()V"⟩, 14) := ⟨⟨by decide +kernel, by decide +kernel⟩, List.mem_of_getElem? (i := 19) (by decide +kernel), List.mem_of_getElem? (i := 468) (by decide +kernel), List.mem_of_getElem? (i := 469) (by decide +kernel)⟩
theorem lw_p1 : lw_okq (⟨"DuskShelves", "lawToday", "(I)I"⟩, 14) := ⟨⟨by decide +kernel, by decide +kernel⟩, List.mem_of_getElem? (i := 19) (by decide +kernel), List.mem_of_getElem? (i := 476) (by decide +kernel), List.mem_of_getElem? (i := 477) (by decide +kernel)⟩
theorem lw_p2 : lw_okq (⟨"DuskShelves", "lets", "(II)Z"⟩, 14) := ⟨⟨by decide +kernel, by decide +kernel⟩, List.mem_of_getElem? (i := 19) (by decide +kernel), List.mem_of_getElem? (i := 488) (by decide +kernel), List.mem_of_getElem? (i := 489) (by decide +kernel)⟩
theorem lw_p3 : lw_okq (⟨"DuskShelves", "askOf", "(II)I"⟩, 14) := ⟨⟨by decide +kernel, by decide +kernel⟩, List.mem_of_getElem? (i := 19) (by decide +kernel), List.mem_of_getElem? (i := 492) (by decide +kernel), List.mem_of_getElem? (i := 493) (by decide +kernel)⟩
theorem lw_p4 : lw_okq (⟨"DuskShelves$Laws", "pop", "()I"⟩, 8) := ⟨⟨by decide +kernel, by decide +kernel⟩, List.mem_of_getElem? (i := 188) (by decide +kernel), List.mem_of_getElem? (i := 505) (by decide +kernel), List.mem_of_getElem? (i := 506) (by decide +kernel)⟩
theorem lw_p5 : lw_okq (⟨"DuskShelves$Laws", "work", "(ILDuskShelves$Facts;)V"⟩, 8) := ⟨⟨by decide +kernel, by decide +kernel⟩, List.mem_of_getElem? (i := 188) (by decide +kernel), List.mem_of_getElem? (i := 509) (by decide +kernel), List.mem_of_getElem? (i := 510) (by decide +kernel)⟩
theorem lw_p6 : lw_okq (⟨"DuskShelves$Laws", "push", "(I)V"⟩, 8) := ⟨⟨by decide +kernel, by decide +kernel⟩, List.mem_of_getElem? (i := 188) (by decide +kernel), List.mem_of_getElem? (i := 513) (by decide +kernel), List.mem_of_getElem? (i := 514) (by decide +kernel)⟩
theorem lw_p7 : lw_okq (⟨"DuskShelves", "toss", "(II)V"⟩, 14) := ⟨⟨by decide +kernel, by decide +kernel⟩, List.mem_of_getElem? (i := 19) (by decide +kernel), List.mem_of_getElem? (i := 527) (by decide +kernel), List.mem_of_getElem? (i := 528) (by decide +kernel)⟩
theorem lw_p8 : lw_okq (⟨"DuskShelves", "hasBoth", "(II)Z"⟩, 14) := ⟨⟨by decide +kernel, by decide +kernel⟩, List.mem_of_getElem? (i := 19) (by decide +kernel), List.mem_of_getElem? (i := 539) (by decide +kernel), List.mem_of_getElem? (i := 540) (by decide +kernel)⟩
theorem lw_p9 : lw_okq (⟨"DuskShelves", "lineUp", "(III)I"⟩, 14) := ⟨⟨by decide +kernel, by decide +kernel⟩, List.mem_of_getElem? (i := 19) (by decide +kernel), List.mem_of_getElem? (i := 586) (by decide +kernel), List.mem_of_getElem? (i := 587) (by decide +kernel)⟩
theorem lw_p10 : lw_okq (⟨"DuskShelves$Tape", "readClause", "()Z"⟩, 5) := ⟨⟨by decide +kernel, by decide +kernel⟩, List.mem_of_getElem? (i := 164) (by decide +kernel), List.mem_of_getElem? (i := 614) (by decide +kernel), List.mem_of_getElem? (i := 615) (by decide +kernel)⟩
theorem lw_p11 : lw_okq (⟨"DuskShelves$Tape", "readJoined", "(II)Z"⟩, 5) := ⟨⟨by decide +kernel, by decide +kernel⟩, List.mem_of_getElem? (i := 164) (by decide +kernel), List.mem_of_getElem? (i := 618) (by decide +kernel), List.mem_of_getElem? (i := 619) (by decide +kernel)⟩
theorem lw_p12 : lw_okq (⟨"DuskShelves$Tape", "readOperand", "(I)Z"⟩, 5) := ⟨⟨by decide +kernel, by decide +kernel⟩, List.mem_of_getElem? (i := 164) (by decide +kernel), List.mem_of_getElem? (i := 622) (by decide +kernel), List.mem_of_getElem? (i := 623) (by decide +kernel)⟩
theorem lw_p13 : lw_okq (⟨"DuskShelves$Tape", "next", "()I"⟩, 5) := ⟨⟨by decide +kernel, by decide +kernel⟩, List.mem_of_getElem? (i := 164) (by decide +kernel), List.mem_of_getElem? (i := 626) (by decide +kernel), List.mem_of_getElem? (i := 627) (by decide +kernel)⟩
theorem lw_p14 : lw_okq (⟨"DuskShelves$Tape", "readNumber", "()V"⟩, 5) := ⟨⟨by decide +kernel, by decide +kernel⟩, List.mem_of_getElem? (i := 164) (by decide +kernel), List.mem_of_getElem? (i := 631) (by decide +kernel), List.mem_of_getElem? (i := 632) (by decide +kernel)⟩
theorem lw_p15 : lw_okq (⟨"DuskShelves$Tape", "write", "(I)V"⟩, 5) := ⟨⟨by decide +kernel, by decide +kernel⟩, List.mem_of_getElem? (i := 164) (by decide +kernel), List.mem_of_getElem? (i := 635) (by decide +kernel), List.mem_of_getElem? (i := 636) (by decide +kernel)⟩
def lw_privs_1 : List (MethodName × Nat) := [(⟨"DuskShelves", "beginDay", "()V"⟩, 14), (⟨"DuskShelves", "lawToday", "(I)I"⟩, 14), (⟨"DuskShelves", "lets", "(II)Z"⟩, 14), (⟨"DuskShelves", "askOf", "(II)I"⟩, 14), (⟨"DuskShelves$Laws", "pop", "()I"⟩, 8), (⟨"DuskShelves$Laws", "work", "(ILDuskShelves$Facts;)V"⟩, 8), (⟨"DuskShelves$Laws", "push", "(I)V"⟩, 8), (⟨"DuskShelves", "toss", "(II)V"⟩, 14), (⟨"DuskShelves", "hasBoth", "(II)Z"⟩, 14), (⟨"DuskShelves", "lineUp", "(III)I"⟩, 14), (⟨"DuskShelves$Tape", "readClause", "()Z"⟩, 5), (⟨"DuskShelves$Tape", "readJoined", "(II)Z"⟩, 5), (⟨"DuskShelves$Tape", "readOperand", "(I)Z"⟩, 5), (⟨"DuskShelves$Tape", "next", "()I"⟩, 5), (⟨"DuskShelves$Tape", "readNumber", "()V"⟩, 5), (⟨"DuskShelves$Tape", "write", "(I)V"⟩, 5)]
theorem lw_r1 : ∀ q ∈ lw_privs_1, lw_okq q := List.forall_mem_cons.mpr ⟨lw_p0, List.forall_mem_cons.mpr ⟨lw_p1, List.forall_mem_cons.mpr ⟨lw_p2, List.forall_mem_cons.mpr ⟨lw_p3, List.forall_mem_cons.mpr ⟨lw_p4, List.forall_mem_cons.mpr ⟨lw_p5, List.forall_mem_cons.mpr ⟨lw_p6, List.forall_mem_cons.mpr ⟨lw_p7, List.forall_mem_cons.mpr ⟨lw_p8, List.forall_mem_cons.mpr ⟨lw_p9, List.forall_mem_cons.mpr ⟨lw_p10, List.forall_mem_cons.mpr ⟨lw_p11, List.forall_mem_cons.mpr ⟨lw_p12, List.forall_mem_cons.mpr ⟨lw_p13, List.forall_mem_cons.mpr ⟨lw_p14, List.forall_mem_cons.mpr ⟨lw_p15, fun _ h => absurd h List.not_mem_nil⟩⟩⟩⟩⟩⟩⟩⟩⟩⟩⟩⟩⟩⟩⟩⟩
theorem lw_p16 : lw_okq (⟨"DuskShelves$Tape", "goesOn", "(I)Z"⟩, 5) := ⟨⟨by decide +kernel, by decide +kernel⟩, List.mem_of_getElem? (i := 164) (by decide +kernel), List.mem_of_getElem? (i := 640) (by decide +kernel), List.mem_of_getElem? (i := 641) (by decide +kernel)⟩
theorem lw_p17 : lw_okq (⟨"DuskShelves", "mayTell", "(II)Z"⟩, 14) := ⟨⟨by decide +kernel, by decide +kernel⟩, List.mem_of_getElem? (i := 19) (by decide +kernel), List.mem_of_getElem? (i := 663) (by decide +kernel), List.mem_of_getElem? (i := 664) (by decide +kernel)⟩
theorem lw_p18 : lw_okq (⟨"DuskShelves$Cuts", "unsoldBy", "(II)I"⟩, 7) := ⟨⟨by decide +kernel, by decide +kernel⟩, List.mem_of_getElem? (i := 306) (by decide +kernel), List.mem_of_getElem? (i := 710) (by decide +kernel), List.mem_of_getElem? (i := 711) (by decide +kernel)⟩
theorem lw_p19 : lw_okq (⟨"DuskShelves$Cuts", "coinsBy", "(II)J"⟩, 7) := ⟨⟨by decide +kernel, by decide +kernel⟩, List.mem_of_getElem? (i := 306) (by decide +kernel), List.mem_of_getElem? (i := 715) (by decide +kernel), List.mem_of_getElem? (i := 716) (by decide +kernel)⟩
theorem lw_p20 : lw_okq (⟨"DuskShelves$Cuts", "stepOn", "(I)Z"⟩, 7) := ⟨⟨by decide +kernel, by decide +kernel⟩, List.mem_of_getElem? (i := 306) (by decide +kernel), List.mem_of_getElem? (i := 722) (by decide +kernel), List.mem_of_getElem? (i := 723) (by decide +kernel)⟩
theorem lw_p21 : lw_okq (⟨"DuskShelves$Cuts", "raiseFrom", "(II)V"⟩, 7) := ⟨⟨by decide +kernel, by decide +kernel⟩, List.mem_of_getElem? (i := 306) (by decide +kernel), List.mem_of_getElem? (i := 726) (by decide +kernel), List.mem_of_getElem? (i := 727) (by decide +kernel)⟩
theorem lw_p22 : lw_okq (⟨"DuskShelves", "isMorning", "(IIII)Z"⟩, 14) := ⟨⟨by decide +kernel, by decide +kernel⟩, List.mem_of_getElem? (i := 19) (by decide +kernel), List.mem_of_getElem? (i := 742) (by decide +kernel), List.mem_of_getElem? (i := 743) (by decide +kernel)⟩
theorem lw_p23 : lw_okq (⟨"DuskShelves$Crates", "listGoals", "()V"⟩, 6) := ⟨⟨by decide +kernel, by decide +kernel⟩, List.mem_of_getElem? (i := 341) (by decide +kernel), List.mem_of_getElem? (i := 789) (by decide +kernel), List.mem_of_getElem? (i := 790) (by decide +kernel)⟩
theorem lw_p24 : lw_okq (⟨"DuskShelves$Crates", "sendOne", "(ILDuskShelves$Places;)V"⟩, 6) := ⟨⟨by decide +kernel, by decide +kernel⟩, List.mem_of_getElem? (i := 341) (by decide +kernel), List.mem_of_getElem? (i := 797) (by decide +kernel), List.mem_of_getElem? (i := 798) (by decide +kernel)⟩
theorem lw_p25 : lw_okq (⟨"DuskShelves$Crates", "bestOfAll", "()J"⟩, 6) := ⟨⟨by decide +kernel, by decide +kernel⟩, List.mem_of_getElem? (i := 341) (by decide +kernel), List.mem_of_getElem? (i := 814) (by decide +kernel), List.mem_of_getElem? (i := 815) (by decide +kernel)⟩
theorem lw_p26 : lw_okq (⟨"DuskShelves", "sumDrawn", "(III)I"⟩, 14) := ⟨⟨by decide +kernel, by decide +kernel⟩, List.mem_of_getElem? (i := 19) (by decide +kernel), List.mem_of_getElem? (i := 863) (by decide +kernel), List.mem_of_getElem? (i := 864) (by decide +kernel)⟩
theorem lw_p27 : lw_okq (⟨"DuskShelves", "gapOf", "(III)I"⟩, 14) := ⟨⟨by decide +kernel, by decide +kernel⟩, List.mem_of_getElem? (i := 19) (by decide +kernel), List.mem_of_getElem? (i := 867) (by decide +kernel), List.mem_of_getElem? (i := 868) (by decide +kernel)⟩
theorem lw_p28 : lw_okq (⟨"DuskShelves", "earlyOf", "(I)I"⟩, 14) := ⟨⟨by decide +kernel, by decide +kernel⟩, List.mem_of_getElem? (i := 19) (by decide +kernel), List.mem_of_getElem? (i := 871) (by decide +kernel), List.mem_of_getElem? (i := 872) (by decide +kernel)⟩
theorem lw_p29 : lw_okq (⟨"DuskShelves", "doubtOf", "(III)I"⟩, 14) := ⟨⟨by decide +kernel, by decide +kernel⟩, List.mem_of_getElem? (i := 19) (by decide +kernel), List.mem_of_getElem? (i := 876) (by decide +kernel), List.mem_of_getElem? (i := 877) (by decide +kernel)⟩
theorem lw_p30 : lw_okq (⟨"DuskShelves$Batches", "spoiledBy", "(II)I"⟩, 8) := ⟨⟨by decide +kernel, by decide +kernel⟩, List.mem_of_getElem? (i := 128) (by decide +kernel), List.mem_of_getElem? (i := 915) (by decide +kernel), List.mem_of_getElem? (i := 916) (by decide +kernel)⟩
theorem lw_p31 : lw_okq (⟨"DuskShelves$Batches", "cameBy", "(II)I"⟩, 8) := ⟨⟨by decide +kernel, by decide +kernel⟩, List.mem_of_getElem? (i := 128) (by decide +kernel), List.mem_of_getElem? (i := 919) (by decide +kernel), List.mem_of_getElem? (i := 920) (by decide +kernel)⟩
def lw_privs_2 : List (MethodName × Nat) := [(⟨"DuskShelves$Tape", "goesOn", "(I)Z"⟩, 5), (⟨"DuskShelves", "mayTell", "(II)Z"⟩, 14), (⟨"DuskShelves$Cuts", "unsoldBy", "(II)I"⟩, 7), (⟨"DuskShelves$Cuts", "coinsBy", "(II)J"⟩, 7), (⟨"DuskShelves$Cuts", "stepOn", "(I)Z"⟩, 7), (⟨"DuskShelves$Cuts", "raiseFrom", "(II)V"⟩, 7), (⟨"DuskShelves", "isMorning", "(IIII)Z"⟩, 14), (⟨"DuskShelves$Crates", "listGoals", "()V"⟩, 6), (⟨"DuskShelves$Crates", "sendOne", "(ILDuskShelves$Places;)V"⟩, 6), (⟨"DuskShelves$Crates", "bestOfAll", "()J"⟩, 6), (⟨"DuskShelves", "sumDrawn", "(III)I"⟩, 14), (⟨"DuskShelves", "gapOf", "(III)I"⟩, 14), (⟨"DuskShelves", "earlyOf", "(I)I"⟩, 14), (⟨"DuskShelves", "doubtOf", "(III)I"⟩, 14), (⟨"DuskShelves$Batches", "spoiledBy", "(II)I"⟩, 8), (⟨"DuskShelves$Batches", "cameBy", "(II)I"⟩, 8)]
theorem lw_r2 : ∀ q ∈ lw_privs_2, lw_okq q := List.forall_mem_cons.mpr ⟨lw_p16, List.forall_mem_cons.mpr ⟨lw_p17, List.forall_mem_cons.mpr ⟨lw_p18, List.forall_mem_cons.mpr ⟨lw_p19, List.forall_mem_cons.mpr ⟨lw_p20, List.forall_mem_cons.mpr ⟨lw_p21, List.forall_mem_cons.mpr ⟨lw_p22, List.forall_mem_cons.mpr ⟨lw_p23, List.forall_mem_cons.mpr ⟨lw_p24, List.forall_mem_cons.mpr ⟨lw_p25, List.forall_mem_cons.mpr ⟨lw_p26, List.forall_mem_cons.mpr ⟨lw_p27, List.forall_mem_cons.mpr ⟨lw_p28, List.forall_mem_cons.mpr ⟨lw_p29, List.forall_mem_cons.mpr ⟨lw_p30, List.forall_mem_cons.mpr ⟨lw_p31, fun _ h => absurd h List.not_mem_nil⟩⟩⟩⟩⟩⟩⟩⟩⟩⟩⟩⟩⟩⟩⟩⟩
theorem lw_p32 : lw_okq (⟨"DuskShelvesModel", "isKind", "(I)Z"⟩, 78) := ⟨⟨by decide +kernel, by decide +kernel⟩, List.mem_of_getElem? (i := 948) (by decide +kernel), List.mem_of_getElem? (i := 1205) (by decide +kernel), List.mem_of_getElem? (i := 1206) (by decide +kernel)⟩
theorem lw_p33 : lw_okq (⟨"DuskShelvesModel", "priceBy", "(II)I"⟩, 78) := ⟨⟨by decide +kernel, by decide +kernel⟩, List.mem_of_getElem? (i := 948) (by decide +kernel), List.mem_of_getElem? (i := 1209) (by decide +kernel), List.mem_of_getElem? (i := 1210) (by decide +kernel)⟩
theorem lw_p34 : lw_okq (⟨"DuskShelvesModel", "areBoth", "(II)Z"⟩, 78) := ⟨⟨by decide +kernel, by decide +kernel⟩, List.mem_of_getElem? (i := 948) (by decide +kernel), List.mem_of_getElem? (i := 1228) (by decide +kernel), List.mem_of_getElem? (i := 1229) (by decide +kernel)⟩
theorem lw_p35 : lw_okq (⟨"DuskShelvesModel", "isShop", "(I)Z"⟩, 78) := ⟨⟨by decide +kernel, by decide +kernel⟩, List.mem_of_getElem? (i := 948) (by decide +kernel), List.mem_of_getElem? (i := 1232) (by decide +kernel), List.mem_of_getElem? (i := 1233) (by decide +kernel)⟩
theorem lw_p36 : lw_okq (⟨"DuskShelvesModel", "today", "()I"⟩, 78) := ⟨⟨by decide +kernel, by decide +kernel⟩, List.mem_of_getElem? (i := 948) (by decide +kernel), List.mem_of_getElem? (i := 1248) (by decide +kernel), List.mem_of_getElem? (i := 1249) (by decide +kernel)⟩
theorem lw_p37 : lw_okq (⟨"DuskShelvesModel", "addBatch", "(IIIIII)V"⟩, 78) := ⟨⟨by decide +kernel, by decide +kernel⟩, List.mem_of_getElem? (i := 948) (by decide +kernel), List.mem_of_getElem? (i := 1252) (by decide +kernel), List.mem_of_getElem? (i := 1253) (by decide +kernel)⟩
theorem lw_p38 : lw_okq (⟨"DuskShelvesModel", "isBatch", "(I)Z"⟩, 78) := ⟨⟨by decide +kernel, by decide +kernel⟩, List.mem_of_getElem? (i := 948) (by decide +kernel), List.mem_of_getElem? (i := 1260) (by decide +kernel), List.mem_of_getElem? (i := 1261) (by decide +kernel)⟩
theorem lw_p39 : lw_okq (⟨"DuskShelvesModel", "onShelf", "(I)I"⟩, 78) := ⟨⟨by decide +kernel, by decide +kernel⟩, List.mem_of_getElem? (i := 948) (by decide +kernel), List.mem_of_getElem? (i := 1265) (by decide +kernel), List.mem_of_getElem? (i := 1266) (by decide +kernel)⟩
theorem lw_p40 : lw_okq (⟨"DuskShelvesModel", "firstOf", "(I)I"⟩, 78) := ⟨⟨by decide +kernel, by decide +kernel⟩, List.mem_of_getElem? (i := 948) (by decide +kernel), List.mem_of_getElem? (i := 1269) (by decide +kernel), List.mem_of_getElem? (i := 1270) (by decide +kernel)⟩
theorem lw_p41 : lw_okq (⟨"DuskShelvesModel", "feedOne", "(I)V"⟩, 78) := ⟨⟨by decide +kernel, by decide +kernel⟩, List.mem_of_getElem? (i := 948) (by decide +kernel), List.mem_of_getElem? (i := 1277) (by decide +kernel), List.mem_of_getElem? (i := 1278) (by decide +kernel)⟩
theorem lw_p42 : lw_okq (⟨"DuskShelvesModel", "clause", "()V"⟩, 78) := ⟨⟨by decide +kernel, by decide +kernel⟩, List.mem_of_getElem? (i := 948) (by decide +kernel), List.mem_of_getElem? (i := 1289) (by decide +kernel), List.mem_of_getElem? (i := 1290) (by decide +kernel)⟩
theorem lw_p43 : lw_okq (⟨"DuskShelvesModel", "whole", "()V"⟩, 78) := ⟨⟨by decide +kernel, by decide +kernel⟩, List.mem_of_getElem? (i := 948) (by decide +kernel), List.mem_of_getElem? (i := 1293) (by decide +kernel), List.mem_of_getElem? (i := 1294) (by decide +kernel)⟩
theorem lw_p44 : lw_okq (⟨"DuskShelvesModel", "all", "()V"⟩, 78) := ⟨⟨by decide +kernel, by decide +kernel⟩, List.mem_of_getElem? (i := 948) (by decide +kernel), List.mem_of_getElem? (i := 1297) (by decide +kernel), List.mem_of_getElem? (i := 1298) (by decide +kernel)⟩
theorem lw_p45 : lw_okq (⟨"DuskShelvesModel", "compared", "()V"⟩, 78) := ⟨⟨by decide +kernel, by decide +kernel⟩, List.mem_of_getElem? (i := 948) (by decide +kernel), List.mem_of_getElem? (i := 1301) (by decide +kernel), List.mem_of_getElem? (i := 1302) (by decide +kernel)⟩
theorem lw_p46 : lw_okq (⟨"DuskShelvesModel", "sum", "()V"⟩, 78) := ⟨⟨by decide +kernel, by decide +kernel⟩, List.mem_of_getElem? (i := 948) (by decide +kernel), List.mem_of_getElem? (i := 1305) (by decide +kernel), List.mem_of_getElem? (i := 1306) (by decide +kernel)⟩
theorem lw_p47 : lw_okq (⟨"DuskShelvesModel", "product", "()V"⟩, 78) := ⟨⟨by decide +kernel, by decide +kernel⟩, List.mem_of_getElem? (i := 948) (by decide +kernel), List.mem_of_getElem? (i := 1309) (by decide +kernel), List.mem_of_getElem? (i := 1310) (by decide +kernel)⟩
def lw_privs_3 : List (MethodName × Nat) := [(⟨"DuskShelvesModel", "isKind", "(I)Z"⟩, 78), (⟨"DuskShelvesModel", "priceBy", "(II)I"⟩, 78), (⟨"DuskShelvesModel", "areBoth", "(II)Z"⟩, 78), (⟨"DuskShelvesModel", "isShop", "(I)Z"⟩, 78), (⟨"DuskShelvesModel", "today", "()I"⟩, 78), (⟨"DuskShelvesModel", "addBatch", "(IIIIII)V"⟩, 78), (⟨"DuskShelvesModel", "isBatch", "(I)Z"⟩, 78), (⟨"DuskShelvesModel", "onShelf", "(I)I"⟩, 78), (⟨"DuskShelvesModel", "firstOf", "(I)I"⟩, 78), (⟨"DuskShelvesModel", "feedOne", "(I)V"⟩, 78), (⟨"DuskShelvesModel", "clause", "()V"⟩, 78), (⟨"DuskShelvesModel", "whole", "()V"⟩, 78), (⟨"DuskShelvesModel", "all", "()V"⟩, 78), (⟨"DuskShelvesModel", "compared", "()V"⟩, 78), (⟨"DuskShelvesModel", "sum", "()V"⟩, 78), (⟨"DuskShelvesModel", "product", "()V"⟩, 78)]
theorem lw_r3 : ∀ q ∈ lw_privs_3, lw_okq q := List.forall_mem_cons.mpr ⟨lw_p32, List.forall_mem_cons.mpr ⟨lw_p33, List.forall_mem_cons.mpr ⟨lw_p34, List.forall_mem_cons.mpr ⟨lw_p35, List.forall_mem_cons.mpr ⟨lw_p36, List.forall_mem_cons.mpr ⟨lw_p37, List.forall_mem_cons.mpr ⟨lw_p38, List.forall_mem_cons.mpr ⟨lw_p39, List.forall_mem_cons.mpr ⟨lw_p40, List.forall_mem_cons.mpr ⟨lw_p41, List.forall_mem_cons.mpr ⟨lw_p42, List.forall_mem_cons.mpr ⟨lw_p43, List.forall_mem_cons.mpr ⟨lw_p44, List.forall_mem_cons.mpr ⟨lw_p45, List.forall_mem_cons.mpr ⟨lw_p46, List.forall_mem_cons.mpr ⟨lw_p47, fun _ h => absurd h List.not_mem_nil⟩⟩⟩⟩⟩⟩⟩⟩⟩⟩⟩⟩⟩⟩⟩⟩
theorem lw_p48 : lw_okq (⟨"DuskShelvesModel", "operand", "()V"⟩, 78) := ⟨⟨by decide +kernel, by decide +kernel⟩, List.mem_of_getElem? (i := 948) (by decide +kernel), List.mem_of_getElem? (i := 1313) (by decide +kernel), List.mem_of_getElem? (i := 1314) (by decide +kernel)⟩
theorem lw_p49 : lw_okq (⟨"DuskShelvesModel", "look", "()I"⟩, 78) := ⟨⟨by decide +kernel, by decide +kernel⟩, List.mem_of_getElem? (i := 948) (by decide +kernel), List.mem_of_getElem? (i := 1317) (by decide +kernel), List.mem_of_getElem? (i := 1318) (by decide +kernel)⟩
theorem lw_p50 : lw_okq (⟨"DuskShelvesModel", "lay", "(II)V"⟩, 78) := ⟨⟨by decide +kernel, by decide +kernel⟩, List.mem_of_getElem? (i := 948) (by decide +kernel), List.mem_of_getElem? (i := 1324) (by decide +kernel), List.mem_of_getElem? (i := 1325) (by decide +kernel)⟩
theorem lw_p51 : lw_okq (⟨"DuskShelvesModel", "wrong", "()V"⟩, 78) := ⟨⟨by decide +kernel, by decide +kernel⟩, List.mem_of_getElem? (i := 948) (by decide +kernel), List.mem_of_getElem? (i := 1328) (by decide +kernel), List.mem_of_getElem? (i := 1329) (by decide +kernel)⟩
theorem lw_p52 : lw_okq (⟨"DuskShelvesModel", "forceOn", "(III)I"⟩, 78) := ⟨⟨by decide +kernel, by decide +kernel⟩, List.mem_of_getElem? (i := 948) (by decide +kernel), List.mem_of_getElem? (i := 1336) (by decide +kernel), List.mem_of_getElem? (i := 1337) (by decide +kernel)⟩
theorem lw_p53 : lw_okq (⟨"DuskShelvesModel", "gives", "(II)I"⟩, 78) := ⟨⟨by decide +kernel, by decide +kernel⟩, List.mem_of_getElem? (i := 948) (by decide +kernel), List.mem_of_getElem? (i := 1344) (by decide +kernel), List.mem_of_getElem? (i := 1345) (by decide +kernel)⟩
theorem lw_p54 : lw_okq (⟨"DuskShelvesModel", "named", "(II)I"⟩, 78) := ⟨⟨by decide +kernel, by decide +kernel⟩, List.mem_of_getElem? (i := 948) (by decide +kernel), List.mem_of_getElem? (i := 1348) (by decide +kernel), List.mem_of_getElem? (i := 1349) (by decide +kernel)⟩
theorem lw_p55 : lw_okq (⟨"DuskShelvesModel", "hourNow", "()I"⟩, 78) := ⟨⟨by decide +kernel, by decide +kernel⟩, List.mem_of_getElem? (i := 948) (by decide +kernel), List.mem_of_getElem? (i := 1352) (by decide +kernel), List.mem_of_getElem? (i := 1353) (by decide +kernel)⟩
theorem lw_p56 : lw_okq (⟨"DuskShelvesModel", "shelfOf", "(III)I"⟩, 78) := ⟨⟨by decide +kernel, by decide +kernel⟩, List.mem_of_getElem? (i := 948) (by decide +kernel), List.mem_of_getElem? (i := 1363) (by decide +kernel), List.mem_of_getElem? (i := 1364) (by decide +kernel)⟩
theorem lw_p57 : lw_okq (⟨"DuskShelvesModel", "may", "(II)Z"⟩, 78) := ⟨⟨by decide +kernel, by decide +kernel⟩, List.mem_of_getElem? (i := 948) (by decide +kernel), List.mem_of_getElem? (i := 1367) (by decide +kernel), List.mem_of_getElem? (i := 1368) (by decide +kernel)⟩
theorem lw_p58 : lw_okq (⟨"DuskShelvesModel", "toss", "(II)V"⟩, 78) := ⟨⟨by decide +kernel, by decide +kernel⟩, List.mem_of_getElem? (i := 948) (by decide +kernel), List.mem_of_getElem? (i := 1376) (by decide +kernel), List.mem_of_getElem? (i := 1377) (by decide +kernel)⟩
theorem lw_p59 : lw_okq (⟨"DuskShelvesModel", "isOpen", "()Z"⟩, 78) := ⟨⟨by decide +kernel, by decide +kernel⟩, List.mem_of_getElem? (i := 948) (by decide +kernel), List.mem_of_getElem? (i := 1384) (by decide +kernel), List.mem_of_getElem? (i := 1385) (by decide +kernel)⟩
theorem lw_p60 : lw_okq (⟨"DuskShelvesModel", "hasRow", "(II)Z"⟩, 78) := ⟨⟨by decide +kernel, by decide +kernel⟩, List.mem_of_getElem? (i := 948) (by decide +kernel), List.mem_of_getElem? (i := 1388) (by decide +kernel), List.mem_of_getElem? (i := 1389) (by decide +kernel)⟩
theorem lw_p61 : lw_okq (⟨"DuskShelvesModel", "eldest", "(III)I"⟩, 78) := ⟨⟨by decide +kernel, by decide +kernel⟩, List.mem_of_getElem? (i := 948) (by decide +kernel), List.mem_of_getElem? (i := 1392) (by decide +kernel), List.mem_of_getElem? (i := 1393) (by decide +kernel)⟩
theorem lw_p62 : lw_okq (⟨"DuskShelvesModel", "foretoldFor", "(IIIIII)I"⟩, 78) := ⟨⟨by decide +kernel, by decide +kernel⟩, List.mem_of_getElem? (i := 948) (by decide +kernel), List.mem_of_getElem? (i := 1400) (by decide +kernel), List.mem_of_getElem? (i := 1401) (by decide +kernel)⟩
theorem lw_p63 : lw_okq (⟨"DuskShelvesModel", "isOrder", "(IIII)Z"⟩, 78) := ⟨⟨by decide +kernel, by decide +kernel⟩, List.mem_of_getElem? (i := 948) (by decide +kernel), List.mem_of_getElem? (i := 1420) (by decide +kernel), List.mem_of_getElem? (i := 1421) (by decide +kernel)⟩
def lw_privs_4 : List (MethodName × Nat) := [(⟨"DuskShelvesModel", "operand", "()V"⟩, 78), (⟨"DuskShelvesModel", "look", "()I"⟩, 78), (⟨"DuskShelvesModel", "lay", "(II)V"⟩, 78), (⟨"DuskShelvesModel", "wrong", "()V"⟩, 78), (⟨"DuskShelvesModel", "forceOn", "(III)I"⟩, 78), (⟨"DuskShelvesModel", "gives", "(II)I"⟩, 78), (⟨"DuskShelvesModel", "named", "(II)I"⟩, 78), (⟨"DuskShelvesModel", "hourNow", "()I"⟩, 78), (⟨"DuskShelvesModel", "shelfOf", "(III)I"⟩, 78), (⟨"DuskShelvesModel", "may", "(II)Z"⟩, 78), (⟨"DuskShelvesModel", "toss", "(II)V"⟩, 78), (⟨"DuskShelvesModel", "isOpen", "()Z"⟩, 78), (⟨"DuskShelvesModel", "hasRow", "(II)Z"⟩, 78), (⟨"DuskShelvesModel", "eldest", "(III)I"⟩, 78), (⟨"DuskShelvesModel", "foretoldFor", "(IIIIII)I"⟩, 78), (⟨"DuskShelvesModel", "isOrder", "(IIII)Z"⟩, 78)]
theorem lw_r4 : ∀ q ∈ lw_privs_4, lw_okq q := List.forall_mem_cons.mpr ⟨lw_p48, List.forall_mem_cons.mpr ⟨lw_p49, List.forall_mem_cons.mpr ⟨lw_p50, List.forall_mem_cons.mpr ⟨lw_p51, List.forall_mem_cons.mpr ⟨lw_p52, List.forall_mem_cons.mpr ⟨lw_p53, List.forall_mem_cons.mpr ⟨lw_p54, List.forall_mem_cons.mpr ⟨lw_p55, List.forall_mem_cons.mpr ⟨lw_p56, List.forall_mem_cons.mpr ⟨lw_p57, List.forall_mem_cons.mpr ⟨lw_p58, List.forall_mem_cons.mpr ⟨lw_p59, List.forall_mem_cons.mpr ⟨lw_p60, List.forall_mem_cons.mpr ⟨lw_p61, List.forall_mem_cons.mpr ⟨lw_p62, List.forall_mem_cons.mpr ⟨lw_p63, fun _ h => absurd h List.not_mem_nil⟩⟩⟩⟩⟩⟩⟩⟩⟩⟩⟩⟩⟩⟩⟩⟩
theorem lw_p64 : lw_okq (⟨"DuskShelvesModel", "findSums", "(IIII)V"⟩, 78) := ⟨⟨by decide +kernel, by decide +kernel⟩, List.mem_of_getElem? (i := 948) (by decide +kernel), List.mem_of_getElem? (i := 1424) (by decide +kernel), List.mem_of_getElem? (i := 1425) (by decide +kernel)⟩
theorem lw_p65 : lw_okq (⟨"DuskShelvesModel", "lossOf", "(II)J"⟩, 78) := ⟨⟨by decide +kernel, by decide +kernel⟩, List.mem_of_getElem? (i := 948) (by decide +kernel), List.mem_of_getElem? (i := 1428) (by decide +kernel), List.mem_of_getElem? (i := 1429) (by decide +kernel)⟩
theorem lw_p66 : lw_okq (⟨"DuskShelvesModel", "mayCome", "(I)Z"⟩, 78) := ⟨⟨by decide +kernel, by decide +kernel⟩, List.mem_of_getElem? (i := 948) (by decide +kernel), List.mem_of_getElem? (i := 1445) (by decide +kernel), List.mem_of_getElem? (i := 1446) (by decide +kernel)⟩
theorem lw_p67 : lw_okq (⟨"DuskShelvesModel", "movedTo", "(I)I"⟩, 78) := ⟨⟨by decide +kernel, by decide +kernel⟩, List.mem_of_getElem? (i := 948) (by decide +kernel), List.mem_of_getElem? (i := 1449) (by decide +kernel), List.mem_of_getElem? (i := 1450) (by decide +kernel)⟩
theorem lw_p68 : lw_okq (⟨"DuskShelvesModel", "milesTo", "(I)I"⟩, 78) := ⟨⟨by decide +kernel, by decide +kernel⟩, List.mem_of_getElem? (i := 948) (by decide +kernel), List.mem_of_getElem? (i := 1453) (by decide +kernel), List.mem_of_getElem? (i := 1454) (by decide +kernel)⟩
theorem lw_p69 : lw_okq (⟨"DuskShelvesModel", "miles", "(II)I"⟩, 78) := ⟨⟨by decide +kernel, by decide +kernel⟩, List.mem_of_getElem? (i := 948) (by decide +kernel), List.mem_of_getElem? (i := 1457) (by decide +kernel), List.mem_of_getElem? (i := 1458) (by decide +kernel)⟩
theorem lw_p70 : lw_okq (⟨"DuskShelvesModel", "nextOf", "(II)I"⟩, 78) := ⟨⟨by decide +kernel, by decide +kernel⟩, List.mem_of_getElem? (i := 948) (by decide +kernel), List.mem_of_getElem? (i := 1472) (by decide +kernel), List.mem_of_getElem? (i := 1473) (by decide +kernel)⟩
theorem lw_p71 : lw_okq (⟨"DuskShelvesModel", "earlyOf", "(IIII)I"⟩, 78) := ⟨⟨by decide +kernel, by decide +kernel⟩, List.mem_of_getElem? (i := 948) (by decide +kernel), List.mem_of_getElem? (i := 1487) (by decide +kernel), List.mem_of_getElem? (i := 1488) (by decide +kernel)⟩
theorem lw_p72 : lw_okq (⟨"DuskShelvesModel", "isLot", "(II)Z"⟩, 78) := ⟨⟨by decide +kernel, by decide +kernel⟩, List.mem_of_getElem? (i := 948) (by decide +kernel), List.mem_of_getElem? (i := 1518) (by decide +kernel), List.mem_of_getElem? (i := 1519) (by decide +kernel)⟩
theorem lw_p73 : lw_okq (⟨"DuskShelvesModel", "isBadOn", "(III)Z"⟩, 78) := ⟨⟨by decide +kernel, by decide +kernel⟩, List.mem_of_getElem? (i := 948) (by decide +kernel), List.mem_of_getElem? (i := 1522) (by decide +kernel), List.mem_of_getElem? (i := 1523) (by decide +kernel)⟩
def lw_privs_5 : List (MethodName × Nat) := [(⟨"DuskShelvesModel", "findSums", "(IIII)V"⟩, 78), (⟨"DuskShelvesModel", "lossOf", "(II)J"⟩, 78), (⟨"DuskShelvesModel", "mayCome", "(I)Z"⟩, 78), (⟨"DuskShelvesModel", "movedTo", "(I)I"⟩, 78), (⟨"DuskShelvesModel", "milesTo", "(I)I"⟩, 78), (⟨"DuskShelvesModel", "miles", "(II)I"⟩, 78), (⟨"DuskShelvesModel", "nextOf", "(II)I"⟩, 78), (⟨"DuskShelvesModel", "earlyOf", "(IIII)I"⟩, 78), (⟨"DuskShelvesModel", "isLot", "(II)Z"⟩, 78), (⟨"DuskShelvesModel", "isBadOn", "(III)Z"⟩, 78)]
theorem lw_r5 : ∀ q ∈ lw_privs_5, lw_okq q := List.forall_mem_cons.mpr ⟨lw_p64, List.forall_mem_cons.mpr ⟨lw_p65, List.forall_mem_cons.mpr ⟨lw_p66, List.forall_mem_cons.mpr ⟨lw_p67, List.forall_mem_cons.mpr ⟨lw_p68, List.forall_mem_cons.mpr ⟨lw_p69, List.forall_mem_cons.mpr ⟨lw_p70, List.forall_mem_cons.mpr ⟨lw_p71, List.forall_mem_cons.mpr ⟨lw_p72, List.forall_mem_cons.mpr ⟨lw_p73, fun _ h => absurd h List.not_mem_nil⟩⟩⟩⟩⟩⟩⟩⟩⟩⟩
def lw_privs : List (MethodName × Nat) := lw_privs_1 ++ (lw_privs_2 ++ (lw_privs_3 ++ (lw_privs_4 ++ (lw_privs_5))))
def lw_tbl : List Cond := k2_sels lw_privs ++ tables_1
theorem lw_privs_ok : ∀ q ∈ lw_privs, lw_okq q := by
  show ∀ q ∈ lw_privs_1 ++ (lw_privs_2 ++ (lw_privs_3 ++ (lw_privs_4 ++ (lw_privs_5)))), lw_okq q
  exact List.forall_mem_append.mpr ⟨lw_r1, List.forall_mem_append.mpr ⟨lw_r2, List.forall_mem_append.mpr ⟨lw_r3, List.forall_mem_append.mpr ⟨lw_r4, lw_r5⟩⟩⟩⟩
end
section
/-! ===== BEGIN words of one list among another's, by their places ===== -/
theorem goodIn_r {big : List Cond} (ws : List Cond) (ps : List Nat) (hp : ws = ps.filterMap (fun i => big[i]?)) (h : ws.all goodWord = true) : GoodIn big ws := by
  intro w hw
  have h1 := List.all_eq_true.mp h w hw
  rw [hp] at hw
  obtain ⟨i, -, hi⟩ := List.mem_filterMap.mp hw
  have hm : w ∈ big := by first | exact List.mem_of_getElem? hi | exact List.getElem?_mem hi
  exact ⟨hm, good_of_word h1⟩
theorem goodIn_app {big a b : List Cond} (ha : GoodIn big a) (hb : GoodIn big b) : GoodIn big (a ++ b) := fun w h => (List.mem_append.mp h).elim (ha w) (hb w)
theorem goodIn_ca {big a b : List Cond} {c : Cond} (ha : GoodIn big (c :: a)) (hb : GoodIn big b) : GoodIn big (c :: (a ++ b)) := fun w h => (List.mem_cons.mp h).elim (fun e => ha w (List.mem_cons.mpr (Or.inl e))) (fun h => (List.mem_append.mp h).elim (fun h => ha w (List.mem_cons.mpr (Or.inr h))) (hb w))
theorem goodIn_sub {big ws : List Cond} (hm : ∀ w ∈ ws, w ∈ big) (h : ws.all goodWord = true) : GoodIn big ws := fun w hw => ⟨hm w hw, good_of_word (List.all_eq_true.mp h w hw)⟩
/-! ===== END ===== -/
def RX0 : String := "DuskShelves$Batches"
def TX0 : u_T := fun k => match k with
  | 0 => ("DuskShelves$Batches", "of", "[[I", true)
  | 1 => ("DuskShelves$Batches", "n", "I", false)
  | 2 => ("DuskShelves$Batches", "line", "[I", true)
  | 3 => ("DuskShelves$Batches", "lined", "I", false)
  | 4 => ("DuskShelves$Batches", "spoilWhat", "[I", true)
  | 5 => ("DuskShelves$Batches", "spoilPieces", "[I", true)
  | 6 => ("DuskShelves$Batches", "spoilDay", "[I", true)
  | _ => ("DuskShelves$Batches", "spoils", "I", false)
def tyX0 : Nat → FieldType := fun k => match k with
  | 0 => .array (.array .int)
  | 1 => .int
  | 2 => .array .int
  | 3 => .int
  | 4 => .array .int
  | 5 => .array .int
  | 6 => .array .int
  | _ => .int
theorem nmX0 : ∀ a, a < 8 → ∀ b, b < 8 → a ≠ b → (TX0 a).2.1 ≠ (TX0 b).2.1 := by decide +kernel
theorem tyX0_ok : ∀ k, k < 8 → parseFieldDescriptor (TX0 k).2.2.1 = some (tyX0 k) := by decide +kernel
abbrev cX0_init : ByteArray := prog_2_method_1_code
def yX0_init : MethodName := ⟨RX0, "<init>", "()V"⟩
abbrev cX0_has : ByteArray := prog_2_method_2_code
def yX0_has : MethodName := ⟨RX0, "has", "(I)Z"⟩
abbrev cX0_room : ByteArray := prog_2_method_3_code
def yX0_room : MethodName := ⟨RX0, "room", "()I"⟩
abbrev cX0_add : ByteArray := prog_2_method_4_code
def yX0_add : MethodName := ⟨RX0, "add", "(IIII)I"⟩
abbrev cX0_take : ByteArray := prog_2_method_5_code
def yX0_take : MethodName := ⟨RX0, "take", "(III)V"⟩
abbrev cX0_onShelf : ByteArray := prog_2_method_6_code
def yX0_onShelf : MethodName := ⟨RX0, "onShelf", "(II)I"⟩
abbrev cX0_total : ByteArray := prog_2_method_7_code
def yX0_total : MethodName := ⟨RX0, "total", "(I)I"⟩
abbrev cX0_addToLine : ByteArray := prog_2_method_8_code
def yX0_addToLine : MethodName := ⟨RX0, "addToLine", "(I)V"⟩
abbrev cX0_takeFromLine : ByteArray := prog_2_method_9_code
def yX0_takeFromLine : MethodName := ⟨RX0, "takeFromLine", "(II)I"⟩
abbrev cX0_touchedBy : ByteArray := prog_2_method_10_code
def yX0_touchedBy : MethodName := ⟨RX0, "touchedBy", "(I)I"⟩
abbrev cX0_moveFromLine : ByteArray := prog_2_method_11_code
def yX0_moveFromLine : MethodName := ⟨RX0, "moveFromLine", "(II)I"⟩
abbrev cX0_noteSpoiled : ByteArray := prog_2_method_12_code
def yX0_noteSpoiled : MethodName := ⟨RX0, "noteSpoiled", "(III)V"⟩
abbrev cX0_cameBy : ByteArray := prog_2_method_13_code
def yX0_cameBy : MethodName := ⟨RX0, "cameBy", "(II)I"⟩
abbrev cX0_spoiledBy : ByteArray := prog_2_method_14_code
def yX0_spoiledBy : MethodName := ⟨RX0, "spoiledBy", "(II)I"⟩
abbrev cX0_isBadLot : ByteArray := prog_2_method_15_code
def yX0_isBadLot : MethodName := ⟨RX0, "isBadLot", "(II)Z"⟩
abbrev cX0_badSince : ByteArray := prog_2_method_16_code
def yX0_badSince : MethodName := ⟨RX0, "badSince", "(I)I"⟩
def RX1 : String := "DuskShelves$Crates"
def TX1 : u_T := fun k => match k with
  | 0 => ("DuskShelves$Crates", "spare", "[I", true)
  | 1 => ("DuskShelves$Crates", "need", "[I", true)
  | 2 => ("DuskShelves$Crates", "goal", "[I", true)
  | 3 => ("DuskShelves$Crates", "from", "[I", true)
  | 4 => ("DuskShelves$Crates", "best", "[J", true)
  | _ => ("DuskShelves$Crates", "n", "I", false)
def tyX1 : Nat → FieldType := fun k => match k with
  | 0 => .array .int
  | 1 => .array .int
  | 2 => .array .int
  | 3 => .array .int
  | 4 => .array .long
  | _ => .int
theorem nmX1 : ∀ a, a < 6 → ∀ b, b < 6 → a ≠ b → (TX1 a).2.1 ≠ (TX1 b).2.1 := by decide +kernel
theorem tyX1_ok : ∀ k, k < 6 → parseFieldDescriptor (TX1 k).2.2.1 = some (tyX1 k) := by decide +kernel
abbrev cX1_init : ByteArray := prog_3_method_1_code
def yX1_init : MethodName := ⟨RX1, "<init>", "()V"⟩
abbrev cX1_allNeed : ByteArray := prog_3_method_2_code
def yX1_allNeed : MethodName := ⟨RX1, "allNeed", "()I"⟩
abbrev cX1_search : ByteArray := prog_3_method_3_code
def yX1_search : MethodName := ⟨RX1, "search", "(LDuskShelves$Places;)I"⟩
abbrev cX1_listGoals : ByteArray := prog_3_method_4_code
def yX1_listGoals : MethodName := ⟨RX1, "listGoals", "()V"⟩
abbrev cX1_shiftOf : ByteArray := prog_3_method_5_code
def yX1_shiftOf : MethodName := ⟨RX1, "shiftOf", "(I)I"⟩
abbrev cX1_sendOne : ByteArray := prog_3_method_6_code
def yX1_sendOne : MethodName := ⟨RX1, "sendOne", "(ILDuskShelves$Places;)V"⟩
abbrev cX1_bestOfAll : ByteArray := prog_3_method_7_code
def yX1_bestOfAll : MethodName := ⟨RX1, "bestOfAll", "()J"⟩
def RX2 : String := "DuskShelves$Cuts"
def TX2 : u_T := fun k => match k with
  | 0 => ("DuskShelves$Cuts", "asked", "[[I", true)
  | 1 => ("DuskShelves$Cuts", "price", "[I", true)
  | 2 => ("DuskShelves$Cuts", "trial", "[I", true)
  | 3 => ("DuskShelves$Cuts", "best", "[I", true)
  | 4 => ("DuskShelves$Cuts", "found", "Z", false)
  | 5 => ("DuskShelves$Cuts", "from", "I", false)
  | _ => ("DuskShelves$Cuts", "rest", "I", false)
def tyX2 : Nat → FieldType := fun k => match k with
  | 0 => .array (.array .int)
  | 1 => .array .int
  | 2 => .array .int
  | 3 => .array .int
  | 4 => .boolean
  | 5 => .int
  | _ => .int
theorem nmX2 : ∀ a, a < 7 → ∀ b, b < 7 → a ≠ b → (TX2 a).2.1 ≠ (TX2 b).2.1 := by decide +kernel
theorem tyX2_ok : ∀ k, k < 7 → parseFieldDescriptor (TX2 k).2.2.1 = some (tyX2 k) := by decide +kernel
abbrev cX2_init : ByteArray := prog_4_method_1_code
def yX2_init : MethodName := ⟨RX2, "<init>", "()V"⟩
abbrev cX2_search : ByteArray := prog_4_method_2_code
def yX2_search : MethodName := ⟨RX2, "search", "(IIII)I"⟩
abbrev cX2_coinsBy : ByteArray := prog_4_method_3_code
def yX2_coinsBy : MethodName := ⟨RX2, "coinsBy", "(II)J"⟩
abbrev cX2_unsoldBy : ByteArray := prog_4_method_4_code
def yX2_unsoldBy : MethodName := ⟨RX2, "unsoldBy", "(II)I"⟩
abbrev cX2_stepOn : ByteArray := prog_4_method_5_code
def yX2_stepOn : MethodName := ⟨RX2, "stepOn", "(I)Z"⟩
abbrev cX2_raiseFrom : ByteArray := prog_4_method_6_code
def yX2_raiseFrom : MethodName := ⟨RX2, "raiseFrom", "(II)V"⟩
def RX3 : String := "DuskShelves$Days"
def TX3 : u_T := fun k => match k with
  | 0 => ("DuskShelves$Days", "weather", "[I", true)
  | 1 => ("DuskShelves$Days", "grams", "[I", true)
  | _ => ("DuskShelves$Days", "hour", "I", false)
def tyX3 : Nat → FieldType := fun k => match k with
  | 0 => .array .int
  | 1 => .array .int
  | _ => .int
theorem nmX3 : ∀ a, a < 3 → ∀ b, b < 3 → a ≠ b → (TX3 a).2.1 ≠ (TX3 b).2.1 := by decide +kernel
theorem tyX3_ok : ∀ k, k < 3 → parseFieldDescriptor (TX3 k).2.2.1 = some (tyX3 k) := by decide +kernel
abbrev cX3_init : ByteArray := prog_5_method_1_code
def yX3_init : MethodName := ⟨RX3, "<init>", "()V"⟩
abbrev cX3_today : ByteArray := prog_5_method_2_code
def yX3_today : MethodName := ⟨RX3, "today", "()I"⟩
abbrev cX3_hourOfDay : ByteArray := prog_5_method_3_code
def yX3_hourOfDay : MethodName := ⟨RX3, "hourOfDay", "()I"⟩
abbrev cX3_isOpen : ByteArray := prog_5_method_4_code
def yX3_isOpen : MethodName := ⟨RX3, "isOpen", "()Z"⟩
abbrev cX3_weatherNow : ByteArray := prog_5_method_5_code
def yX3_weatherNow : MethodName := ⟨RX3, "weatherNow", "()I"⟩
def RX4 : String := "DuskShelves$Facts"
def TX4 : u_T := fun k => match k with
  | 0 => ("DuskShelves$Facts", "age", "I", false)
  | 1 => ("DuskShelves$Facts", "kind", "I", false)
  | 2 => ("DuskShelves$Facts", "cold", "I", false)
  | 3 => ("DuskShelves$Facts", "weather", "I", false)
  | 4 => ("DuskShelves$Facts", "hour", "I", false)
  | 5 => ("DuskShelves$Facts", "step", "I", false)
  | 6 => ("DuskShelves$Facts", "warm", "I", false)
  | _ => ("DuskShelves$Facts", "shop", "I", false)
def tyX4 : Nat → FieldType := fun k => match k with
  | 0 => .int
  | 1 => .int
  | 2 => .int
  | 3 => .int
  | 4 => .int
  | 5 => .int
  | 6 => .int
  | _ => .int
theorem nmX4 : ∀ a, a < 8 → ∀ b, b < 8 → a ≠ b → (TX4 a).2.1 ≠ (TX4 b).2.1 := by decide +kernel
theorem tyX4_ok : ∀ k, k < 8 → parseFieldDescriptor (TX4 k).2.2.1 = some (tyX4 k) := by decide +kernel
abbrev cX4_init : ByteArray := prog_6_method_1_code
def yX4_init : MethodName := ⟨RX4, "<init>", "()V"⟩
abbrev cX4_named : ByteArray := prog_6_method_2_code
def yX4_named : MethodName := ⟨RX4, "named", "(I)I"⟩
abbrev cX4_isName : ByteArray := prog_6_method_3_code
def yX4_isName : MethodName := ⟨RX4, "isName", "(I)Z"⟩
def RX5 : String := "DuskShelves$Kinds"
def TX5 : u_T := fun k => match k with
  | 0 => ("DuskShelves$Kinds", "price", "[I", true)
  | 1 => ("DuskShelves$Kinds", "cost", "[I", true)
  | 2 => ("DuskShelves$Kinds", "grams", "[I", true)
  | 3 => ("DuskShelves$Kinds", "cold", "[I", true)
  | 4 => ("DuskShelves$Kinds", "throwCost", "[I", true)
  | _ => ("DuskShelves$Kinds", "n", "I", false)
def tyX5 : Nat → FieldType := fun k => match k with
  | 0 => .array .int
  | 1 => .array .int
  | 2 => .array .int
  | 3 => .array .int
  | 4 => .array .int
  | _ => .int
theorem nmX5 : ∀ a, a < 6 → ∀ b, b < 6 → a ≠ b → (TX5 a).2.1 ≠ (TX5 b).2.1 := by decide +kernel
theorem tyX5_ok : ∀ k, k < 6 → parseFieldDescriptor (TX5 k).2.2.1 = some (tyX5 k) := by decide +kernel
abbrev cX5_init : ByteArray := prog_7_method_1_code
def yX5_init : MethodName := ⟨RX5, "<init>", "()V"⟩
abbrev cX5_has : ByteArray := prog_7_method_2_code
def yX5_has : MethodName := ⟨RX5, "has", "(I)Z"⟩
abbrev cX5_add : ByteArray := prog_7_method_3_code
def yX5_add : MethodName := ⟨RX5, "add", "(IIII)I"⟩
abbrev cX5_coinsAt : ByteArray := prog_7_method_4_code
def yX5_coinsAt : MethodName := ⟨RX5, "coinsAt", "(II)I"⟩
abbrev cX5_lackCost : ByteArray := prog_7_method_5_code
def yX5_lackCost : MethodName := ⟨RX5, "lackCost", "(I)I"⟩
abbrev cX5_wasteCost : ByteArray := prog_7_method_6_code
def yX5_wasteCost : MethodName := ⟨RX5, "wasteCost", "(I)I"⟩
def RX6 : String := "DuskShelves$Laws"
def TX6 : u_T := fun k => match k with
  | 0 => ("DuskShelves$Laws", "code", "[[I", true)
  | 1 => ("DuskShelves$Laws", "words", "[I", true)
  | 2 => ("DuskShelves$Laws", "use", "[I", true)
  | 3 => ("DuskShelves$Laws", "from", "[I", true)
  | 4 => ("DuskShelves$Laws", "made", "[I", true)
  | 5 => ("DuskShelves$Laws", "n", "I", false)
  | 6 => ("DuskShelves$Laws", "stack", "[I", true)
  | _ => ("DuskShelves$Laws", "top", "I", false)
def tyX6 : Nat → FieldType := fun k => match k with
  | 0 => .array (.array .int)
  | 1 => .array .int
  | 2 => .array .int
  | 3 => .array .int
  | 4 => .array .int
  | 5 => .int
  | 6 => .array .int
  | _ => .int
theorem nmX6 : ∀ a, a < 8 → ∀ b, b < 8 → a ≠ b → (TX6 a).2.1 ≠ (TX6 b).2.1 := by decide +kernel
theorem tyX6_ok : ∀ k, k < 8 → parseFieldDescriptor (TX6 k).2.2.1 = some (tyX6 k) := by decide +kernel
abbrev cX6_init : ByteArray := prog_8_method_1_code
def yX6_init : MethodName := ⟨RX6, "<init>", "()V"⟩
abbrev cX6_add : ByteArray := prog_8_method_2_code
def yX6_add : MethodName := ⟨RX6, "add", "(IIII)I"⟩
abbrev cX6_latest : ByteArray := prog_8_method_3_code
def yX6_latest : MethodName := ⟨RX6, "latest", "(III)I"⟩
abbrev cX6_valueOf : ByteArray := prog_8_method_4_code
def yX6_valueOf : MethodName := ⟨RX6, "valueOf", "(ILDuskShelves$Facts;)I"⟩
abbrev cX6_work : ByteArray := prog_8_method_5_code
def yX6_work : MethodName := ⟨RX6, "work", "(ILDuskShelves$Facts;)V"⟩
abbrev cX6_push : ByteArray := prog_8_method_6_code
def yX6_push : MethodName := ⟨RX6, "push", "(I)V"⟩
abbrev cX6_pop : ByteArray := prog_8_method_7_code
def yX6_pop : MethodName := ⟨RX6, "pop", "()I"⟩
abbrev cX6_join : ByteArray := prog_8_method_8_code
def yX6_join : MethodName := ⟨RX6, "join", "(III)I"⟩
def RX7 : String := "DuskShelves$Places"
def TX7 : u_T := fun k => match k with
  | 0 => ("DuskShelves$Places", "at", "[I", true)
  | _ => ("DuskShelves$Places", "n", "I", false)
def tyX7 : Nat → FieldType := fun k => match k with
  | 0 => .array .int
  | _ => .int
theorem nmX7 : ∀ a, a < 2 → ∀ b, b < 2 → a ≠ b → (TX7 a).2.1 ≠ (TX7 b).2.1 := by decide +kernel
theorem tyX7_ok : ∀ k, k < 2 → parseFieldDescriptor (TX7 k).2.2.1 = some (tyX7 k) := by decide +kernel
abbrev cX7_init : ByteArray := prog_9_method_1_code
def yX7_init : MethodName := ⟨RX7, "<init>", "(I)V"⟩
abbrev cX7_has : ByteArray := prog_9_method_2_code
def yX7_has : MethodName := ⟨RX7, "has", "(I)Z"⟩
abbrev cX7_add : ByteArray := prog_9_method_3_code
def yX7_add : MethodName := ⟨RX7, "add", "(I)I"⟩
abbrev cX7_milesTo : ByteArray := prog_9_method_4_code
def yX7_milesTo : MethodName := ⟨RX7, "milesTo", "(ILDuskShelves$Places;I)I"⟩
def RX8 : String := "DuskShelves$Rows"
def TX8 : u_T := fun k => match k with
  | 0 => ("DuskShelves$Rows", "shop", "[I", true)
  | 1 => ("DuskShelves$Rows", "kind", "[I", true)
  | 2 => ("DuskShelves$Rows", "hour", "[I", true)
  | 3 => ("DuskShelves$Rows", "step", "[I", true)
  | 4 => ("DuskShelves$Rows", "weather", "[I", true)
  | 5 => ("DuskShelves$Rows", "asked", "[I", true)
  | 6 => ("DuskShelves$Rows", "bought", "[I", true)
  | 7 => ("DuskShelves$Rows", "n", "I", false)
  | 8 => ("DuskShelves$Rows", "daySums", "[I", true)
  | 9 => ("DuskShelves$Rows", "sums", "I", false)
  | _ => ("DuskShelves$Rows", "daysOfSum", "[I", true)
def tyX8 : Nat → FieldType := fun k => match k with
  | 0 => .array .int
  | 1 => .array .int
  | 2 => .array .int
  | 3 => .array .int
  | 4 => .array .int
  | 5 => .array .int
  | 6 => .array .int
  | 7 => .int
  | 8 => .array .int
  | 9 => .int
  | _ => .array .int
theorem nmX8 : ∀ a, a < 11 → ∀ b, b < 11 → a ≠ b → (TX8 a).2.1 ≠ (TX8 b).2.1 := by decide +kernel
theorem tyX8_ok : ∀ k, k < 11 → parseFieldDescriptor (TX8 k).2.2.1 = some (tyX8 k) := by decide +kernel
abbrev cX8_init : ByteArray := prog_10_method_1_code
def yX8_init : MethodName := ⟨RX8, "<init>", "()V"⟩
abbrev cX8_add : ByteArray := prog_10_method_2_code
def yX8_add : MethodName := ⟨RX8, "add", "(III)I"⟩
abbrev cX8_has : ByteArray := prog_10_method_3_code
def yX8_has : MethodName := ⟨RX8, "has", "(III)Z"⟩
abbrev cX8_lackInAll : ByteArray := prog_10_method_4_code
def yX8_lackInAll : MethodName := ⟨RX8, "lackInAll", "()I"⟩
abbrev cX8_foretell : ByteArray := prog_10_method_5_code
def yX8_foretell : MethodName := ⟨RX8, "foretell", "(IIIIII)I"⟩
abbrev cX8_mean : ByteArray := prog_10_method_6_code
def yX8_mean : MethodName := ⟨RX8, "mean", "(II)I"⟩
abbrev cX8_askedEarly : ByteArray := prog_10_method_7_code
def yX8_askedEarly : MethodName := ⟨RX8, "askedEarly", "(IIII)I"⟩
abbrev cX8_sumDays : ByteArray := prog_10_method_8_code
def yX8_sumDays : MethodName := ⟨RX8, "sumDays", "(IIIII)V"⟩
abbrev cX8_lossOf : ByteArray := prog_10_method_9_code
def yX8_lossOf : MethodName := ⟨RX8, "lossOf", "(III)J"⟩
abbrev cX8_leastLoss : ByteArray := prog_10_method_10_code
def yX8_leastLoss : MethodName := ⟨RX8, "leastLoss", "(II)I"⟩
def RX9 : String := "DuskShelves$Shops"
def TX9 : u_T := fun k => match k with
  | 0 => ("DuskShelves$Shops", "places", "LDuskShelves$Places;", true)
  | 1 => ("DuskShelves$Shops", "till", "[I", true)
  | 2 => ("DuskShelves$Shops", "drawn", "[I", true)
  | 3 => ("DuskShelves$Shops", "step", "[[I", true)
  | _ => ("DuskShelves$Shops", "warm", "[[I", true)
def tyX9 : Nat → FieldType := fun k => match k with
  | 0 => .object "DuskShelves$Places"
  | 1 => .array .int
  | 2 => .array .int
  | 3 => .array (.array .int)
  | _ => .array (.array .int)
theorem nmX9 : ∀ a, a < 5 → ∀ b, b < 5 → a ≠ b → (TX9 a).2.1 ≠ (TX9 b).2.1 := by decide +kernel
theorem tyX9_ok : ∀ k, k < 5 → parseFieldDescriptor (TX9 k).2.2.1 = some (tyX9 k) := by decide +kernel
abbrev cX9_init : ByteArray := prog_11_method_1_code
def yX9_init : MethodName := ⟨RX9, "<init>", "()V"⟩
abbrev cX9_clearDay : ByteArray := prog_11_method_2_code
def yX9_clearDay : MethodName := ⟨RX9, "clearDay", "()V"⟩
abbrev cX9_howManyDrawn : ByteArray := prog_11_method_3_code
def yX9_howManyDrawn : MethodName := ⟨RX9, "howManyDrawn", "(I)I"⟩
def RX10 : String := "DuskShelves$Tape"
def TX10 : u_T := fun k => match k with
  | 0 => ("DuskShelves$Tape", "bytes", "[I", true)
  | 1 => ("DuskShelves$Tape", "length", "I", false)
  | 2 => ("DuskShelves$Tape", "at", "I", false)
  | 3 => ("DuskShelves$Tape", "code", "[I", false)
  | _ => ("DuskShelves$Tape", "words", "I", false)
def tyX10 : Nat → FieldType := fun k => match k with
  | 0 => .array .int
  | 1 => .int
  | 2 => .int
  | 3 => .array .int
  | _ => .int
theorem nmX10 : ∀ a, a < 5 → ∀ b, b < 5 → a ≠ b → (TX10 a).2.1 ≠ (TX10 b).2.1 := by decide +kernel
theorem tyX10_ok : ∀ k, k < 5 → parseFieldDescriptor (TX10 k).2.2.1 = some (tyX10 k) := by decide +kernel
abbrev cX10_init : ByteArray := prog_12_method_1_code
def yX10_init : MethodName := ⟨RX10, "<init>", "()V"⟩
abbrev cX10_take : ByteArray := prog_12_method_2_code
def yX10_take : MethodName := ⟨RX10, "take", "(I)V"⟩
abbrev cX10_read : ByteArray := prog_12_method_3_code
def yX10_read : MethodName := ⟨RX10, "read", "([I)I"⟩
abbrev cX10_next : ByteArray := prog_12_method_4_code
def yX10_next : MethodName := ⟨RX10, "next", "()I"⟩
abbrev cX10_goesOn : ByteArray := prog_12_method_5_code
def yX10_goesOn : MethodName := ⟨RX10, "goesOn", "(I)Z"⟩
abbrev cX10_write : ByteArray := prog_12_method_6_code
def yX10_write : MethodName := ⟨RX10, "write", "(I)V"⟩
abbrev cX10_readClause : ByteArray := prog_12_method_7_code
def yX10_readClause : MethodName := ⟨RX10, "readClause", "()Z"⟩
abbrev cX10_tightness : ByteArray := prog_12_method_8_code
def yX10_tightness : MethodName := ⟨RX10, "tightness", "(I)I"⟩
abbrev cX10_readJoined : ByteArray := prog_12_method_9_code
def yX10_readJoined : MethodName := ⟨RX10, "readJoined", "(II)Z"⟩
abbrev cX10_readOperand : ByteArray := prog_12_method_10_code
def yX10_readOperand : MethodName := ⟨RX10, "readOperand", "(I)Z"⟩
abbrev cX10_readNumber : ByteArray := prog_12_method_11_code
def yX10_readNumber : MethodName := ⟨RX10, "readNumber", "()V"⟩
def RX11 : String := "DuskShelves"
def TX11 : u_T := fun k => match k with
  | 0 => ("DuskShelves", "days", "LDuskShelves$Days;", true)
  | 1 => ("DuskShelves", "shops", "LDuskShelves$Shops;", true)
  | 2 => ("DuskShelves", "kinds", "LDuskShelves$Kinds;", true)
  | 3 => ("DuskShelves", "batches", "LDuskShelves$Batches;", true)
  | 4 => ("DuskShelves", "tape", "LDuskShelves$Tape;", true)
  | 5 => ("DuskShelves", "laws", "LDuskShelves$Laws;", true)
  | 6 => ("DuskShelves", "facts", "LDuskShelves$Facts;", true)
  | 7 => ("DuskShelves", "rows", "LDuskShelves$Rows;", true)
  | 8 => ("DuskShelves", "cuts", "LDuskShelves$Cuts;", true)
  | 9 => ("DuskShelves", "boxes", "LDuskShelves$Crates;", true)
  | 10 => ("DuskShelves", "kitchens", "LDuskShelves$Places;", true)
  | 11 => ("DuskShelves", "takesUntil", "[I", true)
  | 12 => ("DuskShelves", "earlySums", "[I", true)
  | _ => ("DuskShelves", "ordersCost", "I", false)
def tyX11 : Nat → FieldType := fun k => match k with
  | 0 => .object "DuskShelves$Days"
  | 1 => .object "DuskShelves$Shops"
  | 2 => .object "DuskShelves$Kinds"
  | 3 => .object "DuskShelves$Batches"
  | 4 => .object "DuskShelves$Tape"
  | 5 => .object "DuskShelves$Laws"
  | 6 => .object "DuskShelves$Facts"
  | 7 => .object "DuskShelves$Rows"
  | 8 => .object "DuskShelves$Cuts"
  | 9 => .object "DuskShelves$Crates"
  | 10 => .object "DuskShelves$Places"
  | 11 => .array .int
  | 12 => .array .int
  | _ => .int
theorem nmX11 : ∀ a, a < 14 → ∀ b, b < 14 → a ≠ b → (TX11 a).2.1 ≠ (TX11 b).2.1 := by decide +kernel
theorem tyX11_ok : ∀ k, k < 14 → parseFieldDescriptor (TX11 k).2.2.1 = some (tyX11 k) := by decide +kernel
abbrev cX11_init : ByteArray := prog_1_method_1_code
def yX11_init : MethodName := ⟨RX11, "<init>", "()V"⟩
abbrev cX11_shop : ByteArray := prog_1_method_2_code
def yX11_shop : MethodName := ⟨RX11, "shop", "(I)I"⟩
abbrev cX11_kind : ByteArray := prog_1_method_3_code
def yX11_kind : MethodName := ⟨RX11, "kind", "(IIII)I"⟩
abbrev cX11_priceAt : ByteArray := prog_1_method_4_code
def yX11_priceAt : MethodName := ⟨RX11, "priceAt", "(II)I"⟩
abbrev cX11_throwing : ByteArray := prog_1_method_5_code
def yX11_throwing : MethodName := ⟨RX11, "throwing", "(II)I"⟩
abbrev cX11_weather : ByteArray := prog_1_method_6_code
def yX11_weather : MethodName := ⟨RX11, "weather", "(II)I"⟩
abbrev cX11_hours : ByteArray := prog_1_method_7_code
def yX11_hours : MethodName := ⟨RX11, "hours", "(I)I"⟩
abbrev cX11_cut : ByteArray := prog_1_method_8_code
def yX11_cut : MethodName := ⟨RX11, "cut", "(III)I"⟩
abbrev cX11_step : ByteArray := prog_1_method_9_code
def yX11_step : MethodName := ⟨RX11, "step", "(II)I"⟩
abbrev cX11_warm : ByteArray := prog_1_method_10_code
def yX11_warm : MethodName := ⟨RX11, "warm", "(III)I"⟩
abbrev cX11_batch : ByteArray := prog_1_method_11_code
def yX11_batch : MethodName := ⟨RX11, "batch", "(IIII)I"⟩
abbrev cX11_ofBatch : ByteArray := prog_1_method_12_code
def yX11_ofBatch : MethodName := ⟨RX11, "ofBatch", "(II)I"⟩
abbrev cX11_shelf : ByteArray := prog_1_method_13_code
def yX11_shelf : MethodName := ⟨RX11, "shelf", "(III)I"⟩
abbrev cX11_feed : ByteArray := prog_1_method_14_code
def yX11_feed : MethodName := ⟨RX11, "feed", "(IIIII)I"⟩
abbrev cX11_end : ByteArray := prog_1_method_15_code
def yX11_end : MethodName := ⟨RX11, "end", "(I)I"⟩
abbrev cX11_law : ByteArray := prog_1_method_16_code
def yX11_law : MethodName := ⟨RX11, "law", "(II)I"⟩
abbrev cX11_inForce : ByteArray := prog_1_method_17_code
def yX11_inForce : MethodName := ⟨RX11, "inForce", "(III)I"⟩
abbrev cX11_says : ByteArray := prog_1_method_18_code
def yX11_says : MethodName := ⟨RX11, "says", "(II)I"⟩
abbrev cX11_buy : ByteArray := prog_1_method_19_code
def yX11_buy : MethodName := ⟨RX11, "buy", "(III)I"⟩
abbrev cX11_foretold : ByteArray := prog_1_method_20_code
def yX11_foretold : MethodName := ⟨RX11, "foretold", "(IIII)I"⟩
abbrev cX11_plan : ByteArray := prog_1_method_21_code
def yX11_plan : MethodName := ⟨RX11, "plan", "(II)I"⟩
abbrev cX11_planned : ByteArray := prog_1_method_22_code
def yX11_planned : MethodName := ⟨RX11, "planned", "(I)I"⟩
abbrev cX11_left : ByteArray := prog_1_method_23_code
def yX11_left : MethodName := ⟨RX11, "left", "()I"⟩
abbrev cX11_order : ByteArray := prog_1_method_24_code
def yX11_order : MethodName := ⟨RX11, "order", "(IIII)I"⟩
abbrev cX11_loss : ByteArray := prog_1_method_25_code
def yX11_loss : MethodName := ⟨RX11, "loss", "(IIIII)J"⟩
abbrev cX11_crates : ByteArray := prog_1_method_26_code
def yX11_crates : MethodName := ⟨RX11, "crates", "(III)I"⟩
abbrev cX11_ways : ByteArray := prog_1_method_27_code
def yX11_ways : MethodName := ⟨RX11, "ways", "()I"⟩
abbrev cX11_comes : ByteArray := prog_1_method_28_code
def yX11_comes : MethodName := ⟨RX11, "comes", "(I)I"⟩
abbrev cX11_move : ByteArray := prog_1_method_29_code
def yX11_move : MethodName := ⟨RX11, "move", "(IIII)I"⟩
abbrev cX11_drawn : ByteArray := prog_1_method_30_code
def yX11_drawn : MethodName := ⟨RX11, "drawn", "(II)I"⟩
abbrev cX11_early : ByteArray := prog_1_method_31_code
def yX11_early : MethodName := ⟨RX11, "early", "(IIII)I"⟩
abbrev cX11_waiting : ByteArray := prog_1_method_32_code
def yX11_waiting : MethodName := ⟨RX11, "waiting", "(IIII)I"⟩
abbrev cX11_kitchen : ByteArray := prog_1_method_33_code
def yX11_kitchen : MethodName := ⟨RX11, "kitchen", "(II)I"⟩
abbrev cX11_gift : ByteArray := prog_1_method_34_code
def yX11_gift : MethodName := ⟨RX11, "gift", "(IIII)I"⟩
abbrev cX11_bin : ByteArray := prog_1_method_35_code
def yX11_bin : MethodName := ⟨RX11, "bin", "(III)I"⟩
abbrev cX11_tossed : ByteArray := prog_1_method_36_code
def yX11_tossed : MethodName := ⟨RX11, "tossed", "(I)I"⟩
abbrev cX11_isBad : ByteArray := prog_1_method_37_code
def yX11_isBad : MethodName := ⟨RX11, "isBad", "(III)I"⟩
abbrev cX11_since : ByteArray := prog_1_method_38_code
def yX11_since : MethodName := ⟨RX11, "since", "(II)I"⟩
abbrev cX11_till : ByteArray := prog_1_method_39_code
def yX11_till : MethodName := ⟨RX11, "till", "(I)I"⟩
abbrev cX11_count : ByteArray := prog_1_method_40_code
def yX11_count : MethodName := ⟨RX11, "count", "(I)I"⟩
abbrev cX11_isBelow : ByteArray := prog_1_method_41_code
def yX11_isBelow : MethodName := ⟨RX11, "isBelow", "(II)Z"⟩
abbrev cX11_isFrom : ByteArray := prog_1_method_42_code
def yX11_isFrom : MethodName := ⟨RX11, "isFrom", "(III)Z"⟩
abbrev cX11_areDays : ByteArray := prog_1_method_43_code
def yX11_areDays : MethodName := ⟨RX11, "areDays", "(II)Z"⟩
abbrev cX11_hasBoth : ByteArray := prog_1_method_44_code
def yX11_hasBoth : MethodName := ⟨RX11, "hasBoth", "(II)Z"⟩
abbrev cX11_mayTell : ByteArray := prog_1_method_45_code
def yX11_mayTell : MethodName := ⟨RX11, "mayTell", "(II)Z"⟩
abbrev cX11_isMorning : ByteArray := prog_1_method_46_code
def yX11_isMorning : MethodName := ⟨RX11, "isMorning", "(IIII)Z"⟩
abbrev cX11_askOf : ByteArray := prog_1_method_47_code
def yX11_askOf : MethodName := ⟨RX11, "askOf", "(II)I"⟩
abbrev cX11_lawToday : ByteArray := prog_1_method_48_code
def yX11_lawToday : MethodName := ⟨RX11, "lawToday", "(I)I"⟩
abbrev cX11_lets : ByteArray := prog_1_method_49_code
def yX11_lets : MethodName := ⟨RX11, "lets", "(II)Z"⟩
abbrev cX11_lineUp : ByteArray := prog_1_method_50_code
def yX11_lineUp : MethodName := ⟨RX11, "lineUp", "(III)I"⟩
abbrev cX11_beginDay : ByteArray := prog_1_method_51_code
def yX11_beginDay : MethodName := ⟨RX11, "beginDay", "()V"⟩
abbrev cX11_toss : ByteArray := prog_1_method_52_code
def yX11_toss : MethodName := ⟨RX11, "toss", "(II)V"⟩
abbrev cX11_sumDrawn : ByteArray := prog_1_method_53_code
def yX11_sumDrawn : MethodName := ⟨RX11, "sumDrawn", "(III)I"⟩
abbrev cX11_earlyOf : ByteArray := prog_1_method_54_code
def yX11_earlyOf : MethodName := ⟨RX11, "earlyOf", "(I)I"⟩
abbrev cX11_gapOf : ByteArray := prog_1_method_55_code
def yX11_gapOf : MethodName := ⟨RX11, "gapOf", "(III)I"⟩
abbrev cX11_doubtOf : ByteArray := prog_1_method_56_code
def yX11_doubtOf : MethodName := ⟨RX11, "doubtOf", "(III)I"⟩
def RX12 : String := "DuskShelvesModel"
def TX12 : u_T := fun k => match k with
  | 0 => ("DuskShelvesModel", "code", "I", false)
  | 1 => ("DuskShelvesModel", "hour", "I", false)
  | 2 => ("DuskShelvesModel", "shops", "I", false)
  | 3 => ("DuskShelvesModel", "shopX", "[I", true)
  | 4 => ("DuskShelvesModel", "shopY", "[I", true)
  | 5 => ("DuskShelvesModel", "tills", "[I", true)
  | 6 => ("DuskShelvesModel", "kinds", "I", false)
  | 7 => ("DuskShelvesModel", "price", "[I", true)
  | 8 => ("DuskShelvesModel", "cost", "[I", true)
  | 9 => ("DuskShelvesModel", "grams", "[I", true)
  | 10 => ("DuskShelvesModel", "cold", "[I", true)
  | 11 => ("DuskShelvesModel", "throwing", "[I", true)
  | 12 => ("DuskShelvesModel", "weather", "[I", true)
  | 13 => ("DuskShelvesModel", "stepOf", "[I", true)
  | 14 => ("DuskShelvesModel", "warm", "[I", true)
  | 15 => ("DuskShelvesModel", "ordersCost", "I", false)
  | 16 => ("DuskShelvesModel", "batches", "I", false)
  | 17 => ("DuskShelvesModel", "batchShop", "[I", true)
  | 18 => ("DuskShelvesModel", "batchKind", "[I", true)
  | 19 => ("DuskShelvesModel", "lot", "[I", true)
  | 20 => ("DuskShelvesModel", "made", "[I", true)
  | 21 => ("DuskShelvesModel", "came", "[I", true)
  | 22 => ("DuskShelvesModel", "pieces", "[I", true)
  | 23 => ("DuskShelvesModel", "sold", "[I", true)
  | 24 => ("DuskShelvesModel", "moved", "[I", true)
  | 25 => ("DuskShelvesModel", "given", "[I", true)
  | 26 => ("DuskShelvesModel", "thrownOf", "[I", true)
  | 27 => ("DuskShelvesModel", "spoiledOf", "[I", true)
  | 28 => ("DuskShelvesModel", "fromBatch", "[I", true)
  | 29 => ("DuskShelvesModel", "gramsOn", "[I", true)
  | 30 => ("DuskShelvesModel", "tape", "[B", true)
  | 31 => ("DuskShelvesModel", "taped", "I", false)
  | 32 => ("DuskShelvesModel", "laws", "I", false)
  | 33 => ("DuskShelvesModel", "use", "[I", true)
  | 34 => ("DuskShelvesModel", "lawMade", "[I", true)
  | 35 => ("DuskShelvesModel", "lawFrom", "[I", true)
  | 36 => ("DuskShelvesModel", "lawSteps", "[I", true)
  | 37 => ("DuskShelvesModel", "act", "[I", true)
  | 38 => ("DuskShelvesModel", "with", "[I", true)
  | 39 => ("DuskShelvesModel", "at", "I", false)
  | 40 => ("DuskShelvesModel", "laid", "I", false)
  | 41 => ("DuskShelvesModel", "here", "I", false)
  | 42 => ("DuskShelvesModel", "fault", "I", false)
  | 43 => ("DuskShelvesModel", "open", "I", false)
  | 44 => ("DuskShelvesModel", "pile", "[I", true)
  | 45 => ("DuskShelvesModel", "rows", "I", false)
  | 46 => ("DuskShelvesModel", "rowShop", "[I", true)
  | 47 => ("DuskShelvesModel", "rowKind", "[I", true)
  | 48 => ("DuskShelvesModel", "rowHour", "[I", true)
  | 49 => ("DuskShelvesModel", "rowStep", "[I", true)
  | 50 => ("DuskShelvesModel", "rowWeather", "[I", true)
  | 51 => ("DuskShelvesModel", "asked", "[I", true)
  | 52 => ("DuskShelvesModel", "bought", "[I", true)
  | 53 => ("DuskShelvesModel", "trial", "[I", true)
  | 54 => ("DuskShelvesModel", "plannedStep", "[I", true)
  | 55 => ("DuskShelvesModel", "wanted", "[I", true)
  | 56 => ("DuskShelvesModel", "plannedFrom", "I", false)
  | 57 => ("DuskShelvesModel", "plannedLeft", "I", false)
  | 58 => ("DuskShelvesModel", "sums", "[I", true)
  | 59 => ("DuskShelvesModel", "hasSum", "[Z", true)
  | 60 => ("DuskShelvesModel", "spare", "[I", true)
  | 61 => ("DuskShelvesModel", "need", "[I", true)
  | 62 => ("DuskShelvesModel", "needShop", "[I", true)
  | 63 => ("DuskShelvesModel", "comesTrial", "[I", true)
  | 64 => ("DuskShelvesModel", "comesFrom", "[I", true)
  | 65 => ("DuskShelvesModel", "comesMany", "I", false)
  | 66 => ("DuskShelvesModel", "comesShops", "I", false)
  | 67 => ("DuskShelvesModel", "tried", "[Z", true)
  | 68 => ("DuskShelvesModel", "drawn", "[I", true)
  | 69 => ("DuskShelvesModel", "earlySum", "[I", true)
  | 70 => ("DuskShelvesModel", "kitchens", "I", false)
  | 71 => ("DuskShelvesModel", "kitchenX", "[I", true)
  | 72 => ("DuskShelvesModel", "kitchenY", "[I", true)
  | 73 => ("DuskShelvesModel", "takesTo", "[I", true)
  | 74 => ("DuskShelvesModel", "spoils", "I", false)
  | 75 => ("DuskShelvesModel", "spoilBatch", "[I", true)
  | 76 => ("DuskShelvesModel", "spoilDay", "[I", true)
  | _ => ("DuskShelvesModel", "spoilMany", "[I", true)
def tyX12 : Nat → FieldType := fun k => match k with
  | 0 => .int
  | 1 => .int
  | 2 => .int
  | 3 => .array .int
  | 4 => .array .int
  | 5 => .array .int
  | 6 => .int
  | 7 => .array .int
  | 8 => .array .int
  | 9 => .array .int
  | 10 => .array .int
  | 11 => .array .int
  | 12 => .array .int
  | 13 => .array .int
  | 14 => .array .int
  | 15 => .int
  | 16 => .int
  | 17 => .array .int
  | 18 => .array .int
  | 19 => .array .int
  | 20 => .array .int
  | 21 => .array .int
  | 22 => .array .int
  | 23 => .array .int
  | 24 => .array .int
  | 25 => .array .int
  | 26 => .array .int
  | 27 => .array .int
  | 28 => .array .int
  | 29 => .array .int
  | 30 => .array .byte
  | 31 => .int
  | 32 => .int
  | 33 => .array .int
  | 34 => .array .int
  | 35 => .array .int
  | 36 => .array .int
  | 37 => .array .int
  | 38 => .array .int
  | 39 => .int
  | 40 => .int
  | 41 => .int
  | 42 => .int
  | 43 => .int
  | 44 => .array .int
  | 45 => .int
  | 46 => .array .int
  | 47 => .array .int
  | 48 => .array .int
  | 49 => .array .int
  | 50 => .array .int
  | 51 => .array .int
  | 52 => .array .int
  | 53 => .array .int
  | 54 => .array .int
  | 55 => .array .int
  | 56 => .int
  | 57 => .int
  | 58 => .array .int
  | 59 => .array .boolean
  | 60 => .array .int
  | 61 => .array .int
  | 62 => .array .int
  | 63 => .array .int
  | 64 => .array .int
  | 65 => .int
  | 66 => .int
  | 67 => .array .boolean
  | 68 => .array .int
  | 69 => .array .int
  | 70 => .int
  | 71 => .array .int
  | 72 => .array .int
  | 73 => .array .int
  | 74 => .int
  | 75 => .array .int
  | 76 => .array .int
  | _ => .array .int
theorem nmX12 : ∀ a, a < 78 → ∀ b, b < 78 → a ≠ b → (TX12 a).2.1 ≠ (TX12 b).2.1 := by decide +kernel
theorem tyX12_ok : ∀ k, k < 78 → parseFieldDescriptor (TX12 k).2.2.1 = some (tyX12 k) := by decide +kernel
abbrev cX12_init : ByteArray := prog_14_method_1_code
def yX12_init : MethodName := ⟨RX12, "<init>", "()V"⟩
abbrev cX12_in : ByteArray := prog_14_method_3_code
def yX12_in : MethodName := ⟨RX12, "in", "(III)Z"⟩
abbrev cX12_isDay : ByteArray := prog_14_method_4_code
def yX12_isDay : MethodName := ⟨RX12, "isDay", "(I)Z"⟩
abbrev cX12_today : ByteArray := prog_14_method_5_code
def yX12_today : MethodName := ⟨RX12, "today", "()I"⟩
abbrev cX12_hourNow : ByteArray := prog_14_method_6_code
def yX12_hourNow : MethodName := ⟨RX12, "hourNow", "()I"⟩
abbrev cX12_isShop : ByteArray := prog_14_method_7_code
def yX12_isShop : MethodName := ⟨RX12, "isShop", "(I)Z"⟩
abbrev cX12_isKind : ByteArray := prog_14_method_8_code
def yX12_isKind : MethodName := ⟨RX12, "isKind", "(I)Z"⟩
abbrev cX12_areBoth : ByteArray := prog_14_method_9_code
def yX12_areBoth : MethodName := ⟨RX12, "areBoth", "(II)Z"⟩
abbrev cX12_shop : ByteArray := prog_14_method_10_code
def yX12_shop : MethodName := ⟨RX12, "shop", "(I)I"⟩
abbrev cX12_kind : ByteArray := prog_14_method_11_code
def yX12_kind : MethodName := ⟨RX12, "kind", "(IIII)I"⟩
abbrev cX12_priceBy : ByteArray := prog_14_method_12_code
def yX12_priceBy : MethodName := ⟨RX12, "priceBy", "(II)I"⟩
abbrev cX12_priceAt : ByteArray := prog_14_method_13_code
def yX12_priceAt : MethodName := ⟨RX12, "priceAt", "(II)I"⟩
abbrev cX12_throwing : ByteArray := prog_14_method_14_code
def yX12_throwing : MethodName := ⟨RX12, "throwing", "(II)I"⟩
abbrev cX12_weather : ByteArray := prog_14_method_15_code
def yX12_weather : MethodName := ⟨RX12, "weather", "(II)I"⟩
abbrev cX12_cut : ByteArray := prog_14_method_16_code
def yX12_cut : MethodName := ⟨RX12, "cut", "(III)I"⟩
abbrev cX12_step : ByteArray := prog_14_method_17_code
def yX12_step : MethodName := ⟨RX12, "step", "(II)I"⟩
abbrev cX12_warm : ByteArray := prog_14_method_18_code
def yX12_warm : MethodName := ⟨RX12, "warm", "(III)I"⟩
abbrev cX12_isBatch : ByteArray := prog_14_method_19_code
def yX12_isBatch : MethodName := ⟨RX12, "isBatch", "(I)Z"⟩
abbrev cX12_onShelf : ByteArray := prog_14_method_20_code
def yX12_onShelf : MethodName := ⟨RX12, "onShelf", "(I)I"⟩
abbrev cX12_addBatch : ByteArray := prog_14_method_21_code
def yX12_addBatch : MethodName := ⟨RX12, "addBatch", "(IIIIII)V"⟩
abbrev cX12_batch : ByteArray := prog_14_method_22_code
def yX12_batch : MethodName := ⟨RX12, "batch", "(IIII)I"⟩
abbrev cX12_firstOf : ByteArray := prog_14_method_23_code
def yX12_firstOf : MethodName := ⟨RX12, "firstOf", "(I)I"⟩
abbrev cX12_ofBatch : ByteArray := prog_14_method_24_code
def yX12_ofBatch : MethodName := ⟨RX12, "ofBatch", "(II)I"⟩
abbrev cX12_feed : ByteArray := prog_14_method_25_code
def yX12_feed : MethodName := ⟨RX12, "feed", "(IIIII)I"⟩
abbrev cX12_feedOne : ByteArray := prog_14_method_26_code
def yX12_feedOne : MethodName := ⟨RX12, "feedOne", "(I)V"⟩
abbrev cX12_end : ByteArray := prog_14_method_27_code
def yX12_end : MethodName := ⟨RX12, "end", "(I)I"⟩
abbrev cX12_look : ByteArray := prog_14_method_28_code
def yX12_look : MethodName := ⟨RX12, "look", "()I"⟩
abbrev cX12_wrong : ByteArray := prog_14_method_29_code
def yX12_wrong : MethodName := ⟨RX12, "wrong", "()V"⟩
abbrev cX12_lay : ByteArray := prog_14_method_30_code
def yX12_lay : MethodName := ⟨RX12, "lay", "(II)V"⟩
abbrev cX12_nameOf : ByteArray := prog_14_method_31_code
def yX12_nameOf : MethodName := ⟨RX12, "nameOf", "(I)I"⟩
abbrev cX12_operand : ByteArray := prog_14_method_32_code
def yX12_operand : MethodName := ⟨RX12, "operand", "()V"⟩
abbrev cX12_product : ByteArray := prog_14_method_33_code
def yX12_product : MethodName := ⟨RX12, "product", "()V"⟩
abbrev cX12_sum : ByteArray := prog_14_method_34_code
def yX12_sum : MethodName := ⟨RX12, "sum", "()V"⟩
abbrev cX12_compared : ByteArray := prog_14_method_35_code
def yX12_compared : MethodName := ⟨RX12, "compared", "()V"⟩
abbrev cX12_all : ByteArray := prog_14_method_36_code
def yX12_all : MethodName := ⟨RX12, "all", "()V"⟩
abbrev cX12_whole : ByteArray := prog_14_method_37_code
def yX12_whole : MethodName := ⟨RX12, "whole", "()V"⟩
abbrev cX12_clause : ByteArray := prog_14_method_38_code
def yX12_clause : MethodName := ⟨RX12, "clause", "()V"⟩
abbrev cX12_law : ByteArray := prog_14_method_39_code
def yX12_law : MethodName := ⟨RX12, "law", "(II)I"⟩
abbrev cX12_forceOn : ByteArray := prog_14_method_40_code
def yX12_forceOn : MethodName := ⟨RX12, "forceOn", "(III)I"⟩
abbrev cX12_inForce : ByteArray := prog_14_method_41_code
def yX12_inForce : MethodName := ⟨RX12, "inForce", "(III)I"⟩
abbrev cX12_named : ByteArray := prog_14_method_42_code
def yX12_named : MethodName := ⟨RX12, "named", "(II)I"⟩
abbrev cX12_both : ByteArray := prog_14_method_43_code
def yX12_both : MethodName := ⟨RX12, "both", "(III)I"⟩
abbrev cX12_gives : ByteArray := prog_14_method_44_code
def yX12_gives : MethodName := ⟨RX12, "gives", "(II)I"⟩
abbrev cX12_says : ByteArray := prog_14_method_45_code
def yX12_says : MethodName := ⟨RX12, "says", "(II)I"⟩
abbrev cX12_may : ByteArray := prog_14_method_46_code
def yX12_may : MethodName := ⟨RX12, "may", "(II)Z"⟩
abbrev cX12_shelfOf : ByteArray := prog_14_method_47_code
def yX12_shelfOf : MethodName := ⟨RX12, "shelfOf", "(III)I"⟩
abbrev cX12_shelf : ByteArray := prog_14_method_48_code
def yX12_shelf : MethodName := ⟨RX12, "shelf", "(III)I"⟩
abbrev cX12_eldest : ByteArray := prog_14_method_49_code
def yX12_eldest : MethodName := ⟨RX12, "eldest", "(III)I"⟩
abbrev cX12_toss : ByteArray := prog_14_method_50_code
def yX12_toss : MethodName := ⟨RX12, "toss", "(II)V"⟩
abbrev cX12_hours : ByteArray := prog_14_method_51_code
def yX12_hours : MethodName := ⟨RX12, "hours", "(I)I"⟩
abbrev cX12_isOpen : ByteArray := prog_14_method_52_code
def yX12_isOpen : MethodName := ⟨RX12, "isOpen", "()Z"⟩
abbrev cX12_hasRow : ByteArray := prog_14_method_53_code
def yX12_hasRow : MethodName := ⟨RX12, "hasRow", "(II)Z"⟩
abbrev cX12_buy : ByteArray := prog_14_method_54_code
def yX12_buy : MethodName := ⟨RX12, "buy", "(III)I"⟩
abbrev cX12_foretoldFor : ByteArray := prog_14_method_55_code
def yX12_foretoldFor : MethodName := ⟨RX12, "foretoldFor", "(IIIIII)I"⟩
abbrev cX12_foretold : ByteArray := prog_14_method_56_code
def yX12_foretold : MethodName := ⟨RX12, "foretold", "(IIII)I"⟩
abbrev cX12_plan : ByteArray := prog_14_method_57_code
def yX12_plan : MethodName := ⟨RX12, "plan", "(II)I"⟩
abbrev cX12_planned : ByteArray := prog_14_method_58_code
def yX12_planned : MethodName := ⟨RX12, "planned", "(I)I"⟩
abbrev cX12_left : ByteArray := prog_14_method_59_code
def yX12_left : MethodName := ⟨RX12, "left", "()I"⟩
abbrev cX12_isOrder : ByteArray := prog_14_method_60_code
def yX12_isOrder : MethodName := ⟨RX12, "isOrder", "(IIII)Z"⟩
abbrev cX12_findSums : ByteArray := prog_14_method_61_code
def yX12_findSums : MethodName := ⟨RX12, "findSums", "(IIII)V"⟩
abbrev cX12_lossOf : ByteArray := prog_14_method_62_code
def yX12_lossOf : MethodName := ⟨RX12, "lossOf", "(II)J"⟩
abbrev cX12_order : ByteArray := prog_14_method_63_code
def yX12_order : MethodName := ⟨RX12, "order", "(IIII)I"⟩
abbrev cX12_loss : ByteArray := prog_14_method_64_code
def yX12_loss : MethodName := ⟨RX12, "loss", "(IIIII)J"⟩
abbrev cX12_crates : ByteArray := prog_14_method_65_code
def yX12_crates : MethodName := ⟨RX12, "crates", "(III)I"⟩
abbrev cX12_off : ByteArray := prog_14_method_66_code
def yX12_off : MethodName := ⟨RX12, "off", "(II)I"⟩
abbrev cX12_miles : ByteArray := prog_14_method_67_code
def yX12_miles : MethodName := ⟨RX12, "miles", "(II)I"⟩
abbrev cX12_mayCome : ByteArray := prog_14_method_68_code
def yX12_mayCome : MethodName := ⟨RX12, "mayCome", "(I)Z"⟩
abbrev cX12_movedTo : ByteArray := prog_14_method_69_code
def yX12_movedTo : MethodName := ⟨RX12, "movedTo", "(I)I"⟩
abbrev cX12_milesTo : ByteArray := prog_14_method_70_code
def yX12_milesTo : MethodName := ⟨RX12, "milesTo", "(I)I"⟩
abbrev cX12_ways : ByteArray := prog_14_method_71_code
def yX12_ways : MethodName := ⟨RX12, "ways", "()I"⟩
abbrev cX12_comes : ByteArray := prog_14_method_72_code
def yX12_comes : MethodName := ⟨RX12, "comes", "(I)I"⟩
abbrev cX12_move : ByteArray := prog_14_method_73_code
def yX12_move : MethodName := ⟨RX12, "move", "(IIII)I"⟩
abbrev cX12_nextOf : ByteArray := prog_14_method_74_code
def yX12_nextOf : MethodName := ⟨RX12, "nextOf", "(II)I"⟩
abbrev cX12_drawn : ByteArray := prog_14_method_75_code
def yX12_drawn : MethodName := ⟨RX12, "drawn", "(II)I"⟩
abbrev cX12_earlyOf : ByteArray := prog_14_method_76_code
def yX12_earlyOf : MethodName := ⟨RX12, "earlyOf", "(IIII)I"⟩
abbrev cX12_areDays : ByteArray := prog_14_method_77_code
def yX12_areDays : MethodName := ⟨RX12, "areDays", "(II)Z"⟩
abbrev cX12_early : ByteArray := prog_14_method_78_code
def yX12_early : MethodName := ⟨RX12, "early", "(IIII)I"⟩
abbrev cX12_waiting : ByteArray := prog_14_method_79_code
def yX12_waiting : MethodName := ⟨RX12, "waiting", "(IIII)I"⟩
abbrev cX12_kitchen : ByteArray := prog_14_method_80_code
def yX12_kitchen : MethodName := ⟨RX12, "kitchen", "(II)I"⟩
abbrev cX12_gift : ByteArray := prog_14_method_81_code
def yX12_gift : MethodName := ⟨RX12, "gift", "(IIII)I"⟩
abbrev cX12_bin : ByteArray := prog_14_method_82_code
def yX12_bin : MethodName := ⟨RX12, "bin", "(III)I"⟩
abbrev cX12_tossed : ByteArray := prog_14_method_83_code
def yX12_tossed : MethodName := ⟨RX12, "tossed", "(I)I"⟩
abbrev cX12_isBadOn : ByteArray := prog_14_method_84_code
def yX12_isBadOn : MethodName := ⟨RX12, "isBadOn", "(III)Z"⟩
abbrev cX12_isLot : ByteArray := prog_14_method_85_code
def yX12_isLot : MethodName := ⟨RX12, "isLot", "(II)Z"⟩
abbrev cX12_isBad : ByteArray := prog_14_method_86_code
def yX12_isBad : MethodName := ⟨RX12, "isBad", "(III)I"⟩
abbrev cX12_since : ByteArray := prog_14_method_87_code
def yX12_since : MethodName := ⟨RX12, "since", "(II)I"⟩
abbrev cX12_till : ByteArray := prog_14_method_88_code
def yX12_till : MethodName := ⟨RX12, "till", "(I)I"⟩
abbrev cX12_count : ByteArray := prog_14_method_89_code
def yX12_count : MethodName := ⟨RX12, "count", "(I)I"⟩
def RJ6 : String := "java/lang/Integer"
def TJ6 : u_T := fun k => match k with
  | _ => ("", "", "", false)
def tyJ6 : Nat → FieldType := fun k => match k with
  | _ => .int
abbrev cJ6_bitCount_0f7a4 : ByteArray := prog_15_method_49_code
def yJ6_bitCount_0f7a4 : MethodName := ⟨RJ6, "bitCount", "(I)I"⟩
def RJ9 : String := "java/lang/Math"
def TJ9 : u_T := fun k => match k with
  | _ => ("", "", "", false)
def tyJ9 : Nat → FieldType := fun k => match k with
  | _ => .int
abbrev cJ9_abs_0f7a4 : ByteArray := prog_16_method_59_code
def yJ9_abs_0f7a4 : MethodName := ⟨RJ9, "abs", "(I)I"⟩
abbrev cJ9_max_7cf53 : ByteArray := prog_16_method_65_code
def yJ9_max_7cf53 : MethodName := ⟨RJ9, "max", "(II)I"⟩
abbrev cJ9_min_7cf53 : ByteArray := prog_16_method_69_code
def yJ9_min_7cf53 : MethodName := ⟨RJ9, "min", "(II)I"⟩
abbrev cJ9_min_f86c9 : ByteArray := prog_16_method_70_code
def yJ9_min_f86c9 : MethodName := ⟨RJ9, "min", "(JJ)J"⟩
def RJ10 : String := "java/lang/System"
def TJ10 : u_T := fun k => match k with
  | _ => ("", "", "", false)
def tyJ10 : Nat → FieldType := fun k => match k with
  | _ => .int
def RJ7 : String := "java/util/Arrays"
def TJ7 : u_T := fun k => match k with
  | _ => ("", "", "", false)
def tyJ7 : Nat → FieldType := fun k => match k with
  | _ => .int
abbrev cJ7_fill_d0a16 : ByteArray := prog_18_method_101_code
def yJ7_fill_d0a16 : MethodName := ⟨RJ7, "fill", "([JJ)V"⟩
abbrev cJ7_fill_53178 : ByteArray := prog_18_method_103_code
def yJ7_fill_53178 : MethodName := ⟨RJ7, "fill", "([II)V"⟩
def RL : String := "DuskShelvesLaw"
abbrev cL_law : ByteArray := code
def yL_law : MethodName := ⟨RL, "law", "([I)Z"⟩
abbrev vwCl : List vw_C := [(RX0, TX0, 8), (RX1, TX1, 6), (RX2, TX2, 7), (RX3, TX3, 3), (RX4, TX4, 8), (RX5, TX5, 6), (RX6, TX6, 8), (RX7, TX7, 2), (RX8, TX8, 11), (RX9, TX9, 5), (RX10, TX10, 5), (RX11, TX11, 14), (RX12, TX12, 78)]
end
section
theorem dX0_init_0 : decode cX0_init 0 = .ok (.aload_n 0, 1) := by decide +kernel
theorem dX0_init_1 : decode cX0_init 1 = .ok (.invokespecial 3, 3) := by decide +kernel
theorem dX0_init_4 : decode cX0_init 4 = .ok (.aload_n 0, 1) := by decide +kernel
theorem dX0_init_5 : decode cX0_init 5 = .ok (.sipush 200, 3) := by decide +kernel
theorem dX0_init_8 : decode cX0_init 8 = .ok (.bipush 14, 2) := by decide +kernel
theorem dX0_init_10 : decode cX0_init 10 = .ok (.multianewarray 9 2, 4) := by decide +kernel
theorem dX0_init_14 : decode cX0_init 14 = .ok (.putfield 11, 3) := by decide +kernel
theorem dX0_init_17 : decode cX0_init 17 = .ok (.aload_n 0, 1) := by decide +kernel
theorem dX0_init_18 : decode cX0_init 18 = .ok (.iconst 0, 1) := by decide +kernel
theorem dX0_init_19 : decode cX0_init 19 = .ok (.putfield 16, 3) := by decide +kernel
theorem dX0_init_22 : decode cX0_init 22 = .ok (.aload_n 0, 1) := by decide +kernel
theorem dX0_init_23 : decode cX0_init 23 = .ok (.sipush 200, 3) := by decide +kernel
theorem dX0_init_26 : decode cX0_init 26 = .ok (.newarray .int, 2) := by decide +kernel
theorem dX0_init_28 : decode cX0_init 28 = .ok (.putfield 20, 3) := by decide +kernel
theorem dX0_init_31 : decode cX0_init 31 = .ok (.aload_n 0, 1) := by decide +kernel
theorem dX0_init_32 : decode cX0_init 32 = .ok (.iconst 0, 1) := by decide +kernel
theorem dX0_init_33 : decode cX0_init 33 = .ok (.putfield 24, 3) := by decide +kernel
theorem dX0_init_36 : decode cX0_init 36 = .ok (.aload_n 0, 1) := by decide +kernel
theorem dX0_init_37 : decode cX0_init 37 = .ok (.sipush 400, 3) := by decide +kernel
theorem dX0_init_40 : decode cX0_init 40 = .ok (.newarray .int, 2) := by decide +kernel
theorem dX0_init_42 : decode cX0_init 42 = .ok (.putfield 27, 3) := by decide +kernel
theorem dX0_init_45 : decode cX0_init 45 = .ok (.aload_n 0, 1) := by decide +kernel
theorem dX0_init_46 : decode cX0_init 46 = .ok (.sipush 400, 3) := by decide +kernel
theorem dX0_init_49 : decode cX0_init 49 = .ok (.newarray .int, 2) := by decide +kernel
theorem dX0_init_51 : decode cX0_init 51 = .ok (.putfield 30, 3) := by decide +kernel
theorem dX0_init_54 : decode cX0_init 54 = .ok (.aload_n 0, 1) := by decide +kernel
theorem dX0_init_55 : decode cX0_init 55 = .ok (.sipush 400, 3) := by decide +kernel
theorem dX0_init_58 : decode cX0_init 58 = .ok (.newarray .int, 2) := by decide +kernel
theorem dX0_init_60 : decode cX0_init 60 = .ok (.putfield 33, 3) := by decide +kernel
theorem dX0_init_63 : decode cX0_init 63 = .ok (.aload_n 0, 1) := by decide +kernel
theorem dX0_init_64 : decode cX0_init 64 = .ok (.iconst 0, 1) := by decide +kernel
theorem dX0_init_65 : decode cX0_init 65 = .ok (.putfield 36, 3) := by decide +kernel
theorem dX0_init_68 : decode cX0_init 68 = .ok (.return_, 1) := by decide +kernel
theorem dX0_has_0 : decode cX0_has 0 = .ok (.iload_n 1, 1) := by decide +kernel
theorem dX0_has_1 : decode cX0_has 1 = .ok (.aload_n 0, 1) := by decide +kernel
theorem dX0_has_2 : decode cX0_has 2 = .ok (.getfield 16, 3) := by decide +kernel
theorem dX0_has_5 : decode cX0_has 5 = .ok (.invokestatic 39, 3) := by decide +kernel
theorem dX0_has_8 : decode cX0_has 8 = .ok (.ireturn, 1) := by decide +kernel
theorem dX0_room_0 : decode cX0_room 0 = .ok (.sipush 200, 3) := by decide +kernel
theorem dX0_room_3 : decode cX0_room 3 = .ok (.aload_n 0, 1) := by decide +kernel
theorem dX0_room_4 : decode cX0_room 4 = .ok (.getfield 16, 3) := by decide +kernel
theorem dX0_room_7 : decode cX0_room 7 = .ok (.isub, 1) := by decide +kernel
theorem dX0_room_8 : decode cX0_room 8 = .ok (.ireturn, 1) := by decide +kernel
theorem dX0_add_0 : decode cX0_add 0 = .ok (.aload_n 0, 1) := by decide +kernel
theorem dX0_add_1 : decode cX0_add 1 = .ok (.getfield 16, 3) := by decide +kernel
theorem dX0_add_4 : decode cX0_add 4 = .ok (.sipush 200, 3) := by decide +kernel
theorem dX0_add_7 : decode cX0_add 7 = .ok (.if_icmp .lt 6, 3) := by decide +kernel
theorem dX0_add_10 : decode cX0_add 10 = .ok (.bipush (-3), 2) := by decide +kernel
theorem dX0_add_12 : decode cX0_add 12 = .ok (.ireturn, 1) := by decide +kernel
theorem dX0_add_13 : decode cX0_add 13 = .ok (.aload_n 0, 1) := by decide +kernel
theorem dX0_add_14 : decode cX0_add 14 = .ok (.getfield 11, 3) := by decide +kernel
theorem dX0_add_17 : decode cX0_add 17 = .ok (.aload_n 0, 1) := by decide +kernel
theorem dX0_add_18 : decode cX0_add 18 = .ok (.getfield 16, 3) := by decide +kernel
theorem dX0_add_21 : decode cX0_add 21 = .ok (.aaload, 1) := by decide +kernel
theorem dX0_add_22 : decode cX0_add 22 = .ok (.astore 5, 2) := by decide +kernel
theorem dX0_add_24 : decode cX0_add 24 = .ok (.aload 5, 2) := by decide +kernel
theorem dX0_add_26 : decode cX0_add 26 = .ok (.iconst 0, 1) := by decide +kernel
theorem dX0_add_27 : decode cX0_add 27 = .ok (.iload_n 1, 1) := by decide +kernel
theorem dX0_add_28 : decode cX0_add 28 = .ok (.iastore, 1) := by decide +kernel
theorem dX0_add_29 : decode cX0_add 29 = .ok (.aload 5, 2) := by decide +kernel
theorem dX0_add_31 : decode cX0_add 31 = .ok (.iconst 1, 1) := by decide +kernel
theorem dX0_add_32 : decode cX0_add 32 = .ok (.iload_n 2, 1) := by decide +kernel
theorem dX0_add_33 : decode cX0_add 33 = .ok (.bipush 100, 2) := by decide +kernel
theorem dX0_add_35 : decode cX0_add 35 = .ok (.idiv, 1) := by decide +kernel
theorem dX0_add_36 : decode cX0_add 36 = .ok (.iastore, 1) := by decide +kernel
theorem dX0_add_37 : decode cX0_add 37 = .ok (.aload 5, 2) := by decide +kernel
theorem dX0_add_39 : decode cX0_add 39 = .ok (.iconst 2, 1) := by decide +kernel
theorem dX0_add_40 : decode cX0_add 40 = .ok (.iload_n 2, 1) := by decide +kernel
theorem dX0_add_41 : decode cX0_add 41 = .ok (.bipush 100, 2) := by decide +kernel
theorem dX0_add_43 : decode cX0_add 43 = .ok (.irem, 1) := by decide +kernel
theorem dX0_add_44 : decode cX0_add 44 = .ok (.iastore, 1) := by decide +kernel
theorem dX0_add_45 : decode cX0_add 45 = .ok (.aload 5, 2) := by decide +kernel
theorem dX0_add_47 : decode cX0_add 47 = .ok (.iconst 3, 1) := by decide +kernel
theorem dX0_add_48 : decode cX0_add 48 = .ok (.iload_n 3, 1) := by decide +kernel
theorem dX0_add_49 : decode cX0_add 49 = .ok (.iastore, 1) := by decide +kernel
theorem dX0_add_50 : decode cX0_add 50 = .ok (.aload 5, 2) := by decide +kernel
theorem dX0_add_52 : decode cX0_add 52 = .ok (.iconst 4, 1) := by decide +kernel
theorem dX0_add_53 : decode cX0_add 53 = .ok (.iload 4, 2) := by decide +kernel
theorem dX0_add_55 : decode cX0_add 55 = .ok (.iastore, 1) := by decide +kernel
theorem dX0_add_56 : decode cX0_add 56 = .ok (.aload 5, 2) := by decide +kernel
theorem dX0_add_58 : decode cX0_add 58 = .ok (.iconst 5, 1) := by decide +kernel
theorem dX0_add_59 : decode cX0_add 59 = .ok (.iload 4, 2) := by decide +kernel
theorem dX0_add_61 : decode cX0_add 61 = .ok (.iastore, 1) := by decide +kernel
theorem dX0_add_62 : decode cX0_add 62 = .ok (.aload 5, 2) := by decide +kernel
theorem dX0_add_64 : decode cX0_add 64 = .ok (.bipush 11, 2) := by decide +kernel
theorem dX0_add_66 : decode cX0_add 66 = .ok (.iconst (-1), 1) := by decide +kernel
theorem dX0_add_67 : decode cX0_add 67 = .ok (.iastore, 1) := by decide +kernel
theorem dX0_add_68 : decode cX0_add 68 = .ok (.aload 5, 2) := by decide +kernel
theorem dX0_add_70 : decode cX0_add 70 = .ok (.bipush 12, 2) := by decide +kernel
theorem dX0_add_72 : decode cX0_add 72 = .ok (.aload_n 0, 1) := by decide +kernel
theorem dX0_add_73 : decode cX0_add 73 = .ok (.getfield 16, 3) := by decide +kernel
theorem dX0_add_76 : decode cX0_add 76 = .ok (.iastore, 1) := by decide +kernel
theorem dX0_add_77 : decode cX0_add 77 = .ok (.aload_n 0, 1) := by decide +kernel
theorem dX0_add_78 : decode cX0_add 78 = .ok (.dup, 1) := by decide +kernel
theorem dX0_add_79 : decode cX0_add 79 = .ok (.getfield 16, 3) := by decide +kernel
theorem dX0_add_82 : decode cX0_add 82 = .ok (.iconst 1, 1) := by decide +kernel
theorem dX0_add_83 : decode cX0_add 83 = .ok (.iadd, 1) := by decide +kernel
theorem dX0_add_84 : decode cX0_add 84 = .ok (.putfield 16, 3) := by decide +kernel
theorem dX0_add_87 : decode cX0_add 87 = .ok (.aload_n 0, 1) := by decide +kernel
theorem dX0_add_88 : decode cX0_add 88 = .ok (.getfield 16, 3) := by decide +kernel
theorem dX0_add_91 : decode cX0_add 91 = .ok (.iconst 1, 1) := by decide +kernel
theorem dX0_add_92 : decode cX0_add 92 = .ok (.isub, 1) := by decide +kernel
theorem dX0_add_93 : decode cX0_add 93 = .ok (.ireturn, 1) := by decide +kernel
theorem dX0_take_0 : decode cX0_take 0 = .ok (.aload_n 0, 1) := by decide +kernel
theorem dX0_take_1 : decode cX0_take 1 = .ok (.getfield 11, 3) := by decide +kernel
theorem dX0_take_4 : decode cX0_take 4 = .ok (.iload_n 1, 1) := by decide +kernel
theorem dX0_take_5 : decode cX0_take 5 = .ok (.aaload, 1) := by decide +kernel
theorem dX0_take_6 : decode cX0_take 6 = .ok (.iconst 5, 1) := by decide +kernel
theorem dX0_take_7 : decode cX0_take 7 = .ok (.dup2, 1) := by decide +kernel
theorem dX0_take_8 : decode cX0_take 8 = .ok (.iaload, 1) := by decide +kernel
theorem dX0_take_9 : decode cX0_take 9 = .ok (.iload_n 2, 1) := by decide +kernel
theorem dX0_take_10 : decode cX0_take 10 = .ok (.isub, 1) := by decide +kernel
theorem dX0_take_11 : decode cX0_take 11 = .ok (.iastore, 1) := by decide +kernel
theorem dX0_take_12 : decode cX0_take 12 = .ok (.aload_n 0, 1) := by decide +kernel
theorem dX0_take_13 : decode cX0_take 13 = .ok (.getfield 11, 3) := by decide +kernel
theorem dX0_take_16 : decode cX0_take 16 = .ok (.iload_n 1, 1) := by decide +kernel
theorem dX0_take_17 : decode cX0_take 17 = .ok (.aaload, 1) := by decide +kernel
theorem dX0_take_18 : decode cX0_take 18 = .ok (.iload_n 3, 1) := by decide +kernel
theorem dX0_take_19 : decode cX0_take 19 = .ok (.dup2, 1) := by decide +kernel
theorem dX0_take_20 : decode cX0_take 20 = .ok (.iaload, 1) := by decide +kernel
theorem dX0_take_21 : decode cX0_take 21 = .ok (.iload_n 2, 1) := by decide +kernel
theorem dX0_take_22 : decode cX0_take 22 = .ok (.iadd, 1) := by decide +kernel
theorem dX0_take_23 : decode cX0_take 23 = .ok (.iastore, 1) := by decide +kernel
theorem dX0_take_24 : decode cX0_take 24 = .ok (.return_, 1) := by decide +kernel
theorem dX0_onShelf_0 : decode cX0_onShelf 0 = .ok (.iconst 0, 1) := by decide +kernel
theorem dX0_onShelf_1 : decode cX0_onShelf 1 = .ok (.istore_n 3, 1) := by decide +kernel
theorem dX0_onShelf_2 : decode cX0_onShelf 2 = .ok (.iconst 0, 1) := by decide +kernel
theorem dX0_onShelf_3 : decode cX0_onShelf 3 = .ok (.istore 4, 2) := by decide +kernel
theorem dX0_onShelf_5 : decode cX0_onShelf 5 = .ok (.iload 4, 2) := by decide +kernel
theorem dX0_onShelf_7 : decode cX0_onShelf 7 = .ok (.aload_n 0, 1) := by decide +kernel
theorem dX0_onShelf_8 : decode cX0_onShelf 8 = .ok (.getfield 16, 3) := by decide +kernel
theorem dX0_onShelf_11 : decode cX0_onShelf 11 = .ok (.if_icmp .ge 47, 3) := by decide +kernel
theorem dX0_onShelf_14 : decode cX0_onShelf 14 = .ok (.aload_n 0, 1) := by decide +kernel
theorem dX0_onShelf_15 : decode cX0_onShelf 15 = .ok (.getfield 11, 3) := by decide +kernel
theorem dX0_onShelf_18 : decode cX0_onShelf 18 = .ok (.iload 4, 2) := by decide +kernel
theorem dX0_onShelf_20 : decode cX0_onShelf 20 = .ok (.aaload, 1) := by decide +kernel
theorem dX0_onShelf_21 : decode cX0_onShelf 21 = .ok (.iconst 0, 1) := by decide +kernel
theorem dX0_onShelf_22 : decode cX0_onShelf 22 = .ok (.iaload, 1) := by decide +kernel
theorem dX0_onShelf_23 : decode cX0_onShelf 23 = .ok (.iload_n 1, 1) := by decide +kernel
theorem dX0_onShelf_24 : decode cX0_onShelf 24 = .ok (.if_icmp .ne 28, 3) := by decide +kernel
theorem dX0_onShelf_27 : decode cX0_onShelf 27 = .ok (.aload_n 0, 1) := by decide +kernel
theorem dX0_onShelf_28 : decode cX0_onShelf 28 = .ok (.getfield 11, 3) := by decide +kernel
theorem dX0_onShelf_31 : decode cX0_onShelf 31 = .ok (.iload 4, 2) := by decide +kernel
theorem dX0_onShelf_33 : decode cX0_onShelf 33 = .ok (.aaload, 1) := by decide +kernel
theorem dX0_onShelf_34 : decode cX0_onShelf 34 = .ok (.iconst 1, 1) := by decide +kernel
theorem dX0_onShelf_35 : decode cX0_onShelf 35 = .ok (.iaload, 1) := by decide +kernel
theorem dX0_onShelf_36 : decode cX0_onShelf 36 = .ok (.iload_n 2, 1) := by decide +kernel
theorem dX0_onShelf_37 : decode cX0_onShelf 37 = .ok (.if_icmp .ne 15, 3) := by decide +kernel
theorem dX0_onShelf_40 : decode cX0_onShelf 40 = .ok (.iload_n 3, 1) := by decide +kernel
theorem dX0_onShelf_41 : decode cX0_onShelf 41 = .ok (.aload_n 0, 1) := by decide +kernel
theorem dX0_onShelf_42 : decode cX0_onShelf 42 = .ok (.getfield 11, 3) := by decide +kernel
theorem dX0_onShelf_45 : decode cX0_onShelf 45 = .ok (.iload 4, 2) := by decide +kernel
theorem dX0_onShelf_47 : decode cX0_onShelf 47 = .ok (.aaload, 1) := by decide +kernel
theorem dX0_onShelf_48 : decode cX0_onShelf 48 = .ok (.iconst 5, 1) := by decide +kernel
theorem dX0_onShelf_49 : decode cX0_onShelf 49 = .ok (.iaload, 1) := by decide +kernel
theorem dX0_onShelf_50 : decode cX0_onShelf 50 = .ok (.iadd, 1) := by decide +kernel
theorem dX0_onShelf_51 : decode cX0_onShelf 51 = .ok (.istore_n 3, 1) := by decide +kernel
theorem dX0_onShelf_52 : decode cX0_onShelf 52 = .ok (.iinc 4 1, 3) := by decide +kernel
theorem dX0_onShelf_55 : decode cX0_onShelf 55 = .ok (.goto (-50), 3) := by decide +kernel
theorem dX0_onShelf_58 : decode cX0_onShelf 58 = .ok (.iload_n 3, 1) := by decide +kernel
theorem dX0_onShelf_59 : decode cX0_onShelf 59 = .ok (.ireturn, 1) := by decide +kernel
theorem dX0_total_0 : decode cX0_total 0 = .ok (.iconst 0, 1) := by decide +kernel
theorem dX0_total_1 : decode cX0_total 1 = .ok (.istore_n 2, 1) := by decide +kernel
theorem dX0_total_2 : decode cX0_total 2 = .ok (.iconst 0, 1) := by decide +kernel
theorem dX0_total_3 : decode cX0_total 3 = .ok (.istore_n 3, 1) := by decide +kernel
theorem dX0_total_4 : decode cX0_total 4 = .ok (.iload_n 3, 1) := by decide +kernel
theorem dX0_total_5 : decode cX0_total 5 = .ok (.aload_n 0, 1) := by decide +kernel
theorem dX0_total_6 : decode cX0_total 6 = .ok (.getfield 16, 3) := by decide +kernel
theorem dX0_total_9 : decode cX0_total 9 = .ok (.if_icmp .ge 20, 3) := by decide +kernel
theorem dX0_total_12 : decode cX0_total 12 = .ok (.iload_n 2, 1) := by decide +kernel
theorem dX0_total_13 : decode cX0_total 13 = .ok (.aload_n 0, 1) := by decide +kernel
theorem dX0_total_14 : decode cX0_total 14 = .ok (.getfield 11, 3) := by decide +kernel
theorem dX0_total_17 : decode cX0_total 17 = .ok (.iload_n 3, 1) := by decide +kernel
theorem dX0_total_18 : decode cX0_total 18 = .ok (.aaload, 1) := by decide +kernel
theorem dX0_total_19 : decode cX0_total 19 = .ok (.iload_n 1, 1) := by decide +kernel
theorem dX0_total_20 : decode cX0_total 20 = .ok (.iaload, 1) := by decide +kernel
theorem dX0_total_21 : decode cX0_total 21 = .ok (.iadd, 1) := by decide +kernel
theorem dX0_total_22 : decode cX0_total 22 = .ok (.istore_n 2, 1) := by decide +kernel
theorem dX0_total_23 : decode cX0_total 23 = .ok (.iinc 3 1, 3) := by decide +kernel
theorem dX0_total_26 : decode cX0_total 26 = .ok (.goto (-22), 3) := by decide +kernel
theorem dX0_total_29 : decode cX0_total 29 = .ok (.iload_n 2, 1) := by decide +kernel
theorem dX0_total_30 : decode cX0_total 30 = .ok (.ireturn, 1) := by decide +kernel
theorem dX0_addToLine_0 : decode cX0_addToLine 0 = .ok (.aload_n 0, 1) := by decide +kernel
theorem dX0_addToLine_1 : decode cX0_addToLine 1 = .ok (.getfield 24, 3) := by decide +kernel
theorem dX0_addToLine_4 : decode cX0_addToLine 4 = .ok (.sipush 200, 3) := by decide +kernel
theorem dX0_addToLine_7 : decode cX0_addToLine 7 = .ok (.if_icmp .lt 4, 3) := by decide +kernel
theorem dX0_addToLine_10 : decode cX0_addToLine 10 = .ok (.return_, 1) := by decide +kernel
theorem dX0_addToLine_11 : decode cX0_addToLine 11 = .ok (.aload_n 0, 1) := by decide +kernel
theorem dX0_addToLine_12 : decode cX0_addToLine 12 = .ok (.getfield 24, 3) := by decide +kernel
theorem dX0_addToLine_15 : decode cX0_addToLine 15 = .ok (.istore_n 2, 1) := by decide +kernel
theorem dX0_addToLine_16 : decode cX0_addToLine 16 = .ok (.iload_n 2, 1) := by decide +kernel
theorem dX0_addToLine_17 : decode cX0_addToLine 17 = .ok (.ifCond .le 49, 3) := by decide +kernel
theorem dX0_addToLine_20 : decode cX0_addToLine 20 = .ok (.aload_n 0, 1) := by decide +kernel
theorem dX0_addToLine_21 : decode cX0_addToLine 21 = .ok (.getfield 11, 3) := by decide +kernel
theorem dX0_addToLine_24 : decode cX0_addToLine 24 = .ok (.aload_n 0, 1) := by decide +kernel
theorem dX0_addToLine_25 : decode cX0_addToLine 25 = .ok (.getfield 20, 3) := by decide +kernel
theorem dX0_addToLine_28 : decode cX0_addToLine 28 = .ok (.iload_n 2, 1) := by decide +kernel
theorem dX0_addToLine_29 : decode cX0_addToLine 29 = .ok (.iconst 1, 1) := by decide +kernel
theorem dX0_addToLine_30 : decode cX0_addToLine 30 = .ok (.isub, 1) := by decide +kernel
theorem dX0_addToLine_31 : decode cX0_addToLine 31 = .ok (.iaload, 1) := by decide +kernel
theorem dX0_addToLine_32 : decode cX0_addToLine 32 = .ok (.aaload, 1) := by decide +kernel
theorem dX0_addToLine_33 : decode cX0_addToLine 33 = .ok (.iconst 3, 1) := by decide +kernel
theorem dX0_addToLine_34 : decode cX0_addToLine 34 = .ok (.iaload, 1) := by decide +kernel
theorem dX0_addToLine_35 : decode cX0_addToLine 35 = .ok (.aload_n 0, 1) := by decide +kernel
theorem dX0_addToLine_36 : decode cX0_addToLine 36 = .ok (.getfield 11, 3) := by decide +kernel
theorem dX0_addToLine_39 : decode cX0_addToLine 39 = .ok (.iload_n 1, 1) := by decide +kernel
theorem dX0_addToLine_40 : decode cX0_addToLine 40 = .ok (.aaload, 1) := by decide +kernel
theorem dX0_addToLine_41 : decode cX0_addToLine 41 = .ok (.iconst 3, 1) := by decide +kernel
theorem dX0_addToLine_42 : decode cX0_addToLine 42 = .ok (.iaload, 1) := by decide +kernel
theorem dX0_addToLine_43 : decode cX0_addToLine 43 = .ok (.if_icmp .le 23, 3) := by decide +kernel
theorem dX0_addToLine_46 : decode cX0_addToLine 46 = .ok (.aload_n 0, 1) := by decide +kernel
theorem dX0_addToLine_47 : decode cX0_addToLine 47 = .ok (.getfield 20, 3) := by decide +kernel
theorem dX0_addToLine_50 : decode cX0_addToLine 50 = .ok (.iload_n 2, 1) := by decide +kernel
theorem dX0_addToLine_51 : decode cX0_addToLine 51 = .ok (.aload_n 0, 1) := by decide +kernel
theorem dX0_addToLine_52 : decode cX0_addToLine 52 = .ok (.getfield 20, 3) := by decide +kernel
theorem dX0_addToLine_55 : decode cX0_addToLine 55 = .ok (.iload_n 2, 1) := by decide +kernel
theorem dX0_addToLine_56 : decode cX0_addToLine 56 = .ok (.iconst 1, 1) := by decide +kernel
theorem dX0_addToLine_57 : decode cX0_addToLine 57 = .ok (.isub, 1) := by decide +kernel
theorem dX0_addToLine_58 : decode cX0_addToLine 58 = .ok (.iaload, 1) := by decide +kernel
theorem dX0_addToLine_59 : decode cX0_addToLine 59 = .ok (.iastore, 1) := by decide +kernel
theorem dX0_addToLine_60 : decode cX0_addToLine 60 = .ok (.iinc 2 (-1), 3) := by decide +kernel
theorem dX0_addToLine_63 : decode cX0_addToLine 63 = .ok (.goto (-47), 3) := by decide +kernel
theorem dX0_addToLine_66 : decode cX0_addToLine 66 = .ok (.aload_n 0, 1) := by decide +kernel
theorem dX0_addToLine_67 : decode cX0_addToLine 67 = .ok (.getfield 20, 3) := by decide +kernel
theorem dX0_addToLine_70 : decode cX0_addToLine 70 = .ok (.iload_n 2, 1) := by decide +kernel
theorem dX0_addToLine_71 : decode cX0_addToLine 71 = .ok (.iload_n 1, 1) := by decide +kernel
theorem dX0_addToLine_72 : decode cX0_addToLine 72 = .ok (.iastore, 1) := by decide +kernel
theorem dX0_addToLine_73 : decode cX0_addToLine 73 = .ok (.aload_n 0, 1) := by decide +kernel
theorem dX0_addToLine_74 : decode cX0_addToLine 74 = .ok (.dup, 1) := by decide +kernel
theorem dX0_addToLine_75 : decode cX0_addToLine 75 = .ok (.getfield 24, 3) := by decide +kernel
theorem dX0_addToLine_78 : decode cX0_addToLine 78 = .ok (.iconst 1, 1) := by decide +kernel
theorem dX0_addToLine_79 : decode cX0_addToLine 79 = .ok (.iadd, 1) := by decide +kernel
theorem dX0_addToLine_80 : decode cX0_addToLine 80 = .ok (.putfield 24, 3) := by decide +kernel
theorem dX0_addToLine_83 : decode cX0_addToLine 83 = .ok (.return_, 1) := by decide +kernel
theorem dX0_takeFromLine_0 : decode cX0_takeFromLine 0 = .ok (.iconst 0, 1) := by decide +kernel
theorem dX0_takeFromLine_1 : decode cX0_takeFromLine 1 = .ok (.istore_n 3, 1) := by decide +kernel
theorem dX0_takeFromLine_2 : decode cX0_takeFromLine 2 = .ok (.iconst 0, 1) := by decide +kernel
theorem dX0_takeFromLine_3 : decode cX0_takeFromLine 3 = .ok (.istore 4, 2) := by decide +kernel
theorem dX0_takeFromLine_5 : decode cX0_takeFromLine 5 = .ok (.iload 4, 2) := by decide +kernel
theorem dX0_takeFromLine_7 : decode cX0_takeFromLine 7 = .ok (.aload_n 0, 1) := by decide +kernel
theorem dX0_takeFromLine_8 : decode cX0_takeFromLine 8 = .ok (.getfield 24, 3) := by decide +kernel
theorem dX0_takeFromLine_11 : decode cX0_takeFromLine 11 = .ok (.if_icmp .ge 55, 3) := by decide +kernel
theorem dX0_takeFromLine_14 : decode cX0_takeFromLine 14 = .ok (.iload_n 3, 1) := by decide +kernel
theorem dX0_takeFromLine_15 : decode cX0_takeFromLine 15 = .ok (.iload_n 1, 1) := by decide +kernel
theorem dX0_takeFromLine_16 : decode cX0_takeFromLine 16 = .ok (.if_icmp .ge 50, 3) := by decide +kernel
theorem dX0_takeFromLine_19 : decode cX0_takeFromLine 19 = .ok (.iload_n 1, 1) := by decide +kernel
theorem dX0_takeFromLine_20 : decode cX0_takeFromLine 20 = .ok (.iload_n 3, 1) := by decide +kernel
theorem dX0_takeFromLine_21 : decode cX0_takeFromLine 21 = .ok (.isub, 1) := by decide +kernel
theorem dX0_takeFromLine_22 : decode cX0_takeFromLine 22 = .ok (.aload_n 0, 1) := by decide +kernel
theorem dX0_takeFromLine_23 : decode cX0_takeFromLine 23 = .ok (.getfield 11, 3) := by decide +kernel
theorem dX0_takeFromLine_26 : decode cX0_takeFromLine 26 = .ok (.aload_n 0, 1) := by decide +kernel
theorem dX0_takeFromLine_27 : decode cX0_takeFromLine 27 = .ok (.getfield 20, 3) := by decide +kernel
theorem dX0_takeFromLine_30 : decode cX0_takeFromLine 30 = .ok (.iload 4, 2) := by decide +kernel
theorem dX0_takeFromLine_32 : decode cX0_takeFromLine 32 = .ok (.iaload, 1) := by decide +kernel
theorem dX0_takeFromLine_33 : decode cX0_takeFromLine 33 = .ok (.aaload, 1) := by decide +kernel
theorem dX0_takeFromLine_34 : decode cX0_takeFromLine 34 = .ok (.iconst 5, 1) := by decide +kernel
theorem dX0_takeFromLine_35 : decode cX0_takeFromLine 35 = .ok (.iaload, 1) := by decide +kernel
theorem dX0_takeFromLine_36 : decode cX0_takeFromLine 36 = .ok (.invokestatic 43, 3) := by decide +kernel
theorem dX0_takeFromLine_39 : decode cX0_takeFromLine 39 = .ok (.istore 5, 2) := by decide +kernel
theorem dX0_takeFromLine_41 : decode cX0_takeFromLine 41 = .ok (.aload_n 0, 1) := by decide +kernel
theorem dX0_takeFromLine_42 : decode cX0_takeFromLine 42 = .ok (.aload_n 0, 1) := by decide +kernel
theorem dX0_takeFromLine_43 : decode cX0_takeFromLine 43 = .ok (.getfield 20, 3) := by decide +kernel
theorem dX0_takeFromLine_46 : decode cX0_takeFromLine 46 = .ok (.iload 4, 2) := by decide +kernel
theorem dX0_takeFromLine_48 : decode cX0_takeFromLine 48 = .ok (.iaload, 1) := by decide +kernel
theorem dX0_takeFromLine_49 : decode cX0_takeFromLine 49 = .ok (.iload 5, 2) := by decide +kernel
theorem dX0_takeFromLine_51 : decode cX0_takeFromLine 51 = .ok (.iload_n 2, 1) := by decide +kernel
theorem dX0_takeFromLine_52 : decode cX0_takeFromLine 52 = .ok (.invokevirtual 49, 3) := by decide +kernel
theorem dX0_takeFromLine_55 : decode cX0_takeFromLine 55 = .ok (.iload_n 3, 1) := by decide +kernel
theorem dX0_takeFromLine_56 : decode cX0_takeFromLine 56 = .ok (.iload 5, 2) := by decide +kernel
theorem dX0_takeFromLine_58 : decode cX0_takeFromLine 58 = .ok (.iadd, 1) := by decide +kernel
theorem dX0_takeFromLine_59 : decode cX0_takeFromLine 59 = .ok (.istore_n 3, 1) := by decide +kernel
theorem dX0_takeFromLine_60 : decode cX0_takeFromLine 60 = .ok (.iinc 4 1, 3) := by decide +kernel
theorem dX0_takeFromLine_63 : decode cX0_takeFromLine 63 = .ok (.goto (-58), 3) := by decide +kernel
theorem dX0_takeFromLine_66 : decode cX0_takeFromLine 66 = .ok (.iload_n 3, 1) := by decide +kernel
theorem dX0_takeFromLine_67 : decode cX0_takeFromLine 67 = .ok (.ireturn, 1) := by decide +kernel
theorem dX0_touchedBy_0 : decode cX0_touchedBy 0 = .ok (.iconst 0, 1) := by decide +kernel
theorem dX0_touchedBy_1 : decode cX0_touchedBy 1 = .ok (.istore_n 2, 1) := by decide +kernel
theorem dX0_touchedBy_2 : decode cX0_touchedBy 2 = .ok (.iconst 0, 1) := by decide +kernel
theorem dX0_touchedBy_3 : decode cX0_touchedBy 3 = .ok (.istore_n 3, 1) := by decide +kernel
theorem dX0_touchedBy_4 : decode cX0_touchedBy 4 = .ok (.iload_n 2, 1) := by decide +kernel
theorem dX0_touchedBy_5 : decode cX0_touchedBy 5 = .ok (.aload_n 0, 1) := by decide +kernel
theorem dX0_touchedBy_6 : decode cX0_touchedBy 6 = .ok (.getfield 24, 3) := by decide +kernel
theorem dX0_touchedBy_9 : decode cX0_touchedBy 9 = .ok (.if_icmp .ge 30, 3) := by decide +kernel
theorem dX0_touchedBy_12 : decode cX0_touchedBy 12 = .ok (.iload_n 3, 1) := by decide +kernel
theorem dX0_touchedBy_13 : decode cX0_touchedBy 13 = .ok (.iload_n 1, 1) := by decide +kernel
theorem dX0_touchedBy_14 : decode cX0_touchedBy 14 = .ok (.if_icmp .ge 25, 3) := by decide +kernel
theorem dX0_touchedBy_17 : decode cX0_touchedBy 17 = .ok (.iload_n 3, 1) := by decide +kernel
theorem dX0_touchedBy_18 : decode cX0_touchedBy 18 = .ok (.aload_n 0, 1) := by decide +kernel
theorem dX0_touchedBy_19 : decode cX0_touchedBy 19 = .ok (.getfield 11, 3) := by decide +kernel
theorem dX0_touchedBy_22 : decode cX0_touchedBy 22 = .ok (.aload_n 0, 1) := by decide +kernel
theorem dX0_touchedBy_23 : decode cX0_touchedBy 23 = .ok (.getfield 20, 3) := by decide +kernel
theorem dX0_touchedBy_26 : decode cX0_touchedBy 26 = .ok (.iload_n 2, 1) := by decide +kernel
theorem dX0_touchedBy_27 : decode cX0_touchedBy 27 = .ok (.iaload, 1) := by decide +kernel
theorem dX0_touchedBy_28 : decode cX0_touchedBy 28 = .ok (.aaload, 1) := by decide +kernel
theorem dX0_touchedBy_29 : decode cX0_touchedBy 29 = .ok (.iconst 5, 1) := by decide +kernel
theorem dX0_touchedBy_30 : decode cX0_touchedBy 30 = .ok (.iaload, 1) := by decide +kernel
theorem dX0_touchedBy_31 : decode cX0_touchedBy 31 = .ok (.iadd, 1) := by decide +kernel
theorem dX0_touchedBy_32 : decode cX0_touchedBy 32 = .ok (.istore_n 3, 1) := by decide +kernel
theorem dX0_touchedBy_33 : decode cX0_touchedBy 33 = .ok (.iinc 2 1, 3) := by decide +kernel
theorem dX0_touchedBy_36 : decode cX0_touchedBy 36 = .ok (.goto (-32), 3) := by decide +kernel
theorem dX0_touchedBy_39 : decode cX0_touchedBy 39 = .ok (.iload_n 2, 1) := by decide +kernel
theorem dX0_touchedBy_40 : decode cX0_touchedBy 40 = .ok (.ireturn, 1) := by decide +kernel
theorem dX0_moveFromLine_0 : decode cX0_moveFromLine 0 = .ok (.iconst 0, 1) := by decide +kernel
theorem dX0_moveFromLine_1 : decode cX0_moveFromLine 1 = .ok (.istore_n 3, 1) := by decide +kernel
theorem dX0_moveFromLine_2 : decode cX0_moveFromLine 2 = .ok (.iconst 0, 1) := by decide +kernel
theorem dX0_moveFromLine_3 : decode cX0_moveFromLine 3 = .ok (.istore 4, 2) := by decide +kernel
theorem dX0_moveFromLine_5 : decode cX0_moveFromLine 5 = .ok (.iload 4, 2) := by decide +kernel
theorem dX0_moveFromLine_7 : decode cX0_moveFromLine 7 = .ok (.aload_n 0, 1) := by decide +kernel
theorem dX0_moveFromLine_8 : decode cX0_moveFromLine 8 = .ok (.getfield 24, 3) := by decide +kernel
theorem dX0_moveFromLine_11 : decode cX0_moveFromLine 11 = .ok (.if_icmp .ge 124, 3) := by decide +kernel
theorem dX0_moveFromLine_14 : decode cX0_moveFromLine 14 = .ok (.iload_n 3, 1) := by decide +kernel
theorem dX0_moveFromLine_15 : decode cX0_moveFromLine 15 = .ok (.iload_n 1, 1) := by decide +kernel
theorem dX0_moveFromLine_16 : decode cX0_moveFromLine 16 = .ok (.if_icmp .ge 119, 3) := by decide +kernel
theorem dX0_moveFromLine_19 : decode cX0_moveFromLine 19 = .ok (.aload_n 0, 1) := by decide +kernel
theorem dX0_moveFromLine_20 : decode cX0_moveFromLine 20 = .ok (.getfield 11, 3) := by decide +kernel
theorem dX0_moveFromLine_23 : decode cX0_moveFromLine 23 = .ok (.aload_n 0, 1) := by decide +kernel
theorem dX0_moveFromLine_24 : decode cX0_moveFromLine 24 = .ok (.getfield 20, 3) := by decide +kernel
theorem dX0_moveFromLine_27 : decode cX0_moveFromLine 27 = .ok (.iload 4, 2) := by decide +kernel
theorem dX0_moveFromLine_29 : decode cX0_moveFromLine 29 = .ok (.iaload, 1) := by decide +kernel
theorem dX0_moveFromLine_30 : decode cX0_moveFromLine 30 = .ok (.aaload, 1) := by decide +kernel
theorem dX0_moveFromLine_31 : decode cX0_moveFromLine 31 = .ok (.astore 5, 2) := by decide +kernel
theorem dX0_moveFromLine_33 : decode cX0_moveFromLine 33 = .ok (.iload_n 1, 1) := by decide +kernel
theorem dX0_moveFromLine_34 : decode cX0_moveFromLine 34 = .ok (.iload_n 3, 1) := by decide +kernel
theorem dX0_moveFromLine_35 : decode cX0_moveFromLine 35 = .ok (.isub, 1) := by decide +kernel
theorem dX0_moveFromLine_36 : decode cX0_moveFromLine 36 = .ok (.aload 5, 2) := by decide +kernel
theorem dX0_moveFromLine_38 : decode cX0_moveFromLine 38 = .ok (.iconst 5, 1) := by decide +kernel
theorem dX0_moveFromLine_39 : decode cX0_moveFromLine 39 = .ok (.iaload, 1) := by decide +kernel
theorem dX0_moveFromLine_40 : decode cX0_moveFromLine 40 = .ok (.invokestatic 43, 3) := by decide +kernel
theorem dX0_moveFromLine_43 : decode cX0_moveFromLine 43 = .ok (.istore 6, 2) := by decide +kernel
theorem dX0_moveFromLine_45 : decode cX0_moveFromLine 45 = .ok (.aload_n 0, 1) := by decide +kernel
theorem dX0_moveFromLine_46 : decode cX0_moveFromLine 46 = .ok (.iload_n 2, 1) := by decide +kernel
theorem dX0_moveFromLine_47 : decode cX0_moveFromLine 47 = .ok (.aload 5, 2) := by decide +kernel
theorem dX0_moveFromLine_49 : decode cX0_moveFromLine 49 = .ok (.iconst 1, 1) := by decide +kernel
theorem dX0_moveFromLine_50 : decode cX0_moveFromLine 50 = .ok (.iaload, 1) := by decide +kernel
theorem dX0_moveFromLine_51 : decode cX0_moveFromLine 51 = .ok (.bipush 100, 2) := by decide +kernel
theorem dX0_moveFromLine_53 : decode cX0_moveFromLine 53 = .ok (.imul, 1) := by decide +kernel
theorem dX0_moveFromLine_54 : decode cX0_moveFromLine 54 = .ok (.aload 5, 2) := by decide +kernel
theorem dX0_moveFromLine_56 : decode cX0_moveFromLine 56 = .ok (.iconst 2, 1) := by decide +kernel
theorem dX0_moveFromLine_57 : decode cX0_moveFromLine 57 = .ok (.iaload, 1) := by decide +kernel
theorem dX0_moveFromLine_58 : decode cX0_moveFromLine 58 = .ok (.iadd, 1) := by decide +kernel
theorem dX0_moveFromLine_59 : decode cX0_moveFromLine 59 = .ok (.aload 5, 2) := by decide +kernel
theorem dX0_moveFromLine_61 : decode cX0_moveFromLine 61 = .ok (.iconst 3, 1) := by decide +kernel
theorem dX0_moveFromLine_62 : decode cX0_moveFromLine 62 = .ok (.iaload, 1) := by decide +kernel
theorem dX0_moveFromLine_63 : decode cX0_moveFromLine 63 = .ok (.iload 6, 2) := by decide +kernel
theorem dX0_moveFromLine_65 : decode cX0_moveFromLine 65 = .ok (.invokevirtual 53, 3) := by decide +kernel
theorem dX0_moveFromLine_68 : decode cX0_moveFromLine 68 = .ok (.istore 7, 2) := by decide +kernel
theorem dX0_moveFromLine_70 : decode cX0_moveFromLine 70 = .ok (.iload 7, 2) := by decide +kernel
theorem dX0_moveFromLine_72 : decode cX0_moveFromLine 72 = .ok (.ifCond .ge 5, 3) := by decide +kernel
theorem dX0_moveFromLine_75 : decode cX0_moveFromLine 75 = .ok (.iload_n 3, 1) := by decide +kernel
theorem dX0_moveFromLine_76 : decode cX0_moveFromLine 76 = .ok (.ireturn, 1) := by decide +kernel
theorem dX0_moveFromLine_77 : decode cX0_moveFromLine 77 = .ok (.aload_n 0, 1) := by decide +kernel
theorem dX0_moveFromLine_78 : decode cX0_moveFromLine 78 = .ok (.getfield 11, 3) := by decide +kernel
theorem dX0_moveFromLine_81 : decode cX0_moveFromLine 81 = .ok (.iload 7, 2) := by decide +kernel
theorem dX0_moveFromLine_83 : decode cX0_moveFromLine 83 = .ok (.aaload, 1) := by decide +kernel
theorem dX0_moveFromLine_84 : decode cX0_moveFromLine 84 = .ok (.bipush 11, 2) := by decide +kernel
theorem dX0_moveFromLine_86 : decode cX0_moveFromLine 86 = .ok (.aload_n 0, 1) := by decide +kernel
theorem dX0_moveFromLine_87 : decode cX0_moveFromLine 87 = .ok (.getfield 20, 3) := by decide +kernel
theorem dX0_moveFromLine_90 : decode cX0_moveFromLine 90 = .ok (.iload 4, 2) := by decide +kernel
theorem dX0_moveFromLine_92 : decode cX0_moveFromLine 92 = .ok (.iaload, 1) := by decide +kernel
theorem dX0_moveFromLine_93 : decode cX0_moveFromLine 93 = .ok (.iastore, 1) := by decide +kernel
theorem dX0_moveFromLine_94 : decode cX0_moveFromLine 94 = .ok (.aload_n 0, 1) := by decide +kernel
theorem dX0_moveFromLine_95 : decode cX0_moveFromLine 95 = .ok (.getfield 11, 3) := by decide +kernel
theorem dX0_moveFromLine_98 : decode cX0_moveFromLine 98 = .ok (.iload 7, 2) := by decide +kernel
theorem dX0_moveFromLine_100 : decode cX0_moveFromLine 100 = .ok (.aaload, 1) := by decide +kernel
theorem dX0_moveFromLine_101 : decode cX0_moveFromLine 101 = .ok (.bipush 12, 2) := by decide +kernel
theorem dX0_moveFromLine_103 : decode cX0_moveFromLine 103 = .ok (.aload 5, 2) := by decide +kernel
theorem dX0_moveFromLine_105 : decode cX0_moveFromLine 105 = .ok (.bipush 12, 2) := by decide +kernel
theorem dX0_moveFromLine_107 : decode cX0_moveFromLine 107 = .ok (.iaload, 1) := by decide +kernel
theorem dX0_moveFromLine_108 : decode cX0_moveFromLine 108 = .ok (.iastore, 1) := by decide +kernel
theorem dX0_moveFromLine_109 : decode cX0_moveFromLine 109 = .ok (.aload_n 0, 1) := by decide +kernel
theorem dX0_moveFromLine_110 : decode cX0_moveFromLine 110 = .ok (.aload_n 0, 1) := by decide +kernel
theorem dX0_moveFromLine_111 : decode cX0_moveFromLine 111 = .ok (.getfield 20, 3) := by decide +kernel
theorem dX0_moveFromLine_114 : decode cX0_moveFromLine 114 = .ok (.iload 4, 2) := by decide +kernel
theorem dX0_moveFromLine_116 : decode cX0_moveFromLine 116 = .ok (.iaload, 1) := by decide +kernel
theorem dX0_moveFromLine_117 : decode cX0_moveFromLine 117 = .ok (.iload 6, 2) := by decide +kernel
theorem dX0_moveFromLine_119 : decode cX0_moveFromLine 119 = .ok (.bipush 7, 2) := by decide +kernel
theorem dX0_moveFromLine_121 : decode cX0_moveFromLine 121 = .ok (.invokevirtual 49, 3) := by decide +kernel
theorem dX0_moveFromLine_124 : decode cX0_moveFromLine 124 = .ok (.iload_n 3, 1) := by decide +kernel
theorem dX0_moveFromLine_125 : decode cX0_moveFromLine 125 = .ok (.iload 6, 2) := by decide +kernel
theorem dX0_moveFromLine_127 : decode cX0_moveFromLine 127 = .ok (.iadd, 1) := by decide +kernel
theorem dX0_moveFromLine_128 : decode cX0_moveFromLine 128 = .ok (.istore_n 3, 1) := by decide +kernel
theorem dX0_moveFromLine_129 : decode cX0_moveFromLine 129 = .ok (.iinc 4 1, 3) := by decide +kernel
theorem dX0_moveFromLine_132 : decode cX0_moveFromLine 132 = .ok (.goto (-127), 3) := by decide +kernel
theorem dX0_moveFromLine_135 : decode cX0_moveFromLine 135 = .ok (.iload_n 3, 1) := by decide +kernel
theorem dX0_moveFromLine_136 : decode cX0_moveFromLine 136 = .ok (.ireturn, 1) := by decide +kernel
theorem dX0_noteSpoiled_0 : decode cX0_noteSpoiled 0 = .ok (.aload_n 0, 1) := by decide +kernel
theorem dX0_noteSpoiled_1 : decode cX0_noteSpoiled 1 = .ok (.getfield 36, 3) := by decide +kernel
theorem dX0_noteSpoiled_4 : decode cX0_noteSpoiled 4 = .ok (.sipush 400, 3) := by decide +kernel
theorem dX0_noteSpoiled_7 : decode cX0_noteSpoiled 7 = .ok (.if_icmp .lt 4, 3) := by decide +kernel
theorem dX0_noteSpoiled_10 : decode cX0_noteSpoiled 10 = .ok (.return_, 1) := by decide +kernel
theorem dX0_noteSpoiled_11 : decode cX0_noteSpoiled 11 = .ok (.aload_n 0, 1) := by decide +kernel
theorem dX0_noteSpoiled_12 : decode cX0_noteSpoiled 12 = .ok (.getfield 11, 3) := by decide +kernel
theorem dX0_noteSpoiled_15 : decode cX0_noteSpoiled 15 = .ok (.iload_n 1, 1) := by decide +kernel
theorem dX0_noteSpoiled_16 : decode cX0_noteSpoiled 16 = .ok (.aaload, 1) := by decide +kernel
theorem dX0_noteSpoiled_17 : decode cX0_noteSpoiled 17 = .ok (.bipush 10, 2) := by decide +kernel
theorem dX0_noteSpoiled_19 : decode cX0_noteSpoiled 19 = .ok (.dup2, 1) := by decide +kernel
theorem dX0_noteSpoiled_20 : decode cX0_noteSpoiled 20 = .ok (.iaload, 1) := by decide +kernel
theorem dX0_noteSpoiled_21 : decode cX0_noteSpoiled 21 = .ok (.iload_n 2, 1) := by decide +kernel
theorem dX0_noteSpoiled_22 : decode cX0_noteSpoiled 22 = .ok (.iadd, 1) := by decide +kernel
theorem dX0_noteSpoiled_23 : decode cX0_noteSpoiled 23 = .ok (.iastore, 1) := by decide +kernel
theorem dX0_noteSpoiled_24 : decode cX0_noteSpoiled 24 = .ok (.aload_n 0, 1) := by decide +kernel
theorem dX0_noteSpoiled_25 : decode cX0_noteSpoiled 25 = .ok (.getfield 27, 3) := by decide +kernel
theorem dX0_noteSpoiled_28 : decode cX0_noteSpoiled 28 = .ok (.aload_n 0, 1) := by decide +kernel
theorem dX0_noteSpoiled_29 : decode cX0_noteSpoiled 29 = .ok (.getfield 36, 3) := by decide +kernel
theorem dX0_noteSpoiled_32 : decode cX0_noteSpoiled 32 = .ok (.aload_n 0, 1) := by decide +kernel
theorem dX0_noteSpoiled_33 : decode cX0_noteSpoiled 33 = .ok (.getfield 11, 3) := by decide +kernel
theorem dX0_noteSpoiled_36 : decode cX0_noteSpoiled 36 = .ok (.iload_n 1, 1) := by decide +kernel
theorem dX0_noteSpoiled_37 : decode cX0_noteSpoiled 37 = .ok (.aaload, 1) := by decide +kernel
theorem dX0_noteSpoiled_38 : decode cX0_noteSpoiled 38 = .ok (.iconst 1, 1) := by decide +kernel
theorem dX0_noteSpoiled_39 : decode cX0_noteSpoiled 39 = .ok (.iaload, 1) := by decide +kernel
theorem dX0_noteSpoiled_40 : decode cX0_noteSpoiled 40 = .ok (.bipush 100, 2) := by decide +kernel
theorem dX0_noteSpoiled_42 : decode cX0_noteSpoiled 42 = .ok (.imul, 1) := by decide +kernel
theorem dX0_noteSpoiled_43 : decode cX0_noteSpoiled 43 = .ok (.aload_n 0, 1) := by decide +kernel
theorem dX0_noteSpoiled_44 : decode cX0_noteSpoiled 44 = .ok (.getfield 11, 3) := by decide +kernel
theorem dX0_noteSpoiled_47 : decode cX0_noteSpoiled 47 = .ok (.iload_n 1, 1) := by decide +kernel
theorem dX0_noteSpoiled_48 : decode cX0_noteSpoiled 48 = .ok (.aaload, 1) := by decide +kernel
theorem dX0_noteSpoiled_49 : decode cX0_noteSpoiled 49 = .ok (.iconst 2, 1) := by decide +kernel
theorem dX0_noteSpoiled_50 : decode cX0_noteSpoiled 50 = .ok (.iaload, 1) := by decide +kernel
theorem dX0_noteSpoiled_51 : decode cX0_noteSpoiled 51 = .ok (.iadd, 1) := by decide +kernel
theorem dX0_noteSpoiled_52 : decode cX0_noteSpoiled 52 = .ok (.iastore, 1) := by decide +kernel
theorem dX0_noteSpoiled_53 : decode cX0_noteSpoiled 53 = .ok (.aload_n 0, 1) := by decide +kernel
theorem dX0_noteSpoiled_54 : decode cX0_noteSpoiled 54 = .ok (.getfield 30, 3) := by decide +kernel
theorem dX0_noteSpoiled_57 : decode cX0_noteSpoiled 57 = .ok (.aload_n 0, 1) := by decide +kernel
theorem dX0_noteSpoiled_58 : decode cX0_noteSpoiled 58 = .ok (.getfield 36, 3) := by decide +kernel
theorem dX0_noteSpoiled_61 : decode cX0_noteSpoiled 61 = .ok (.iload_n 2, 1) := by decide +kernel
theorem dX0_noteSpoiled_62 : decode cX0_noteSpoiled 62 = .ok (.iastore, 1) := by decide +kernel
theorem dX0_noteSpoiled_63 : decode cX0_noteSpoiled 63 = .ok (.aload_n 0, 1) := by decide +kernel
theorem dX0_noteSpoiled_64 : decode cX0_noteSpoiled 64 = .ok (.getfield 33, 3) := by decide +kernel
theorem dX0_noteSpoiled_67 : decode cX0_noteSpoiled 67 = .ok (.aload_n 0, 1) := by decide +kernel
theorem dX0_noteSpoiled_68 : decode cX0_noteSpoiled 68 = .ok (.getfield 36, 3) := by decide +kernel
theorem dX0_noteSpoiled_71 : decode cX0_noteSpoiled 71 = .ok (.iload_n 3, 1) := by decide +kernel
theorem dX0_noteSpoiled_72 : decode cX0_noteSpoiled 72 = .ok (.iastore, 1) := by decide +kernel
theorem dX0_noteSpoiled_73 : decode cX0_noteSpoiled 73 = .ok (.aload_n 0, 1) := by decide +kernel
theorem dX0_noteSpoiled_74 : decode cX0_noteSpoiled 74 = .ok (.dup, 1) := by decide +kernel
theorem dX0_noteSpoiled_75 : decode cX0_noteSpoiled 75 = .ok (.getfield 36, 3) := by decide +kernel
theorem dX0_noteSpoiled_78 : decode cX0_noteSpoiled 78 = .ok (.iconst 1, 1) := by decide +kernel
theorem dX0_noteSpoiled_79 : decode cX0_noteSpoiled 79 = .ok (.iadd, 1) := by decide +kernel
theorem dX0_noteSpoiled_80 : decode cX0_noteSpoiled 80 = .ok (.putfield 36, 3) := by decide +kernel
theorem dX0_noteSpoiled_83 : decode cX0_noteSpoiled 83 = .ok (.return_, 1) := by decide +kernel
theorem dX0_cameBy_0 : decode cX0_cameBy 0 = .ok (.iconst 0, 1) := by decide +kernel
theorem dX0_cameBy_1 : decode cX0_cameBy 1 = .ok (.istore_n 3, 1) := by decide +kernel
theorem dX0_cameBy_2 : decode cX0_cameBy 2 = .ok (.iconst 0, 1) := by decide +kernel
theorem dX0_cameBy_3 : decode cX0_cameBy 3 = .ok (.istore 4, 2) := by decide +kernel
theorem dX0_cameBy_5 : decode cX0_cameBy 5 = .ok (.iload 4, 2) := by decide +kernel
theorem dX0_cameBy_7 : decode cX0_cameBy 7 = .ok (.aload_n 0, 1) := by decide +kernel
theorem dX0_cameBy_8 : decode cX0_cameBy 8 = .ok (.getfield 16, 3) := by decide +kernel
theorem dX0_cameBy_11 : decode cX0_cameBy 11 = .ok (.if_icmp .ge 70, 3) := by decide +kernel
theorem dX0_cameBy_14 : decode cX0_cameBy 14 = .ok (.aload_n 0, 1) := by decide +kernel
theorem dX0_cameBy_15 : decode cX0_cameBy 15 = .ok (.getfield 11, 3) := by decide +kernel
theorem dX0_cameBy_18 : decode cX0_cameBy 18 = .ok (.iload 4, 2) := by decide +kernel
theorem dX0_cameBy_20 : decode cX0_cameBy 20 = .ok (.aaload, 1) := by decide +kernel
theorem dX0_cameBy_21 : decode cX0_cameBy 21 = .ok (.astore 5, 2) := by decide +kernel
theorem dX0_cameBy_23 : decode cX0_cameBy 23 = .ok (.aload 5, 2) := by decide +kernel
theorem dX0_cameBy_25 : decode cX0_cameBy 25 = .ok (.bipush 11, 2) := by decide +kernel
theorem dX0_cameBy_27 : decode cX0_cameBy 27 = .ok (.iaload, 1) := by decide +kernel
theorem dX0_cameBy_28 : decode cX0_cameBy 28 = .ok (.ifCond .ge 16, 3) := by decide +kernel
theorem dX0_cameBy_31 : decode cX0_cameBy 31 = .ok (.aload 5, 2) := by decide +kernel
theorem dX0_cameBy_33 : decode cX0_cameBy 33 = .ok (.bipush 13, 2) := by decide +kernel
theorem dX0_cameBy_35 : decode cX0_cameBy 35 = .ok (.iaload, 1) := by decide +kernel
theorem dX0_cameBy_36 : decode cX0_cameBy 36 = .ok (.iload_n 2, 1) := by decide +kernel
theorem dX0_cameBy_37 : decode cX0_cameBy 37 = .ok (.if_icmp .gt 7, 3) := by decide +kernel
theorem dX0_cameBy_40 : decode cX0_cameBy 40 = .ok (.iconst 1, 1) := by decide +kernel
theorem dX0_cameBy_41 : decode cX0_cameBy 41 = .ok (.goto 4, 3) := by decide +kernel
theorem dX0_cameBy_44 : decode cX0_cameBy 44 = .ok (.iconst 0, 1) := by decide +kernel
theorem dX0_cameBy_45 : decode cX0_cameBy 45 = .ok (.istore 6, 2) := by decide +kernel
theorem dX0_cameBy_47 : decode cX0_cameBy 47 = .ok (.iload 6, 2) := by decide +kernel
theorem dX0_cameBy_49 : decode cX0_cameBy 49 = .ok (.ifCond .eq 26, 3) := by decide +kernel
theorem dX0_cameBy_52 : decode cX0_cameBy 52 = .ok (.aload 5, 2) := by decide +kernel
theorem dX0_cameBy_54 : decode cX0_cameBy 54 = .ok (.iconst 1, 1) := by decide +kernel
theorem dX0_cameBy_55 : decode cX0_cameBy 55 = .ok (.iaload, 1) := by decide +kernel
theorem dX0_cameBy_56 : decode cX0_cameBy 56 = .ok (.bipush 100, 2) := by decide +kernel
theorem dX0_cameBy_58 : decode cX0_cameBy 58 = .ok (.imul, 1) := by decide +kernel
theorem dX0_cameBy_59 : decode cX0_cameBy 59 = .ok (.aload 5, 2) := by decide +kernel
theorem dX0_cameBy_61 : decode cX0_cameBy 61 = .ok (.iconst 2, 1) := by decide +kernel
theorem dX0_cameBy_62 : decode cX0_cameBy 62 = .ok (.iaload, 1) := by decide +kernel
theorem dX0_cameBy_63 : decode cX0_cameBy 63 = .ok (.iadd, 1) := by decide +kernel
theorem dX0_cameBy_64 : decode cX0_cameBy 64 = .ok (.iload_n 1, 1) := by decide +kernel
theorem dX0_cameBy_65 : decode cX0_cameBy 65 = .ok (.if_icmp .ne 10, 3) := by decide +kernel
theorem dX0_cameBy_68 : decode cX0_cameBy 68 = .ok (.iload_n 3, 1) := by decide +kernel
theorem dX0_cameBy_69 : decode cX0_cameBy 69 = .ok (.aload 5, 2) := by decide +kernel
theorem dX0_cameBy_71 : decode cX0_cameBy 71 = .ok (.iconst 4, 1) := by decide +kernel
theorem dX0_cameBy_72 : decode cX0_cameBy 72 = .ok (.iaload, 1) := by decide +kernel
theorem dX0_cameBy_73 : decode cX0_cameBy 73 = .ok (.iadd, 1) := by decide +kernel
theorem dX0_cameBy_74 : decode cX0_cameBy 74 = .ok (.istore_n 3, 1) := by decide +kernel
theorem dX0_cameBy_75 : decode cX0_cameBy 75 = .ok (.iinc 4 1, 3) := by decide +kernel
theorem dX0_cameBy_78 : decode cX0_cameBy 78 = .ok (.goto (-73), 3) := by decide +kernel
theorem dX0_cameBy_81 : decode cX0_cameBy 81 = .ok (.iload_n 3, 1) := by decide +kernel
theorem dX0_cameBy_82 : decode cX0_cameBy 82 = .ok (.ireturn, 1) := by decide +kernel
theorem dX0_spoiledBy_0 : decode cX0_spoiledBy 0 = .ok (.iconst 0, 1) := by decide +kernel
theorem dX0_spoiledBy_1 : decode cX0_spoiledBy 1 = .ok (.istore_n 3, 1) := by decide +kernel
theorem dX0_spoiledBy_2 : decode cX0_spoiledBy 2 = .ok (.iconst 0, 1) := by decide +kernel
theorem dX0_spoiledBy_3 : decode cX0_spoiledBy 3 = .ok (.istore 4, 2) := by decide +kernel
theorem dX0_spoiledBy_5 : decode cX0_spoiledBy 5 = .ok (.iload 4, 2) := by decide +kernel
theorem dX0_spoiledBy_7 : decode cX0_spoiledBy 7 = .ok (.aload_n 0, 1) := by decide +kernel
theorem dX0_spoiledBy_8 : decode cX0_spoiledBy 8 = .ok (.getfield 36, 3) := by decide +kernel
theorem dX0_spoiledBy_11 : decode cX0_spoiledBy 11 = .ok (.if_icmp .ge 41, 3) := by decide +kernel
theorem dX0_spoiledBy_14 : decode cX0_spoiledBy 14 = .ok (.aload_n 0, 1) := by decide +kernel
theorem dX0_spoiledBy_15 : decode cX0_spoiledBy 15 = .ok (.getfield 27, 3) := by decide +kernel
theorem dX0_spoiledBy_18 : decode cX0_spoiledBy 18 = .ok (.iload 4, 2) := by decide +kernel
theorem dX0_spoiledBy_20 : decode cX0_spoiledBy 20 = .ok (.iaload, 1) := by decide +kernel
theorem dX0_spoiledBy_21 : decode cX0_spoiledBy 21 = .ok (.iload_n 1, 1) := by decide +kernel
theorem dX0_spoiledBy_22 : decode cX0_spoiledBy 22 = .ok (.if_icmp .ne 24, 3) := by decide +kernel
theorem dX0_spoiledBy_25 : decode cX0_spoiledBy 25 = .ok (.aload_n 0, 1) := by decide +kernel
theorem dX0_spoiledBy_26 : decode cX0_spoiledBy 26 = .ok (.getfield 33, 3) := by decide +kernel
theorem dX0_spoiledBy_29 : decode cX0_spoiledBy 29 = .ok (.iload 4, 2) := by decide +kernel
theorem dX0_spoiledBy_31 : decode cX0_spoiledBy 31 = .ok (.iaload, 1) := by decide +kernel
theorem dX0_spoiledBy_32 : decode cX0_spoiledBy 32 = .ok (.iload_n 2, 1) := by decide +kernel
theorem dX0_spoiledBy_33 : decode cX0_spoiledBy 33 = .ok (.if_icmp .gt 13, 3) := by decide +kernel
theorem dX0_spoiledBy_36 : decode cX0_spoiledBy 36 = .ok (.iload_n 3, 1) := by decide +kernel
theorem dX0_spoiledBy_37 : decode cX0_spoiledBy 37 = .ok (.aload_n 0, 1) := by decide +kernel
theorem dX0_spoiledBy_38 : decode cX0_spoiledBy 38 = .ok (.getfield 30, 3) := by decide +kernel
theorem dX0_spoiledBy_41 : decode cX0_spoiledBy 41 = .ok (.iload 4, 2) := by decide +kernel
theorem dX0_spoiledBy_43 : decode cX0_spoiledBy 43 = .ok (.iaload, 1) := by decide +kernel
theorem dX0_spoiledBy_44 : decode cX0_spoiledBy 44 = .ok (.iadd, 1) := by decide +kernel
theorem dX0_spoiledBy_45 : decode cX0_spoiledBy 45 = .ok (.istore_n 3, 1) := by decide +kernel
theorem dX0_spoiledBy_46 : decode cX0_spoiledBy 46 = .ok (.iinc 4 1, 3) := by decide +kernel
theorem dX0_spoiledBy_49 : decode cX0_spoiledBy 49 = .ok (.goto (-44), 3) := by decide +kernel
theorem dX0_spoiledBy_52 : decode cX0_spoiledBy 52 = .ok (.iload_n 3, 1) := by decide +kernel
theorem dX0_spoiledBy_53 : decode cX0_spoiledBy 53 = .ok (.ireturn, 1) := by decide +kernel
theorem dX0_isBadLot_0 : decode cX0_isBadLot 0 = .ok (.aload_n 0, 1) := by decide +kernel
theorem dX0_isBadLot_1 : decode cX0_isBadLot 1 = .ok (.iload_n 1, 1) := by decide +kernel
theorem dX0_isBadLot_2 : decode cX0_isBadLot 2 = .ok (.iload_n 2, 1) := by decide +kernel
theorem dX0_isBadLot_3 : decode cX0_isBadLot 3 = .ok (.invokevirtual 57, 3) := by decide +kernel
theorem dX0_isBadLot_6 : decode cX0_isBadLot 6 = .ok (.istore_n 3, 1) := by decide +kernel
theorem dX0_isBadLot_7 : decode cX0_isBadLot 7 = .ok (.iload_n 3, 1) := by decide +kernel
theorem dX0_isBadLot_8 : decode cX0_isBadLot 8 = .ok (.iconst 3, 1) := by decide +kernel
theorem dX0_isBadLot_9 : decode cX0_isBadLot 9 = .ok (.if_icmp .lt 20, 3) := by decide +kernel
theorem dX0_isBadLot_12 : decode cX0_isBadLot 12 = .ok (.iload_n 3, 1) := by decide +kernel
theorem dX0_isBadLot_13 : decode cX0_isBadLot 13 = .ok (.bipush 10, 2) := by decide +kernel
theorem dX0_isBadLot_15 : decode cX0_isBadLot 15 = .ok (.imul, 1) := by decide +kernel
theorem dX0_isBadLot_16 : decode cX0_isBadLot 16 = .ok (.aload_n 0, 1) := by decide +kernel
theorem dX0_isBadLot_17 : decode cX0_isBadLot 17 = .ok (.iload_n 1, 1) := by decide +kernel
theorem dX0_isBadLot_18 : decode cX0_isBadLot 18 = .ok (.iload_n 2, 1) := by decide +kernel
theorem dX0_isBadLot_19 : decode cX0_isBadLot 19 = .ok (.invokevirtual 60, 3) := by decide +kernel
theorem dX0_isBadLot_22 : decode cX0_isBadLot 22 = .ok (.if_icmp .le 7, 3) := by decide +kernel
theorem dX0_isBadLot_25 : decode cX0_isBadLot 25 = .ok (.iconst 1, 1) := by decide +kernel
theorem dX0_isBadLot_26 : decode cX0_isBadLot 26 = .ok (.goto 4, 3) := by decide +kernel
theorem dX0_isBadLot_29 : decode cX0_isBadLot 29 = .ok (.iconst 0, 1) := by decide +kernel
theorem dX0_isBadLot_30 : decode cX0_isBadLot 30 = .ok (.ireturn, 1) := by decide +kernel
theorem dX0_badSince_0 : decode cX0_badSince 0 = .ok (.iconst (-1), 1) := by decide +kernel
theorem dX0_badSince_1 : decode cX0_badSince 1 = .ok (.istore_n 2, 1) := by decide +kernel
theorem dX0_badSince_2 : decode cX0_badSince 2 = .ok (.iconst 0, 1) := by decide +kernel
theorem dX0_badSince_3 : decode cX0_badSince 3 = .ok (.istore_n 3, 1) := by decide +kernel
theorem dX0_badSince_4 : decode cX0_badSince 4 = .ok (.iload_n 3, 1) := by decide +kernel
theorem dX0_badSince_5 : decode cX0_badSince 5 = .ok (.aload_n 0, 1) := by decide +kernel
theorem dX0_badSince_6 : decode cX0_badSince 6 = .ok (.getfield 36, 3) := by decide +kernel
theorem dX0_badSince_9 : decode cX0_badSince 9 = .ok (.if_icmp .ge 47, 3) := by decide +kernel
theorem dX0_badSince_12 : decode cX0_badSince 12 = .ok (.aload_n 0, 1) := by decide +kernel
theorem dX0_badSince_13 : decode cX0_badSince 13 = .ok (.getfield 27, 3) := by decide +kernel
theorem dX0_badSince_16 : decode cX0_badSince 16 = .ok (.iload_n 3, 1) := by decide +kernel
theorem dX0_badSince_17 : decode cX0_badSince 17 = .ok (.iaload, 1) := by decide +kernel
theorem dX0_badSince_18 : decode cX0_badSince 18 = .ok (.iload_n 1, 1) := by decide +kernel
theorem dX0_badSince_19 : decode cX0_badSince 19 = .ok (.if_icmp .ne 31, 3) := by decide +kernel
theorem dX0_badSince_22 : decode cX0_badSince 22 = .ok (.aload_n 0, 1) := by decide +kernel
theorem dX0_badSince_23 : decode cX0_badSince 23 = .ok (.getfield 33, 3) := by decide +kernel
theorem dX0_badSince_26 : decode cX0_badSince 26 = .ok (.iload_n 3, 1) := by decide +kernel
theorem dX0_badSince_27 : decode cX0_badSince 27 = .ok (.iaload, 1) := by decide +kernel
theorem dX0_badSince_28 : decode cX0_badSince 28 = .ok (.iload_n 2, 1) := by decide +kernel
theorem dX0_badSince_29 : decode cX0_badSince 29 = .ok (.if_icmp .le 21, 3) := by decide +kernel
theorem dX0_badSince_32 : decode cX0_badSince 32 = .ok (.aload_n 0, 1) := by decide +kernel
theorem dX0_badSince_33 : decode cX0_badSince 33 = .ok (.getfield 33, 3) := by decide +kernel
theorem dX0_badSince_36 : decode cX0_badSince 36 = .ok (.iload_n 3, 1) := by decide +kernel
theorem dX0_badSince_37 : decode cX0_badSince 37 = .ok (.iaload, 1) := by decide +kernel
theorem dX0_badSince_38 : decode cX0_badSince 38 = .ok (.istore_n 2, 1) := by decide +kernel
theorem dX0_badSince_39 : decode cX0_badSince 39 = .ok (.aload_n 0, 1) := by decide +kernel
theorem dX0_badSince_40 : decode cX0_badSince 40 = .ok (.iload_n 1, 1) := by decide +kernel
theorem dX0_badSince_41 : decode cX0_badSince 41 = .ok (.iload_n 2, 1) := by decide +kernel
theorem dX0_badSince_42 : decode cX0_badSince 42 = .ok (.invokevirtual 63, 3) := by decide +kernel
theorem dX0_badSince_45 : decode cX0_badSince 45 = .ok (.ifCond .eq 5, 3) := by decide +kernel
theorem dX0_badSince_48 : decode cX0_badSince 48 = .ok (.iload_n 2, 1) := by decide +kernel
theorem dX0_badSince_49 : decode cX0_badSince 49 = .ok (.ireturn, 1) := by decide +kernel
theorem dX0_badSince_50 : decode cX0_badSince 50 = .ok (.iinc 3 1, 3) := by decide +kernel
theorem dX0_badSince_53 : decode cX0_badSince 53 = .ok (.goto (-49), 3) := by decide +kernel
theorem dX0_badSince_56 : decode cX0_badSince 56 = .ok (.bipush (-2), 2) := by decide +kernel
theorem dX0_badSince_58 : decode cX0_badSince 58 = .ok (.ireturn, 1) := by decide +kernel
theorem dX1_init_0 : decode cX1_init 0 = .ok (.aload_n 0, 1) := by decide +kernel
theorem dX1_init_1 : decode cX1_init 1 = .ok (.invokespecial 3, 3) := by decide +kernel
theorem dX1_init_4 : decode cX1_init 4 = .ok (.aload_n 0, 1) := by decide +kernel
theorem dX1_init_5 : decode cX1_init 5 = .ok (.bipush 12, 2) := by decide +kernel
theorem dX1_init_7 : decode cX1_init 7 = .ok (.newarray .int, 2) := by decide +kernel
theorem dX1_init_9 : decode cX1_init 9 = .ok (.putfield 9, 3) := by decide +kernel
theorem dX1_init_12 : decode cX1_init 12 = .ok (.aload_n 0, 1) := by decide +kernel
theorem dX1_init_13 : decode cX1_init 13 = .ok (.bipush 12, 2) := by decide +kernel
theorem dX1_init_15 : decode cX1_init 15 = .ok (.newarray .int, 2) := by decide +kernel
theorem dX1_init_17 : decode cX1_init 17 = .ok (.putfield 15, 3) := by decide +kernel
theorem dX1_init_20 : decode cX1_init 20 = .ok (.aload_n 0, 1) := by decide +kernel
theorem dX1_init_21 : decode cX1_init 21 = .ok (.bipush 6, 2) := by decide +kernel
theorem dX1_init_23 : decode cX1_init 23 = .ok (.newarray .int, 2) := by decide +kernel
theorem dX1_init_25 : decode cX1_init 25 = .ok (.putfield 18, 3) := by decide +kernel
theorem dX1_init_28 : decode cX1_init 28 = .ok (.aload_n 0, 1) := by decide +kernel
theorem dX1_init_29 : decode cX1_init 29 = .ok (.bipush 6, 2) := by decide +kernel
theorem dX1_init_31 : decode cX1_init 31 = .ok (.newarray .int, 2) := by decide +kernel
theorem dX1_init_33 : decode cX1_init 33 = .ok (.putfield 21, 3) := by decide +kernel
theorem dX1_init_36 : decode cX1_init 36 = .ok (.aload_n 0, 1) := by decide +kernel
theorem dX1_init_37 : decode cX1_init 37 = .ok (.bipush 64, 2) := by decide +kernel
theorem dX1_init_39 : decode cX1_init 39 = .ok (.newarray .long, 2) := by decide +kernel
theorem dX1_init_41 : decode cX1_init 41 = .ok (.putfield 24, 3) := by decide +kernel
theorem dX1_init_44 : decode cX1_init 44 = .ok (.aload_n 0, 1) := by decide +kernel
theorem dX1_init_45 : decode cX1_init 45 = .ok (.iconst 0, 1) := by decide +kernel
theorem dX1_init_46 : decode cX1_init 46 = .ok (.putfield 28, 3) := by decide +kernel
theorem dX1_init_49 : decode cX1_init 49 = .ok (.return_, 1) := by decide +kernel
theorem dX1_allNeed_0 : decode cX1_allNeed 0 = .ok (.iconst 0, 1) := by decide +kernel
theorem dX1_allNeed_1 : decode cX1_allNeed 1 = .ok (.istore_n 1, 1) := by decide +kernel
theorem dX1_allNeed_2 : decode cX1_allNeed 2 = .ok (.iconst 0, 1) := by decide +kernel
theorem dX1_allNeed_3 : decode cX1_allNeed 3 = .ok (.istore_n 2, 1) := by decide +kernel
theorem dX1_allNeed_4 : decode cX1_allNeed 4 = .ok (.iload_n 2, 1) := by decide +kernel
theorem dX1_allNeed_5 : decode cX1_allNeed 5 = .ok (.bipush 12, 2) := by decide +kernel
theorem dX1_allNeed_7 : decode cX1_allNeed 7 = .ok (.if_icmp .ge 18, 3) := by decide +kernel
theorem dX1_allNeed_10 : decode cX1_allNeed 10 = .ok (.iload_n 1, 1) := by decide +kernel
theorem dX1_allNeed_11 : decode cX1_allNeed 11 = .ok (.aload_n 0, 1) := by decide +kernel
theorem dX1_allNeed_12 : decode cX1_allNeed 12 = .ok (.getfield 15, 3) := by decide +kernel
theorem dX1_allNeed_15 : decode cX1_allNeed 15 = .ok (.iload_n 2, 1) := by decide +kernel
theorem dX1_allNeed_16 : decode cX1_allNeed 16 = .ok (.iaload, 1) := by decide +kernel
theorem dX1_allNeed_17 : decode cX1_allNeed 17 = .ok (.iadd, 1) := by decide +kernel
theorem dX1_allNeed_18 : decode cX1_allNeed 18 = .ok (.istore_n 1, 1) := by decide +kernel
theorem dX1_allNeed_19 : decode cX1_allNeed 19 = .ok (.iinc 2 1, 3) := by decide +kernel
theorem dX1_allNeed_22 : decode cX1_allNeed 22 = .ok (.goto (-18), 3) := by decide +kernel
theorem dX1_allNeed_25 : decode cX1_allNeed 25 = .ok (.iload_n 1, 1) := by decide +kernel
theorem dX1_allNeed_26 : decode cX1_allNeed 26 = .ok (.ireturn, 1) := by decide +kernel
theorem dX1_search_0 : decode cX1_search 0 = .ok (.aload_n 0, 1) := by decide +kernel
theorem dX1_search_1 : decode cX1_search 1 = .ok (.invokevirtual 32, 3) := by decide +kernel
theorem dX1_search_4 : decode cX1_search 4 = .ok (.aload_n 0, 1) := by decide +kernel
theorem dX1_search_5 : decode cX1_search 5 = .ok (.getfield 24, 3) := by decide +kernel
theorem dX1_search_8 : decode cX1_search 8 = .ok (.ldc2_w 35, 3) := by decide +kernel
theorem dX1_search_11 : decode cX1_search 11 = .ok (.invokestatic 37, 3) := by decide +kernel
theorem dX1_search_14 : decode cX1_search 14 = .ok (.aload_n 0, 1) := by decide +kernel
theorem dX1_search_15 : decode cX1_search 15 = .ok (.getfield 24, 3) := by decide +kernel
theorem dX1_search_18 : decode cX1_search 18 = .ok (.iconst 0, 1) := by decide +kernel
theorem dX1_search_19 : decode cX1_search 19 = .ok (.lconst 0, 1) := by decide +kernel
theorem dX1_search_20 : decode cX1_search 20 = .ok (.lastore, 1) := by decide +kernel
theorem dX1_search_21 : decode cX1_search 21 = .ok (.iconst 0, 1) := by decide +kernel
theorem dX1_search_22 : decode cX1_search 22 = .ok (.istore_n 2, 1) := by decide +kernel
theorem dX1_search_23 : decode cX1_search 23 = .ok (.iload_n 2, 1) := by decide +kernel
theorem dX1_search_24 : decode cX1_search 24 = .ok (.aload_n 1, 1) := by decide +kernel
theorem dX1_search_25 : decode cX1_search 25 = .ok (.getfield 43, 3) := by decide +kernel
theorem dX1_search_28 : decode cX1_search 28 = .ok (.if_icmp .ge 33, 3) := by decide +kernel
theorem dX1_search_31 : decode cX1_search 31 = .ok (.iconst 0, 1) := by decide +kernel
theorem dX1_search_32 : decode cX1_search 32 = .ok (.istore_n 3, 1) := by decide +kernel
theorem dX1_search_33 : decode cX1_search 33 = .ok (.iload_n 3, 1) := by decide +kernel
theorem dX1_search_34 : decode cX1_search 34 = .ok (.aload_n 0, 1) := by decide +kernel
theorem dX1_search_35 : decode cX1_search 35 = .ok (.getfield 9, 3) := by decide +kernel
theorem dX1_search_38 : decode cX1_search 38 = .ok (.iload_n 2, 1) := by decide +kernel
theorem dX1_search_39 : decode cX1_search 39 = .ok (.iaload, 1) := by decide +kernel
theorem dX1_search_40 : decode cX1_search 40 = .ok (.if_icmp .ge 15, 3) := by decide +kernel
theorem dX1_search_43 : decode cX1_search 43 = .ok (.aload_n 0, 1) := by decide +kernel
theorem dX1_search_44 : decode cX1_search 44 = .ok (.iload_n 2, 1) := by decide +kernel
theorem dX1_search_45 : decode cX1_search 45 = .ok (.aload_n 1, 1) := by decide +kernel
theorem dX1_search_46 : decode cX1_search 46 = .ok (.invokevirtual 46, 3) := by decide +kernel
theorem dX1_search_49 : decode cX1_search 49 = .ok (.iinc 3 1, 3) := by decide +kernel
theorem dX1_search_52 : decode cX1_search 52 = .ok (.goto (-19), 3) := by decide +kernel
theorem dX1_search_55 : decode cX1_search 55 = .ok (.iinc 2 1, 3) := by decide +kernel
theorem dX1_search_58 : decode cX1_search 58 = .ok (.goto (-35), 3) := by decide +kernel
theorem dX1_search_61 : decode cX1_search 61 = .ok (.aload_n 0, 1) := by decide +kernel
theorem dX1_search_62 : decode cX1_search 62 = .ok (.invokevirtual 50, 3) := by decide +kernel
theorem dX1_search_65 : decode cX1_search 65 = .ok (.lstore_n 2, 1) := by decide +kernel
theorem dX1_search_66 : decode cX1_search 66 = .ok (.iconst 0, 1) := by decide +kernel
theorem dX1_search_67 : decode cX1_search 67 = .ok (.istore 4, 2) := by decide +kernel
theorem dX1_search_69 : decode cX1_search 69 = .ok (.iload 4, 2) := by decide +kernel
theorem dX1_search_71 : decode cX1_search 71 = .ok (.aload_n 0, 1) := by decide +kernel
theorem dX1_search_72 : decode cX1_search 72 = .ok (.getfield 28, 3) := by decide +kernel
theorem dX1_search_75 : decode cX1_search 75 = .ok (.if_icmp .ge 27, 3) := by decide +kernel
theorem dX1_search_78 : decode cX1_search 78 = .ok (.aload_n 0, 1) := by decide +kernel
theorem dX1_search_79 : decode cX1_search 79 = .ok (.getfield 21, 3) := by decide +kernel
theorem dX1_search_82 : decode cX1_search 82 = .ok (.iload 4, 2) := by decide +kernel
theorem dX1_search_84 : decode cX1_search 84 = .ok (.lload_n 2, 1) := by decide +kernel
theorem dX1_search_85 : decode cX1_search 85 = .ok (.iload 4, 2) := by decide +kernel
theorem dX1_search_87 : decode cX1_search 87 = .ok (.invokestatic 54, 3) := by decide +kernel
theorem dX1_search_90 : decode cX1_search 90 = .ok (.lshr, 1) := by decide +kernel
theorem dX1_search_91 : decode cX1_search 91 = .ok (.l2i, 1) := by decide +kernel
theorem dX1_search_92 : decode cX1_search 92 = .ok (.bipush 15, 2) := by decide +kernel
theorem dX1_search_94 : decode cX1_search 94 = .ok (.iand, 1) := by decide +kernel
theorem dX1_search_95 : decode cX1_search 95 = .ok (.iastore, 1) := by decide +kernel
theorem dX1_search_96 : decode cX1_search 96 = .ok (.iinc 4 1, 3) := by decide +kernel
theorem dX1_search_99 : decode cX1_search 99 = .ok (.goto (-30), 3) := by decide +kernel
theorem dX1_search_102 : decode cX1_search 102 = .ok (.lload_n 2, 1) := by decide +kernel
theorem dX1_search_103 : decode cX1_search 103 = .ok (.bipush 24, 2) := by decide +kernel
theorem dX1_search_105 : decode cX1_search 105 = .ok (.lshr, 1) := by decide +kernel
theorem dX1_search_106 : decode cX1_search 106 = .ok (.l2i, 1) := by decide +kernel
theorem dX1_search_107 : decode cX1_search 107 = .ok (.sipush 2047, 3) := by decide +kernel
theorem dX1_search_110 : decode cX1_search 110 = .ok (.iand, 1) := by decide +kernel
theorem dX1_search_111 : decode cX1_search 111 = .ok (.ireturn, 1) := by decide +kernel
theorem dX1_listGoals_0 : decode cX1_listGoals 0 = .ok (.aload_n 0, 1) := by decide +kernel
theorem dX1_listGoals_1 : decode cX1_listGoals 1 = .ok (.iconst 0, 1) := by decide +kernel
theorem dX1_listGoals_2 : decode cX1_listGoals 2 = .ok (.putfield 28, 3) := by decide +kernel
theorem dX1_listGoals_5 : decode cX1_listGoals 5 = .ok (.iconst 0, 1) := by decide +kernel
theorem dX1_listGoals_6 : decode cX1_listGoals 6 = .ok (.istore_n 1, 1) := by decide +kernel
theorem dX1_listGoals_7 : decode cX1_listGoals 7 = .ok (.iload_n 1, 1) := by decide +kernel
theorem dX1_listGoals_8 : decode cX1_listGoals 8 = .ok (.bipush 12, 2) := by decide +kernel
theorem dX1_listGoals_10 : decode cX1_listGoals 10 = .ok (.if_icmp .ge 56, 3) := by decide +kernel
theorem dX1_listGoals_13 : decode cX1_listGoals 13 = .ok (.iconst 0, 1) := by decide +kernel
theorem dX1_listGoals_14 : decode cX1_listGoals 14 = .ok (.istore_n 2, 1) := by decide +kernel
theorem dX1_listGoals_15 : decode cX1_listGoals 15 = .ok (.iload_n 2, 1) := by decide +kernel
theorem dX1_listGoals_16 : decode cX1_listGoals 16 = .ok (.aload_n 0, 1) := by decide +kernel
theorem dX1_listGoals_17 : decode cX1_listGoals 17 = .ok (.getfield 15, 3) := by decide +kernel
theorem dX1_listGoals_20 : decode cX1_listGoals 20 = .ok (.iload_n 1, 1) := by decide +kernel
theorem dX1_listGoals_21 : decode cX1_listGoals 21 = .ok (.iaload, 1) := by decide +kernel
theorem dX1_listGoals_22 : decode cX1_listGoals 22 = .ok (.if_icmp .ge 38, 3) := by decide +kernel
theorem dX1_listGoals_25 : decode cX1_listGoals 25 = .ok (.aload_n 0, 1) := by decide +kernel
theorem dX1_listGoals_26 : decode cX1_listGoals 26 = .ok (.getfield 28, 3) := by decide +kernel
theorem dX1_listGoals_29 : decode cX1_listGoals 29 = .ok (.bipush 6, 2) := by decide +kernel
theorem dX1_listGoals_31 : decode cX1_listGoals 31 = .ok (.if_icmp .ge 29, 3) := by decide +kernel
theorem dX1_listGoals_34 : decode cX1_listGoals 34 = .ok (.aload_n 0, 1) := by decide +kernel
theorem dX1_listGoals_35 : decode cX1_listGoals 35 = .ok (.getfield 18, 3) := by decide +kernel
theorem dX1_listGoals_38 : decode cX1_listGoals 38 = .ok (.aload_n 0, 1) := by decide +kernel
theorem dX1_listGoals_39 : decode cX1_listGoals 39 = .ok (.getfield 28, 3) := by decide +kernel
theorem dX1_listGoals_42 : decode cX1_listGoals 42 = .ok (.iload_n 1, 1) := by decide +kernel
theorem dX1_listGoals_43 : decode cX1_listGoals 43 = .ok (.iastore, 1) := by decide +kernel
theorem dX1_listGoals_44 : decode cX1_listGoals 44 = .ok (.aload_n 0, 1) := by decide +kernel
theorem dX1_listGoals_45 : decode cX1_listGoals 45 = .ok (.dup, 1) := by decide +kernel
theorem dX1_listGoals_46 : decode cX1_listGoals 46 = .ok (.getfield 28, 3) := by decide +kernel
theorem dX1_listGoals_49 : decode cX1_listGoals 49 = .ok (.iconst 1, 1) := by decide +kernel
theorem dX1_listGoals_50 : decode cX1_listGoals 50 = .ok (.iadd, 1) := by decide +kernel
theorem dX1_listGoals_51 : decode cX1_listGoals 51 = .ok (.putfield 28, 3) := by decide +kernel
theorem dX1_listGoals_54 : decode cX1_listGoals 54 = .ok (.iinc 2 1, 3) := by decide +kernel
theorem dX1_listGoals_57 : decode cX1_listGoals 57 = .ok (.goto (-42), 3) := by decide +kernel
theorem dX1_listGoals_60 : decode cX1_listGoals 60 = .ok (.iinc 1 1, 3) := by decide +kernel
theorem dX1_listGoals_63 : decode cX1_listGoals 63 = .ok (.goto (-56), 3) := by decide +kernel
theorem dX1_listGoals_66 : decode cX1_listGoals 66 = .ok (.return_, 1) := by decide +kernel
theorem dX1_shiftOf_0 : decode cX1_shiftOf 0 = .ok (.iconst 4, 1) := by decide +kernel
theorem dX1_shiftOf_1 : decode cX1_shiftOf 1 = .ok (.iconst 5, 1) := by decide +kernel
theorem dX1_shiftOf_2 : decode cX1_shiftOf 2 = .ok (.iload_n 0, 1) := by decide +kernel
theorem dX1_shiftOf_3 : decode cX1_shiftOf 3 = .ok (.isub, 1) := by decide +kernel
theorem dX1_shiftOf_4 : decode cX1_shiftOf 4 = .ok (.imul, 1) := by decide +kernel
theorem dX1_shiftOf_5 : decode cX1_shiftOf 5 = .ok (.ireturn, 1) := by decide +kernel
theorem dX1_sendOne_0 : decode cX1_sendOne 0 = .ok (.iconst 1, 1) := by decide +kernel
theorem dX1_sendOne_1 : decode cX1_sendOne 1 = .ok (.aload_n 0, 1) := by decide +kernel
theorem dX1_sendOne_2 : decode cX1_sendOne 2 = .ok (.getfield 28, 3) := by decide +kernel
theorem dX1_sendOne_5 : decode cX1_sendOne 5 = .ok (.ishl, 1) := by decide +kernel
theorem dX1_sendOne_6 : decode cX1_sendOne 6 = .ok (.iconst 1, 1) := by decide +kernel
theorem dX1_sendOne_7 : decode cX1_sendOne 7 = .ok (.isub, 1) := by decide +kernel
theorem dX1_sendOne_8 : decode cX1_sendOne 8 = .ok (.istore_n 3, 1) := by decide +kernel
theorem dX1_sendOne_9 : decode cX1_sendOne 9 = .ok (.iload_n 3, 1) := by decide +kernel
theorem dX1_sendOne_10 : decode cX1_sendOne 10 = .ok (.ifCond .le 109, 3) := by decide +kernel
theorem dX1_sendOne_13 : decode cX1_sendOne 13 = .ok (.iconst 0, 1) := by decide +kernel
theorem dX1_sendOne_14 : decode cX1_sendOne 14 = .ok (.istore 4, 2) := by decide +kernel
theorem dX1_sendOne_16 : decode cX1_sendOne 16 = .ok (.iload 4, 2) := by decide +kernel
theorem dX1_sendOne_18 : decode cX1_sendOne 18 = .ok (.aload_n 0, 1) := by decide +kernel
theorem dX1_sendOne_19 : decode cX1_sendOne 19 = .ok (.getfield 28, 3) := by decide +kernel
theorem dX1_sendOne_22 : decode cX1_sendOne 22 = .ok (.if_icmp .ge 91, 3) := by decide +kernel
theorem dX1_sendOne_25 : decode cX1_sendOne 25 = .ok (.iload_n 3, 1) := by decide +kernel
theorem dX1_sendOne_26 : decode cX1_sendOne 26 = .ok (.iload 4, 2) := by decide +kernel
theorem dX1_sendOne_28 : decode cX1_sendOne 28 = .ok (.ishr, 1) := by decide +kernel
theorem dX1_sendOne_29 : decode cX1_sendOne 29 = .ok (.iconst 1, 1) := by decide +kernel
theorem dX1_sendOne_30 : decode cX1_sendOne 30 = .ok (.iand, 1) := by decide +kernel
theorem dX1_sendOne_31 : decode cX1_sendOne 31 = .ok (.iconst 1, 1) := by decide +kernel
theorem dX1_sendOne_32 : decode cX1_sendOne 32 = .ok (.if_icmp .ne 75, 3) := by decide +kernel
theorem dX1_sendOne_35 : decode cX1_sendOne 35 = .ok (.aload_n 0, 1) := by decide +kernel
theorem dX1_sendOne_36 : decode cX1_sendOne 36 = .ok (.getfield 18, 3) := by decide +kernel
theorem dX1_sendOne_39 : decode cX1_sendOne 39 = .ok (.iload 4, 2) := by decide +kernel
theorem dX1_sendOne_41 : decode cX1_sendOne 41 = .ok (.iaload, 1) := by decide +kernel
theorem dX1_sendOne_42 : decode cX1_sendOne 42 = .ok (.iload_n 1, 1) := by decide +kernel
theorem dX1_sendOne_43 : decode cX1_sendOne 43 = .ok (.if_icmp .eq 64, 3) := by decide +kernel
theorem dX1_sendOne_46 : decode cX1_sendOne 46 = .ok (.aload_n 2, 1) := by decide +kernel
theorem dX1_sendOne_47 : decode cX1_sendOne 47 = .ok (.iload_n 1, 1) := by decide +kernel
theorem dX1_sendOne_48 : decode cX1_sendOne 48 = .ok (.aload_n 2, 1) := by decide +kernel
theorem dX1_sendOne_49 : decode cX1_sendOne 49 = .ok (.aload_n 0, 1) := by decide +kernel
theorem dX1_sendOne_50 : decode cX1_sendOne 50 = .ok (.getfield 18, 3) := by decide +kernel
theorem dX1_sendOne_53 : decode cX1_sendOne 53 = .ok (.iload 4, 2) := by decide +kernel
theorem dX1_sendOne_55 : decode cX1_sendOne 55 = .ok (.iaload, 1) := by decide +kernel
theorem dX1_sendOne_56 : decode cX1_sendOne 56 = .ok (.invokevirtual 58, 3) := by decide +kernel
theorem dX1_sendOne_59 : decode cX1_sendOne 59 = .ok (.i2l, 1) := by decide +kernel
theorem dX1_sendOne_60 : decode cX1_sendOne 60 = .ok (.lstore 5, 2) := by decide +kernel
theorem dX1_sendOne_62 : decode cX1_sendOne 62 = .ok (.lload 5, 2) := by decide +kernel
theorem dX1_sendOne_64 : decode cX1_sendOne 64 = .ok (.bipush 24, 2) := by decide +kernel
theorem dX1_sendOne_66 : decode cX1_sendOne 66 = .ok (.lshl, 1) := by decide +kernel
theorem dX1_sendOne_67 : decode cX1_sendOne 67 = .ok (.iload_n 1, 1) := by decide +kernel
theorem dX1_sendOne_68 : decode cX1_sendOne 68 = .ok (.i2l, 1) := by decide +kernel
theorem dX1_sendOne_69 : decode cX1_sendOne 69 = .ok (.iload 4, 2) := by decide +kernel
theorem dX1_sendOne_71 : decode cX1_sendOne 71 = .ok (.invokestatic 54, 3) := by decide +kernel
theorem dX1_sendOne_74 : decode cX1_sendOne 74 = .ok (.lshl, 1) := by decide +kernel
theorem dX1_sendOne_75 : decode cX1_sendOne 75 = .ok (.ladd, 1) := by decide +kernel
theorem dX1_sendOne_76 : decode cX1_sendOne 76 = .ok (.lstore 7, 2) := by decide +kernel
theorem dX1_sendOne_78 : decode cX1_sendOne 78 = .ok (.aload_n 0, 1) := by decide +kernel
theorem dX1_sendOne_79 : decode cX1_sendOne 79 = .ok (.getfield 24, 3) := by decide +kernel
theorem dX1_sendOne_82 : decode cX1_sendOne 82 = .ok (.iload_n 3, 1) := by decide +kernel
theorem dX1_sendOne_83 : decode cX1_sendOne 83 = .ok (.aload_n 0, 1) := by decide +kernel
theorem dX1_sendOne_84 : decode cX1_sendOne 84 = .ok (.getfield 24, 3) := by decide +kernel
theorem dX1_sendOne_87 : decode cX1_sendOne 87 = .ok (.iload_n 3, 1) := by decide +kernel
theorem dX1_sendOne_88 : decode cX1_sendOne 88 = .ok (.laload, 1) := by decide +kernel
theorem dX1_sendOne_89 : decode cX1_sendOne 89 = .ok (.aload_n 0, 1) := by decide +kernel
theorem dX1_sendOne_90 : decode cX1_sendOne 90 = .ok (.getfield 24, 3) := by decide +kernel
theorem dX1_sendOne_93 : decode cX1_sendOne 93 = .ok (.iload_n 3, 1) := by decide +kernel
theorem dX1_sendOne_94 : decode cX1_sendOne 94 = .ok (.iconst 1, 1) := by decide +kernel
theorem dX1_sendOne_95 : decode cX1_sendOne 95 = .ok (.iload 4, 2) := by decide +kernel
theorem dX1_sendOne_97 : decode cX1_sendOne 97 = .ok (.ishl, 1) := by decide +kernel
theorem dX1_sendOne_98 : decode cX1_sendOne 98 = .ok (.ixor, 1) := by decide +kernel
theorem dX1_sendOne_99 : decode cX1_sendOne 99 = .ok (.laload, 1) := by decide +kernel
theorem dX1_sendOne_100 : decode cX1_sendOne 100 = .ok (.lload 7, 2) := by decide +kernel
theorem dX1_sendOne_102 : decode cX1_sendOne 102 = .ok (.ladd, 1) := by decide +kernel
theorem dX1_sendOne_103 : decode cX1_sendOne 103 = .ok (.invokestatic 62, 3) := by decide +kernel
theorem dX1_sendOne_106 : decode cX1_sendOne 106 = .ok (.lastore, 1) := by decide +kernel
theorem dX1_sendOne_107 : decode cX1_sendOne 107 = .ok (.iinc 4 1, 3) := by decide +kernel
theorem dX1_sendOne_110 : decode cX1_sendOne 110 = .ok (.goto (-94), 3) := by decide +kernel
theorem dX1_sendOne_113 : decode cX1_sendOne 113 = .ok (.iinc 3 (-1), 3) := by decide +kernel
theorem dX1_sendOne_116 : decode cX1_sendOne 116 = .ok (.goto (-107), 3) := by decide +kernel
theorem dX1_sendOne_119 : decode cX1_sendOne 119 = .ok (.return_, 1) := by decide +kernel
theorem dX1_bestOfAll_0 : decode cX1_bestOfAll 0 = .ok (.ldc2_w 35, 3) := by decide +kernel
theorem dX1_bestOfAll_3 : decode cX1_bestOfAll 3 = .ok (.lstore_n 1, 1) := by decide +kernel
theorem dX1_bestOfAll_4 : decode cX1_bestOfAll 4 = .ok (.iconst 0, 1) := by decide +kernel
theorem dX1_bestOfAll_5 : decode cX1_bestOfAll 5 = .ok (.istore_n 3, 1) := by decide +kernel
theorem dX1_bestOfAll_6 : decode cX1_bestOfAll 6 = .ok (.iload_n 3, 1) := by decide +kernel
theorem dX1_bestOfAll_7 : decode cX1_bestOfAll 7 = .ok (.iconst 1, 1) := by decide +kernel
theorem dX1_bestOfAll_8 : decode cX1_bestOfAll 8 = .ok (.aload_n 0, 1) := by decide +kernel
theorem dX1_bestOfAll_9 : decode cX1_bestOfAll 9 = .ok (.getfield 28, 3) := by decide +kernel
theorem dX1_bestOfAll_12 : decode cX1_bestOfAll 12 = .ok (.ishl, 1) := by decide +kernel
theorem dX1_bestOfAll_13 : decode cX1_bestOfAll 13 = .ok (.if_icmp .ge 69, 3) := by decide +kernel
theorem dX1_bestOfAll_16 : decode cX1_bestOfAll 16 = .ok (.aload_n 0, 1) := by decide +kernel
theorem dX1_bestOfAll_17 : decode cX1_bestOfAll 17 = .ok (.getfield 24, 3) := by decide +kernel
theorem dX1_bestOfAll_20 : decode cX1_bestOfAll 20 = .ok (.iload_n 3, 1) := by decide +kernel
theorem dX1_bestOfAll_21 : decode cX1_bestOfAll 21 = .ok (.laload, 1) := by decide +kernel
theorem dX1_bestOfAll_22 : decode cX1_bestOfAll 22 = .ok (.lstore 4, 2) := by decide +kernel
theorem dX1_bestOfAll_24 : decode cX1_bestOfAll 24 = .ok (.iconst 0, 1) := by decide +kernel
theorem dX1_bestOfAll_25 : decode cX1_bestOfAll 25 = .ok (.istore 6, 2) := by decide +kernel
theorem dX1_bestOfAll_27 : decode cX1_bestOfAll 27 = .ok (.iload 6, 2) := by decide +kernel
theorem dX1_bestOfAll_29 : decode cX1_bestOfAll 29 = .ok (.aload_n 0, 1) := by decide +kernel
theorem dX1_bestOfAll_30 : decode cX1_bestOfAll 30 = .ok (.getfield 28, 3) := by decide +kernel
theorem dX1_bestOfAll_33 : decode cX1_bestOfAll 33 = .ok (.if_icmp .ge 36, 3) := by decide +kernel
theorem dX1_bestOfAll_36 : decode cX1_bestOfAll 36 = .ok (.iload_n 3, 1) := by decide +kernel
theorem dX1_bestOfAll_37 : decode cX1_bestOfAll 37 = .ok (.iload 6, 2) := by decide +kernel
theorem dX1_bestOfAll_39 : decode cX1_bestOfAll 39 = .ok (.ishr, 1) := by decide +kernel
theorem dX1_bestOfAll_40 : decode cX1_bestOfAll 40 = .ok (.iconst 1, 1) := by decide +kernel
theorem dX1_bestOfAll_41 : decode cX1_bestOfAll 41 = .ok (.iand, 1) := by decide +kernel
theorem dX1_bestOfAll_42 : decode cX1_bestOfAll 42 = .ok (.ifCond .ne 21, 3) := by decide +kernel
theorem dX1_bestOfAll_45 : decode cX1_bestOfAll 45 = .ok (.lload 4, 2) := by decide +kernel
theorem dX1_bestOfAll_47 : decode cX1_bestOfAll 47 = .ok (.ldc2_w 68, 3) := by decide +kernel
theorem dX1_bestOfAll_50 : decode cX1_bestOfAll 50 = .ok (.ldc2_w 70, 3) := by decide +kernel
theorem dX1_bestOfAll_53 : decode cX1_bestOfAll 53 = .ok (.iload 6, 2) := by decide +kernel
theorem dX1_bestOfAll_55 : decode cX1_bestOfAll 55 = .ok (.invokestatic 54, 3) := by decide +kernel
theorem dX1_bestOfAll_58 : decode cX1_bestOfAll 58 = .ok (.lshl, 1) := by decide +kernel
theorem dX1_bestOfAll_59 : decode cX1_bestOfAll 59 = .ok (.ladd, 1) := by decide +kernel
theorem dX1_bestOfAll_60 : decode cX1_bestOfAll 60 = .ok (.ladd, 1) := by decide +kernel
theorem dX1_bestOfAll_61 : decode cX1_bestOfAll 61 = .ok (.lstore 4, 2) := by decide +kernel
theorem dX1_bestOfAll_63 : decode cX1_bestOfAll 63 = .ok (.iinc 6 1, 3) := by decide +kernel
theorem dX1_bestOfAll_66 : decode cX1_bestOfAll 66 = .ok (.goto (-39), 3) := by decide +kernel
theorem dX1_bestOfAll_69 : decode cX1_bestOfAll 69 = .ok (.lload_n 1, 1) := by decide +kernel
theorem dX1_bestOfAll_70 : decode cX1_bestOfAll 70 = .ok (.lload 4, 2) := by decide +kernel
theorem dX1_bestOfAll_72 : decode cX1_bestOfAll 72 = .ok (.invokestatic 62, 3) := by decide +kernel
theorem dX1_bestOfAll_75 : decode cX1_bestOfAll 75 = .ok (.lstore_n 1, 1) := by decide +kernel
theorem dX1_bestOfAll_76 : decode cX1_bestOfAll 76 = .ok (.iinc 3 1, 3) := by decide +kernel
theorem dX1_bestOfAll_79 : decode cX1_bestOfAll 79 = .ok (.goto (-73), 3) := by decide +kernel
theorem dX1_bestOfAll_82 : decode cX1_bestOfAll 82 = .ok (.lload_n 1, 1) := by decide +kernel
theorem dX1_bestOfAll_83 : decode cX1_bestOfAll 83 = .ok (.lreturn, 1) := by decide +kernel
theorem dX2_init_0 : decode cX2_init 0 = .ok (.aload_n 0, 1) := by decide +kernel
theorem dX2_init_1 : decode cX2_init 1 = .ok (.invokespecial 3, 3) := by decide +kernel
theorem dX2_init_4 : decode cX2_init 4 = .ok (.aload_n 0, 1) := by decide +kernel
theorem dX2_init_5 : decode cX2_init 5 = .ok (.bipush 14, 2) := by decide +kernel
theorem dX2_init_7 : decode cX2_init 7 = .ok (.iconst 4, 1) := by decide +kernel
theorem dX2_init_8 : decode cX2_init 8 = .ok (.multianewarray 9 2, 4) := by decide +kernel
theorem dX2_init_12 : decode cX2_init 12 = .ok (.putfield 11, 3) := by decide +kernel
theorem dX2_init_15 : decode cX2_init 15 = .ok (.aload_n 0, 1) := by decide +kernel
theorem dX2_init_16 : decode cX2_init 16 = .ok (.iconst 4, 1) := by decide +kernel
theorem dX2_init_17 : decode cX2_init 17 = .ok (.newarray .int, 2) := by decide +kernel
theorem dX2_init_19 : decode cX2_init 19 = .ok (.putfield 16, 3) := by decide +kernel
theorem dX2_init_22 : decode cX2_init 22 = .ok (.aload_n 0, 1) := by decide +kernel
theorem dX2_init_23 : decode cX2_init 23 = .ok (.bipush 14, 2) := by decide +kernel
theorem dX2_init_25 : decode cX2_init 25 = .ok (.newarray .int, 2) := by decide +kernel
theorem dX2_init_27 : decode cX2_init 27 = .ok (.putfield 20, 3) := by decide +kernel
theorem dX2_init_30 : decode cX2_init 30 = .ok (.aload_n 0, 1) := by decide +kernel
theorem dX2_init_31 : decode cX2_init 31 = .ok (.bipush 14, 2) := by decide +kernel
theorem dX2_init_33 : decode cX2_init 33 = .ok (.newarray .int, 2) := by decide +kernel
theorem dX2_init_35 : decode cX2_init 35 = .ok (.putfield 23, 3) := by decide +kernel
theorem dX2_init_38 : decode cX2_init 38 = .ok (.aload_n 0, 1) := by decide +kernel
theorem dX2_init_39 : decode cX2_init 39 = .ok (.iconst 0, 1) := by decide +kernel
theorem dX2_init_40 : decode cX2_init 40 = .ok (.putfield 26, 3) := by decide +kernel
theorem dX2_init_43 : decode cX2_init 43 = .ok (.aload_n 0, 1) := by decide +kernel
theorem dX2_init_44 : decode cX2_init 44 = .ok (.iconst 0, 1) := by decide +kernel
theorem dX2_init_45 : decode cX2_init 45 = .ok (.putfield 30, 3) := by decide +kernel
theorem dX2_init_48 : decode cX2_init 48 = .ok (.aload_n 0, 1) := by decide +kernel
theorem dX2_init_49 : decode cX2_init 49 = .ok (.iconst 0, 1) := by decide +kernel
theorem dX2_init_50 : decode cX2_init 50 = .ok (.putfield 34, 3) := by decide +kernel
theorem dX2_init_53 : decode cX2_init 53 = .ok (.return_, 1) := by decide +kernel
theorem dX2_search_0 : decode cX2_search 0 = .ok (.iconst 0, 1) := by decide +kernel
theorem dX2_search_1 : decode cX2_search 1 = .ok (.iload_n 1, 1) := by decide +kernel
theorem dX2_search_2 : decode cX2_search 2 = .ok (.bipush 6, 2) := by decide +kernel
theorem dX2_search_4 : decode cX2_search 4 = .ok (.isub, 1) := by decide +kernel
theorem dX2_search_5 : decode cX2_search 5 = .ok (.invokestatic 37, 3) := by decide +kernel
theorem dX2_search_8 : decode cX2_search 8 = .ok (.istore 5, 2) := by decide +kernel
theorem dX2_search_10 : decode cX2_search 10 = .ok (.lconst 0, 1) := by decide +kernel
theorem dX2_search_11 : decode cX2_search 11 = .ok (.lstore 6, 2) := by decide +kernel
theorem dX2_search_13 : decode cX2_search 13 = .ok (.aload_n 0, 1) := by decide +kernel
theorem dX2_search_14 : decode cX2_search 14 = .ok (.iconst 0, 1) := by decide +kernel
theorem dX2_search_15 : decode cX2_search 15 = .ok (.putfield 26, 3) := by decide +kernel
theorem dX2_search_18 : decode cX2_search 18 = .ok (.aload_n 0, 1) := by decide +kernel
theorem dX2_search_19 : decode cX2_search 19 = .ok (.iload_n 1, 1) := by decide +kernel
theorem dX2_search_20 : decode cX2_search 20 = .ok (.putfield 30, 3) := by decide +kernel
theorem dX2_search_23 : decode cX2_search 23 = .ok (.aload_n 0, 1) := by decide +kernel
theorem dX2_search_24 : decode cX2_search 24 = .ok (.getfield 20, 3) := by decide +kernel
theorem dX2_search_27 : decode cX2_search 27 = .ok (.iload_n 2, 1) := by decide +kernel
theorem dX2_search_28 : decode cX2_search 28 = .ok (.invokestatic 43, 3) := by decide +kernel
theorem dX2_search_31 : decode cX2_search 31 = .ok (.iconst 0, 1) := by decide +kernel
theorem dX2_search_32 : decode cX2_search 32 = .ok (.istore 8, 2) := by decide +kernel
theorem dX2_search_34 : decode cX2_search 34 = .ok (.iload 8, 2) := by decide +kernel
theorem dX2_search_36 : decode cX2_search 36 = .ok (.sipush 680, 3) := by decide +kernel
theorem dX2_search_39 : decode cX2_search 39 = .ok (.if_icmp .ge 92, 3) := by decide +kernel
theorem dX2_search_42 : decode cX2_search 42 = .ok (.aload_n 0, 1) := by decide +kernel
theorem dX2_search_43 : decode cX2_search 43 = .ok (.iload 5, 2) := by decide +kernel
theorem dX2_search_45 : decode cX2_search 45 = .ok (.iload_n 3, 1) := by decide +kernel
theorem dX2_search_46 : decode cX2_search 46 = .ok (.invokevirtual 49, 3) := by decide +kernel
theorem dX2_search_49 : decode cX2_search 49 = .ok (.istore 9, 2) := by decide +kernel
theorem dX2_search_51 : decode cX2_search 51 = .ok (.aload_n 0, 1) := by decide +kernel
theorem dX2_search_52 : decode cX2_search 52 = .ok (.iload 5, 2) := by decide +kernel
theorem dX2_search_54 : decode cX2_search 54 = .ok (.iload_n 3, 1) := by decide +kernel
theorem dX2_search_55 : decode cX2_search 55 = .ok (.invokevirtual 52, 3) := by decide +kernel
theorem dX2_search_58 : decode cX2_search 58 = .ok (.iload 9, 2) := by decide +kernel
theorem dX2_search_60 : decode cX2_search 60 = .ok (.i2l, 1) := by decide +kernel
theorem dX2_search_61 : decode cX2_search 61 = .ok (.iload 4, 2) := by decide +kernel
theorem dX2_search_63 : decode cX2_search 63 = .ok (.i2l, 1) := by decide +kernel
theorem dX2_search_64 : decode cX2_search 64 = .ok (.lmul, 1) := by decide +kernel
theorem dX2_search_65 : decode cX2_search 65 = .ok (.lsub, 1) := by decide +kernel
theorem dX2_search_66 : decode cX2_search 66 = .ok (.lstore 10, 2) := by decide +kernel
theorem dX2_search_68 : decode cX2_search 68 = .ok (.aload_n 0, 1) := by decide +kernel
theorem dX2_search_69 : decode cX2_search 69 = .ok (.getfield 26, 3) := by decide +kernel
theorem dX2_search_72 : decode cX2_search 72 = .ok (.ifCond .eq 11, 3) := by decide +kernel
theorem dX2_search_75 : decode cX2_search 75 = .ok (.lload 10, 2) := by decide +kernel
theorem dX2_search_77 : decode cX2_search 77 = .ok (.lload 6, 2) := by decide +kernel
theorem dX2_search_79 : decode cX2_search 79 = .ok (.lcmp, 1) := by decide +kernel
theorem dX2_search_80 : decode cX2_search 80 = .ok (.ifCond .le 33, 3) := by decide +kernel
theorem dX2_search_83 : decode cX2_search 83 = .ok (.aload_n 0, 1) := by decide +kernel
theorem dX2_search_84 : decode cX2_search 84 = .ok (.iconst 1, 1) := by decide +kernel
theorem dX2_search_85 : decode cX2_search 85 = .ok (.putfield 26, 3) := by decide +kernel
theorem dX2_search_88 : decode cX2_search 88 = .ok (.lload 10, 2) := by decide +kernel
theorem dX2_search_90 : decode cX2_search 90 = .ok (.lstore 6, 2) := by decide +kernel
theorem dX2_search_92 : decode cX2_search 92 = .ok (.aload_n 0, 1) := by decide +kernel
theorem dX2_search_93 : decode cX2_search 93 = .ok (.iload 9, 2) := by decide +kernel
theorem dX2_search_95 : decode cX2_search 95 = .ok (.putfield 34, 3) := by decide +kernel
theorem dX2_search_98 : decode cX2_search 98 = .ok (.aload_n 0, 1) := by decide +kernel
theorem dX2_search_99 : decode cX2_search 99 = .ok (.getfield 20, 3) := by decide +kernel
theorem dX2_search_102 : decode cX2_search 102 = .ok (.iconst 0, 1) := by decide +kernel
theorem dX2_search_103 : decode cX2_search 103 = .ok (.aload_n 0, 1) := by decide +kernel
theorem dX2_search_104 : decode cX2_search 104 = .ok (.getfield 23, 3) := by decide +kernel
theorem dX2_search_107 : decode cX2_search 107 = .ok (.iconst 0, 1) := by decide +kernel
theorem dX2_search_108 : decode cX2_search 108 = .ok (.bipush 14, 2) := by decide +kernel
theorem dX2_search_110 : decode cX2_search 110 = .ok (.invokestatic 56, 3) := by decide +kernel
theorem dX2_search_113 : decode cX2_search 113 = .ok (.aload_n 0, 1) := by decide +kernel
theorem dX2_search_114 : decode cX2_search 114 = .ok (.iload 5, 2) := by decide +kernel
theorem dX2_search_116 : decode cX2_search 116 = .ok (.invokevirtual 62, 3) := by decide +kernel
theorem dX2_search_119 : decode cX2_search 119 = .ok (.ifCond .ne 6, 3) := by decide +kernel
theorem dX2_search_122 : decode cX2_search 122 = .ok (.goto 9, 3) := by decide +kernel
theorem dX2_search_125 : decode cX2_search 125 = .ok (.iinc 8 1, 3) := by decide +kernel
theorem dX2_search_128 : decode cX2_search 128 = .ok (.goto (-94), 3) := by decide +kernel
theorem dX2_search_131 : decode cX2_search 131 = .ok (.lload 6, 2) := by decide +kernel
theorem dX2_search_133 : decode cX2_search 133 = .ok (.l2i, 1) := by decide +kernel
theorem dX2_search_134 : decode cX2_search 134 = .ok (.ireturn, 1) := by decide +kernel
theorem dX2_coinsBy_0 : decode cX2_coinsBy 0 = .ok (.lconst 0, 1) := by decide +kernel
theorem dX2_coinsBy_1 : decode cX2_coinsBy 1 = .ok (.lstore_n 3, 1) := by decide +kernel
theorem dX2_coinsBy_2 : decode cX2_coinsBy 2 = .ok (.iload_n 2, 1) := by decide +kernel
theorem dX2_coinsBy_3 : decode cX2_coinsBy 3 = .ok (.istore 5, 2) := by decide +kernel
theorem dX2_coinsBy_5 : decode cX2_coinsBy 5 = .ok (.iload_n 1, 1) := by decide +kernel
theorem dX2_coinsBy_6 : decode cX2_coinsBy 6 = .ok (.istore 6, 2) := by decide +kernel
theorem dX2_coinsBy_8 : decode cX2_coinsBy 8 = .ok (.iload 6, 2) := by decide +kernel
theorem dX2_coinsBy_10 : decode cX2_coinsBy 10 = .ok (.bipush 14, 2) := by decide +kernel
theorem dX2_coinsBy_12 : decode cX2_coinsBy 12 = .ok (.if_icmp .ge 58, 3) := by decide +kernel
theorem dX2_coinsBy_15 : decode cX2_coinsBy 15 = .ok (.iload 5, 2) := by decide +kernel
theorem dX2_coinsBy_17 : decode cX2_coinsBy 17 = .ok (.aload_n 0, 1) := by decide +kernel
theorem dX2_coinsBy_18 : decode cX2_coinsBy 18 = .ok (.getfield 11, 3) := by decide +kernel
theorem dX2_coinsBy_21 : decode cX2_coinsBy 21 = .ok (.iload 6, 2) := by decide +kernel
theorem dX2_coinsBy_23 : decode cX2_coinsBy 23 = .ok (.aaload, 1) := by decide +kernel
theorem dX2_coinsBy_24 : decode cX2_coinsBy 24 = .ok (.aload_n 0, 1) := by decide +kernel
theorem dX2_coinsBy_25 : decode cX2_coinsBy 25 = .ok (.getfield 20, 3) := by decide +kernel
theorem dX2_coinsBy_28 : decode cX2_coinsBy 28 = .ok (.iload 6, 2) := by decide +kernel
theorem dX2_coinsBy_30 : decode cX2_coinsBy 30 = .ok (.iaload, 1) := by decide +kernel
theorem dX2_coinsBy_31 : decode cX2_coinsBy 31 = .ok (.iaload, 1) := by decide +kernel
theorem dX2_coinsBy_32 : decode cX2_coinsBy 32 = .ok (.invokestatic 66, 3) := by decide +kernel
theorem dX2_coinsBy_35 : decode cX2_coinsBy 35 = .ok (.istore 7, 2) := by decide +kernel
theorem dX2_coinsBy_37 : decode cX2_coinsBy 37 = .ok (.lload_n 3, 1) := by decide +kernel
theorem dX2_coinsBy_38 : decode cX2_coinsBy 38 = .ok (.iload 7, 2) := by decide +kernel
theorem dX2_coinsBy_40 : decode cX2_coinsBy 40 = .ok (.i2l, 1) := by decide +kernel
theorem dX2_coinsBy_41 : decode cX2_coinsBy 41 = .ok (.aload_n 0, 1) := by decide +kernel
theorem dX2_coinsBy_42 : decode cX2_coinsBy 42 = .ok (.getfield 16, 3) := by decide +kernel
theorem dX2_coinsBy_45 : decode cX2_coinsBy 45 = .ok (.aload_n 0, 1) := by decide +kernel
theorem dX2_coinsBy_46 : decode cX2_coinsBy 46 = .ok (.getfield 20, 3) := by decide +kernel
theorem dX2_coinsBy_49 : decode cX2_coinsBy 49 = .ok (.iload 6, 2) := by decide +kernel
theorem dX2_coinsBy_51 : decode cX2_coinsBy 51 = .ok (.iaload, 1) := by decide +kernel
theorem dX2_coinsBy_52 : decode cX2_coinsBy 52 = .ok (.iaload, 1) := by decide +kernel
theorem dX2_coinsBy_53 : decode cX2_coinsBy 53 = .ok (.i2l, 1) := by decide +kernel
theorem dX2_coinsBy_54 : decode cX2_coinsBy 54 = .ok (.lmul, 1) := by decide +kernel
theorem dX2_coinsBy_55 : decode cX2_coinsBy 55 = .ok (.ladd, 1) := by decide +kernel
theorem dX2_coinsBy_56 : decode cX2_coinsBy 56 = .ok (.lstore_n 3, 1) := by decide +kernel
theorem dX2_coinsBy_57 : decode cX2_coinsBy 57 = .ok (.iload 5, 2) := by decide +kernel
theorem dX2_coinsBy_59 : decode cX2_coinsBy 59 = .ok (.iload 7, 2) := by decide +kernel
theorem dX2_coinsBy_61 : decode cX2_coinsBy 61 = .ok (.isub, 1) := by decide +kernel
theorem dX2_coinsBy_62 : decode cX2_coinsBy 62 = .ok (.istore 5, 2) := by decide +kernel
theorem dX2_coinsBy_64 : decode cX2_coinsBy 64 = .ok (.iinc 6 1, 3) := by decide +kernel
theorem dX2_coinsBy_67 : decode cX2_coinsBy 67 = .ok (.goto (-59), 3) := by decide +kernel
theorem dX2_coinsBy_70 : decode cX2_coinsBy 70 = .ok (.lload_n 3, 1) := by decide +kernel
theorem dX2_coinsBy_71 : decode cX2_coinsBy 71 = .ok (.lreturn, 1) := by decide +kernel
theorem dX2_unsoldBy_0 : decode cX2_unsoldBy 0 = .ok (.iload_n 2, 1) := by decide +kernel
theorem dX2_unsoldBy_1 : decode cX2_unsoldBy 1 = .ok (.istore_n 3, 1) := by decide +kernel
theorem dX2_unsoldBy_2 : decode cX2_unsoldBy 2 = .ok (.iload_n 1, 1) := by decide +kernel
theorem dX2_unsoldBy_3 : decode cX2_unsoldBy 3 = .ok (.istore 4, 2) := by decide +kernel
theorem dX2_unsoldBy_5 : decode cX2_unsoldBy 5 = .ok (.iload 4, 2) := by decide +kernel
theorem dX2_unsoldBy_7 : decode cX2_unsoldBy 7 = .ok (.bipush 14, 2) := by decide +kernel
theorem dX2_unsoldBy_9 : decode cX2_unsoldBy 9 = .ok (.if_icmp .ge 31, 3) := by decide +kernel
theorem dX2_unsoldBy_12 : decode cX2_unsoldBy 12 = .ok (.iload_n 3, 1) := by decide +kernel
theorem dX2_unsoldBy_13 : decode cX2_unsoldBy 13 = .ok (.iload_n 3, 1) := by decide +kernel
theorem dX2_unsoldBy_14 : decode cX2_unsoldBy 14 = .ok (.aload_n 0, 1) := by decide +kernel
theorem dX2_unsoldBy_15 : decode cX2_unsoldBy 15 = .ok (.getfield 11, 3) := by decide +kernel
theorem dX2_unsoldBy_18 : decode cX2_unsoldBy 18 = .ok (.iload 4, 2) := by decide +kernel
theorem dX2_unsoldBy_20 : decode cX2_unsoldBy 20 = .ok (.aaload, 1) := by decide +kernel
theorem dX2_unsoldBy_21 : decode cX2_unsoldBy 21 = .ok (.aload_n 0, 1) := by decide +kernel
theorem dX2_unsoldBy_22 : decode cX2_unsoldBy 22 = .ok (.getfield 20, 3) := by decide +kernel
theorem dX2_unsoldBy_25 : decode cX2_unsoldBy 25 = .ok (.iload 4, 2) := by decide +kernel
theorem dX2_unsoldBy_27 : decode cX2_unsoldBy 27 = .ok (.iaload, 1) := by decide +kernel
theorem dX2_unsoldBy_28 : decode cX2_unsoldBy 28 = .ok (.iaload, 1) := by decide +kernel
theorem dX2_unsoldBy_29 : decode cX2_unsoldBy 29 = .ok (.invokestatic 66, 3) := by decide +kernel
theorem dX2_unsoldBy_32 : decode cX2_unsoldBy 32 = .ok (.isub, 1) := by decide +kernel
theorem dX2_unsoldBy_33 : decode cX2_unsoldBy 33 = .ok (.istore_n 3, 1) := by decide +kernel
theorem dX2_unsoldBy_34 : decode cX2_unsoldBy 34 = .ok (.iinc 4 1, 3) := by decide +kernel
theorem dX2_unsoldBy_37 : decode cX2_unsoldBy 37 = .ok (.goto (-32), 3) := by decide +kernel
theorem dX2_unsoldBy_40 : decode cX2_unsoldBy 40 = .ok (.iload_n 3, 1) := by decide +kernel
theorem dX2_unsoldBy_41 : decode cX2_unsoldBy 41 = .ok (.ireturn, 1) := by decide +kernel
theorem dX2_stepOn_0 : decode cX2_stepOn 0 = .ok (.bipush 13, 2) := by decide +kernel
theorem dX2_stepOn_2 : decode cX2_stepOn 2 = .ok (.istore_n 2, 1) := by decide +kernel
theorem dX2_stepOn_3 : decode cX2_stepOn 3 = .ok (.iload_n 2, 1) := by decide +kernel
theorem dX2_stepOn_4 : decode cX2_stepOn 4 = .ok (.iload_n 1, 1) := by decide +kernel
theorem dX2_stepOn_5 : decode cX2_stepOn 5 = .ok (.if_icmp .lt 34, 3) := by decide +kernel
theorem dX2_stepOn_8 : decode cX2_stepOn 8 = .ok (.aload_n 0, 1) := by decide +kernel
theorem dX2_stepOn_9 : decode cX2_stepOn 9 = .ok (.getfield 20, 3) := by decide +kernel
theorem dX2_stepOn_12 : decode cX2_stepOn 12 = .ok (.iload_n 2, 1) := by decide +kernel
theorem dX2_stepOn_13 : decode cX2_stepOn 13 = .ok (.iaload, 1) := by decide +kernel
theorem dX2_stepOn_14 : decode cX2_stepOn 14 = .ok (.iconst 3, 1) := by decide +kernel
theorem dX2_stepOn_15 : decode cX2_stepOn 15 = .ok (.if_icmp .ge 18, 3) := by decide +kernel
theorem dX2_stepOn_18 : decode cX2_stepOn 18 = .ok (.aload_n 0, 1) := by decide +kernel
theorem dX2_stepOn_19 : decode cX2_stepOn 19 = .ok (.iload_n 2, 1) := by decide +kernel
theorem dX2_stepOn_20 : decode cX2_stepOn 20 = .ok (.aload_n 0, 1) := by decide +kernel
theorem dX2_stepOn_21 : decode cX2_stepOn 21 = .ok (.getfield 20, 3) := by decide +kernel
theorem dX2_stepOn_24 : decode cX2_stepOn 24 = .ok (.iload_n 2, 1) := by decide +kernel
theorem dX2_stepOn_25 : decode cX2_stepOn 25 = .ok (.iaload, 1) := by decide +kernel
theorem dX2_stepOn_26 : decode cX2_stepOn 26 = .ok (.iconst 1, 1) := by decide +kernel
theorem dX2_stepOn_27 : decode cX2_stepOn 27 = .ok (.iadd, 1) := by decide +kernel
theorem dX2_stepOn_28 : decode cX2_stepOn 28 = .ok (.invokevirtual 69, 3) := by decide +kernel
theorem dX2_stepOn_31 : decode cX2_stepOn 31 = .ok (.iconst 1, 1) := by decide +kernel
theorem dX2_stepOn_32 : decode cX2_stepOn 32 = .ok (.ireturn, 1) := by decide +kernel
theorem dX2_stepOn_33 : decode cX2_stepOn 33 = .ok (.iinc 2 (-1), 3) := by decide +kernel
theorem dX2_stepOn_36 : decode cX2_stepOn 36 = .ok (.goto (-33), 3) := by decide +kernel
theorem dX2_stepOn_39 : decode cX2_stepOn 39 = .ok (.iconst 0, 1) := by decide +kernel
theorem dX2_stepOn_40 : decode cX2_stepOn 40 = .ok (.ireturn, 1) := by decide +kernel
theorem dX2_raiseFrom_0 : decode cX2_raiseFrom 0 = .ok (.iload_n 1, 1) := by decide +kernel
theorem dX2_raiseFrom_1 : decode cX2_raiseFrom 1 = .ok (.istore_n 3, 1) := by decide +kernel
theorem dX2_raiseFrom_2 : decode cX2_raiseFrom 2 = .ok (.iload_n 3, 1) := by decide +kernel
theorem dX2_raiseFrom_3 : decode cX2_raiseFrom 3 = .ok (.bipush 14, 2) := by decide +kernel
theorem dX2_raiseFrom_5 : decode cX2_raiseFrom 5 = .ok (.if_icmp .ge 16, 3) := by decide +kernel
theorem dX2_raiseFrom_8 : decode cX2_raiseFrom 8 = .ok (.aload_n 0, 1) := by decide +kernel
theorem dX2_raiseFrom_9 : decode cX2_raiseFrom 9 = .ok (.getfield 20, 3) := by decide +kernel
theorem dX2_raiseFrom_12 : decode cX2_raiseFrom 12 = .ok (.iload_n 3, 1) := by decide +kernel
theorem dX2_raiseFrom_13 : decode cX2_raiseFrom 13 = .ok (.iload_n 2, 1) := by decide +kernel
theorem dX2_raiseFrom_14 : decode cX2_raiseFrom 14 = .ok (.iastore, 1) := by decide +kernel
theorem dX2_raiseFrom_15 : decode cX2_raiseFrom 15 = .ok (.iinc 3 1, 3) := by decide +kernel
theorem dX2_raiseFrom_18 : decode cX2_raiseFrom 18 = .ok (.goto (-16), 3) := by decide +kernel
theorem dX2_raiseFrom_21 : decode cX2_raiseFrom 21 = .ok (.return_, 1) := by decide +kernel
theorem dX3_init_0 : decode cX3_init 0 = .ok (.aload_n 0, 1) := by decide +kernel
theorem dX3_init_1 : decode cX3_init 1 = .ok (.invokespecial 3, 3) := by decide +kernel
theorem dX3_init_4 : decode cX3_init 4 = .ok (.aload_n 0, 1) := by decide +kernel
theorem dX3_init_5 : decode cX3_init 5 = .ok (.sipush 1500, 3) := by decide +kernel
theorem dX3_init_8 : decode cX3_init 8 = .ok (.newarray .int, 2) := by decide +kernel
theorem dX3_init_10 : decode cX3_init 10 = .ok (.putfield 9, 3) := by decide +kernel
theorem dX3_init_13 : decode cX3_init 13 = .ok (.aload_n 0, 1) := by decide +kernel
theorem dX3_init_14 : decode cX3_init 14 = .ok (.sipush 1500, 3) := by decide +kernel
theorem dX3_init_17 : decode cX3_init 17 = .ok (.newarray .int, 2) := by decide +kernel
theorem dX3_init_19 : decode cX3_init 19 = .ok (.putfield 15, 3) := by decide +kernel
theorem dX3_init_22 : decode cX3_init 22 = .ok (.aload_n 0, 1) := by decide +kernel
theorem dX3_init_23 : decode cX3_init 23 = .ok (.iconst 0, 1) := by decide +kernel
theorem dX3_init_24 : decode cX3_init 24 = .ok (.putfield 18, 3) := by decide +kernel
theorem dX3_init_27 : decode cX3_init 27 = .ok (.return_, 1) := by decide +kernel
theorem dX3_today_0 : decode cX3_today 0 = .ok (.aload_n 0, 1) := by decide +kernel
theorem dX3_today_1 : decode cX3_today 1 = .ok (.getfield 18, 3) := by decide +kernel
theorem dX3_today_4 : decode cX3_today 4 = .ok (.bipush 24, 2) := by decide +kernel
theorem dX3_today_6 : decode cX3_today 6 = .ok (.idiv, 1) := by decide +kernel
theorem dX3_today_7 : decode cX3_today 7 = .ok (.ireturn, 1) := by decide +kernel
theorem dX3_hourOfDay_0 : decode cX3_hourOfDay 0 = .ok (.aload_n 0, 1) := by decide +kernel
theorem dX3_hourOfDay_1 : decode cX3_hourOfDay 1 = .ok (.getfield 18, 3) := by decide +kernel
theorem dX3_hourOfDay_4 : decode cX3_hourOfDay 4 = .ok (.bipush 24, 2) := by decide +kernel
theorem dX3_hourOfDay_6 : decode cX3_hourOfDay 6 = .ok (.irem, 1) := by decide +kernel
theorem dX3_hourOfDay_7 : decode cX3_hourOfDay 7 = .ok (.ireturn, 1) := by decide +kernel
theorem dX3_isOpen_0 : decode cX3_isOpen 0 = .ok (.bipush 6, 2) := by decide +kernel
theorem dX3_isOpen_2 : decode cX3_isOpen 2 = .ok (.aload_n 0, 1) := by decide +kernel
theorem dX3_isOpen_3 : decode cX3_isOpen 3 = .ok (.invokevirtual 22, 3) := by decide +kernel
theorem dX3_isOpen_6 : decode cX3_isOpen 6 = .ok (.bipush 19, 2) := by decide +kernel
theorem dX3_isOpen_8 : decode cX3_isOpen 8 = .ok (.invokestatic 26, 3) := by decide +kernel
theorem dX3_isOpen_11 : decode cX3_isOpen 11 = .ok (.ireturn, 1) := by decide +kernel
theorem dX3_weatherNow_0 : decode cX3_weatherNow 0 = .ok (.aload_n 0, 1) := by decide +kernel
theorem dX3_weatherNow_1 : decode cX3_weatherNow 1 = .ok (.getfield 9, 3) := by decide +kernel
theorem dX3_weatherNow_4 : decode cX3_weatherNow 4 = .ok (.aload_n 0, 1) := by decide +kernel
theorem dX3_weatherNow_5 : decode cX3_weatherNow 5 = .ok (.invokevirtual 30, 3) := by decide +kernel
theorem dX3_weatherNow_8 : decode cX3_weatherNow 8 = .ok (.iaload, 1) := by decide +kernel
theorem dX3_weatherNow_9 : decode cX3_weatherNow 9 = .ok (.ireturn, 1) := by decide +kernel
theorem dX4_init_0 : decode cX4_init 0 = .ok (.aload_n 0, 1) := by decide +kernel
theorem dX4_init_1 : decode cX4_init 1 = .ok (.invokespecial 1, 3) := by decide +kernel
theorem dX4_init_4 : decode cX4_init 4 = .ok (.aload_n 0, 1) := by decide +kernel
theorem dX4_init_5 : decode cX4_init 5 = .ok (.iconst 0, 1) := by decide +kernel
theorem dX4_init_6 : decode cX4_init 6 = .ok (.putfield 7, 3) := by decide +kernel
theorem dX4_init_9 : decode cX4_init 9 = .ok (.aload_n 0, 1) := by decide +kernel
theorem dX4_init_10 : decode cX4_init 10 = .ok (.iconst 0, 1) := by decide +kernel
theorem dX4_init_11 : decode cX4_init 11 = .ok (.putfield 13, 3) := by decide +kernel
theorem dX4_init_14 : decode cX4_init 14 = .ok (.aload_n 0, 1) := by decide +kernel
theorem dX4_init_15 : decode cX4_init 15 = .ok (.iconst 0, 1) := by decide +kernel
theorem dX4_init_16 : decode cX4_init 16 = .ok (.putfield 16, 3) := by decide +kernel
theorem dX4_init_19 : decode cX4_init 19 = .ok (.aload_n 0, 1) := by decide +kernel
theorem dX4_init_20 : decode cX4_init 20 = .ok (.iconst 0, 1) := by decide +kernel
theorem dX4_init_21 : decode cX4_init 21 = .ok (.putfield 19, 3) := by decide +kernel
theorem dX4_init_24 : decode cX4_init 24 = .ok (.aload_n 0, 1) := by decide +kernel
theorem dX4_init_25 : decode cX4_init 25 = .ok (.iconst 0, 1) := by decide +kernel
theorem dX4_init_26 : decode cX4_init 26 = .ok (.putfield 22, 3) := by decide +kernel
theorem dX4_init_29 : decode cX4_init 29 = .ok (.aload_n 0, 1) := by decide +kernel
theorem dX4_init_30 : decode cX4_init 30 = .ok (.iconst 0, 1) := by decide +kernel
theorem dX4_init_31 : decode cX4_init 31 = .ok (.putfield 25, 3) := by decide +kernel
theorem dX4_init_34 : decode cX4_init 34 = .ok (.aload_n 0, 1) := by decide +kernel
theorem dX4_init_35 : decode cX4_init 35 = .ok (.iconst 0, 1) := by decide +kernel
theorem dX4_init_36 : decode cX4_init 36 = .ok (.putfield 28, 3) := by decide +kernel
theorem dX4_init_39 : decode cX4_init 39 = .ok (.aload_n 0, 1) := by decide +kernel
theorem dX4_init_40 : decode cX4_init 40 = .ok (.iconst 0, 1) := by decide +kernel
theorem dX4_init_41 : decode cX4_init 41 = .ok (.putfield 31, 3) := by decide +kernel
theorem dX4_init_44 : decode cX4_init 44 = .ok (.return_, 1) := by decide +kernel
theorem dX4_named_0 : decode cX4_named 0 = .ok (.iload_n 1, 1) := by decide +kernel
theorem dX4_named_1 : decode cX4_named 1 = .ok (.tableswitch 147 97 119 #[107, 147, 117, 147, 147, 147, 147, 127, 147, 147, 112, 147, 147, 137, 147, 132, 147, 147, 142, 147, 147, 147, 122], 107) := by decide +kernel
theorem dX4_named_108 : decode cX4_named 108 = .ok (.aload_n 0, 1) := by decide +kernel
theorem dX4_named_109 : decode cX4_named 109 = .ok (.getfield 7, 3) := by decide +kernel
theorem dX4_named_112 : decode cX4_named 112 = .ok (.ireturn, 1) := by decide +kernel
theorem dX4_named_113 : decode cX4_named 113 = .ok (.aload_n 0, 1) := by decide +kernel
theorem dX4_named_114 : decode cX4_named 114 = .ok (.getfield 13, 3) := by decide +kernel
theorem dX4_named_117 : decode cX4_named 117 = .ok (.ireturn, 1) := by decide +kernel
theorem dX4_named_118 : decode cX4_named 118 = .ok (.aload_n 0, 1) := by decide +kernel
theorem dX4_named_119 : decode cX4_named 119 = .ok (.getfield 16, 3) := by decide +kernel
theorem dX4_named_122 : decode cX4_named 122 = .ok (.ireturn, 1) := by decide +kernel
theorem dX4_named_123 : decode cX4_named 123 = .ok (.aload_n 0, 1) := by decide +kernel
theorem dX4_named_124 : decode cX4_named 124 = .ok (.getfield 19, 3) := by decide +kernel
theorem dX4_named_127 : decode cX4_named 127 = .ok (.ireturn, 1) := by decide +kernel
theorem dX4_named_128 : decode cX4_named 128 = .ok (.aload_n 0, 1) := by decide +kernel
theorem dX4_named_129 : decode cX4_named 129 = .ok (.getfield 22, 3) := by decide +kernel
theorem dX4_named_132 : decode cX4_named 132 = .ok (.ireturn, 1) := by decide +kernel
theorem dX4_named_133 : decode cX4_named 133 = .ok (.aload_n 0, 1) := by decide +kernel
theorem dX4_named_134 : decode cX4_named 134 = .ok (.getfield 25, 3) := by decide +kernel
theorem dX4_named_137 : decode cX4_named 137 = .ok (.ireturn, 1) := by decide +kernel
theorem dX4_named_138 : decode cX4_named 138 = .ok (.aload_n 0, 1) := by decide +kernel
theorem dX4_named_139 : decode cX4_named 139 = .ok (.getfield 28, 3) := by decide +kernel
theorem dX4_named_142 : decode cX4_named 142 = .ok (.ireturn, 1) := by decide +kernel
theorem dX4_named_143 : decode cX4_named 143 = .ok (.aload_n 0, 1) := by decide +kernel
theorem dX4_named_144 : decode cX4_named 144 = .ok (.getfield 31, 3) := by decide +kernel
theorem dX4_named_147 : decode cX4_named 147 = .ok (.ireturn, 1) := by decide +kernel
theorem dX4_named_148 : decode cX4_named 148 = .ok (.iconst 0, 1) := by decide +kernel
theorem dX4_named_149 : decode cX4_named 149 = .ok (.ireturn, 1) := by decide +kernel
theorem dX4_isName_0 : decode cX4_isName 0 = .ok (.iload_n 0, 1) := by decide +kernel
theorem dX4_isName_1 : decode cX4_isName 1 = .ok (.tableswitch 109 97 119 #[107, 109, 107, 109, 109, 109, 109, 107, 109, 109, 107, 109, 109, 107, 109, 107, 109, 109, 107, 109, 109, 109, 107], 107) := by decide +kernel
theorem dX4_isName_108 : decode cX4_isName 108 = .ok (.iconst 1, 1) := by decide +kernel
theorem dX4_isName_109 : decode cX4_isName 109 = .ok (.ireturn, 1) := by decide +kernel
theorem dX4_isName_110 : decode cX4_isName 110 = .ok (.iconst 0, 1) := by decide +kernel
theorem dX4_isName_111 : decode cX4_isName 111 = .ok (.ireturn, 1) := by decide +kernel
theorem dX5_init_0 : decode cX5_init 0 = .ok (.aload_n 0, 1) := by decide +kernel
theorem dX5_init_1 : decode cX5_init 1 = .ok (.invokespecial 3, 3) := by decide +kernel
theorem dX5_init_4 : decode cX5_init 4 = .ok (.aload_n 0, 1) := by decide +kernel
theorem dX5_init_5 : decode cX5_init 5 = .ok (.bipush 10, 2) := by decide +kernel
theorem dX5_init_7 : decode cX5_init 7 = .ok (.newarray .int, 2) := by decide +kernel
theorem dX5_init_9 : decode cX5_init 9 = .ok (.putfield 9, 3) := by decide +kernel
theorem dX5_init_12 : decode cX5_init 12 = .ok (.aload_n 0, 1) := by decide +kernel
theorem dX5_init_13 : decode cX5_init 13 = .ok (.bipush 10, 2) := by decide +kernel
theorem dX5_init_15 : decode cX5_init 15 = .ok (.newarray .int, 2) := by decide +kernel
theorem dX5_init_17 : decode cX5_init 17 = .ok (.putfield 15, 3) := by decide +kernel
theorem dX5_init_20 : decode cX5_init 20 = .ok (.aload_n 0, 1) := by decide +kernel
theorem dX5_init_21 : decode cX5_init 21 = .ok (.bipush 10, 2) := by decide +kernel
theorem dX5_init_23 : decode cX5_init 23 = .ok (.newarray .int, 2) := by decide +kernel
theorem dX5_init_25 : decode cX5_init 25 = .ok (.putfield 18, 3) := by decide +kernel
theorem dX5_init_28 : decode cX5_init 28 = .ok (.aload_n 0, 1) := by decide +kernel
theorem dX5_init_29 : decode cX5_init 29 = .ok (.bipush 10, 2) := by decide +kernel
theorem dX5_init_31 : decode cX5_init 31 = .ok (.newarray .int, 2) := by decide +kernel
theorem dX5_init_33 : decode cX5_init 33 = .ok (.putfield 21, 3) := by decide +kernel
theorem dX5_init_36 : decode cX5_init 36 = .ok (.aload_n 0, 1) := by decide +kernel
theorem dX5_init_37 : decode cX5_init 37 = .ok (.bipush 10, 2) := by decide +kernel
theorem dX5_init_39 : decode cX5_init 39 = .ok (.newarray .int, 2) := by decide +kernel
theorem dX5_init_41 : decode cX5_init 41 = .ok (.putfield 24, 3) := by decide +kernel
theorem dX5_init_44 : decode cX5_init 44 = .ok (.aload_n 0, 1) := by decide +kernel
theorem dX5_init_45 : decode cX5_init 45 = .ok (.iconst 0, 1) := by decide +kernel
theorem dX5_init_46 : decode cX5_init 46 = .ok (.putfield 27, 3) := by decide +kernel
theorem dX5_init_49 : decode cX5_init 49 = .ok (.return_, 1) := by decide +kernel
theorem dX5_has_0 : decode cX5_has 0 = .ok (.iload_n 1, 1) := by decide +kernel
theorem dX5_has_1 : decode cX5_has 1 = .ok (.aload_n 0, 1) := by decide +kernel
theorem dX5_has_2 : decode cX5_has 2 = .ok (.getfield 27, 3) := by decide +kernel
theorem dX5_has_5 : decode cX5_has 5 = .ok (.invokestatic 31, 3) := by decide +kernel
theorem dX5_has_8 : decode cX5_has 8 = .ok (.ireturn, 1) := by decide +kernel
theorem dX5_add_0 : decode cX5_add 0 = .ok (.aload_n 0, 1) := by decide +kernel
theorem dX5_add_1 : decode cX5_add 1 = .ok (.getfield 27, 3) := by decide +kernel
theorem dX5_add_4 : decode cX5_add 4 = .ok (.bipush 10, 2) := by decide +kernel
theorem dX5_add_6 : decode cX5_add 6 = .ok (.if_icmp .lt 6, 3) := by decide +kernel
theorem dX5_add_9 : decode cX5_add 9 = .ok (.bipush (-3), 2) := by decide +kernel
theorem dX5_add_11 : decode cX5_add 11 = .ok (.ireturn, 1) := by decide +kernel
theorem dX5_add_12 : decode cX5_add 12 = .ok (.aload_n 0, 1) := by decide +kernel
theorem dX5_add_13 : decode cX5_add 13 = .ok (.getfield 9, 3) := by decide +kernel
theorem dX5_add_16 : decode cX5_add 16 = .ok (.aload_n 0, 1) := by decide +kernel
theorem dX5_add_17 : decode cX5_add 17 = .ok (.getfield 27, 3) := by decide +kernel
theorem dX5_add_20 : decode cX5_add 20 = .ok (.iload_n 1, 1) := by decide +kernel
theorem dX5_add_21 : decode cX5_add 21 = .ok (.iastore, 1) := by decide +kernel
theorem dX5_add_22 : decode cX5_add 22 = .ok (.aload_n 0, 1) := by decide +kernel
theorem dX5_add_23 : decode cX5_add 23 = .ok (.getfield 15, 3) := by decide +kernel
theorem dX5_add_26 : decode cX5_add 26 = .ok (.aload_n 0, 1) := by decide +kernel
theorem dX5_add_27 : decode cX5_add 27 = .ok (.getfield 27, 3) := by decide +kernel
theorem dX5_add_30 : decode cX5_add 30 = .ok (.iload_n 2, 1) := by decide +kernel
theorem dX5_add_31 : decode cX5_add 31 = .ok (.iastore, 1) := by decide +kernel
theorem dX5_add_32 : decode cX5_add 32 = .ok (.aload_n 0, 1) := by decide +kernel
theorem dX5_add_33 : decode cX5_add 33 = .ok (.getfield 18, 3) := by decide +kernel
theorem dX5_add_36 : decode cX5_add 36 = .ok (.aload_n 0, 1) := by decide +kernel
theorem dX5_add_37 : decode cX5_add 37 = .ok (.getfield 27, 3) := by decide +kernel
theorem dX5_add_40 : decode cX5_add 40 = .ok (.iload_n 3, 1) := by decide +kernel
theorem dX5_add_41 : decode cX5_add 41 = .ok (.iastore, 1) := by decide +kernel
theorem dX5_add_42 : decode cX5_add 42 = .ok (.aload_n 0, 1) := by decide +kernel
theorem dX5_add_43 : decode cX5_add 43 = .ok (.getfield 21, 3) := by decide +kernel
theorem dX5_add_46 : decode cX5_add 46 = .ok (.aload_n 0, 1) := by decide +kernel
theorem dX5_add_47 : decode cX5_add 47 = .ok (.getfield 27, 3) := by decide +kernel
theorem dX5_add_50 : decode cX5_add 50 = .ok (.iload 4, 2) := by decide +kernel
theorem dX5_add_52 : decode cX5_add 52 = .ok (.iastore, 1) := by decide +kernel
theorem dX5_add_53 : decode cX5_add 53 = .ok (.aload_n 0, 1) := by decide +kernel
theorem dX5_add_54 : decode cX5_add 54 = .ok (.dup, 1) := by decide +kernel
theorem dX5_add_55 : decode cX5_add 55 = .ok (.getfield 27, 3) := by decide +kernel
theorem dX5_add_58 : decode cX5_add 58 = .ok (.iconst 1, 1) := by decide +kernel
theorem dX5_add_59 : decode cX5_add 59 = .ok (.iadd, 1) := by decide +kernel
theorem dX5_add_60 : decode cX5_add 60 = .ok (.putfield 27, 3) := by decide +kernel
theorem dX5_add_63 : decode cX5_add 63 = .ok (.aload_n 0, 1) := by decide +kernel
theorem dX5_add_64 : decode cX5_add 64 = .ok (.getfield 27, 3) := by decide +kernel
theorem dX5_add_67 : decode cX5_add 67 = .ok (.iconst 1, 1) := by decide +kernel
theorem dX5_add_68 : decode cX5_add 68 = .ok (.isub, 1) := by decide +kernel
theorem dX5_add_69 : decode cX5_add 69 = .ok (.ireturn, 1) := by decide +kernel
theorem dX5_coinsAt_0 : decode cX5_coinsAt 0 = .ok (.aload_n 0, 1) := by decide +kernel
theorem dX5_coinsAt_1 : decode cX5_coinsAt 1 = .ok (.getfield 9, 3) := by decide +kernel
theorem dX5_coinsAt_4 : decode cX5_coinsAt 4 = .ok (.iload_n 1, 1) := by decide +kernel
theorem dX5_coinsAt_5 : decode cX5_coinsAt 5 = .ok (.iaload, 1) := by decide +kernel
theorem dX5_coinsAt_6 : decode cX5_coinsAt 6 = .ok (.iconst 4, 1) := by decide +kernel
theorem dX5_coinsAt_7 : decode cX5_coinsAt 7 = .ok (.iload_n 2, 1) := by decide +kernel
theorem dX5_coinsAt_8 : decode cX5_coinsAt 8 = .ok (.isub, 1) := by decide +kernel
theorem dX5_coinsAt_9 : decode cX5_coinsAt 9 = .ok (.imul, 1) := by decide +kernel
theorem dX5_coinsAt_10 : decode cX5_coinsAt 10 = .ok (.iconst 4, 1) := by decide +kernel
theorem dX5_coinsAt_11 : decode cX5_coinsAt 11 = .ok (.idiv, 1) := by decide +kernel
theorem dX5_coinsAt_12 : decode cX5_coinsAt 12 = .ok (.ireturn, 1) := by decide +kernel
theorem dX5_lackCost_0 : decode cX5_lackCost 0 = .ok (.iconst 0, 1) := by decide +kernel
theorem dX5_lackCost_1 : decode cX5_lackCost 1 = .ok (.aload_n 0, 1) := by decide +kernel
theorem dX5_lackCost_2 : decode cX5_lackCost 2 = .ok (.getfield 9, 3) := by decide +kernel
theorem dX5_lackCost_5 : decode cX5_lackCost 5 = .ok (.iload_n 1, 1) := by decide +kernel
theorem dX5_lackCost_6 : decode cX5_lackCost 6 = .ok (.iaload, 1) := by decide +kernel
theorem dX5_lackCost_7 : decode cX5_lackCost 7 = .ok (.aload_n 0, 1) := by decide +kernel
theorem dX5_lackCost_8 : decode cX5_lackCost 8 = .ok (.getfield 15, 3) := by decide +kernel
theorem dX5_lackCost_11 : decode cX5_lackCost 11 = .ok (.iload_n 1, 1) := by decide +kernel
theorem dX5_lackCost_12 : decode cX5_lackCost 12 = .ok (.iaload, 1) := by decide +kernel
theorem dX5_lackCost_13 : decode cX5_lackCost 13 = .ok (.isub, 1) := by decide +kernel
theorem dX5_lackCost_14 : decode cX5_lackCost 14 = .ok (.invokestatic 35, 3) := by decide +kernel
theorem dX5_lackCost_17 : decode cX5_lackCost 17 = .ok (.ireturn, 1) := by decide +kernel
theorem dX5_wasteCost_0 : decode cX5_wasteCost 0 = .ok (.aload_n 0, 1) := by decide +kernel
theorem dX5_wasteCost_1 : decode cX5_wasteCost 1 = .ok (.getfield 15, 3) := by decide +kernel
theorem dX5_wasteCost_4 : decode cX5_wasteCost 4 = .ok (.iload_n 1, 1) := by decide +kernel
theorem dX5_wasteCost_5 : decode cX5_wasteCost 5 = .ok (.iaload, 1) := by decide +kernel
theorem dX5_wasteCost_6 : decode cX5_wasteCost 6 = .ok (.aload_n 0, 1) := by decide +kernel
theorem dX5_wasteCost_7 : decode cX5_wasteCost 7 = .ok (.getfield 24, 3) := by decide +kernel
theorem dX5_wasteCost_10 : decode cX5_wasteCost 10 = .ok (.iload_n 1, 1) := by decide +kernel
theorem dX5_wasteCost_11 : decode cX5_wasteCost 11 = .ok (.iaload, 1) := by decide +kernel
theorem dX5_wasteCost_12 : decode cX5_wasteCost 12 = .ok (.iadd, 1) := by decide +kernel
theorem dX5_wasteCost_13 : decode cX5_wasteCost 13 = .ok (.ireturn, 1) := by decide +kernel
theorem dX6_init_0 : decode cX6_init 0 = .ok (.aload_n 0, 1) := by decide +kernel
theorem dX6_init_1 : decode cX6_init 1 = .ok (.invokespecial 3, 3) := by decide +kernel
theorem dX6_init_4 : decode cX6_init 4 = .ok (.aload_n 0, 1) := by decide +kernel
theorem dX6_init_5 : decode cX6_init 5 = .ok (.bipush 16, 2) := by decide +kernel
theorem dX6_init_7 : decode cX6_init 7 = .ok (.sipush 161, 3) := by decide +kernel
theorem dX6_init_10 : decode cX6_init 10 = .ok (.multianewarray 9 2, 4) := by decide +kernel
theorem dX6_init_14 : decode cX6_init 14 = .ok (.putfield 11, 3) := by decide +kernel
theorem dX6_init_17 : decode cX6_init 17 = .ok (.aload_n 0, 1) := by decide +kernel
theorem dX6_init_18 : decode cX6_init 18 = .ok (.bipush 16, 2) := by decide +kernel
theorem dX6_init_20 : decode cX6_init 20 = .ok (.newarray .int, 2) := by decide +kernel
theorem dX6_init_22 : decode cX6_init 22 = .ok (.putfield 16, 3) := by decide +kernel
theorem dX6_init_25 : decode cX6_init 25 = .ok (.aload_n 0, 1) := by decide +kernel
theorem dX6_init_26 : decode cX6_init 26 = .ok (.bipush 16, 2) := by decide +kernel
theorem dX6_init_28 : decode cX6_init 28 = .ok (.newarray .int, 2) := by decide +kernel
theorem dX6_init_30 : decode cX6_init 30 = .ok (.putfield 20, 3) := by decide +kernel
theorem dX6_init_33 : decode cX6_init 33 = .ok (.aload_n 0, 1) := by decide +kernel
theorem dX6_init_34 : decode cX6_init 34 = .ok (.bipush 16, 2) := by decide +kernel
theorem dX6_init_36 : decode cX6_init 36 = .ok (.newarray .int, 2) := by decide +kernel
theorem dX6_init_38 : decode cX6_init 38 = .ok (.putfield 23, 3) := by decide +kernel
theorem dX6_init_41 : decode cX6_init 41 = .ok (.aload_n 0, 1) := by decide +kernel
theorem dX6_init_42 : decode cX6_init 42 = .ok (.bipush 16, 2) := by decide +kernel
theorem dX6_init_44 : decode cX6_init 44 = .ok (.newarray .int, 2) := by decide +kernel
theorem dX6_init_46 : decode cX6_init 46 = .ok (.putfield 26, 3) := by decide +kernel
theorem dX6_init_49 : decode cX6_init 49 = .ok (.aload_n 0, 1) := by decide +kernel
theorem dX6_init_50 : decode cX6_init 50 = .ok (.iconst 0, 1) := by decide +kernel
theorem dX6_init_51 : decode cX6_init 51 = .ok (.putfield 29, 3) := by decide +kernel
theorem dX6_init_54 : decode cX6_init 54 = .ok (.aload_n 0, 1) := by decide +kernel
theorem dX6_init_55 : decode cX6_init 55 = .ok (.sipush 160, 3) := by decide +kernel
theorem dX6_init_58 : decode cX6_init 58 = .ok (.newarray .int, 2) := by decide +kernel
theorem dX6_init_60 : decode cX6_init 60 = .ok (.putfield 33, 3) := by decide +kernel
theorem dX6_init_63 : decode cX6_init 63 = .ok (.aload_n 0, 1) := by decide +kernel
theorem dX6_init_64 : decode cX6_init 64 = .ok (.iconst 0, 1) := by decide +kernel
theorem dX6_init_65 : decode cX6_init 65 = .ok (.putfield 36, 3) := by decide +kernel
theorem dX6_init_68 : decode cX6_init 68 = .ok (.return_, 1) := by decide +kernel
theorem dX6_add_0 : decode cX6_add 0 = .ok (.aload_n 0, 1) := by decide +kernel
theorem dX6_add_1 : decode cX6_add 1 = .ok (.getfield 29, 3) := by decide +kernel
theorem dX6_add_4 : decode cX6_add 4 = .ok (.bipush 16, 2) := by decide +kernel
theorem dX6_add_6 : decode cX6_add 6 = .ok (.if_icmp .lt 6, 3) := by decide +kernel
theorem dX6_add_9 : decode cX6_add 9 = .ok (.bipush (-3), 2) := by decide +kernel
theorem dX6_add_11 : decode cX6_add 11 = .ok (.ireturn, 1) := by decide +kernel
theorem dX6_add_12 : decode cX6_add 12 = .ok (.aload_n 0, 1) := by decide +kernel
theorem dX6_add_13 : decode cX6_add 13 = .ok (.getfield 16, 3) := by decide +kernel
theorem dX6_add_16 : decode cX6_add 16 = .ok (.aload_n 0, 1) := by decide +kernel
theorem dX6_add_17 : decode cX6_add 17 = .ok (.getfield 29, 3) := by decide +kernel
theorem dX6_add_20 : decode cX6_add 20 = .ok (.iload_n 1, 1) := by decide +kernel
theorem dX6_add_21 : decode cX6_add 21 = .ok (.iastore, 1) := by decide +kernel
theorem dX6_add_22 : decode cX6_add 22 = .ok (.aload_n 0, 1) := by decide +kernel
theorem dX6_add_23 : decode cX6_add 23 = .ok (.getfield 20, 3) := by decide +kernel
theorem dX6_add_26 : decode cX6_add 26 = .ok (.aload_n 0, 1) := by decide +kernel
theorem dX6_add_27 : decode cX6_add 27 = .ok (.getfield 29, 3) := by decide +kernel
theorem dX6_add_30 : decode cX6_add 30 = .ok (.iload_n 2, 1) := by decide +kernel
theorem dX6_add_31 : decode cX6_add 31 = .ok (.iastore, 1) := by decide +kernel
theorem dX6_add_32 : decode cX6_add 32 = .ok (.aload_n 0, 1) := by decide +kernel
theorem dX6_add_33 : decode cX6_add 33 = .ok (.getfield 23, 3) := by decide +kernel
theorem dX6_add_36 : decode cX6_add 36 = .ok (.aload_n 0, 1) := by decide +kernel
theorem dX6_add_37 : decode cX6_add 37 = .ok (.getfield 29, 3) := by decide +kernel
theorem dX6_add_40 : decode cX6_add 40 = .ok (.iload_n 3, 1) := by decide +kernel
theorem dX6_add_41 : decode cX6_add 41 = .ok (.iastore, 1) := by decide +kernel
theorem dX6_add_42 : decode cX6_add 42 = .ok (.aload_n 0, 1) := by decide +kernel
theorem dX6_add_43 : decode cX6_add 43 = .ok (.getfield 26, 3) := by decide +kernel
theorem dX6_add_46 : decode cX6_add 46 = .ok (.aload_n 0, 1) := by decide +kernel
theorem dX6_add_47 : decode cX6_add 47 = .ok (.getfield 29, 3) := by decide +kernel
theorem dX6_add_50 : decode cX6_add 50 = .ok (.iload 4, 2) := by decide +kernel
theorem dX6_add_52 : decode cX6_add 52 = .ok (.iastore, 1) := by decide +kernel
theorem dX6_add_53 : decode cX6_add 53 = .ok (.aload_n 0, 1) := by decide +kernel
theorem dX6_add_54 : decode cX6_add 54 = .ok (.dup, 1) := by decide +kernel
theorem dX6_add_55 : decode cX6_add 55 = .ok (.getfield 29, 3) := by decide +kernel
theorem dX6_add_58 : decode cX6_add 58 = .ok (.iconst 1, 1) := by decide +kernel
theorem dX6_add_59 : decode cX6_add 59 = .ok (.iadd, 1) := by decide +kernel
theorem dX6_add_60 : decode cX6_add 60 = .ok (.putfield 29, 3) := by decide +kernel
theorem dX6_add_63 : decode cX6_add 63 = .ok (.aload_n 0, 1) := by decide +kernel
theorem dX6_add_64 : decode cX6_add 64 = .ok (.getfield 29, 3) := by decide +kernel
theorem dX6_add_67 : decode cX6_add 67 = .ok (.iconst 1, 1) := by decide +kernel
theorem dX6_add_68 : decode cX6_add 68 = .ok (.isub, 1) := by decide +kernel
theorem dX6_add_69 : decode cX6_add 69 = .ok (.ireturn, 1) := by decide +kernel
theorem dX6_latest_0 : decode cX6_latest 0 = .ok (.aload_n 0, 1) := by decide +kernel
theorem dX6_latest_1 : decode cX6_latest 1 = .ok (.getfield 29, 3) := by decide +kernel
theorem dX6_latest_4 : decode cX6_latest 4 = .ok (.iconst 1, 1) := by decide +kernel
theorem dX6_latest_5 : decode cX6_latest 5 = .ok (.isub, 1) := by decide +kernel
theorem dX6_latest_6 : decode cX6_latest 6 = .ok (.istore 4, 2) := by decide +kernel
theorem dX6_latest_8 : decode cX6_latest 8 = .ok (.iload 4, 2) := by decide +kernel
theorem dX6_latest_10 : decode cX6_latest 10 = .ok (.ifCond .lt 45, 3) := by decide +kernel
theorem dX6_latest_13 : decode cX6_latest 13 = .ok (.aload_n 0, 1) := by decide +kernel
theorem dX6_latest_14 : decode cX6_latest 14 = .ok (.getfield 20, 3) := by decide +kernel
theorem dX6_latest_17 : decode cX6_latest 17 = .ok (.iload 4, 2) := by decide +kernel
theorem dX6_latest_19 : decode cX6_latest 19 = .ok (.iaload, 1) := by decide +kernel
theorem dX6_latest_20 : decode cX6_latest 20 = .ok (.iload_n 1, 1) := by decide +kernel
theorem dX6_latest_21 : decode cX6_latest 21 = .ok (.if_icmp .ne 28, 3) := by decide +kernel
theorem dX6_latest_24 : decode cX6_latest 24 = .ok (.aload_n 0, 1) := by decide +kernel
theorem dX6_latest_25 : decode cX6_latest 25 = .ok (.getfield 26, 3) := by decide +kernel
theorem dX6_latest_28 : decode cX6_latest 28 = .ok (.iload 4, 2) := by decide +kernel
theorem dX6_latest_30 : decode cX6_latest 30 = .ok (.iaload, 1) := by decide +kernel
theorem dX6_latest_31 : decode cX6_latest 31 = .ok (.iload_n 3, 1) := by decide +kernel
theorem dX6_latest_32 : decode cX6_latest 32 = .ok (.if_icmp .gt 17, 3) := by decide +kernel
theorem dX6_latest_35 : decode cX6_latest 35 = .ok (.aload_n 0, 1) := by decide +kernel
theorem dX6_latest_36 : decode cX6_latest 36 = .ok (.getfield 23, 3) := by decide +kernel
theorem dX6_latest_39 : decode cX6_latest 39 = .ok (.iload 4, 2) := by decide +kernel
theorem dX6_latest_41 : decode cX6_latest 41 = .ok (.iaload, 1) := by decide +kernel
theorem dX6_latest_42 : decode cX6_latest 42 = .ok (.iload_n 2, 1) := by decide +kernel
theorem dX6_latest_43 : decode cX6_latest 43 = .ok (.if_icmp .gt 6, 3) := by decide +kernel
theorem dX6_latest_46 : decode cX6_latest 46 = .ok (.iload 4, 2) := by decide +kernel
theorem dX6_latest_48 : decode cX6_latest 48 = .ok (.ireturn, 1) := by decide +kernel
theorem dX6_latest_49 : decode cX6_latest 49 = .ok (.iinc 4 (-1), 3) := by decide +kernel
theorem dX6_latest_52 : decode cX6_latest 52 = .ok (.goto (-44), 3) := by decide +kernel
theorem dX6_latest_55 : decode cX6_latest 55 = .ok (.bipush (-2), 2) := by decide +kernel
theorem dX6_latest_57 : decode cX6_latest 57 = .ok (.ireturn, 1) := by decide +kernel
theorem dX6_valueOf_0 : decode cX6_valueOf 0 = .ok (.iconst 1, 1) := by decide +kernel
theorem dX6_valueOf_1 : decode cX6_valueOf 1 = .ok (.istore_n 3, 1) := by decide +kernel
theorem dX6_valueOf_2 : decode cX6_valueOf 2 = .ok (.aload_n 0, 1) := by decide +kernel
theorem dX6_valueOf_3 : decode cX6_valueOf 3 = .ok (.iconst 0, 1) := by decide +kernel
theorem dX6_valueOf_4 : decode cX6_valueOf 4 = .ok (.putfield 36, 3) := by decide +kernel
theorem dX6_valueOf_7 : decode cX6_valueOf 7 = .ok (.iconst 0, 1) := by decide +kernel
theorem dX6_valueOf_8 : decode cX6_valueOf 8 = .ok (.istore 4, 2) := by decide +kernel
theorem dX6_valueOf_10 : decode cX6_valueOf 10 = .ok (.iload 4, 2) := by decide +kernel
theorem dX6_valueOf_12 : decode cX6_valueOf 12 = .ok (.aload_n 0, 1) := by decide +kernel
theorem dX6_valueOf_13 : decode cX6_valueOf 13 = .ok (.getfield 16, 3) := by decide +kernel
theorem dX6_valueOf_16 : decode cX6_valueOf 16 = .ok (.iload_n 1, 1) := by decide +kernel
theorem dX6_valueOf_17 : decode cX6_valueOf 17 = .ok (.iaload, 1) := by decide +kernel
theorem dX6_valueOf_18 : decode cX6_valueOf 18 = .ok (.if_icmp .ge 75, 3) := by decide +kernel
theorem dX6_valueOf_21 : decode cX6_valueOf 21 = .ok (.aload_n 0, 1) := by decide +kernel
theorem dX6_valueOf_22 : decode cX6_valueOf 22 = .ok (.getfield 11, 3) := by decide +kernel
theorem dX6_valueOf_25 : decode cX6_valueOf 25 = .ok (.iload_n 1, 1) := by decide +kernel
theorem dX6_valueOf_26 : decode cX6_valueOf 26 = .ok (.aaload, 1) := by decide +kernel
theorem dX6_valueOf_27 : decode cX6_valueOf 27 = .ok (.iload 4, 2) := by decide +kernel
theorem dX6_valueOf_29 : decode cX6_valueOf 29 = .ok (.iaload, 1) := by decide +kernel
theorem dX6_valueOf_30 : decode cX6_valueOf 30 = .ok (.istore 5, 2) := by decide +kernel
theorem dX6_valueOf_32 : decode cX6_valueOf 32 = .ok (.iload 5, 2) := by decide +kernel
theorem dX6_valueOf_34 : decode cX6_valueOf 34 = .ok (.bipush (-59), 2) := by decide +kernel
theorem dX6_valueOf_36 : decode cX6_valueOf 36 = .ok (.if_icmp .ne 21, 3) := by decide +kernel
theorem dX6_valueOf_39 : decode cX6_valueOf 39 = .ok (.aload_n 0, 1) := by decide +kernel
theorem dX6_valueOf_40 : decode cX6_valueOf 40 = .ok (.invokevirtual 39, 3) := by decide +kernel
theorem dX6_valueOf_43 : decode cX6_valueOf 43 = .ok (.istore 6, 2) := by decide +kernel
theorem dX6_valueOf_45 : decode cX6_valueOf 45 = .ok (.iload_n 3, 1) := by decide +kernel
theorem dX6_valueOf_46 : decode cX6_valueOf 46 = .ok (.ifCond .eq 6, 3) := by decide +kernel
theorem dX6_valueOf_49 : decode cX6_valueOf 49 = .ok (.iload 6, 2) := by decide +kernel
theorem dX6_valueOf_51 : decode cX6_valueOf 51 = .ok (.ireturn, 1) := by decide +kernel
theorem dX6_valueOf_52 : decode cX6_valueOf 52 = .ok (.iconst 1, 1) := by decide +kernel
theorem dX6_valueOf_53 : decode cX6_valueOf 53 = .ok (.istore_n 3, 1) := by decide +kernel
theorem dX6_valueOf_54 : decode cX6_valueOf 54 = .ok (.goto 33, 3) := by decide +kernel
theorem dX6_valueOf_57 : decode cX6_valueOf 57 = .ok (.iload 5, 2) := by decide +kernel
theorem dX6_valueOf_59 : decode cX6_valueOf 59 = .ok (.bipush (-44), 2) := by decide +kernel
theorem dX6_valueOf_61 : decode cX6_valueOf 61 = .ok (.if_icmp .ne 19, 3) := by decide +kernel
theorem dX6_valueOf_64 : decode cX6_valueOf 64 = .ok (.aload_n 0, 1) := by decide +kernel
theorem dX6_valueOf_65 : decode cX6_valueOf 65 = .ok (.invokevirtual 39, 3) := by decide +kernel
theorem dX6_valueOf_68 : decode cX6_valueOf 68 = .ok (.ifCond .eq 7, 3) := by decide +kernel
theorem dX6_valueOf_71 : decode cX6_valueOf 71 = .ok (.iconst 1, 1) := by decide +kernel
theorem dX6_valueOf_72 : decode cX6_valueOf 72 = .ok (.goto 4, 3) := by decide +kernel
theorem dX6_valueOf_75 : decode cX6_valueOf 75 = .ok (.iconst 0, 1) := by decide +kernel
theorem dX6_valueOf_76 : decode cX6_valueOf 76 = .ok (.istore_n 3, 1) := by decide +kernel
theorem dX6_valueOf_77 : decode cX6_valueOf 77 = .ok (.goto 10, 3) := by decide +kernel
theorem dX6_valueOf_80 : decode cX6_valueOf 80 = .ok (.aload_n 0, 1) := by decide +kernel
theorem dX6_valueOf_81 : decode cX6_valueOf 81 = .ok (.iload 5, 2) := by decide +kernel
theorem dX6_valueOf_83 : decode cX6_valueOf 83 = .ok (.aload_n 2, 1) := by decide +kernel
theorem dX6_valueOf_84 : decode cX6_valueOf 84 = .ok (.invokevirtual 43, 3) := by decide +kernel
theorem dX6_valueOf_87 : decode cX6_valueOf 87 = .ok (.iinc 4 1, 3) := by decide +kernel
theorem dX6_valueOf_90 : decode cX6_valueOf 90 = .ok (.goto (-80), 3) := by decide +kernel
theorem dX6_valueOf_93 : decode cX6_valueOf 93 = .ok (.iconst 0, 1) := by decide +kernel
theorem dX6_valueOf_94 : decode cX6_valueOf 94 = .ok (.ireturn, 1) := by decide +kernel
theorem dX6_work_0 : decode cX6_work 0 = .ok (.iload_n 1, 1) := by decide +kernel
theorem dX6_work_1 : decode cX6_work 1 = .ok (.ifCond .lt 11, 3) := by decide +kernel
theorem dX6_work_4 : decode cX6_work 4 = .ok (.aload_n 0, 1) := by decide +kernel
theorem dX6_work_5 : decode cX6_work 5 = .ok (.iload_n 1, 1) := by decide +kernel
theorem dX6_work_6 : decode cX6_work 6 = .ok (.invokevirtual 47, 3) := by decide +kernel
theorem dX6_work_9 : decode cX6_work 9 = .ok (.goto 68, 3) := by decide +kernel
theorem dX6_work_12 : decode cX6_work 12 = .ok (.iload_n 1, 1) := by decide +kernel
theorem dX6_work_13 : decode cX6_work 13 = .ok (.ineg, 1) := by decide +kernel
theorem dX6_work_14 : decode cX6_work 14 = .ok (.invokestatic 51, 3) := by decide +kernel
theorem dX6_work_17 : decode cX6_work 17 = .ok (.ifCond .eq 16, 3) := by decide +kernel
theorem dX6_work_20 : decode cX6_work 20 = .ok (.aload_n 0, 1) := by decide +kernel
theorem dX6_work_21 : decode cX6_work 21 = .ok (.aload_n 2, 1) := by decide +kernel
theorem dX6_work_22 : decode cX6_work 22 = .ok (.iload_n 1, 1) := by decide +kernel
theorem dX6_work_23 : decode cX6_work 23 = .ok (.ineg, 1) := by decide +kernel
theorem dX6_work_24 : decode cX6_work 24 = .ok (.invokevirtual 57, 3) := by decide +kernel
theorem dX6_work_27 : decode cX6_work 27 = .ok (.invokevirtual 47, 3) := by decide +kernel
theorem dX6_work_30 : decode cX6_work 30 = .ok (.goto 47, 3) := by decide +kernel
theorem dX6_work_33 : decode cX6_work 33 = .ok (.iload_n 1, 1) := by decide +kernel
theorem dX6_work_34 : decode cX6_work 34 = .ok (.bipush (-33), 2) := by decide +kernel
theorem dX6_work_36 : decode cX6_work 36 = .ok (.if_icmp .ne 22, 3) := by decide +kernel
theorem dX6_work_39 : decode cX6_work 39 = .ok (.aload_n 0, 1) := by decide +kernel
theorem dX6_work_40 : decode cX6_work 40 = .ok (.aload_n 0, 1) := by decide +kernel
theorem dX6_work_41 : decode cX6_work 41 = .ok (.invokevirtual 39, 3) := by decide +kernel
theorem dX6_work_44 : decode cX6_work 44 = .ok (.ifCond .ne 7, 3) := by decide +kernel
theorem dX6_work_47 : decode cX6_work 47 = .ok (.iconst 1, 1) := by decide +kernel
theorem dX6_work_48 : decode cX6_work 48 = .ok (.goto 4, 3) := by decide +kernel
theorem dX6_work_51 : decode cX6_work 51 = .ok (.iconst 0, 1) := by decide +kernel
theorem dX6_work_52 : decode cX6_work 52 = .ok (.invokevirtual 47, 3) := by decide +kernel
theorem dX6_work_55 : decode cX6_work 55 = .ok (.goto 22, 3) := by decide +kernel
theorem dX6_work_58 : decode cX6_work 58 = .ok (.aload_n 0, 1) := by decide +kernel
theorem dX6_work_59 : decode cX6_work 59 = .ok (.invokevirtual 39, 3) := by decide +kernel
theorem dX6_work_62 : decode cX6_work 62 = .ok (.istore_n 3, 1) := by decide +kernel
theorem dX6_work_63 : decode cX6_work 63 = .ok (.aload_n 0, 1) := by decide +kernel
theorem dX6_work_64 : decode cX6_work 64 = .ok (.aload_n 0, 1) := by decide +kernel
theorem dX6_work_65 : decode cX6_work 65 = .ok (.invokevirtual 39, 3) := by decide +kernel
theorem dX6_work_68 : decode cX6_work 68 = .ok (.iload_n 1, 1) := by decide +kernel
theorem dX6_work_69 : decode cX6_work 69 = .ok (.ineg, 1) := by decide +kernel
theorem dX6_work_70 : decode cX6_work 70 = .ok (.iload_n 3, 1) := by decide +kernel
theorem dX6_work_71 : decode cX6_work 71 = .ok (.invokestatic 61, 3) := by decide +kernel
theorem dX6_work_74 : decode cX6_work 74 = .ok (.invokevirtual 47, 3) := by decide +kernel
theorem dX6_work_77 : decode cX6_work 77 = .ok (.return_, 1) := by decide +kernel
theorem dX6_push_0 : decode cX6_push 0 = .ok (.aload_n 0, 1) := by decide +kernel
theorem dX6_push_1 : decode cX6_push 1 = .ok (.getfield 36, 3) := by decide +kernel
theorem dX6_push_4 : decode cX6_push 4 = .ok (.sipush 160, 3) := by decide +kernel
theorem dX6_push_7 : decode cX6_push 7 = .ok (.if_icmp .ge 23, 3) := by decide +kernel
theorem dX6_push_10 : decode cX6_push 10 = .ok (.aload_n 0, 1) := by decide +kernel
theorem dX6_push_11 : decode cX6_push 11 = .ok (.getfield 33, 3) := by decide +kernel
theorem dX6_push_14 : decode cX6_push 14 = .ok (.aload_n 0, 1) := by decide +kernel
theorem dX6_push_15 : decode cX6_push 15 = .ok (.getfield 36, 3) := by decide +kernel
theorem dX6_push_18 : decode cX6_push 18 = .ok (.iload_n 1, 1) := by decide +kernel
theorem dX6_push_19 : decode cX6_push 19 = .ok (.iastore, 1) := by decide +kernel
theorem dX6_push_20 : decode cX6_push 20 = .ok (.aload_n 0, 1) := by decide +kernel
theorem dX6_push_21 : decode cX6_push 21 = .ok (.dup, 1) := by decide +kernel
theorem dX6_push_22 : decode cX6_push 22 = .ok (.getfield 36, 3) := by decide +kernel
theorem dX6_push_25 : decode cX6_push 25 = .ok (.iconst 1, 1) := by decide +kernel
theorem dX6_push_26 : decode cX6_push 26 = .ok (.iadd, 1) := by decide +kernel
theorem dX6_push_27 : decode cX6_push 27 = .ok (.putfield 36, 3) := by decide +kernel
theorem dX6_push_30 : decode cX6_push 30 = .ok (.return_, 1) := by decide +kernel
theorem dX6_pop_0 : decode cX6_pop 0 = .ok (.aload_n 0, 1) := by decide +kernel
theorem dX6_pop_1 : decode cX6_pop 1 = .ok (.getfield 36, 3) := by decide +kernel
theorem dX6_pop_4 : decode cX6_pop 4 = .ok (.ifCond .ne 5, 3) := by decide +kernel
theorem dX6_pop_7 : decode cX6_pop 7 = .ok (.iconst 0, 1) := by decide +kernel
theorem dX6_pop_8 : decode cX6_pop 8 = .ok (.ireturn, 1) := by decide +kernel
theorem dX6_pop_9 : decode cX6_pop 9 = .ok (.aload_n 0, 1) := by decide +kernel
theorem dX6_pop_10 : decode cX6_pop 10 = .ok (.dup, 1) := by decide +kernel
theorem dX6_pop_11 : decode cX6_pop 11 = .ok (.getfield 36, 3) := by decide +kernel
theorem dX6_pop_14 : decode cX6_pop 14 = .ok (.iconst 1, 1) := by decide +kernel
theorem dX6_pop_15 : decode cX6_pop 15 = .ok (.isub, 1) := by decide +kernel
theorem dX6_pop_16 : decode cX6_pop 16 = .ok (.putfield 36, 3) := by decide +kernel
theorem dX6_pop_19 : decode cX6_pop 19 = .ok (.aload_n 0, 1) := by decide +kernel
theorem dX6_pop_20 : decode cX6_pop 20 = .ok (.getfield 33, 3) := by decide +kernel
theorem dX6_pop_23 : decode cX6_pop 23 = .ok (.aload_n 0, 1) := by decide +kernel
theorem dX6_pop_24 : decode cX6_pop 24 = .ok (.getfield 36, 3) := by decide +kernel
theorem dX6_pop_27 : decode cX6_pop 27 = .ok (.iaload, 1) := by decide +kernel
theorem dX6_pop_28 : decode cX6_pop 28 = .ok (.ireturn, 1) := by decide +kernel
theorem dX6_join_0 : decode cX6_join 0 = .ok (.iload_n 1, 1) := by decide +kernel
theorem dX6_join_1 : decode cX6_join 1 = .ok (.lookupswitch 168 #[(38, 97), (42, 152), (43, 144), (45, 148), (47, 156), (60, 111), (61, 122), (62, 133), (124, 83)], 83) := by decide +kernel
theorem dX6_join_84 : decode cX6_join 84 = .ok (.iload_n 0, 1) := by decide +kernel
theorem dX6_join_85 : decode cX6_join 85 = .ok (.ifCond .ne 7, 3) := by decide +kernel
theorem dX6_join_88 : decode cX6_join 88 = .ok (.iload_n 2, 1) := by decide +kernel
theorem dX6_join_89 : decode cX6_join 89 = .ok (.ifCond .eq 7, 3) := by decide +kernel
theorem dX6_join_92 : decode cX6_join 92 = .ok (.iconst 1, 1) := by decide +kernel
theorem dX6_join_93 : decode cX6_join 93 = .ok (.goto 4, 3) := by decide +kernel
theorem dX6_join_96 : decode cX6_join 96 = .ok (.iconst 0, 1) := by decide +kernel
theorem dX6_join_97 : decode cX6_join 97 = .ok (.ireturn, 1) := by decide +kernel
theorem dX6_join_98 : decode cX6_join 98 = .ok (.iload_n 0, 1) := by decide +kernel
theorem dX6_join_99 : decode cX6_join 99 = .ok (.ifCond .eq 11, 3) := by decide +kernel
theorem dX6_join_102 : decode cX6_join 102 = .ok (.iload_n 2, 1) := by decide +kernel
theorem dX6_join_103 : decode cX6_join 103 = .ok (.ifCond .eq 7, 3) := by decide +kernel
theorem dX6_join_106 : decode cX6_join 106 = .ok (.iconst 1, 1) := by decide +kernel
theorem dX6_join_107 : decode cX6_join 107 = .ok (.goto 4, 3) := by decide +kernel
theorem dX6_join_110 : decode cX6_join 110 = .ok (.iconst 0, 1) := by decide +kernel
theorem dX6_join_111 : decode cX6_join 111 = .ok (.ireturn, 1) := by decide +kernel
theorem dX6_join_112 : decode cX6_join 112 = .ok (.iload_n 0, 1) := by decide +kernel
theorem dX6_join_113 : decode cX6_join 113 = .ok (.iload_n 2, 1) := by decide +kernel
theorem dX6_join_114 : decode cX6_join 114 = .ok (.if_icmp .ge 7, 3) := by decide +kernel
theorem dX6_join_117 : decode cX6_join 117 = .ok (.iconst 1, 1) := by decide +kernel
theorem dX6_join_118 : decode cX6_join 118 = .ok (.goto 4, 3) := by decide +kernel
theorem dX6_join_121 : decode cX6_join 121 = .ok (.iconst 0, 1) := by decide +kernel
theorem dX6_join_122 : decode cX6_join 122 = .ok (.ireturn, 1) := by decide +kernel
theorem dX6_join_123 : decode cX6_join 123 = .ok (.iload_n 0, 1) := by decide +kernel
theorem dX6_join_124 : decode cX6_join 124 = .ok (.iload_n 2, 1) := by decide +kernel
theorem dX6_join_125 : decode cX6_join 125 = .ok (.if_icmp .ne 7, 3) := by decide +kernel
theorem dX6_join_128 : decode cX6_join 128 = .ok (.iconst 1, 1) := by decide +kernel
theorem dX6_join_129 : decode cX6_join 129 = .ok (.goto 4, 3) := by decide +kernel
theorem dX6_join_132 : decode cX6_join 132 = .ok (.iconst 0, 1) := by decide +kernel
theorem dX6_join_133 : decode cX6_join 133 = .ok (.ireturn, 1) := by decide +kernel
theorem dX6_join_134 : decode cX6_join 134 = .ok (.iload_n 0, 1) := by decide +kernel
theorem dX6_join_135 : decode cX6_join 135 = .ok (.iload_n 2, 1) := by decide +kernel
theorem dX6_join_136 : decode cX6_join 136 = .ok (.if_icmp .le 7, 3) := by decide +kernel
theorem dX6_join_139 : decode cX6_join 139 = .ok (.iconst 1, 1) := by decide +kernel
theorem dX6_join_140 : decode cX6_join 140 = .ok (.goto 4, 3) := by decide +kernel
theorem dX6_join_143 : decode cX6_join 143 = .ok (.iconst 0, 1) := by decide +kernel
theorem dX6_join_144 : decode cX6_join 144 = .ok (.ireturn, 1) := by decide +kernel
theorem dX6_join_145 : decode cX6_join 145 = .ok (.iload_n 0, 1) := by decide +kernel
theorem dX6_join_146 : decode cX6_join 146 = .ok (.iload_n 2, 1) := by decide +kernel
theorem dX6_join_147 : decode cX6_join 147 = .ok (.iadd, 1) := by decide +kernel
theorem dX6_join_148 : decode cX6_join 148 = .ok (.ireturn, 1) := by decide +kernel
theorem dX6_join_149 : decode cX6_join 149 = .ok (.iload_n 0, 1) := by decide +kernel
theorem dX6_join_150 : decode cX6_join 150 = .ok (.iload_n 2, 1) := by decide +kernel
theorem dX6_join_151 : decode cX6_join 151 = .ok (.isub, 1) := by decide +kernel
theorem dX6_join_152 : decode cX6_join 152 = .ok (.ireturn, 1) := by decide +kernel
theorem dX6_join_153 : decode cX6_join 153 = .ok (.iload_n 0, 1) := by decide +kernel
theorem dX6_join_154 : decode cX6_join 154 = .ok (.iload_n 2, 1) := by decide +kernel
theorem dX6_join_155 : decode cX6_join 155 = .ok (.imul, 1) := by decide +kernel
theorem dX6_join_156 : decode cX6_join 156 = .ok (.ireturn, 1) := by decide +kernel
theorem dX6_join_157 : decode cX6_join 157 = .ok (.iload_n 2, 1) := by decide +kernel
theorem dX6_join_158 : decode cX6_join 158 = .ok (.ifCond .ne 7, 3) := by decide +kernel
theorem dX6_join_161 : decode cX6_join 161 = .ok (.iconst 0, 1) := by decide +kernel
theorem dX6_join_162 : decode cX6_join 162 = .ok (.goto 6, 3) := by decide +kernel
theorem dX6_join_165 : decode cX6_join 165 = .ok (.iload_n 0, 1) := by decide +kernel
theorem dX6_join_166 : decode cX6_join 166 = .ok (.iload_n 2, 1) := by decide +kernel
theorem dX6_join_167 : decode cX6_join 167 = .ok (.idiv, 1) := by decide +kernel
theorem dX6_join_168 : decode cX6_join 168 = .ok (.ireturn, 1) := by decide +kernel
theorem dX6_join_169 : decode cX6_join 169 = .ok (.iconst 0, 1) := by decide +kernel
theorem dX6_join_170 : decode cX6_join 170 = .ok (.ireturn, 1) := by decide +kernel
theorem dX7_init_0 : decode cX7_init 0 = .ok (.aload_n 0, 1) := by decide +kernel
theorem dX7_init_1 : decode cX7_init 1 = .ok (.invokespecial 3, 3) := by decide +kernel
theorem dX7_init_4 : decode cX7_init 4 = .ok (.aload_n 0, 1) := by decide +kernel
theorem dX7_init_5 : decode cX7_init 5 = .ok (.iconst 0, 1) := by decide +kernel
theorem dX7_init_6 : decode cX7_init 6 = .ok (.putfield 9, 3) := by decide +kernel
theorem dX7_init_9 : decode cX7_init 9 = .ok (.aload_n 0, 1) := by decide +kernel
theorem dX7_init_10 : decode cX7_init 10 = .ok (.iconst 0, 1) := by decide +kernel
theorem dX7_init_11 : decode cX7_init 11 = .ok (.iload_n 1, 1) := by decide +kernel
theorem dX7_init_12 : decode cX7_init 12 = .ok (.invokestatic 15, 3) := by decide +kernel
theorem dX7_init_15 : decode cX7_init 15 = .ok (.newarray .int, 2) := by decide +kernel
theorem dX7_init_17 : decode cX7_init 17 = .ok (.putfield 21, 3) := by decide +kernel
theorem dX7_init_20 : decode cX7_init 20 = .ok (.return_, 1) := by decide +kernel
theorem dX7_has_0 : decode cX7_has 0 = .ok (.iload_n 1, 1) := by decide +kernel
theorem dX7_has_1 : decode cX7_has 1 = .ok (.aload_n 0, 1) := by decide +kernel
theorem dX7_has_2 : decode cX7_has 2 = .ok (.getfield 9, 3) := by decide +kernel
theorem dX7_has_5 : decode cX7_has 5 = .ok (.invokestatic 25, 3) := by decide +kernel
theorem dX7_has_8 : decode cX7_has 8 = .ok (.ireturn, 1) := by decide +kernel
theorem dX7_add_0 : decode cX7_add 0 = .ok (.aload_n 0, 1) := by decide +kernel
theorem dX7_add_1 : decode cX7_add 1 = .ok (.getfield 9, 3) := by decide +kernel
theorem dX7_add_4 : decode cX7_add 4 = .ok (.aload_n 0, 1) := by decide +kernel
theorem dX7_add_5 : decode cX7_add 5 = .ok (.getfield 21, 3) := by decide +kernel
theorem dX7_add_8 : decode cX7_add 8 = .ok (.arraylength, 1) := by decide +kernel
theorem dX7_add_9 : decode cX7_add 9 = .ok (.if_icmp .lt 6, 3) := by decide +kernel
theorem dX7_add_12 : decode cX7_add 12 = .ok (.bipush (-3), 2) := by decide +kernel
theorem dX7_add_14 : decode cX7_add 14 = .ok (.ireturn, 1) := by decide +kernel
theorem dX7_add_15 : decode cX7_add 15 = .ok (.aload_n 0, 1) := by decide +kernel
theorem dX7_add_16 : decode cX7_add 16 = .ok (.getfield 21, 3) := by decide +kernel
theorem dX7_add_19 : decode cX7_add 19 = .ok (.aload_n 0, 1) := by decide +kernel
theorem dX7_add_20 : decode cX7_add 20 = .ok (.getfield 9, 3) := by decide +kernel
theorem dX7_add_23 : decode cX7_add 23 = .ok (.iload_n 1, 1) := by decide +kernel
theorem dX7_add_24 : decode cX7_add 24 = .ok (.iastore, 1) := by decide +kernel
theorem dX7_add_25 : decode cX7_add 25 = .ok (.aload_n 0, 1) := by decide +kernel
theorem dX7_add_26 : decode cX7_add 26 = .ok (.dup, 1) := by decide +kernel
theorem dX7_add_27 : decode cX7_add 27 = .ok (.getfield 9, 3) := by decide +kernel
theorem dX7_add_30 : decode cX7_add 30 = .ok (.iconst 1, 1) := by decide +kernel
theorem dX7_add_31 : decode cX7_add 31 = .ok (.iadd, 1) := by decide +kernel
theorem dX7_add_32 : decode cX7_add 32 = .ok (.putfield 9, 3) := by decide +kernel
theorem dX7_add_35 : decode cX7_add 35 = .ok (.aload_n 0, 1) := by decide +kernel
theorem dX7_add_36 : decode cX7_add 36 = .ok (.getfield 9, 3) := by decide +kernel
theorem dX7_add_39 : decode cX7_add 39 = .ok (.iconst 1, 1) := by decide +kernel
theorem dX7_add_40 : decode cX7_add 40 = .ok (.isub, 1) := by decide +kernel
theorem dX7_add_41 : decode cX7_add 41 = .ok (.ireturn, 1) := by decide +kernel
theorem dX7_milesTo_0 : decode cX7_milesTo 0 = .ok (.aload_n 0, 1) := by decide +kernel
theorem dX7_milesTo_1 : decode cX7_milesTo 1 = .ok (.getfield 21, 3) := by decide +kernel
theorem dX7_milesTo_4 : decode cX7_milesTo 4 = .ok (.iload_n 1, 1) := by decide +kernel
theorem dX7_milesTo_5 : decode cX7_milesTo 5 = .ok (.iaload, 1) := by decide +kernel
theorem dX7_milesTo_6 : decode cX7_milesTo 6 = .ok (.bipush 100, 2) := by decide +kernel
theorem dX7_milesTo_8 : decode cX7_milesTo 8 = .ok (.idiv, 1) := by decide +kernel
theorem dX7_milesTo_9 : decode cX7_milesTo 9 = .ok (.aload_n 2, 1) := by decide +kernel
theorem dX7_milesTo_10 : decode cX7_milesTo 10 = .ok (.getfield 21, 3) := by decide +kernel
theorem dX7_milesTo_13 : decode cX7_milesTo 13 = .ok (.iload_n 3, 1) := by decide +kernel
theorem dX7_milesTo_14 : decode cX7_milesTo 14 = .ok (.iaload, 1) := by decide +kernel
theorem dX7_milesTo_15 : decode cX7_milesTo 15 = .ok (.bipush 100, 2) := by decide +kernel
theorem dX7_milesTo_17 : decode cX7_milesTo 17 = .ok (.idiv, 1) := by decide +kernel
theorem dX7_milesTo_18 : decode cX7_milesTo 18 = .ok (.isub, 1) := by decide +kernel
theorem dX7_milesTo_19 : decode cX7_milesTo 19 = .ok (.istore 4, 2) := by decide +kernel
theorem dX7_milesTo_21 : decode cX7_milesTo 21 = .ok (.aload_n 0, 1) := by decide +kernel
theorem dX7_milesTo_22 : decode cX7_milesTo 22 = .ok (.getfield 21, 3) := by decide +kernel
theorem dX7_milesTo_25 : decode cX7_milesTo 25 = .ok (.iload_n 1, 1) := by decide +kernel
theorem dX7_milesTo_26 : decode cX7_milesTo 26 = .ok (.iaload, 1) := by decide +kernel
theorem dX7_milesTo_27 : decode cX7_milesTo 27 = .ok (.bipush 100, 2) := by decide +kernel
theorem dX7_milesTo_29 : decode cX7_milesTo 29 = .ok (.irem, 1) := by decide +kernel
theorem dX7_milesTo_30 : decode cX7_milesTo 30 = .ok (.aload_n 2, 1) := by decide +kernel
theorem dX7_milesTo_31 : decode cX7_milesTo 31 = .ok (.getfield 21, 3) := by decide +kernel
theorem dX7_milesTo_34 : decode cX7_milesTo 34 = .ok (.iload_n 3, 1) := by decide +kernel
theorem dX7_milesTo_35 : decode cX7_milesTo 35 = .ok (.iaload, 1) := by decide +kernel
theorem dX7_milesTo_36 : decode cX7_milesTo 36 = .ok (.bipush 100, 2) := by decide +kernel
theorem dX7_milesTo_38 : decode cX7_milesTo 38 = .ok (.irem, 1) := by decide +kernel
theorem dX7_milesTo_39 : decode cX7_milesTo 39 = .ok (.isub, 1) := by decide +kernel
theorem dX7_milesTo_40 : decode cX7_milesTo 40 = .ok (.istore 5, 2) := by decide +kernel
theorem dX7_milesTo_42 : decode cX7_milesTo 42 = .ok (.iload 4, 2) := by decide +kernel
theorem dX7_milesTo_44 : decode cX7_milesTo 44 = .ok (.invokestatic 29, 3) := by decide +kernel
theorem dX7_milesTo_47 : decode cX7_milesTo 47 = .ok (.iload 5, 2) := by decide +kernel
theorem dX7_milesTo_49 : decode cX7_milesTo 49 = .ok (.invokestatic 29, 3) := by decide +kernel
theorem dX7_milesTo_52 : decode cX7_milesTo 52 = .ok (.iadd, 1) := by decide +kernel
theorem dX7_milesTo_53 : decode cX7_milesTo 53 = .ok (.ireturn, 1) := by decide +kernel
theorem dX8_init_0 : decode cX8_init 0 = .ok (.aload_n 0, 1) := by decide +kernel
theorem dX8_init_1 : decode cX8_init 1 = .ok (.invokespecial 3, 3) := by decide +kernel
theorem dX8_init_4 : decode cX8_init 4 = .ok (.aload_n 0, 1) := by decide +kernel
theorem dX8_init_5 : decode cX8_init 5 = .ok (.sipush 600, 3) := by decide +kernel
theorem dX8_init_8 : decode cX8_init 8 = .ok (.newarray .int, 2) := by decide +kernel
theorem dX8_init_10 : decode cX8_init 10 = .ok (.putfield 9, 3) := by decide +kernel
theorem dX8_init_13 : decode cX8_init 13 = .ok (.aload_n 0, 1) := by decide +kernel
theorem dX8_init_14 : decode cX8_init 14 = .ok (.sipush 600, 3) := by decide +kernel
theorem dX8_init_17 : decode cX8_init 17 = .ok (.newarray .int, 2) := by decide +kernel
theorem dX8_init_19 : decode cX8_init 19 = .ok (.putfield 15, 3) := by decide +kernel
theorem dX8_init_22 : decode cX8_init 22 = .ok (.aload_n 0, 1) := by decide +kernel
theorem dX8_init_23 : decode cX8_init 23 = .ok (.sipush 600, 3) := by decide +kernel
theorem dX8_init_26 : decode cX8_init 26 = .ok (.newarray .int, 2) := by decide +kernel
theorem dX8_init_28 : decode cX8_init 28 = .ok (.putfield 18, 3) := by decide +kernel
theorem dX8_init_31 : decode cX8_init 31 = .ok (.aload_n 0, 1) := by decide +kernel
theorem dX8_init_32 : decode cX8_init 32 = .ok (.sipush 600, 3) := by decide +kernel
theorem dX8_init_35 : decode cX8_init 35 = .ok (.newarray .int, 2) := by decide +kernel
theorem dX8_init_37 : decode cX8_init 37 = .ok (.putfield 21, 3) := by decide +kernel
theorem dX8_init_40 : decode cX8_init 40 = .ok (.aload_n 0, 1) := by decide +kernel
theorem dX8_init_41 : decode cX8_init 41 = .ok (.sipush 600, 3) := by decide +kernel
theorem dX8_init_44 : decode cX8_init 44 = .ok (.newarray .int, 2) := by decide +kernel
theorem dX8_init_46 : decode cX8_init 46 = .ok (.putfield 24, 3) := by decide +kernel
theorem dX8_init_49 : decode cX8_init 49 = .ok (.aload_n 0, 1) := by decide +kernel
theorem dX8_init_50 : decode cX8_init 50 = .ok (.sipush 600, 3) := by decide +kernel
theorem dX8_init_53 : decode cX8_init 53 = .ok (.newarray .int, 2) := by decide +kernel
theorem dX8_init_55 : decode cX8_init 55 = .ok (.putfield 27, 3) := by decide +kernel
theorem dX8_init_58 : decode cX8_init 58 = .ok (.aload_n 0, 1) := by decide +kernel
theorem dX8_init_59 : decode cX8_init 59 = .ok (.sipush 600, 3) := by decide +kernel
theorem dX8_init_62 : decode cX8_init 62 = .ok (.newarray .int, 2) := by decide +kernel
theorem dX8_init_64 : decode cX8_init 64 = .ok (.putfield 30, 3) := by decide +kernel
theorem dX8_init_67 : decode cX8_init 67 = .ok (.aload_n 0, 1) := by decide +kernel
theorem dX8_init_68 : decode cX8_init 68 = .ok (.iconst 0, 1) := by decide +kernel
theorem dX8_init_69 : decode cX8_init 69 = .ok (.putfield 33, 3) := by decide +kernel
theorem dX8_init_72 : decode cX8_init 72 = .ok (.aload_n 0, 1) := by decide +kernel
theorem dX8_init_73 : decode cX8_init 73 = .ok (.sipush 600, 3) := by decide +kernel
theorem dX8_init_76 : decode cX8_init 76 = .ok (.newarray .int, 2) := by decide +kernel
theorem dX8_init_78 : decode cX8_init 78 = .ok (.putfield 37, 3) := by decide +kernel
theorem dX8_init_81 : decode cX8_init 81 = .ok (.aload_n 0, 1) := by decide +kernel
theorem dX8_init_82 : decode cX8_init 82 = .ok (.iconst 0, 1) := by decide +kernel
theorem dX8_init_83 : decode cX8_init 83 = .ok (.putfield 40, 3) := by decide +kernel
theorem dX8_init_86 : decode cX8_init 86 = .ok (.aload_n 0, 1) := by decide +kernel
theorem dX8_init_87 : decode cX8_init 87 = .ok (.sipush 1000, 3) := by decide +kernel
theorem dX8_init_90 : decode cX8_init 90 = .ok (.newarray .int, 2) := by decide +kernel
theorem dX8_init_92 : decode cX8_init 92 = .ok (.putfield 43, 3) := by decide +kernel
theorem dX8_init_95 : decode cX8_init 95 = .ok (.return_, 1) := by decide +kernel
theorem dX8_add_0 : decode cX8_add 0 = .ok (.aload_n 0, 1) := by decide +kernel
theorem dX8_add_1 : decode cX8_add 1 = .ok (.getfield 33, 3) := by decide +kernel
theorem dX8_add_4 : decode cX8_add 4 = .ok (.sipush 600, 3) := by decide +kernel
theorem dX8_add_7 : decode cX8_add 7 = .ok (.if_icmp .ge 43, 3) := by decide +kernel
theorem dX8_add_10 : decode cX8_add 10 = .ok (.aload_n 0, 1) := by decide +kernel
theorem dX8_add_11 : decode cX8_add 11 = .ok (.getfield 9, 3) := by decide +kernel
theorem dX8_add_14 : decode cX8_add 14 = .ok (.aload_n 0, 1) := by decide +kernel
theorem dX8_add_15 : decode cX8_add 15 = .ok (.getfield 33, 3) := by decide +kernel
theorem dX8_add_18 : decode cX8_add 18 = .ok (.iload_n 1, 1) := by decide +kernel
theorem dX8_add_19 : decode cX8_add 19 = .ok (.iastore, 1) := by decide +kernel
theorem dX8_add_20 : decode cX8_add 20 = .ok (.aload_n 0, 1) := by decide +kernel
theorem dX8_add_21 : decode cX8_add 21 = .ok (.getfield 15, 3) := by decide +kernel
theorem dX8_add_24 : decode cX8_add 24 = .ok (.aload_n 0, 1) := by decide +kernel
theorem dX8_add_25 : decode cX8_add 25 = .ok (.getfield 33, 3) := by decide +kernel
theorem dX8_add_28 : decode cX8_add 28 = .ok (.iload_n 2, 1) := by decide +kernel
theorem dX8_add_29 : decode cX8_add 29 = .ok (.iastore, 1) := by decide +kernel
theorem dX8_add_30 : decode cX8_add 30 = .ok (.aload_n 0, 1) := by decide +kernel
theorem dX8_add_31 : decode cX8_add 31 = .ok (.getfield 18, 3) := by decide +kernel
theorem dX8_add_34 : decode cX8_add 34 = .ok (.aload_n 0, 1) := by decide +kernel
theorem dX8_add_35 : decode cX8_add 35 = .ok (.getfield 33, 3) := by decide +kernel
theorem dX8_add_38 : decode cX8_add 38 = .ok (.iload_n 3, 1) := by decide +kernel
theorem dX8_add_39 : decode cX8_add 39 = .ok (.iastore, 1) := by decide +kernel
theorem dX8_add_40 : decode cX8_add 40 = .ok (.aload_n 0, 1) := by decide +kernel
theorem dX8_add_41 : decode cX8_add 41 = .ok (.dup, 1) := by decide +kernel
theorem dX8_add_42 : decode cX8_add 42 = .ok (.getfield 33, 3) := by decide +kernel
theorem dX8_add_45 : decode cX8_add 45 = .ok (.iconst 1, 1) := by decide +kernel
theorem dX8_add_46 : decode cX8_add 46 = .ok (.iadd, 1) := by decide +kernel
theorem dX8_add_47 : decode cX8_add 47 = .ok (.putfield 33, 3) := by decide +kernel
theorem dX8_add_50 : decode cX8_add 50 = .ok (.aload_n 0, 1) := by decide +kernel
theorem dX8_add_51 : decode cX8_add 51 = .ok (.getfield 33, 3) := by decide +kernel
theorem dX8_add_54 : decode cX8_add 54 = .ok (.iconst 1, 1) := by decide +kernel
theorem dX8_add_55 : decode cX8_add 55 = .ok (.isub, 1) := by decide +kernel
theorem dX8_add_56 : decode cX8_add 56 = .ok (.ireturn, 1) := by decide +kernel
theorem dX8_has_0 : decode cX8_has 0 = .ok (.aload_n 0, 1) := by decide +kernel
theorem dX8_has_1 : decode cX8_has 1 = .ok (.getfield 33, 3) := by decide +kernel
theorem dX8_has_4 : decode cX8_has 4 = .ok (.iconst 1, 1) := by decide +kernel
theorem dX8_has_5 : decode cX8_has 5 = .ok (.isub, 1) := by decide +kernel
theorem dX8_has_6 : decode cX8_has 6 = .ok (.istore 4, 2) := by decide +kernel
theorem dX8_has_8 : decode cX8_has 8 = .ok (.iload 4, 2) := by decide +kernel
theorem dX8_has_10 : decode cX8_has 10 = .ok (.ifCond .lt 44, 3) := by decide +kernel
theorem dX8_has_13 : decode cX8_has 13 = .ok (.aload_n 0, 1) := by decide +kernel
theorem dX8_has_14 : decode cX8_has 14 = .ok (.getfield 18, 3) := by decide +kernel
theorem dX8_has_17 : decode cX8_has 17 = .ok (.iload 4, 2) := by decide +kernel
theorem dX8_has_19 : decode cX8_has 19 = .ok (.iaload, 1) := by decide +kernel
theorem dX8_has_20 : decode cX8_has 20 = .ok (.iload_n 3, 1) := by decide +kernel
theorem dX8_has_21 : decode cX8_has 21 = .ok (.if_icmp .ne 33, 3) := by decide +kernel
theorem dX8_has_24 : decode cX8_has 24 = .ok (.aload_n 0, 1) := by decide +kernel
theorem dX8_has_25 : decode cX8_has 25 = .ok (.getfield 9, 3) := by decide +kernel
theorem dX8_has_28 : decode cX8_has 28 = .ok (.iload 4, 2) := by decide +kernel
theorem dX8_has_30 : decode cX8_has 30 = .ok (.iaload, 1) := by decide +kernel
theorem dX8_has_31 : decode cX8_has 31 = .ok (.iload_n 1, 1) := by decide +kernel
theorem dX8_has_32 : decode cX8_has 32 = .ok (.if_icmp .ne 16, 3) := by decide +kernel
theorem dX8_has_35 : decode cX8_has 35 = .ok (.aload_n 0, 1) := by decide +kernel
theorem dX8_has_36 : decode cX8_has 36 = .ok (.getfield 15, 3) := by decide +kernel
theorem dX8_has_39 : decode cX8_has 39 = .ok (.iload 4, 2) := by decide +kernel
theorem dX8_has_41 : decode cX8_has 41 = .ok (.iaload, 1) := by decide +kernel
theorem dX8_has_42 : decode cX8_has 42 = .ok (.iload_n 2, 1) := by decide +kernel
theorem dX8_has_43 : decode cX8_has 43 = .ok (.if_icmp .ne 5, 3) := by decide +kernel
theorem dX8_has_46 : decode cX8_has 46 = .ok (.iconst 1, 1) := by decide +kernel
theorem dX8_has_47 : decode cX8_has 47 = .ok (.ireturn, 1) := by decide +kernel
theorem dX8_has_48 : decode cX8_has 48 = .ok (.iinc 4 (-1), 3) := by decide +kernel
theorem dX8_has_51 : decode cX8_has 51 = .ok (.goto (-43), 3) := by decide +kernel
theorem dX8_has_54 : decode cX8_has 54 = .ok (.iconst 0, 1) := by decide +kernel
theorem dX8_has_55 : decode cX8_has 55 = .ok (.ireturn, 1) := by decide +kernel
theorem dX8_lackInAll_0 : decode cX8_lackInAll 0 = .ok (.iconst 0, 1) := by decide +kernel
theorem dX8_lackInAll_1 : decode cX8_lackInAll 1 = .ok (.istore_n 1, 1) := by decide +kernel
theorem dX8_lackInAll_2 : decode cX8_lackInAll 2 = .ok (.iconst 0, 1) := by decide +kernel
theorem dX8_lackInAll_3 : decode cX8_lackInAll 3 = .ok (.istore_n 2, 1) := by decide +kernel
theorem dX8_lackInAll_4 : decode cX8_lackInAll 4 = .ok (.iload_n 2, 1) := by decide +kernel
theorem dX8_lackInAll_5 : decode cX8_lackInAll 5 = .ok (.aload_n 0, 1) := by decide +kernel
theorem dX8_lackInAll_6 : decode cX8_lackInAll 6 = .ok (.getfield 33, 3) := by decide +kernel
theorem dX8_lackInAll_9 : decode cX8_lackInAll 9 = .ok (.if_icmp .ge 25, 3) := by decide +kernel
theorem dX8_lackInAll_12 : decode cX8_lackInAll 12 = .ok (.iload_n 1, 1) := by decide +kernel
theorem dX8_lackInAll_13 : decode cX8_lackInAll 13 = .ok (.aload_n 0, 1) := by decide +kernel
theorem dX8_lackInAll_14 : decode cX8_lackInAll 14 = .ok (.getfield 27, 3) := by decide +kernel
theorem dX8_lackInAll_17 : decode cX8_lackInAll 17 = .ok (.iload_n 2, 1) := by decide +kernel
theorem dX8_lackInAll_18 : decode cX8_lackInAll 18 = .ok (.iaload, 1) := by decide +kernel
theorem dX8_lackInAll_19 : decode cX8_lackInAll 19 = .ok (.aload_n 0, 1) := by decide +kernel
theorem dX8_lackInAll_20 : decode cX8_lackInAll 20 = .ok (.getfield 30, 3) := by decide +kernel
theorem dX8_lackInAll_23 : decode cX8_lackInAll 23 = .ok (.iload_n 2, 1) := by decide +kernel
theorem dX8_lackInAll_24 : decode cX8_lackInAll 24 = .ok (.iaload, 1) := by decide +kernel
theorem dX8_lackInAll_25 : decode cX8_lackInAll 25 = .ok (.isub, 1) := by decide +kernel
theorem dX8_lackInAll_26 : decode cX8_lackInAll 26 = .ok (.iadd, 1) := by decide +kernel
theorem dX8_lackInAll_27 : decode cX8_lackInAll 27 = .ok (.istore_n 1, 1) := by decide +kernel
theorem dX8_lackInAll_28 : decode cX8_lackInAll 28 = .ok (.iinc 2 1, 3) := by decide +kernel
theorem dX8_lackInAll_31 : decode cX8_lackInAll 31 = .ok (.goto (-27), 3) := by decide +kernel
theorem dX8_lackInAll_34 : decode cX8_lackInAll 34 = .ok (.iload_n 1, 1) := by decide +kernel
theorem dX8_lackInAll_35 : decode cX8_lackInAll 35 = .ok (.ireturn, 1) := by decide +kernel
theorem dX8_foretell_0 : decode cX8_foretell 0 = .ok (.iconst 0, 1) := by decide +kernel
theorem dX8_foretell_1 : decode cX8_foretell 1 = .ok (.istore 7, 2) := by decide +kernel
theorem dX8_foretell_3 : decode cX8_foretell 3 = .ok (.iconst 0, 1) := by decide +kernel
theorem dX8_foretell_4 : decode cX8_foretell 4 = .ok (.istore 8, 2) := by decide +kernel
theorem dX8_foretell_6 : decode cX8_foretell 6 = .ok (.iconst 0, 1) := by decide +kernel
theorem dX8_foretell_7 : decode cX8_foretell 7 = .ok (.istore 9, 2) := by decide +kernel
theorem dX8_foretell_9 : decode cX8_foretell 9 = .ok (.iconst 0, 1) := by decide +kernel
theorem dX8_foretell_10 : decode cX8_foretell 10 = .ok (.istore 10, 2) := by decide +kernel
theorem dX8_foretell_12 : decode cX8_foretell 12 = .ok (.iconst 0, 1) := by decide +kernel
theorem dX8_foretell_13 : decode cX8_foretell 13 = .ok (.istore 11, 2) := by decide +kernel
theorem dX8_foretell_15 : decode cX8_foretell 15 = .ok (.iconst 0, 1) := by decide +kernel
theorem dX8_foretell_16 : decode cX8_foretell 16 = .ok (.istore 12, 2) := by decide +kernel
theorem dX8_foretell_18 : decode cX8_foretell 18 = .ok (.iconst 0, 1) := by decide +kernel
theorem dX8_foretell_19 : decode cX8_foretell 19 = .ok (.istore 13, 2) := by decide +kernel
theorem dX8_foretell_21 : decode cX8_foretell 21 = .ok (.iload 13, 2) := by decide +kernel
theorem dX8_foretell_23 : decode cX8_foretell 23 = .ok (.aload_n 0, 1) := by decide +kernel
theorem dX8_foretell_24 : decode cX8_foretell 24 = .ok (.getfield 33, 3) := by decide +kernel
theorem dX8_foretell_27 : decode cX8_foretell 27 = .ok (.if_icmp .ge 132, 3) := by decide +kernel
theorem dX8_foretell_30 : decode cX8_foretell 30 = .ok (.aload_n 0, 1) := by decide +kernel
theorem dX8_foretell_31 : decode cX8_foretell 31 = .ok (.getfield 18, 3) := by decide +kernel
theorem dX8_foretell_34 : decode cX8_foretell 34 = .ok (.iload 13, 2) := by decide +kernel
theorem dX8_foretell_36 : decode cX8_foretell 36 = .ok (.iaload, 1) := by decide +kernel
theorem dX8_foretell_37 : decode cX8_foretell 37 = .ok (.bipush 24, 2) := by decide +kernel
theorem dX8_foretell_39 : decode cX8_foretell 39 = .ok (.idiv, 1) := by decide +kernel
theorem dX8_foretell_40 : decode cX8_foretell 40 = .ok (.iload 6, 2) := by decide +kernel
theorem dX8_foretell_42 : decode cX8_foretell 42 = .ok (.if_icmp .gt 117, 3) := by decide +kernel
theorem dX8_foretell_45 : decode cX8_foretell 45 = .ok (.aload_n 0, 1) := by decide +kernel
theorem dX8_foretell_46 : decode cX8_foretell 46 = .ok (.getfield 15, 3) := by decide +kernel
theorem dX8_foretell_49 : decode cX8_foretell 49 = .ok (.iload 13, 2) := by decide +kernel
theorem dX8_foretell_51 : decode cX8_foretell 51 = .ok (.iaload, 1) := by decide +kernel
theorem dX8_foretell_52 : decode cX8_foretell 52 = .ok (.iload_n 2, 1) := by decide +kernel
theorem dX8_foretell_53 : decode cX8_foretell 53 = .ok (.if_icmp .ne 100, 3) := by decide +kernel
theorem dX8_foretell_56 : decode cX8_foretell 56 = .ok (.aload_n 0, 1) := by decide +kernel
theorem dX8_foretell_57 : decode cX8_foretell 57 = .ok (.getfield 18, 3) := by decide +kernel
theorem dX8_foretell_60 : decode cX8_foretell 60 = .ok (.iload 13, 2) := by decide +kernel
theorem dX8_foretell_62 : decode cX8_foretell 62 = .ok (.iaload, 1) := by decide +kernel
theorem dX8_foretell_63 : decode cX8_foretell 63 = .ok (.bipush 24, 2) := by decide +kernel
theorem dX8_foretell_65 : decode cX8_foretell 65 = .ok (.irem, 1) := by decide +kernel
theorem dX8_foretell_66 : decode cX8_foretell 66 = .ok (.iload_n 3, 1) := by decide +kernel
theorem dX8_foretell_67 : decode cX8_foretell 67 = .ok (.if_icmp .ne 86, 3) := by decide +kernel
theorem dX8_foretell_70 : decode cX8_foretell 70 = .ok (.aload_n 0, 1) := by decide +kernel
theorem dX8_foretell_71 : decode cX8_foretell 71 = .ok (.getfield 21, 3) := by decide +kernel
theorem dX8_foretell_74 : decode cX8_foretell 74 = .ok (.iload 13, 2) := by decide +kernel
theorem dX8_foretell_76 : decode cX8_foretell 76 = .ok (.iaload, 1) := by decide +kernel
theorem dX8_foretell_77 : decode cX8_foretell 77 = .ok (.iload 4, 2) := by decide +kernel
theorem dX8_foretell_79 : decode cX8_foretell 79 = .ok (.if_icmp .eq 6, 3) := by decide +kernel
theorem dX8_foretell_82 : decode cX8_foretell 82 = .ok (.goto 71, 3) := by decide +kernel
theorem dX8_foretell_85 : decode cX8_foretell 85 = .ok (.iinc 11 1, 3) := by decide +kernel
theorem dX8_foretell_88 : decode cX8_foretell 88 = .ok (.iload 12, 2) := by decide +kernel
theorem dX8_foretell_90 : decode cX8_foretell 90 = .ok (.aload_n 0, 1) := by decide +kernel
theorem dX8_foretell_91 : decode cX8_foretell 91 = .ok (.getfield 27, 3) := by decide +kernel
theorem dX8_foretell_94 : decode cX8_foretell 94 = .ok (.iload 13, 2) := by decide +kernel
theorem dX8_foretell_96 : decode cX8_foretell 96 = .ok (.iaload, 1) := by decide +kernel
theorem dX8_foretell_97 : decode cX8_foretell 97 = .ok (.iadd, 1) := by decide +kernel
theorem dX8_foretell_98 : decode cX8_foretell 98 = .ok (.istore 12, 2) := by decide +kernel
theorem dX8_foretell_100 : decode cX8_foretell 100 = .ok (.aload_n 0, 1) := by decide +kernel
theorem dX8_foretell_101 : decode cX8_foretell 101 = .ok (.getfield 9, 3) := by decide +kernel
theorem dX8_foretell_104 : decode cX8_foretell 104 = .ok (.iload 13, 2) := by decide +kernel
theorem dX8_foretell_106 : decode cX8_foretell 106 = .ok (.iaload, 1) := by decide +kernel
theorem dX8_foretell_107 : decode cX8_foretell 107 = .ok (.iload_n 1, 1) := by decide +kernel
theorem dX8_foretell_108 : decode cX8_foretell 108 = .ok (.if_icmp .ne 45, 3) := by decide +kernel
theorem dX8_foretell_111 : decode cX8_foretell 111 = .ok (.iinc 9 1, 3) := by decide +kernel
theorem dX8_foretell_114 : decode cX8_foretell 114 = .ok (.iload 10, 2) := by decide +kernel
theorem dX8_foretell_116 : decode cX8_foretell 116 = .ok (.aload_n 0, 1) := by decide +kernel
theorem dX8_foretell_117 : decode cX8_foretell 117 = .ok (.getfield 27, 3) := by decide +kernel
theorem dX8_foretell_120 : decode cX8_foretell 120 = .ok (.iload 13, 2) := by decide +kernel
theorem dX8_foretell_122 : decode cX8_foretell 122 = .ok (.iaload, 1) := by decide +kernel
theorem dX8_foretell_123 : decode cX8_foretell 123 = .ok (.iadd, 1) := by decide +kernel
theorem dX8_foretell_124 : decode cX8_foretell 124 = .ok (.istore 10, 2) := by decide +kernel
theorem dX8_foretell_126 : decode cX8_foretell 126 = .ok (.aload_n 0, 1) := by decide +kernel
theorem dX8_foretell_127 : decode cX8_foretell 127 = .ok (.getfield 24, 3) := by decide +kernel
theorem dX8_foretell_130 : decode cX8_foretell 130 = .ok (.iload 13, 2) := by decide +kernel
theorem dX8_foretell_132 : decode cX8_foretell 132 = .ok (.iaload, 1) := by decide +kernel
theorem dX8_foretell_133 : decode cX8_foretell 133 = .ok (.iload 5, 2) := by decide +kernel
theorem dX8_foretell_135 : decode cX8_foretell 135 = .ok (.if_icmp .ne 18, 3) := by decide +kernel
theorem dX8_foretell_138 : decode cX8_foretell 138 = .ok (.iinc 7 1, 3) := by decide +kernel
theorem dX8_foretell_141 : decode cX8_foretell 141 = .ok (.iload 8, 2) := by decide +kernel
theorem dX8_foretell_143 : decode cX8_foretell 143 = .ok (.aload_n 0, 1) := by decide +kernel
theorem dX8_foretell_144 : decode cX8_foretell 144 = .ok (.getfield 27, 3) := by decide +kernel
theorem dX8_foretell_147 : decode cX8_foretell 147 = .ok (.iload 13, 2) := by decide +kernel
theorem dX8_foretell_149 : decode cX8_foretell 149 = .ok (.iaload, 1) := by decide +kernel
theorem dX8_foretell_150 : decode cX8_foretell 150 = .ok (.iadd, 1) := by decide +kernel
theorem dX8_foretell_151 : decode cX8_foretell 151 = .ok (.istore 8, 2) := by decide +kernel
theorem dX8_foretell_153 : decode cX8_foretell 153 = .ok (.iinc 13 1, 3) := by decide +kernel
theorem dX8_foretell_156 : decode cX8_foretell 156 = .ok (.goto (-135), 3) := by decide +kernel
theorem dX8_foretell_159 : decode cX8_foretell 159 = .ok (.iload 7, 2) := by decide +kernel
theorem dX8_foretell_161 : decode cX8_foretell 161 = .ok (.iconst 3, 1) := by decide +kernel
theorem dX8_foretell_162 : decode cX8_foretell 162 = .ok (.if_icmp .lt 11, 3) := by decide +kernel
theorem dX8_foretell_165 : decode cX8_foretell 165 = .ok (.iload 8, 2) := by decide +kernel
theorem dX8_foretell_167 : decode cX8_foretell 167 = .ok (.iload 7, 2) := by decide +kernel
theorem dX8_foretell_169 : decode cX8_foretell 169 = .ok (.invokestatic 46, 3) := by decide +kernel
theorem dX8_foretell_172 : decode cX8_foretell 172 = .ok (.ireturn, 1) := by decide +kernel
theorem dX8_foretell_173 : decode cX8_foretell 173 = .ok (.iload 9, 2) := by decide +kernel
theorem dX8_foretell_175 : decode cX8_foretell 175 = .ok (.iconst 3, 1) := by decide +kernel
theorem dX8_foretell_176 : decode cX8_foretell 176 = .ok (.if_icmp .lt 13, 3) := by decide +kernel
theorem dX8_foretell_179 : decode cX8_foretell 179 = .ok (.iload 10, 2) := by decide +kernel
theorem dX8_foretell_181 : decode cX8_foretell 181 = .ok (.iload 9, 2) := by decide +kernel
theorem dX8_foretell_183 : decode cX8_foretell 183 = .ok (.invokestatic 46, 3) := by decide +kernel
theorem dX8_foretell_186 : decode cX8_foretell 186 = .ok (.goto 10, 3) := by decide +kernel
theorem dX8_foretell_189 : decode cX8_foretell 189 = .ok (.iload 12, 2) := by decide +kernel
theorem dX8_foretell_191 : decode cX8_foretell 191 = .ok (.iload 11, 2) := by decide +kernel
theorem dX8_foretell_193 : decode cX8_foretell 193 = .ok (.invokestatic 46, 3) := by decide +kernel
theorem dX8_foretell_196 : decode cX8_foretell 196 = .ok (.ireturn, 1) := by decide +kernel
theorem dX8_mean_0 : decode cX8_mean 0 = .ok (.iload_n 1, 1) := by decide +kernel
theorem dX8_mean_1 : decode cX8_mean 1 = .ok (.ifCond .ne 7, 3) := by decide +kernel
theorem dX8_mean_4 : decode cX8_mean 4 = .ok (.iconst 0, 1) := by decide +kernel
theorem dX8_mean_5 : decode cX8_mean 5 = .ok (.goto 12, 3) := by decide +kernel
theorem dX8_mean_8 : decode cX8_mean 8 = .ok (.iconst 2, 1) := by decide +kernel
theorem dX8_mean_9 : decode cX8_mean 9 = .ok (.iload_n 0, 1) := by decide +kernel
theorem dX8_mean_10 : decode cX8_mean 10 = .ok (.imul, 1) := by decide +kernel
theorem dX8_mean_11 : decode cX8_mean 11 = .ok (.iload_n 1, 1) := by decide +kernel
theorem dX8_mean_12 : decode cX8_mean 12 = .ok (.iadd, 1) := by decide +kernel
theorem dX8_mean_13 : decode cX8_mean 13 = .ok (.iconst 2, 1) := by decide +kernel
theorem dX8_mean_14 : decode cX8_mean 14 = .ok (.iload_n 1, 1) := by decide +kernel
theorem dX8_mean_15 : decode cX8_mean 15 = .ok (.imul, 1) := by decide +kernel
theorem dX8_mean_16 : decode cX8_mean 16 = .ok (.idiv, 1) := by decide +kernel
theorem dX8_mean_17 : decode cX8_mean 17 = .ok (.ireturn, 1) := by decide +kernel
theorem dX8_askedEarly_0 : decode cX8_askedEarly 0 = .ok (.iconst 0, 1) := by decide +kernel
theorem dX8_askedEarly_1 : decode cX8_askedEarly 1 = .ok (.istore 5, 2) := by decide +kernel
theorem dX8_askedEarly_3 : decode cX8_askedEarly 3 = .ok (.iconst 0, 1) := by decide +kernel
theorem dX8_askedEarly_4 : decode cX8_askedEarly 4 = .ok (.istore 6, 2) := by decide +kernel
theorem dX8_askedEarly_6 : decode cX8_askedEarly 6 = .ok (.iload 6, 2) := by decide +kernel
theorem dX8_askedEarly_8 : decode cX8_askedEarly 8 = .ok (.aload_n 0, 1) := by decide +kernel
theorem dX8_askedEarly_9 : decode cX8_askedEarly 9 = .ok (.getfield 33, 3) := by decide +kernel
theorem dX8_askedEarly_12 : decode cX8_askedEarly 12 = .ok (.if_icmp .ge 93, 3) := by decide +kernel
theorem dX8_askedEarly_15 : decode cX8_askedEarly 15 = .ok (.aload_n 0, 1) := by decide +kernel
theorem dX8_askedEarly_16 : decode cX8_askedEarly 16 = .ok (.getfield 18, 3) := by decide +kernel
theorem dX8_askedEarly_19 : decode cX8_askedEarly 19 = .ok (.iload 6, 2) := by decide +kernel
theorem dX8_askedEarly_21 : decode cX8_askedEarly 21 = .ok (.iaload, 1) := by decide +kernel
theorem dX8_askedEarly_22 : decode cX8_askedEarly 22 = .ok (.bipush 24, 2) := by decide +kernel
theorem dX8_askedEarly_24 : decode cX8_askedEarly 24 = .ok (.irem, 1) := by decide +kernel
theorem dX8_askedEarly_25 : decode cX8_askedEarly 25 = .ok (.bipush 13, 2) := by decide +kernel
theorem dX8_askedEarly_27 : decode cX8_askedEarly 27 = .ok (.if_icmp .gt 7, 3) := by decide +kernel
theorem dX8_askedEarly_30 : decode cX8_askedEarly 30 = .ok (.iconst 1, 1) := by decide +kernel
theorem dX8_askedEarly_31 : decode cX8_askedEarly 31 = .ok (.goto 4, 3) := by decide +kernel
theorem dX8_askedEarly_34 : decode cX8_askedEarly 34 = .ok (.iconst 0, 1) := by decide +kernel
theorem dX8_askedEarly_35 : decode cX8_askedEarly 35 = .ok (.istore 7, 2) := by decide +kernel
theorem dX8_askedEarly_37 : decode cX8_askedEarly 37 = .ok (.aload_n 0, 1) := by decide +kernel
theorem dX8_askedEarly_38 : decode cX8_askedEarly 38 = .ok (.getfield 18, 3) := by decide +kernel
theorem dX8_askedEarly_41 : decode cX8_askedEarly 41 = .ok (.iload 6, 2) := by decide +kernel
theorem dX8_askedEarly_43 : decode cX8_askedEarly 43 = .ok (.iaload, 1) := by decide +kernel
theorem dX8_askedEarly_44 : decode cX8_askedEarly 44 = .ok (.bipush 24, 2) := by decide +kernel
theorem dX8_askedEarly_46 : decode cX8_askedEarly 46 = .ok (.idiv, 1) := by decide +kernel
theorem dX8_askedEarly_47 : decode cX8_askedEarly 47 = .ok (.istore 8, 2) := by decide +kernel
theorem dX8_askedEarly_49 : decode cX8_askedEarly 49 = .ok (.iload 7, 2) := by decide +kernel
theorem dX8_askedEarly_51 : decode cX8_askedEarly 51 = .ok (.ifCond .eq 48, 3) := by decide +kernel
theorem dX8_askedEarly_54 : decode cX8_askedEarly 54 = .ok (.aload_n 0, 1) := by decide +kernel
theorem dX8_askedEarly_55 : decode cX8_askedEarly 55 = .ok (.getfield 9, 3) := by decide +kernel
theorem dX8_askedEarly_58 : decode cX8_askedEarly 58 = .ok (.iload 6, 2) := by decide +kernel
theorem dX8_askedEarly_60 : decode cX8_askedEarly 60 = .ok (.iaload, 1) := by decide +kernel
theorem dX8_askedEarly_61 : decode cX8_askedEarly 61 = .ok (.iload_n 1, 1) := by decide +kernel
theorem dX8_askedEarly_62 : decode cX8_askedEarly 62 = .ok (.if_icmp .ne 37, 3) := by decide +kernel
theorem dX8_askedEarly_65 : decode cX8_askedEarly 65 = .ok (.aload_n 0, 1) := by decide +kernel
theorem dX8_askedEarly_66 : decode cX8_askedEarly 66 = .ok (.getfield 15, 3) := by decide +kernel
theorem dX8_askedEarly_69 : decode cX8_askedEarly 69 = .ok (.iload 6, 2) := by decide +kernel
theorem dX8_askedEarly_71 : decode cX8_askedEarly 71 = .ok (.iaload, 1) := by decide +kernel
theorem dX8_askedEarly_72 : decode cX8_askedEarly 72 = .ok (.iload_n 2, 1) := by decide +kernel
theorem dX8_askedEarly_73 : decode cX8_askedEarly 73 = .ok (.if_icmp .ne 26, 3) := by decide +kernel
theorem dX8_askedEarly_76 : decode cX8_askedEarly 76 = .ok (.iload_n 3, 1) := by decide +kernel
theorem dX8_askedEarly_77 : decode cX8_askedEarly 77 = .ok (.iload 8, 2) := by decide +kernel
theorem dX8_askedEarly_79 : decode cX8_askedEarly 79 = .ok (.iload 4, 2) := by decide +kernel
theorem dX8_askedEarly_81 : decode cX8_askedEarly 81 = .ok (.invokestatic 50, 3) := by decide +kernel
theorem dX8_askedEarly_84 : decode cX8_askedEarly 84 = .ok (.ifCond .eq 15, 3) := by decide +kernel
theorem dX8_askedEarly_87 : decode cX8_askedEarly 87 = .ok (.iload 5, 2) := by decide +kernel
theorem dX8_askedEarly_89 : decode cX8_askedEarly 89 = .ok (.aload_n 0, 1) := by decide +kernel
theorem dX8_askedEarly_90 : decode cX8_askedEarly 90 = .ok (.getfield 27, 3) := by decide +kernel
theorem dX8_askedEarly_93 : decode cX8_askedEarly 93 = .ok (.iload 6, 2) := by decide +kernel
theorem dX8_askedEarly_95 : decode cX8_askedEarly 95 = .ok (.iaload, 1) := by decide +kernel
theorem dX8_askedEarly_96 : decode cX8_askedEarly 96 = .ok (.iadd, 1) := by decide +kernel
theorem dX8_askedEarly_97 : decode cX8_askedEarly 97 = .ok (.istore 5, 2) := by decide +kernel
theorem dX8_askedEarly_99 : decode cX8_askedEarly 99 = .ok (.iinc 6 1, 3) := by decide +kernel
theorem dX8_askedEarly_102 : decode cX8_askedEarly 102 = .ok (.goto (-96), 3) := by decide +kernel
theorem dX8_askedEarly_105 : decode cX8_askedEarly 105 = .ok (.iload 5, 2) := by decide +kernel
theorem dX8_askedEarly_107 : decode cX8_askedEarly 107 = .ok (.ireturn, 1) := by decide +kernel
theorem dX8_sumDays_0 : decode cX8_sumDays 0 = .ok (.iconst (-1), 1) := by decide +kernel
theorem dX8_sumDays_1 : decode cX8_sumDays 1 = .ok (.istore 6, 2) := by decide +kernel
theorem dX8_sumDays_3 : decode cX8_sumDays 3 = .ok (.aload_n 0, 1) := by decide +kernel
theorem dX8_sumDays_4 : decode cX8_sumDays 4 = .ok (.iconst 0, 1) := by decide +kernel
theorem dX8_sumDays_5 : decode cX8_sumDays 5 = .ok (.putfield 40, 3) := by decide +kernel
theorem dX8_sumDays_8 : decode cX8_sumDays 8 = .ok (.iconst 0, 1) := by decide +kernel
theorem dX8_sumDays_9 : decode cX8_sumDays 9 = .ok (.istore 7, 2) := by decide +kernel
theorem dX8_sumDays_11 : decode cX8_sumDays 11 = .ok (.iload 7, 2) := by decide +kernel
theorem dX8_sumDays_13 : decode cX8_sumDays 13 = .ok (.aload_n 0, 1) := by decide +kernel
theorem dX8_sumDays_14 : decode cX8_sumDays 14 = .ok (.getfield 33, 3) := by decide +kernel
theorem dX8_sumDays_17 : decode cX8_sumDays 17 = .ok (.if_icmp .ge 146, 3) := by decide +kernel
theorem dX8_sumDays_20 : decode cX8_sumDays 20 = .ok (.aload_n 0, 1) := by decide +kernel
theorem dX8_sumDays_21 : decode cX8_sumDays 21 = .ok (.getfield 18, 3) := by decide +kernel
theorem dX8_sumDays_24 : decode cX8_sumDays 24 = .ok (.iload 7, 2) := by decide +kernel
theorem dX8_sumDays_26 : decode cX8_sumDays 26 = .ok (.iaload, 1) := by decide +kernel
theorem dX8_sumDays_27 : decode cX8_sumDays 27 = .ok (.bipush 24, 2) := by decide +kernel
theorem dX8_sumDays_29 : decode cX8_sumDays 29 = .ok (.idiv, 1) := by decide +kernel
theorem dX8_sumDays_30 : decode cX8_sumDays 30 = .ok (.iload 5, 2) := by decide +kernel
theorem dX8_sumDays_32 : decode cX8_sumDays 32 = .ok (.if_icmp .gt 131, 3) := by decide +kernel
theorem dX8_sumDays_35 : decode cX8_sumDays 35 = .ok (.aload_n 0, 1) := by decide +kernel
theorem dX8_sumDays_36 : decode cX8_sumDays 36 = .ok (.getfield 18, 3) := by decide +kernel
theorem dX8_sumDays_39 : decode cX8_sumDays 39 = .ok (.iload 7, 2) := by decide +kernel
theorem dX8_sumDays_41 : decode cX8_sumDays 41 = .ok (.iaload, 1) := by decide +kernel
theorem dX8_sumDays_42 : decode cX8_sumDays 42 = .ok (.bipush 24, 2) := by decide +kernel
theorem dX8_sumDays_44 : decode cX8_sumDays 44 = .ok (.idiv, 1) := by decide +kernel
theorem dX8_sumDays_45 : decode cX8_sumDays 45 = .ok (.istore 8, 2) := by decide +kernel
theorem dX8_sumDays_47 : decode cX8_sumDays 47 = .ok (.aload_n 0, 1) := by decide +kernel
theorem dX8_sumDays_48 : decode cX8_sumDays 48 = .ok (.getfield 9, 3) := by decide +kernel
theorem dX8_sumDays_51 : decode cX8_sumDays 51 = .ok (.iload 7, 2) := by decide +kernel
theorem dX8_sumDays_53 : decode cX8_sumDays 53 = .ok (.iaload, 1) := by decide +kernel
theorem dX8_sumDays_54 : decode cX8_sumDays 54 = .ok (.iload_n 1, 1) := by decide +kernel
theorem dX8_sumDays_55 : decode cX8_sumDays 55 = .ok (.if_icmp .ne 30, 3) := by decide +kernel
theorem dX8_sumDays_58 : decode cX8_sumDays 58 = .ok (.aload_n 0, 1) := by decide +kernel
theorem dX8_sumDays_59 : decode cX8_sumDays 59 = .ok (.getfield 15, 3) := by decide +kernel
theorem dX8_sumDays_62 : decode cX8_sumDays 62 = .ok (.iload 7, 2) := by decide +kernel
theorem dX8_sumDays_64 : decode cX8_sumDays 64 = .ok (.iaload, 1) := by decide +kernel
theorem dX8_sumDays_65 : decode cX8_sumDays 65 = .ok (.iload_n 2, 1) := by decide +kernel
theorem dX8_sumDays_66 : decode cX8_sumDays 66 = .ok (.if_icmp .ne 19, 3) := by decide +kernel
theorem dX8_sumDays_69 : decode cX8_sumDays 69 = .ok (.aload_n 0, 1) := by decide +kernel
theorem dX8_sumDays_70 : decode cX8_sumDays 70 = .ok (.getfield 24, 3) := by decide +kernel
theorem dX8_sumDays_73 : decode cX8_sumDays 73 = .ok (.iload 7, 2) := by decide +kernel
theorem dX8_sumDays_75 : decode cX8_sumDays 75 = .ok (.iaload, 1) := by decide +kernel
theorem dX8_sumDays_76 : decode cX8_sumDays 76 = .ok (.iload 4, 2) := by decide +kernel
theorem dX8_sumDays_78 : decode cX8_sumDays 78 = .ok (.if_icmp .ne 7, 3) := by decide +kernel
theorem dX8_sumDays_81 : decode cX8_sumDays 81 = .ok (.iconst 1, 1) := by decide +kernel
theorem dX8_sumDays_82 : decode cX8_sumDays 82 = .ok (.goto 4, 3) := by decide +kernel
theorem dX8_sumDays_85 : decode cX8_sumDays 85 = .ok (.iconst 0, 1) := by decide +kernel
theorem dX8_sumDays_86 : decode cX8_sumDays 86 = .ok (.istore 9, 2) := by decide +kernel
theorem dX8_sumDays_88 : decode cX8_sumDays 88 = .ok (.iload 9, 2) := by decide +kernel
theorem dX8_sumDays_90 : decode cX8_sumDays 90 = .ok (.ifCond .eq 67, 3) := by decide +kernel
theorem dX8_sumDays_93 : decode cX8_sumDays 93 = .ok (.iload 8, 2) := by decide +kernel
theorem dX8_sumDays_95 : decode cX8_sumDays 95 = .ok (.bipush 7, 2) := by decide +kernel
theorem dX8_sumDays_97 : decode cX8_sumDays 97 = .ok (.irem, 1) := by decide +kernel
theorem dX8_sumDays_98 : decode cX8_sumDays 98 = .ok (.iload_n 3, 1) := by decide +kernel
theorem dX8_sumDays_99 : decode cX8_sumDays 99 = .ok (.if_icmp .eq 6, 3) := by decide +kernel
theorem dX8_sumDays_102 : decode cX8_sumDays 102 = .ok (.goto 55, 3) := by decide +kernel
theorem dX8_sumDays_105 : decode cX8_sumDays 105 = .ok (.iload 8, 2) := by decide +kernel
theorem dX8_sumDays_107 : decode cX8_sumDays 107 = .ok (.iload 6, 2) := by decide +kernel
theorem dX8_sumDays_109 : decode cX8_sumDays 109 = .ok (.if_icmp .eq 27, 3) := by decide +kernel
theorem dX8_sumDays_112 : decode cX8_sumDays 112 = .ok (.aload_n 0, 1) := by decide +kernel
theorem dX8_sumDays_113 : decode cX8_sumDays 113 = .ok (.getfield 37, 3) := by decide +kernel
theorem dX8_sumDays_116 : decode cX8_sumDays 116 = .ok (.aload_n 0, 1) := by decide +kernel
theorem dX8_sumDays_117 : decode cX8_sumDays 117 = .ok (.getfield 40, 3) := by decide +kernel
theorem dX8_sumDays_120 : decode cX8_sumDays 120 = .ok (.iconst 0, 1) := by decide +kernel
theorem dX8_sumDays_121 : decode cX8_sumDays 121 = .ok (.iastore, 1) := by decide +kernel
theorem dX8_sumDays_122 : decode cX8_sumDays 122 = .ok (.aload_n 0, 1) := by decide +kernel
theorem dX8_sumDays_123 : decode cX8_sumDays 123 = .ok (.dup, 1) := by decide +kernel
theorem dX8_sumDays_124 : decode cX8_sumDays 124 = .ok (.getfield 40, 3) := by decide +kernel
theorem dX8_sumDays_127 : decode cX8_sumDays 127 = .ok (.iconst 1, 1) := by decide +kernel
theorem dX8_sumDays_128 : decode cX8_sumDays 128 = .ok (.iadd, 1) := by decide +kernel
theorem dX8_sumDays_129 : decode cX8_sumDays 129 = .ok (.putfield 40, 3) := by decide +kernel
theorem dX8_sumDays_132 : decode cX8_sumDays 132 = .ok (.iload 8, 2) := by decide +kernel
theorem dX8_sumDays_134 : decode cX8_sumDays 134 = .ok (.istore 6, 2) := by decide +kernel
theorem dX8_sumDays_136 : decode cX8_sumDays 136 = .ok (.aload_n 0, 1) := by decide +kernel
theorem dX8_sumDays_137 : decode cX8_sumDays 137 = .ok (.getfield 37, 3) := by decide +kernel
theorem dX8_sumDays_140 : decode cX8_sumDays 140 = .ok (.aload_n 0, 1) := by decide +kernel
theorem dX8_sumDays_141 : decode cX8_sumDays 141 = .ok (.getfield 40, 3) := by decide +kernel
theorem dX8_sumDays_144 : decode cX8_sumDays 144 = .ok (.iconst 1, 1) := by decide +kernel
theorem dX8_sumDays_145 : decode cX8_sumDays 145 = .ok (.isub, 1) := by decide +kernel
theorem dX8_sumDays_146 : decode cX8_sumDays 146 = .ok (.dup2, 1) := by decide +kernel
theorem dX8_sumDays_147 : decode cX8_sumDays 147 = .ok (.iaload, 1) := by decide +kernel
theorem dX8_sumDays_148 : decode cX8_sumDays 148 = .ok (.aload_n 0, 1) := by decide +kernel
theorem dX8_sumDays_149 : decode cX8_sumDays 149 = .ok (.getfield 27, 3) := by decide +kernel
theorem dX8_sumDays_152 : decode cX8_sumDays 152 = .ok (.iload 7, 2) := by decide +kernel
theorem dX8_sumDays_154 : decode cX8_sumDays 154 = .ok (.iaload, 1) := by decide +kernel
theorem dX8_sumDays_155 : decode cX8_sumDays 155 = .ok (.iadd, 1) := by decide +kernel
theorem dX8_sumDays_156 : decode cX8_sumDays 156 = .ok (.iastore, 1) := by decide +kernel
theorem dX8_sumDays_157 : decode cX8_sumDays 157 = .ok (.iinc 7 1, 3) := by decide +kernel
theorem dX8_sumDays_160 : decode cX8_sumDays 160 = .ok (.goto (-149), 3) := by decide +kernel
theorem dX8_sumDays_163 : decode cX8_sumDays 163 = .ok (.return_, 1) := by decide +kernel
theorem dX8_lossOf_0 : decode cX8_lossOf 0 = .ok (.lconst 0, 1) := by decide +kernel
theorem dX8_lossOf_1 : decode cX8_lossOf 1 = .ok (.lstore 4, 2) := by decide +kernel
theorem dX8_lossOf_3 : decode cX8_lossOf 3 = .ok (.iconst 0, 1) := by decide +kernel
theorem dX8_lossOf_4 : decode cX8_lossOf 4 = .ok (.istore 6, 2) := by decide +kernel
theorem dX8_lossOf_6 : decode cX8_lossOf 6 = .ok (.iload 6, 2) := by decide +kernel
theorem dX8_lossOf_8 : decode cX8_lossOf 8 = .ok (.aload_n 0, 1) := by decide +kernel
theorem dX8_lossOf_9 : decode cX8_lossOf 9 = .ok (.getfield 40, 3) := by decide +kernel
theorem dX8_lossOf_12 : decode cX8_lossOf 12 = .ok (.if_icmp .ge 47, 3) := by decide +kernel
theorem dX8_lossOf_15 : decode cX8_lossOf 15 = .ok (.aload_n 0, 1) := by decide +kernel
theorem dX8_lossOf_16 : decode cX8_lossOf 16 = .ok (.getfield 37, 3) := by decide +kernel
theorem dX8_lossOf_19 : decode cX8_lossOf 19 = .ok (.iload 6, 2) := by decide +kernel
theorem dX8_lossOf_21 : decode cX8_lossOf 21 = .ok (.iaload, 1) := by decide +kernel
theorem dX8_lossOf_22 : decode cX8_lossOf 22 = .ok (.iload_n 1, 1) := by decide +kernel
theorem dX8_lossOf_23 : decode cX8_lossOf 23 = .ok (.isub, 1) := by decide +kernel
theorem dX8_lossOf_24 : decode cX8_lossOf 24 = .ok (.i2l, 1) := by decide +kernel
theorem dX8_lossOf_25 : decode cX8_lossOf 25 = .ok (.lstore 7, 2) := by decide +kernel
theorem dX8_lossOf_27 : decode cX8_lossOf 27 = .ok (.lload 4, 2) := by decide +kernel
theorem dX8_lossOf_29 : decode cX8_lossOf 29 = .ok (.lload 7, 2) := by decide +kernel
theorem dX8_lossOf_31 : decode cX8_lossOf 31 = .ok (.lconst 0, 1) := by decide +kernel
theorem dX8_lossOf_32 : decode cX8_lossOf 32 = .ok (.lcmp, 1) := by decide +kernel
theorem dX8_lossOf_33 : decode cX8_lossOf 33 = .ok (.ifCond .le 11, 3) := by decide +kernel
theorem dX8_lossOf_36 : decode cX8_lossOf 36 = .ok (.lload 7, 2) := by decide +kernel
theorem dX8_lossOf_38 : decode cX8_lossOf 38 = .ok (.iload_n 2, 1) := by decide +kernel
theorem dX8_lossOf_39 : decode cX8_lossOf 39 = .ok (.i2l, 1) := by decide +kernel
theorem dX8_lossOf_40 : decode cX8_lossOf 40 = .ok (.lmul, 1) := by decide +kernel
theorem dX8_lossOf_41 : decode cX8_lossOf 41 = .ok (.goto 9, 3) := by decide +kernel
theorem dX8_lossOf_44 : decode cX8_lossOf 44 = .ok (.lload 7, 2) := by decide +kernel
theorem dX8_lossOf_46 : decode cX8_lossOf 46 = .ok (.lneg, 1) := by decide +kernel
theorem dX8_lossOf_47 : decode cX8_lossOf 47 = .ok (.iload_n 3, 1) := by decide +kernel
theorem dX8_lossOf_48 : decode cX8_lossOf 48 = .ok (.i2l, 1) := by decide +kernel
theorem dX8_lossOf_49 : decode cX8_lossOf 49 = .ok (.lmul, 1) := by decide +kernel
theorem dX8_lossOf_50 : decode cX8_lossOf 50 = .ok (.ladd, 1) := by decide +kernel
theorem dX8_lossOf_51 : decode cX8_lossOf 51 = .ok (.lstore 4, 2) := by decide +kernel
theorem dX8_lossOf_53 : decode cX8_lossOf 53 = .ok (.iinc 6 1, 3) := by decide +kernel
theorem dX8_lossOf_56 : decode cX8_lossOf 56 = .ok (.goto (-50), 3) := by decide +kernel
theorem dX8_lossOf_59 : decode cX8_lossOf 59 = .ok (.lload 4, 2) := by decide +kernel
theorem dX8_lossOf_61 : decode cX8_lossOf 61 = .ok (.lreturn, 1) := by decide +kernel
theorem dX8_leastLoss_0 : decode cX8_leastLoss 0 = .ok (.aload_n 0, 1) := by decide +kernel
theorem dX8_leastLoss_1 : decode cX8_leastLoss 1 = .ok (.getfield 43, 3) := by decide +kernel
theorem dX8_leastLoss_4 : decode cX8_leastLoss 4 = .ok (.iconst 0, 1) := by decide +kernel
theorem dX8_leastLoss_5 : decode cX8_leastLoss 5 = .ok (.invokestatic 54, 3) := by decide +kernel
theorem dX8_leastLoss_8 : decode cX8_leastLoss 8 = .ok (.iconst 0, 1) := by decide +kernel
theorem dX8_leastLoss_9 : decode cX8_leastLoss 9 = .ok (.istore_n 3, 1) := by decide +kernel
theorem dX8_leastLoss_10 : decode cX8_leastLoss 10 = .ok (.iload_n 3, 1) := by decide +kernel
theorem dX8_leastLoss_11 : decode cX8_leastLoss 11 = .ok (.aload_n 0, 1) := by decide +kernel
theorem dX8_leastLoss_12 : decode cX8_leastLoss 12 = .ok (.getfield 40, 3) := by decide +kernel
theorem dX8_leastLoss_15 : decode cX8_leastLoss 15 = .ok (.if_icmp .ge 36, 3) := by decide +kernel
theorem dX8_leastLoss_18 : decode cX8_leastLoss 18 = .ok (.aload_n 0, 1) := by decide +kernel
theorem dX8_leastLoss_19 : decode cX8_leastLoss 19 = .ok (.getfield 37, 3) := by decide +kernel
theorem dX8_leastLoss_22 : decode cX8_leastLoss 22 = .ok (.iload_n 3, 1) := by decide +kernel
theorem dX8_leastLoss_23 : decode cX8_leastLoss 23 = .ok (.iaload, 1) := by decide +kernel
theorem dX8_leastLoss_24 : decode cX8_leastLoss 24 = .ok (.sipush 999, 3) := by decide +kernel
theorem dX8_leastLoss_27 : decode cX8_leastLoss 27 = .ok (.if_icmp .gt 18, 3) := by decide +kernel
theorem dX8_leastLoss_30 : decode cX8_leastLoss 30 = .ok (.aload_n 0, 1) := by decide +kernel
theorem dX8_leastLoss_31 : decode cX8_leastLoss 31 = .ok (.getfield 43, 3) := by decide +kernel
theorem dX8_leastLoss_34 : decode cX8_leastLoss 34 = .ok (.aload_n 0, 1) := by decide +kernel
theorem dX8_leastLoss_35 : decode cX8_leastLoss 35 = .ok (.getfield 37, 3) := by decide +kernel
theorem dX8_leastLoss_38 : decode cX8_leastLoss 38 = .ok (.iload_n 3, 1) := by decide +kernel
theorem dX8_leastLoss_39 : decode cX8_leastLoss 39 = .ok (.iaload, 1) := by decide +kernel
theorem dX8_leastLoss_40 : decode cX8_leastLoss 40 = .ok (.dup2, 1) := by decide +kernel
theorem dX8_leastLoss_41 : decode cX8_leastLoss 41 = .ok (.iaload, 1) := by decide +kernel
theorem dX8_leastLoss_42 : decode cX8_leastLoss 42 = .ok (.iconst 1, 1) := by decide +kernel
theorem dX8_leastLoss_43 : decode cX8_leastLoss 43 = .ok (.iadd, 1) := by decide +kernel
theorem dX8_leastLoss_44 : decode cX8_leastLoss 44 = .ok (.iastore, 1) := by decide +kernel
theorem dX8_leastLoss_45 : decode cX8_leastLoss 45 = .ok (.iinc 3 1, 3) := by decide +kernel
theorem dX8_leastLoss_48 : decode cX8_leastLoss 48 = .ok (.goto (-38), 3) := by decide +kernel
theorem dX8_leastLoss_51 : decode cX8_leastLoss 51 = .ok (.lconst 0, 1) := by decide +kernel
theorem dX8_leastLoss_52 : decode cX8_leastLoss 52 = .ok (.lstore_n 3, 1) := by decide +kernel
theorem dX8_leastLoss_53 : decode cX8_leastLoss 53 = .ok (.iconst 0, 1) := by decide +kernel
theorem dX8_leastLoss_54 : decode cX8_leastLoss 54 = .ok (.istore 5, 2) := by decide +kernel
theorem dX8_leastLoss_56 : decode cX8_leastLoss 56 = .ok (.iload 5, 2) := by decide +kernel
theorem dX8_leastLoss_58 : decode cX8_leastLoss 58 = .ok (.sipush 999, 3) := by decide +kernel
theorem dX8_leastLoss_61 : decode cX8_leastLoss 61 = .ok (.if_icmp .ge 41, 3) := by decide +kernel
theorem dX8_leastLoss_64 : decode cX8_leastLoss 64 = .ok (.lload_n 3, 1) := by decide +kernel
theorem dX8_leastLoss_65 : decode cX8_leastLoss 65 = .ok (.aload_n 0, 1) := by decide +kernel
theorem dX8_leastLoss_66 : decode cX8_leastLoss 66 = .ok (.getfield 43, 3) := by decide +kernel
theorem dX8_leastLoss_69 : decode cX8_leastLoss 69 = .ok (.iload 5, 2) := by decide +kernel
theorem dX8_leastLoss_71 : decode cX8_leastLoss 71 = .ok (.iaload, 1) := by decide +kernel
theorem dX8_leastLoss_72 : decode cX8_leastLoss 72 = .ok (.i2l, 1) := by decide +kernel
theorem dX8_leastLoss_73 : decode cX8_leastLoss 73 = .ok (.ladd, 1) := by decide +kernel
theorem dX8_leastLoss_74 : decode cX8_leastLoss 74 = .ok (.lstore_n 3, 1) := by decide +kernel
theorem dX8_leastLoss_75 : decode cX8_leastLoss 75 = .ok (.lload_n 3, 1) := by decide +kernel
theorem dX8_leastLoss_76 : decode cX8_leastLoss 76 = .ok (.iload_n 2, 1) := by decide +kernel
theorem dX8_leastLoss_77 : decode cX8_leastLoss 77 = .ok (.i2l, 1) := by decide +kernel
theorem dX8_leastLoss_78 : decode cX8_leastLoss 78 = .ok (.lmul, 1) := by decide +kernel
theorem dX8_leastLoss_79 : decode cX8_leastLoss 79 = .ok (.aload_n 0, 1) := by decide +kernel
theorem dX8_leastLoss_80 : decode cX8_leastLoss 80 = .ok (.getfield 40, 3) := by decide +kernel
theorem dX8_leastLoss_83 : decode cX8_leastLoss 83 = .ok (.i2l, 1) := by decide +kernel
theorem dX8_leastLoss_84 : decode cX8_leastLoss 84 = .ok (.lload_n 3, 1) := by decide +kernel
theorem dX8_leastLoss_85 : decode cX8_leastLoss 85 = .ok (.lsub, 1) := by decide +kernel
theorem dX8_leastLoss_86 : decode cX8_leastLoss 86 = .ok (.iload_n 1, 1) := by decide +kernel
theorem dX8_leastLoss_87 : decode cX8_leastLoss 87 = .ok (.i2l, 1) := by decide +kernel
theorem dX8_leastLoss_88 : decode cX8_leastLoss 88 = .ok (.lmul, 1) := by decide +kernel
theorem dX8_leastLoss_89 : decode cX8_leastLoss 89 = .ok (.lcmp, 1) := by decide +kernel
theorem dX8_leastLoss_90 : decode cX8_leastLoss 90 = .ok (.ifCond .lt 6, 3) := by decide +kernel
theorem dX8_leastLoss_93 : decode cX8_leastLoss 93 = .ok (.iload 5, 2) := by decide +kernel
theorem dX8_leastLoss_95 : decode cX8_leastLoss 95 = .ok (.ireturn, 1) := by decide +kernel
theorem dX8_leastLoss_96 : decode cX8_leastLoss 96 = .ok (.iinc 5 1, 3) := by decide +kernel
theorem dX8_leastLoss_99 : decode cX8_leastLoss 99 = .ok (.goto (-43), 3) := by decide +kernel
theorem dX8_leastLoss_102 : decode cX8_leastLoss 102 = .ok (.sipush 999, 3) := by decide +kernel
theorem dX8_leastLoss_105 : decode cX8_leastLoss 105 = .ok (.ireturn, 1) := by decide +kernel
theorem dX9_init_0 : decode cX9_init 0 = .ok (.aload_n 0, 1) := by decide +kernel
theorem dX9_init_1 : decode cX9_init 1 = .ok (.invokespecial 3, 3) := by decide +kernel
theorem dX9_init_4 : decode cX9_init 4 = .ok (.aload_n 0, 1) := by decide +kernel
theorem dX9_init_5 : decode cX9_init 5 = .ok (.new 9, 3) := by decide +kernel
theorem dX9_init_8 : decode cX9_init 8 = .ok (.dup, 1) := by decide +kernel
theorem dX9_init_9 : decode cX9_init 9 = .ok (.bipush 12, 2) := by decide +kernel
theorem dX9_init_11 : decode cX9_init 11 = .ok (.invokespecial 11, 3) := by decide +kernel
theorem dX9_init_14 : decode cX9_init 14 = .ok (.putfield 14, 3) := by decide +kernel
theorem dX9_init_17 : decode cX9_init 17 = .ok (.aload_n 0, 1) := by decide +kernel
theorem dX9_init_18 : decode cX9_init 18 = .ok (.bipush 12, 2) := by decide +kernel
theorem dX9_init_20 : decode cX9_init 20 = .ok (.newarray .int, 2) := by decide +kernel
theorem dX9_init_22 : decode cX9_init 22 = .ok (.putfield 20, 3) := by decide +kernel
theorem dX9_init_25 : decode cX9_init 25 = .ok (.aload_n 0, 1) := by decide +kernel
theorem dX9_init_26 : decode cX9_init 26 = .ok (.bipush 12, 2) := by decide +kernel
theorem dX9_init_28 : decode cX9_init 28 = .ok (.newarray .int, 2) := by decide +kernel
theorem dX9_init_30 : decode cX9_init 30 = .ok (.putfield 24, 3) := by decide +kernel
theorem dX9_init_33 : decode cX9_init 33 = .ok (.aload_n 0, 1) := by decide +kernel
theorem dX9_init_34 : decode cX9_init 34 = .ok (.bipush 12, 2) := by decide +kernel
theorem dX9_init_36 : decode cX9_init 36 = .ok (.bipush 10, 2) := by decide +kernel
theorem dX9_init_38 : decode cX9_init 38 = .ok (.multianewarray 27 2, 4) := by decide +kernel
theorem dX9_init_42 : decode cX9_init 42 = .ok (.putfield 29, 3) := by decide +kernel
theorem dX9_init_45 : decode cX9_init 45 = .ok (.aload_n 0, 1) := by decide +kernel
theorem dX9_init_46 : decode cX9_init 46 = .ok (.bipush 12, 2) := by decide +kernel
theorem dX9_init_48 : decode cX9_init 48 = .ok (.bipush 10, 2) := by decide +kernel
theorem dX9_init_50 : decode cX9_init 50 = .ok (.multianewarray 27 2, 4) := by decide +kernel
theorem dX9_init_54 : decode cX9_init 54 = .ok (.putfield 32, 3) := by decide +kernel
theorem dX9_init_57 : decode cX9_init 57 = .ok (.aload_n 0, 1) := by decide +kernel
theorem dX9_init_58 : decode cX9_init 58 = .ok (.getfield 24, 3) := by decide +kernel
theorem dX9_init_61 : decode cX9_init 61 = .ok (.iconst (-1), 1) := by decide +kernel
theorem dX9_init_62 : decode cX9_init 62 = .ok (.invokestatic 35, 3) := by decide +kernel
theorem dX9_init_65 : decode cX9_init 65 = .ok (.return_, 1) := by decide +kernel
theorem dX9_clearDay_0 : decode cX9_clearDay 0 = .ok (.iconst 0, 1) := by decide +kernel
theorem dX9_clearDay_1 : decode cX9_clearDay 1 = .ok (.istore_n 1, 1) := by decide +kernel
theorem dX9_clearDay_2 : decode cX9_clearDay 2 = .ok (.iload_n 1, 1) := by decide +kernel
theorem dX9_clearDay_3 : decode cX9_clearDay 3 = .ok (.bipush 12, 2) := by decide +kernel
theorem dX9_clearDay_5 : decode cX9_clearDay 5 = .ok (.if_icmp .ge 29, 3) := by decide +kernel
theorem dX9_clearDay_8 : decode cX9_clearDay 8 = .ok (.aload_n 0, 1) := by decide +kernel
theorem dX9_clearDay_9 : decode cX9_clearDay 9 = .ok (.getfield 29, 3) := by decide +kernel
theorem dX9_clearDay_12 : decode cX9_clearDay 12 = .ok (.iload_n 1, 1) := by decide +kernel
theorem dX9_clearDay_13 : decode cX9_clearDay 13 = .ok (.aaload, 1) := by decide +kernel
theorem dX9_clearDay_14 : decode cX9_clearDay 14 = .ok (.iconst 0, 1) := by decide +kernel
theorem dX9_clearDay_15 : decode cX9_clearDay 15 = .ok (.invokestatic 35, 3) := by decide +kernel
theorem dX9_clearDay_18 : decode cX9_clearDay 18 = .ok (.aload_n 0, 1) := by decide +kernel
theorem dX9_clearDay_19 : decode cX9_clearDay 19 = .ok (.getfield 32, 3) := by decide +kernel
theorem dX9_clearDay_22 : decode cX9_clearDay 22 = .ok (.iload_n 1, 1) := by decide +kernel
theorem dX9_clearDay_23 : decode cX9_clearDay 23 = .ok (.aaload, 1) := by decide +kernel
theorem dX9_clearDay_24 : decode cX9_clearDay 24 = .ok (.iconst 0, 1) := by decide +kernel
theorem dX9_clearDay_25 : decode cX9_clearDay 25 = .ok (.invokestatic 35, 3) := by decide +kernel
theorem dX9_clearDay_28 : decode cX9_clearDay 28 = .ok (.iinc 1 1, 3) := by decide +kernel
theorem dX9_clearDay_31 : decode cX9_clearDay 31 = .ok (.goto (-29), 3) := by decide +kernel
theorem dX9_clearDay_34 : decode cX9_clearDay 34 = .ok (.return_, 1) := by decide +kernel
theorem dX9_howManyDrawn_0 : decode cX9_howManyDrawn 0 = .ok (.iconst 0, 1) := by decide +kernel
theorem dX9_howManyDrawn_1 : decode cX9_howManyDrawn 1 = .ok (.istore_n 2, 1) := by decide +kernel
theorem dX9_howManyDrawn_2 : decode cX9_howManyDrawn 2 = .ok (.iconst 0, 1) := by decide +kernel
theorem dX9_howManyDrawn_3 : decode cX9_howManyDrawn 3 = .ok (.istore_n 3, 1) := by decide +kernel
theorem dX9_howManyDrawn_4 : decode cX9_howManyDrawn 4 = .ok (.iload_n 3, 1) := by decide +kernel
theorem dX9_howManyDrawn_5 : decode cX9_howManyDrawn 5 = .ok (.aload_n 0, 1) := by decide +kernel
theorem dX9_howManyDrawn_6 : decode cX9_howManyDrawn 6 = .ok (.getfield 14, 3) := by decide +kernel
theorem dX9_howManyDrawn_9 : decode cX9_howManyDrawn 9 = .ok (.getfield 41, 3) := by decide +kernel
theorem dX9_howManyDrawn_12 : decode cX9_howManyDrawn 12 = .ok (.if_icmp .ge 22, 3) := by decide +kernel
theorem dX9_howManyDrawn_15 : decode cX9_howManyDrawn 15 = .ok (.aload_n 0, 1) := by decide +kernel
theorem dX9_howManyDrawn_16 : decode cX9_howManyDrawn 16 = .ok (.getfield 24, 3) := by decide +kernel
theorem dX9_howManyDrawn_19 : decode cX9_howManyDrawn 19 = .ok (.iload_n 3, 1) := by decide +kernel
theorem dX9_howManyDrawn_20 : decode cX9_howManyDrawn 20 = .ok (.iaload, 1) := by decide +kernel
theorem dX9_howManyDrawn_21 : decode cX9_howManyDrawn 21 = .ok (.iload_n 1, 1) := by decide +kernel
theorem dX9_howManyDrawn_22 : decode cX9_howManyDrawn 22 = .ok (.if_icmp .ne 6, 3) := by decide +kernel
theorem dX9_howManyDrawn_25 : decode cX9_howManyDrawn 25 = .ok (.iinc 2 1, 3) := by decide +kernel
theorem dX9_howManyDrawn_28 : decode cX9_howManyDrawn 28 = .ok (.iinc 3 1, 3) := by decide +kernel
theorem dX9_howManyDrawn_31 : decode cX9_howManyDrawn 31 = .ok (.goto (-27), 3) := by decide +kernel
theorem dX9_howManyDrawn_34 : decode cX9_howManyDrawn 34 = .ok (.iload_n 2, 1) := by decide +kernel
theorem dX9_howManyDrawn_35 : decode cX9_howManyDrawn 35 = .ok (.ireturn, 1) := by decide +kernel
theorem dX10_init_0 : decode cX10_init 0 = .ok (.aload_n 0, 1) := by decide +kernel
theorem dX10_init_1 : decode cX10_init 1 = .ok (.invokespecial 3, 3) := by decide +kernel
theorem dX10_init_4 : decode cX10_init 4 = .ok (.aload_n 0, 1) := by decide +kernel
theorem dX10_init_5 : decode cX10_init 5 = .ok (.sipush 160, 3) := by decide +kernel
theorem dX10_init_8 : decode cX10_init 8 = .ok (.newarray .int, 2) := by decide +kernel
theorem dX10_init_10 : decode cX10_init 10 = .ok (.putfield 9, 3) := by decide +kernel
theorem dX10_init_13 : decode cX10_init 13 = .ok (.aload_n 0, 1) := by decide +kernel
theorem dX10_init_14 : decode cX10_init 14 = .ok (.iconst 0, 1) := by decide +kernel
theorem dX10_init_15 : decode cX10_init 15 = .ok (.putfield 15, 3) := by decide +kernel
theorem dX10_init_18 : decode cX10_init 18 = .ok (.aload_n 0, 1) := by decide +kernel
theorem dX10_init_19 : decode cX10_init 19 = .ok (.iconst 0, 1) := by decide +kernel
theorem dX10_init_20 : decode cX10_init 20 = .ok (.putfield 19, 3) := by decide +kernel
theorem dX10_init_23 : decode cX10_init 23 = .ok (.aload_n 0, 1) := by decide +kernel
theorem dX10_init_24 : decode cX10_init 24 = .ok (.iconst 0, 1) := by decide +kernel
theorem dX10_init_25 : decode cX10_init 25 = .ok (.newarray .int, 2) := by decide +kernel
theorem dX10_init_27 : decode cX10_init 27 = .ok (.putfield 22, 3) := by decide +kernel
theorem dX10_init_30 : decode cX10_init 30 = .ok (.aload_n 0, 1) := by decide +kernel
theorem dX10_init_31 : decode cX10_init 31 = .ok (.iconst 0, 1) := by decide +kernel
theorem dX10_init_32 : decode cX10_init 32 = .ok (.putfield 25, 3) := by decide +kernel
theorem dX10_init_35 : decode cX10_init 35 = .ok (.return_, 1) := by decide +kernel
theorem dX10_take_0 : decode cX10_take 0 = .ok (.bipush 24, 2) := by decide +kernel
theorem dX10_take_2 : decode cX10_take 2 = .ok (.istore_n 2, 1) := by decide +kernel
theorem dX10_take_3 : decode cX10_take 3 = .ok (.iload_n 2, 1) := by decide +kernel
theorem dX10_take_4 : decode cX10_take 4 = .ok (.ifCond .lt 45, 3) := by decide +kernel
theorem dX10_take_7 : decode cX10_take 7 = .ok (.aload_n 0, 1) := by decide +kernel
theorem dX10_take_8 : decode cX10_take 8 = .ok (.getfield 15, 3) := by decide +kernel
theorem dX10_take_11 : decode cX10_take 11 = .ok (.sipush 160, 3) := by decide +kernel
theorem dX10_take_14 : decode cX10_take 14 = .ok (.if_icmp .ge 35, 3) := by decide +kernel
theorem dX10_take_17 : decode cX10_take 17 = .ok (.aload_n 0, 1) := by decide +kernel
theorem dX10_take_18 : decode cX10_take 18 = .ok (.getfield 9, 3) := by decide +kernel
theorem dX10_take_21 : decode cX10_take 21 = .ok (.aload_n 0, 1) := by decide +kernel
theorem dX10_take_22 : decode cX10_take 22 = .ok (.getfield 15, 3) := by decide +kernel
theorem dX10_take_25 : decode cX10_take 25 = .ok (.iload_n 1, 1) := by decide +kernel
theorem dX10_take_26 : decode cX10_take 26 = .ok (.iload_n 2, 1) := by decide +kernel
theorem dX10_take_27 : decode cX10_take 27 = .ok (.iushr, 1) := by decide +kernel
theorem dX10_take_28 : decode cX10_take 28 = .ok (.sipush 255, 3) := by decide +kernel
theorem dX10_take_31 : decode cX10_take 31 = .ok (.iand, 1) := by decide +kernel
theorem dX10_take_32 : decode cX10_take 32 = .ok (.iastore, 1) := by decide +kernel
theorem dX10_take_33 : decode cX10_take 33 = .ok (.aload_n 0, 1) := by decide +kernel
theorem dX10_take_34 : decode cX10_take 34 = .ok (.dup, 1) := by decide +kernel
theorem dX10_take_35 : decode cX10_take 35 = .ok (.getfield 15, 3) := by decide +kernel
theorem dX10_take_38 : decode cX10_take 38 = .ok (.iconst 1, 1) := by decide +kernel
theorem dX10_take_39 : decode cX10_take 39 = .ok (.iadd, 1) := by decide +kernel
theorem dX10_take_40 : decode cX10_take 40 = .ok (.putfield 15, 3) := by decide +kernel
theorem dX10_take_43 : decode cX10_take 43 = .ok (.iinc 2 (-8), 3) := by decide +kernel
theorem dX10_take_46 : decode cX10_take 46 = .ok (.goto (-43), 3) := by decide +kernel
theorem dX10_take_49 : decode cX10_take 49 = .ok (.return_, 1) := by decide +kernel
theorem dX10_read_0 : decode cX10_read 0 = .ok (.aload_n 0, 1) := by decide +kernel
theorem dX10_read_1 : decode cX10_read 1 = .ok (.aload_n 1, 1) := by decide +kernel
theorem dX10_read_2 : decode cX10_read 2 = .ok (.putfield 22, 3) := by decide +kernel
theorem dX10_read_5 : decode cX10_read 5 = .ok (.aload_n 0, 1) := by decide +kernel
theorem dX10_read_6 : decode cX10_read 6 = .ok (.iconst 0, 1) := by decide +kernel
theorem dX10_read_7 : decode cX10_read 7 = .ok (.putfield 25, 3) := by decide +kernel
theorem dX10_read_10 : decode cX10_read 10 = .ok (.aload_n 0, 1) := by decide +kernel
theorem dX10_read_11 : decode cX10_read 11 = .ok (.iconst 0, 1) := by decide +kernel
theorem dX10_read_12 : decode cX10_read 12 = .ok (.putfield 19, 3) := by decide +kernel
theorem dX10_read_15 : decode cX10_read 15 = .ok (.iconst 0, 1) := by decide +kernel
theorem dX10_read_16 : decode cX10_read 16 = .ok (.istore_n 2, 1) := by decide +kernel
theorem dX10_read_17 : decode cX10_read 17 = .ok (.iload_n 2, 1) := by decide +kernel
theorem dX10_read_18 : decode cX10_read 18 = .ok (.aload_n 0, 1) := by decide +kernel
theorem dX10_read_19 : decode cX10_read 19 = .ok (.getfield 15, 3) := by decide +kernel
theorem dX10_read_22 : decode cX10_read 22 = .ok (.if_icmp .gt 43, 3) := by decide +kernel
theorem dX10_read_25 : decode cX10_read 25 = .ok (.aload_n 0, 1) := by decide +kernel
theorem dX10_read_26 : decode cX10_read 26 = .ok (.invokevirtual 28, 3) := by decide +kernel
theorem dX10_read_29 : decode cX10_read 29 = .ok (.ifCond .eq 36, 3) := by decide +kernel
theorem dX10_read_32 : decode cX10_read 32 = .ok (.aload_n 0, 1) := by decide +kernel
theorem dX10_read_33 : decode cX10_read 33 = .ok (.getfield 19, 3) := by decide +kernel
theorem dX10_read_36 : decode cX10_read 36 = .ok (.aload_n 0, 1) := by decide +kernel
theorem dX10_read_37 : decode cX10_read 37 = .ok (.getfield 15, 3) := by decide +kernel
theorem dX10_read_40 : decode cX10_read 40 = .ok (.if_icmp .lt 5, 3) := by decide +kernel
theorem dX10_read_43 : decode cX10_read 43 = .ok (.iconst (-1), 1) := by decide +kernel
theorem dX10_read_44 : decode cX10_read 44 = .ok (.ireturn, 1) := by decide +kernel
theorem dX10_read_45 : decode cX10_read 45 = .ok (.aload_n 0, 1) := by decide +kernel
theorem dX10_read_46 : decode cX10_read 46 = .ok (.bipush 59, 2) := by decide +kernel
theorem dX10_read_48 : decode cX10_read 48 = .ok (.invokevirtual 32, 3) := by decide +kernel
theorem dX10_read_51 : decode cX10_read 51 = .ok (.ifCond .ne 8, 3) := by decide +kernel
theorem dX10_read_54 : decode cX10_read 54 = .ok (.aload_n 0, 1) := by decide +kernel
theorem dX10_read_55 : decode cX10_read 55 = .ok (.getfield 19, 3) := by decide +kernel
theorem dX10_read_58 : decode cX10_read 58 = .ok (.ireturn, 1) := by decide +kernel
theorem dX10_read_59 : decode cX10_read 59 = .ok (.iinc 2 1, 3) := by decide +kernel
theorem dX10_read_62 : decode cX10_read 62 = .ok (.goto (-45), 3) := by decide +kernel
theorem dX10_read_65 : decode cX10_read 65 = .ok (.aload_n 0, 1) := by decide +kernel
theorem dX10_read_66 : decode cX10_read 66 = .ok (.getfield 19, 3) := by decide +kernel
theorem dX10_read_69 : decode cX10_read 69 = .ok (.ireturn, 1) := by decide +kernel
theorem dX10_next_0 : decode cX10_next 0 = .ok (.aload_n 0, 1) := by decide +kernel
theorem dX10_next_1 : decode cX10_next 1 = .ok (.getfield 19, 3) := by decide +kernel
theorem dX10_next_4 : decode cX10_next 4 = .ok (.aload_n 0, 1) := by decide +kernel
theorem dX10_next_5 : decode cX10_next 5 = .ok (.getfield 15, 3) := by decide +kernel
theorem dX10_next_8 : decode cX10_next 8 = .ok (.if_icmp .ge 15, 3) := by decide +kernel
theorem dX10_next_11 : decode cX10_next 11 = .ok (.aload_n 0, 1) := by decide +kernel
theorem dX10_next_12 : decode cX10_next 12 = .ok (.getfield 9, 3) := by decide +kernel
theorem dX10_next_15 : decode cX10_next 15 = .ok (.aload_n 0, 1) := by decide +kernel
theorem dX10_next_16 : decode cX10_next 16 = .ok (.getfield 19, 3) := by decide +kernel
theorem dX10_next_19 : decode cX10_next 19 = .ok (.iaload, 1) := by decide +kernel
theorem dX10_next_20 : decode cX10_next 20 = .ok (.goto 4, 3) := by decide +kernel
theorem dX10_next_23 : decode cX10_next 23 = .ok (.iconst (-1), 1) := by decide +kernel
theorem dX10_next_24 : decode cX10_next 24 = .ok (.ireturn, 1) := by decide +kernel
theorem dX10_goesOn_0 : decode cX10_goesOn 0 = .ok (.aload_n 0, 1) := by decide +kernel
theorem dX10_goesOn_1 : decode cX10_goesOn 1 = .ok (.invokevirtual 36, 3) := by decide +kernel
theorem dX10_goesOn_4 : decode cX10_goesOn 4 = .ok (.iload_n 1, 1) := by decide +kernel
theorem dX10_goesOn_5 : decode cX10_goesOn 5 = .ok (.if_icmp .eq 5, 3) := by decide +kernel
theorem dX10_goesOn_8 : decode cX10_goesOn 8 = .ok (.iconst 0, 1) := by decide +kernel
theorem dX10_goesOn_9 : decode cX10_goesOn 9 = .ok (.ireturn, 1) := by decide +kernel
theorem dX10_goesOn_10 : decode cX10_goesOn 10 = .ok (.aload_n 0, 1) := by decide +kernel
theorem dX10_goesOn_11 : decode cX10_goesOn 11 = .ok (.dup, 1) := by decide +kernel
theorem dX10_goesOn_12 : decode cX10_goesOn 12 = .ok (.getfield 19, 3) := by decide +kernel
theorem dX10_goesOn_15 : decode cX10_goesOn 15 = .ok (.iconst 1, 1) := by decide +kernel
theorem dX10_goesOn_16 : decode cX10_goesOn 16 = .ok (.iadd, 1) := by decide +kernel
theorem dX10_goesOn_17 : decode cX10_goesOn 17 = .ok (.putfield 19, 3) := by decide +kernel
theorem dX10_goesOn_20 : decode cX10_goesOn 20 = .ok (.iconst 1, 1) := by decide +kernel
theorem dX10_goesOn_21 : decode cX10_goesOn 21 = .ok (.ireturn, 1) := by decide +kernel
theorem dX10_write_0 : decode cX10_write 0 = .ok (.aload_n 0, 1) := by decide +kernel
theorem dX10_write_1 : decode cX10_write 1 = .ok (.getfield 25, 3) := by decide +kernel
theorem dX10_write_4 : decode cX10_write 4 = .ok (.aload_n 0, 1) := by decide +kernel
theorem dX10_write_5 : decode cX10_write 5 = .ok (.getfield 22, 3) := by decide +kernel
theorem dX10_write_8 : decode cX10_write 8 = .ok (.arraylength, 1) := by decide +kernel
theorem dX10_write_9 : decode cX10_write 9 = .ok (.if_icmp .ge 23, 3) := by decide +kernel
theorem dX10_write_12 : decode cX10_write 12 = .ok (.aload_n 0, 1) := by decide +kernel
theorem dX10_write_13 : decode cX10_write 13 = .ok (.getfield 22, 3) := by decide +kernel
theorem dX10_write_16 : decode cX10_write 16 = .ok (.aload_n 0, 1) := by decide +kernel
theorem dX10_write_17 : decode cX10_write 17 = .ok (.getfield 25, 3) := by decide +kernel
theorem dX10_write_20 : decode cX10_write 20 = .ok (.iload_n 1, 1) := by decide +kernel
theorem dX10_write_21 : decode cX10_write 21 = .ok (.iastore, 1) := by decide +kernel
theorem dX10_write_22 : decode cX10_write 22 = .ok (.aload_n 0, 1) := by decide +kernel
theorem dX10_write_23 : decode cX10_write 23 = .ok (.dup, 1) := by decide +kernel
theorem dX10_write_24 : decode cX10_write 24 = .ok (.getfield 25, 3) := by decide +kernel
theorem dX10_write_27 : decode cX10_write 27 = .ok (.iconst 1, 1) := by decide +kernel
theorem dX10_write_28 : decode cX10_write 28 = .ok (.iadd, 1) := by decide +kernel
theorem dX10_write_29 : decode cX10_write 29 = .ok (.putfield 25, 3) := by decide +kernel
theorem dX10_write_32 : decode cX10_write 32 = .ok (.return_, 1) := by decide +kernel
theorem dX10_readClause_0 : decode cX10_readClause 0 = .ok (.aload_n 0, 1) := by decide +kernel
theorem dX10_readClause_1 : decode cX10_readClause 1 = .ok (.iconst 0, 1) := by decide +kernel
theorem dX10_readClause_2 : decode cX10_readClause 2 = .ok (.iconst 0, 1) := by decide +kernel
theorem dX10_readClause_3 : decode cX10_readClause 3 = .ok (.invokevirtual 40, 3) := by decide +kernel
theorem dX10_readClause_6 : decode cX10_readClause 6 = .ok (.ifCond .ne 5, 3) := by decide +kernel
theorem dX10_readClause_9 : decode cX10_readClause 9 = .ok (.iconst 0, 1) := by decide +kernel
theorem dX10_readClause_10 : decode cX10_readClause 10 = .ok (.ireturn, 1) := by decide +kernel
theorem dX10_readClause_11 : decode cX10_readClause 11 = .ok (.aload_n 0, 1) := by decide +kernel
theorem dX10_readClause_12 : decode cX10_readClause 12 = .ok (.bipush 44, 2) := by decide +kernel
theorem dX10_readClause_14 : decode cX10_readClause 14 = .ok (.invokevirtual 32, 3) := by decide +kernel
theorem dX10_readClause_17 : decode cX10_readClause 17 = .ok (.ifCond .eq 20, 3) := by decide +kernel
theorem dX10_readClause_20 : decode cX10_readClause 20 = .ok (.aload_n 0, 1) := by decide +kernel
theorem dX10_readClause_21 : decode cX10_readClause 21 = .ok (.bipush (-44), 2) := by decide +kernel
theorem dX10_readClause_23 : decode cX10_readClause 23 = .ok (.invokevirtual 44, 3) := by decide +kernel
theorem dX10_readClause_26 : decode cX10_readClause 26 = .ok (.aload_n 0, 1) := by decide +kernel
theorem dX10_readClause_27 : decode cX10_readClause 27 = .ok (.iconst 0, 1) := by decide +kernel
theorem dX10_readClause_28 : decode cX10_readClause 28 = .ok (.iconst 0, 1) := by decide +kernel
theorem dX10_readClause_29 : decode cX10_readClause 29 = .ok (.invokevirtual 40, 3) := by decide +kernel
theorem dX10_readClause_32 : decode cX10_readClause 32 = .ok (.ifCond .ne 5, 3) := by decide +kernel
theorem dX10_readClause_35 : decode cX10_readClause 35 = .ok (.iconst 0, 1) := by decide +kernel
theorem dX10_readClause_36 : decode cX10_readClause 36 = .ok (.ireturn, 1) := by decide +kernel
theorem dX10_readClause_37 : decode cX10_readClause 37 = .ok (.aload_n 0, 1) := by decide +kernel
theorem dX10_readClause_38 : decode cX10_readClause 38 = .ok (.bipush (-59), 2) := by decide +kernel
theorem dX10_readClause_40 : decode cX10_readClause 40 = .ok (.invokevirtual 44, 3) := by decide +kernel
theorem dX10_readClause_43 : decode cX10_readClause 43 = .ok (.iconst 1, 1) := by decide +kernel
theorem dX10_readClause_44 : decode cX10_readClause 44 = .ok (.ireturn, 1) := by decide +kernel
theorem dX10_tightness_0 : decode cX10_tightness 0 = .ok (.iload_n 0, 1) := by decide +kernel
theorem dX10_tightness_1 : decode cX10_tightness 1 = .ok (.lookupswitch 93 #[(38, 85), (42, 91), (43, 89), (45, 89), (47, 91), (60, 87), (61, 87), (62, 87), (124, 83)], 83) := by decide +kernel
theorem dX10_tightness_84 : decode cX10_tightness 84 = .ok (.iconst 0, 1) := by decide +kernel
theorem dX10_tightness_85 : decode cX10_tightness 85 = .ok (.ireturn, 1) := by decide +kernel
theorem dX10_tightness_86 : decode cX10_tightness 86 = .ok (.iconst 1, 1) := by decide +kernel
theorem dX10_tightness_87 : decode cX10_tightness 87 = .ok (.ireturn, 1) := by decide +kernel
theorem dX10_tightness_88 : decode cX10_tightness 88 = .ok (.iconst 2, 1) := by decide +kernel
theorem dX10_tightness_89 : decode cX10_tightness 89 = .ok (.ireturn, 1) := by decide +kernel
theorem dX10_tightness_90 : decode cX10_tightness 90 = .ok (.iconst 3, 1) := by decide +kernel
theorem dX10_tightness_91 : decode cX10_tightness 91 = .ok (.ireturn, 1) := by decide +kernel
theorem dX10_tightness_92 : decode cX10_tightness 92 = .ok (.iconst 4, 1) := by decide +kernel
theorem dX10_tightness_93 : decode cX10_tightness 93 = .ok (.ireturn, 1) := by decide +kernel
theorem dX10_tightness_94 : decode cX10_tightness 94 = .ok (.bipush 6, 2) := by decide +kernel
theorem dX10_tightness_96 : decode cX10_tightness 96 = .ok (.ireturn, 1) := by decide +kernel
theorem dX10_readJoined_0 : decode cX10_readJoined 0 = .ok (.iload_n 1, 1) := by decide +kernel
theorem dX10_readJoined_1 : decode cX10_readJoined 1 = .ok (.iconst 5, 1) := by decide +kernel
theorem dX10_readJoined_2 : decode cX10_readJoined 2 = .ok (.if_icmp .lt 9, 3) := by decide +kernel
theorem dX10_readJoined_5 : decode cX10_readJoined 5 = .ok (.aload_n 0, 1) := by decide +kernel
theorem dX10_readJoined_6 : decode cX10_readJoined 6 = .ok (.iload_n 2, 1) := by decide +kernel
theorem dX10_readJoined_7 : decode cX10_readJoined 7 = .ok (.invokevirtual 48, 3) := by decide +kernel
theorem dX10_readJoined_10 : decode cX10_readJoined 10 = .ok (.ireturn, 1) := by decide +kernel
theorem dX10_readJoined_11 : decode cX10_readJoined 11 = .ok (.aload_n 0, 1) := by decide +kernel
theorem dX10_readJoined_12 : decode cX10_readJoined 12 = .ok (.iload_n 1, 1) := by decide +kernel
theorem dX10_readJoined_13 : decode cX10_readJoined 13 = .ok (.iconst 1, 1) := by decide +kernel
theorem dX10_readJoined_14 : decode cX10_readJoined 14 = .ok (.iadd, 1) := by decide +kernel
theorem dX10_readJoined_15 : decode cX10_readJoined 15 = .ok (.iload_n 2, 1) := by decide +kernel
theorem dX10_readJoined_16 : decode cX10_readJoined 16 = .ok (.invokevirtual 40, 3) := by decide +kernel
theorem dX10_readJoined_19 : decode cX10_readJoined 19 = .ok (.ifCond .ne 5, 3) := by decide +kernel
theorem dX10_readJoined_22 : decode cX10_readJoined 22 = .ok (.iconst 0, 1) := by decide +kernel
theorem dX10_readJoined_23 : decode cX10_readJoined 23 = .ok (.ireturn, 1) := by decide +kernel
theorem dX10_readJoined_24 : decode cX10_readJoined 24 = .ok (.iconst 0, 1) := by decide +kernel
theorem dX10_readJoined_25 : decode cX10_readJoined 25 = .ok (.istore_n 3, 1) := by decide +kernel
theorem dX10_readJoined_26 : decode cX10_readJoined 26 = .ok (.iload_n 3, 1) := by decide +kernel
theorem dX10_readJoined_27 : decode cX10_readJoined 27 = .ok (.aload_n 0, 1) := by decide +kernel
theorem dX10_readJoined_28 : decode cX10_readJoined 28 = .ok (.getfield 15, 3) := by decide +kernel
theorem dX10_readJoined_31 : decode cX10_readJoined 31 = .ok (.if_icmp .ge 63, 3) := by decide +kernel
theorem dX10_readJoined_34 : decode cX10_readJoined 34 = .ok (.aload_n 0, 1) := by decide +kernel
theorem dX10_readJoined_35 : decode cX10_readJoined 35 = .ok (.invokevirtual 36, 3) := by decide +kernel
theorem dX10_readJoined_38 : decode cX10_readJoined 38 = .ok (.invokestatic 51, 3) := by decide +kernel
theorem dX10_readJoined_41 : decode cX10_readJoined 41 = .ok (.iload_n 1, 1) := by decide +kernel
theorem dX10_readJoined_42 : decode cX10_readJoined 42 = .ok (.if_icmp .ne 52, 3) := by decide +kernel
theorem dX10_readJoined_45 : decode cX10_readJoined 45 = .ok (.aload_n 0, 1) := by decide +kernel
theorem dX10_readJoined_46 : decode cX10_readJoined 46 = .ok (.invokevirtual 36, 3) := by decide +kernel
theorem dX10_readJoined_49 : decode cX10_readJoined 49 = .ok (.istore 4, 2) := by decide +kernel
theorem dX10_readJoined_51 : decode cX10_readJoined 51 = .ok (.aload_n 0, 1) := by decide +kernel
theorem dX10_readJoined_52 : decode cX10_readJoined 52 = .ok (.dup, 1) := by decide +kernel
theorem dX10_readJoined_53 : decode cX10_readJoined 53 = .ok (.getfield 19, 3) := by decide +kernel
theorem dX10_readJoined_56 : decode cX10_readJoined 56 = .ok (.iconst 1, 1) := by decide +kernel
theorem dX10_readJoined_57 : decode cX10_readJoined 57 = .ok (.iadd, 1) := by decide +kernel
theorem dX10_readJoined_58 : decode cX10_readJoined 58 = .ok (.putfield 19, 3) := by decide +kernel
theorem dX10_readJoined_61 : decode cX10_readJoined 61 = .ok (.aload_n 0, 1) := by decide +kernel
theorem dX10_readJoined_62 : decode cX10_readJoined 62 = .ok (.iload_n 1, 1) := by decide +kernel
theorem dX10_readJoined_63 : decode cX10_readJoined 63 = .ok (.iconst 1, 1) := by decide +kernel
theorem dX10_readJoined_64 : decode cX10_readJoined 64 = .ok (.iadd, 1) := by decide +kernel
theorem dX10_readJoined_65 : decode cX10_readJoined 65 = .ok (.iload_n 2, 1) := by decide +kernel
theorem dX10_readJoined_66 : decode cX10_readJoined 66 = .ok (.invokevirtual 40, 3) := by decide +kernel
theorem dX10_readJoined_69 : decode cX10_readJoined 69 = .ok (.ifCond .ne 5, 3) := by decide +kernel
theorem dX10_readJoined_72 : decode cX10_readJoined 72 = .ok (.iconst 0, 1) := by decide +kernel
theorem dX10_readJoined_73 : decode cX10_readJoined 73 = .ok (.ireturn, 1) := by decide +kernel
theorem dX10_readJoined_74 : decode cX10_readJoined 74 = .ok (.aload_n 0, 1) := by decide +kernel
theorem dX10_readJoined_75 : decode cX10_readJoined 75 = .ok (.iload 4, 2) := by decide +kernel
theorem dX10_readJoined_77 : decode cX10_readJoined 77 = .ok (.ineg, 1) := by decide +kernel
theorem dX10_readJoined_78 : decode cX10_readJoined 78 = .ok (.invokevirtual 44, 3) := by decide +kernel
theorem dX10_readJoined_81 : decode cX10_readJoined 81 = .ok (.iload_n 1, 1) := by decide +kernel
theorem dX10_readJoined_82 : decode cX10_readJoined 82 = .ok (.iconst 2, 1) := by decide +kernel
theorem dX10_readJoined_83 : decode cX10_readJoined 83 = .ok (.if_icmp .ne 5, 3) := by decide +kernel
theorem dX10_readJoined_86 : decode cX10_readJoined 86 = .ok (.iconst 1, 1) := by decide +kernel
theorem dX10_readJoined_87 : decode cX10_readJoined 87 = .ok (.ireturn, 1) := by decide +kernel
theorem dX10_readJoined_88 : decode cX10_readJoined 88 = .ok (.iinc 3 1, 3) := by decide +kernel
theorem dX10_readJoined_91 : decode cX10_readJoined 91 = .ok (.goto (-65), 3) := by decide +kernel
theorem dX10_readJoined_94 : decode cX10_readJoined 94 = .ok (.iconst 1, 1) := by decide +kernel
theorem dX10_readJoined_95 : decode cX10_readJoined 95 = .ok (.ireturn, 1) := by decide +kernel
theorem dX10_readOperand_0 : decode cX10_readOperand 0 = .ok (.aload_n 0, 1) := by decide +kernel
theorem dX10_readOperand_1 : decode cX10_readOperand 1 = .ok (.invokevirtual 36, 3) := by decide +kernel
theorem dX10_readOperand_4 : decode cX10_readOperand 4 = .ok (.istore_n 2, 1) := by decide +kernel
theorem dX10_readOperand_5 : decode cX10_readOperand 5 = .ok (.bipush 48, 2) := by decide +kernel
theorem dX10_readOperand_7 : decode cX10_readOperand 7 = .ok (.iload_n 2, 1) := by decide +kernel
theorem dX10_readOperand_8 : decode cX10_readOperand 8 = .ok (.bipush 57, 2) := by decide +kernel
theorem dX10_readOperand_10 : decode cX10_readOperand 10 = .ok (.invokestatic 55, 3) := by decide +kernel
theorem dX10_readOperand_13 : decode cX10_readOperand 13 = .ok (.ifCond .eq 9, 3) := by decide +kernel
theorem dX10_readOperand_16 : decode cX10_readOperand 16 = .ok (.aload_n 0, 1) := by decide +kernel
theorem dX10_readOperand_17 : decode cX10_readOperand 17 = .ok (.invokevirtual 59, 3) := by decide +kernel
theorem dX10_readOperand_20 : decode cX10_readOperand 20 = .ok (.iconst 1, 1) := by decide +kernel
theorem dX10_readOperand_21 : decode cX10_readOperand 21 = .ok (.ireturn, 1) := by decide +kernel
theorem dX10_readOperand_22 : decode cX10_readOperand 22 = .ok (.iload_n 2, 1) := by decide +kernel
theorem dX10_readOperand_23 : decode cX10_readOperand 23 = .ok (.invokestatic 62, 3) := by decide +kernel
theorem dX10_readOperand_26 : decode cX10_readOperand 26 = .ok (.ifCond .eq 21, 3) := by decide +kernel
theorem dX10_readOperand_29 : decode cX10_readOperand 29 = .ok (.aload_n 0, 1) := by decide +kernel
theorem dX10_readOperand_30 : decode cX10_readOperand 30 = .ok (.iload_n 2, 1) := by decide +kernel
theorem dX10_readOperand_31 : decode cX10_readOperand 31 = .ok (.ineg, 1) := by decide +kernel
theorem dX10_readOperand_32 : decode cX10_readOperand 32 = .ok (.invokevirtual 44, 3) := by decide +kernel
theorem dX10_readOperand_35 : decode cX10_readOperand 35 = .ok (.aload_n 0, 1) := by decide +kernel
theorem dX10_readOperand_36 : decode cX10_readOperand 36 = .ok (.dup, 1) := by decide +kernel
theorem dX10_readOperand_37 : decode cX10_readOperand 37 = .ok (.getfield 19, 3) := by decide +kernel
theorem dX10_readOperand_40 : decode cX10_readOperand 40 = .ok (.iconst 1, 1) := by decide +kernel
theorem dX10_readOperand_41 : decode cX10_readOperand 41 = .ok (.iadd, 1) := by decide +kernel
theorem dX10_readOperand_42 : decode cX10_readOperand 42 = .ok (.putfield 19, 3) := by decide +kernel
theorem dX10_readOperand_45 : decode cX10_readOperand 45 = .ok (.iconst 1, 1) := by decide +kernel
theorem dX10_readOperand_46 : decode cX10_readOperand 46 = .ok (.ireturn, 1) := by decide +kernel
theorem dX10_readOperand_47 : decode cX10_readOperand 47 = .ok (.iload_n 2, 1) := by decide +kernel
theorem dX10_readOperand_48 : decode cX10_readOperand 48 = .ok (.bipush 33, 2) := by decide +kernel
theorem dX10_readOperand_50 : decode cX10_readOperand 50 = .ok (.if_icmp .eq 9, 3) := by decide +kernel
theorem dX10_readOperand_53 : decode cX10_readOperand 53 = .ok (.iload_n 2, 1) := by decide +kernel
theorem dX10_readOperand_54 : decode cX10_readOperand 54 = .ok (.bipush 40, 2) := by decide +kernel
theorem dX10_readOperand_56 : decode cX10_readOperand 56 = .ok (.if_icmp .ne 9, 3) := by decide +kernel
theorem dX10_readOperand_59 : decode cX10_readOperand 59 = .ok (.iload_n 1, 1) := by decide +kernel
theorem dX10_readOperand_60 : decode cX10_readOperand 60 = .ok (.bipush 9, 2) := by decide +kernel
theorem dX10_readOperand_62 : decode cX10_readOperand 62 = .ok (.if_icmp .lt 5, 3) := by decide +kernel
theorem dX10_readOperand_65 : decode cX10_readOperand 65 = .ok (.iconst 0, 1) := by decide +kernel
theorem dX10_readOperand_66 : decode cX10_readOperand 66 = .ok (.ireturn, 1) := by decide +kernel
theorem dX10_readOperand_67 : decode cX10_readOperand 67 = .ok (.aload_n 0, 1) := by decide +kernel
theorem dX10_readOperand_68 : decode cX10_readOperand 68 = .ok (.dup, 1) := by decide +kernel
theorem dX10_readOperand_69 : decode cX10_readOperand 69 = .ok (.getfield 19, 3) := by decide +kernel
theorem dX10_readOperand_72 : decode cX10_readOperand 72 = .ok (.iconst 1, 1) := by decide +kernel
theorem dX10_readOperand_73 : decode cX10_readOperand 73 = .ok (.iadd, 1) := by decide +kernel
theorem dX10_readOperand_74 : decode cX10_readOperand 74 = .ok (.putfield 19, 3) := by decide +kernel
theorem dX10_readOperand_77 : decode cX10_readOperand 77 = .ok (.iload_n 2, 1) := by decide +kernel
theorem dX10_readOperand_78 : decode cX10_readOperand 78 = .ok (.bipush 40, 2) := by decide +kernel
theorem dX10_readOperand_80 : decode cX10_readOperand 80 = .ok (.if_icmp .ne 29, 3) := by decide +kernel
theorem dX10_readOperand_83 : decode cX10_readOperand 83 = .ok (.aload_n 0, 1) := by decide +kernel
theorem dX10_readOperand_84 : decode cX10_readOperand 84 = .ok (.iconst 0, 1) := by decide +kernel
theorem dX10_readOperand_85 : decode cX10_readOperand 85 = .ok (.iload_n 1, 1) := by decide +kernel
theorem dX10_readOperand_86 : decode cX10_readOperand 86 = .ok (.iconst 1, 1) := by decide +kernel
theorem dX10_readOperand_87 : decode cX10_readOperand 87 = .ok (.iadd, 1) := by decide +kernel
theorem dX10_readOperand_88 : decode cX10_readOperand 88 = .ok (.invokevirtual 40, 3) := by decide +kernel
theorem dX10_readOperand_91 : decode cX10_readOperand 91 = .ok (.ifCond .eq 16, 3) := by decide +kernel
theorem dX10_readOperand_94 : decode cX10_readOperand 94 = .ok (.aload_n 0, 1) := by decide +kernel
theorem dX10_readOperand_95 : decode cX10_readOperand 95 = .ok (.bipush 41, 2) := by decide +kernel
theorem dX10_readOperand_97 : decode cX10_readOperand 97 = .ok (.invokevirtual 32, 3) := by decide +kernel
theorem dX10_readOperand_100 : decode cX10_readOperand 100 = .ok (.ifCond .eq 7, 3) := by decide +kernel
theorem dX10_readOperand_103 : decode cX10_readOperand 103 = .ok (.iconst 1, 1) := by decide +kernel
theorem dX10_readOperand_104 : decode cX10_readOperand 104 = .ok (.goto 4, 3) := by decide +kernel
theorem dX10_readOperand_107 : decode cX10_readOperand 107 = .ok (.iconst 0, 1) := by decide +kernel
theorem dX10_readOperand_108 : decode cX10_readOperand 108 = .ok (.ireturn, 1) := by decide +kernel
theorem dX10_readOperand_109 : decode cX10_readOperand 109 = .ok (.aload_n 0, 1) := by decide +kernel
theorem dX10_readOperand_110 : decode cX10_readOperand 110 = .ok (.iload_n 1, 1) := by decide +kernel
theorem dX10_readOperand_111 : decode cX10_readOperand 111 = .ok (.iconst 1, 1) := by decide +kernel
theorem dX10_readOperand_112 : decode cX10_readOperand 112 = .ok (.iadd, 1) := by decide +kernel
theorem dX10_readOperand_113 : decode cX10_readOperand 113 = .ok (.invokevirtual 48, 3) := by decide +kernel
theorem dX10_readOperand_116 : decode cX10_readOperand 116 = .ok (.ifCond .ne 5, 3) := by decide +kernel
theorem dX10_readOperand_119 : decode cX10_readOperand 119 = .ok (.iconst 0, 1) := by decide +kernel
theorem dX10_readOperand_120 : decode cX10_readOperand 120 = .ok (.ireturn, 1) := by decide +kernel
theorem dX10_readOperand_121 : decode cX10_readOperand 121 = .ok (.aload_n 0, 1) := by decide +kernel
theorem dX10_readOperand_122 : decode cX10_readOperand 122 = .ok (.iload_n 2, 1) := by decide +kernel
theorem dX10_readOperand_123 : decode cX10_readOperand 123 = .ok (.ineg, 1) := by decide +kernel
theorem dX10_readOperand_124 : decode cX10_readOperand 124 = .ok (.invokevirtual 44, 3) := by decide +kernel
theorem dX10_readOperand_127 : decode cX10_readOperand 127 = .ok (.iconst 1, 1) := by decide +kernel
theorem dX10_readOperand_128 : decode cX10_readOperand 128 = .ok (.ireturn, 1) := by decide +kernel
theorem dX10_readNumber_0 : decode cX10_readNumber 0 = .ok (.iconst 0, 1) := by decide +kernel
theorem dX10_readNumber_1 : decode cX10_readNumber 1 = .ok (.istore_n 1, 1) := by decide +kernel
theorem dX10_readNumber_2 : decode cX10_readNumber 2 = .ok (.iconst 0, 1) := by decide +kernel
theorem dX10_readNumber_3 : decode cX10_readNumber 3 = .ok (.istore_n 2, 1) := by decide +kernel
theorem dX10_readNumber_4 : decode cX10_readNumber 4 = .ok (.iload_n 2, 1) := by decide +kernel
theorem dX10_readNumber_5 : decode cX10_readNumber 5 = .ok (.iconst 4, 1) := by decide +kernel
theorem dX10_readNumber_6 : decode cX10_readNumber 6 = .ok (.if_icmp .ge 46, 3) := by decide +kernel
theorem dX10_readNumber_9 : decode cX10_readNumber 9 = .ok (.bipush 48, 2) := by decide +kernel
theorem dX10_readNumber_11 : decode cX10_readNumber 11 = .ok (.aload_n 0, 1) := by decide +kernel
theorem dX10_readNumber_12 : decode cX10_readNumber 12 = .ok (.invokevirtual 36, 3) := by decide +kernel
theorem dX10_readNumber_15 : decode cX10_readNumber 15 = .ok (.bipush 57, 2) := by decide +kernel
theorem dX10_readNumber_17 : decode cX10_readNumber 17 = .ok (.invokestatic 55, 3) := by decide +kernel
theorem dX10_readNumber_20 : decode cX10_readNumber 20 = .ok (.ifCond .eq 32, 3) := by decide +kernel
theorem dX10_readNumber_23 : decode cX10_readNumber 23 = .ok (.iload_n 1, 1) := by decide +kernel
theorem dX10_readNumber_24 : decode cX10_readNumber 24 = .ok (.bipush 10, 2) := by decide +kernel
theorem dX10_readNumber_26 : decode cX10_readNumber 26 = .ok (.imul, 1) := by decide +kernel
theorem dX10_readNumber_27 : decode cX10_readNumber 27 = .ok (.aload_n 0, 1) := by decide +kernel
theorem dX10_readNumber_28 : decode cX10_readNumber 28 = .ok (.invokevirtual 36, 3) := by decide +kernel
theorem dX10_readNumber_31 : decode cX10_readNumber 31 = .ok (.iadd, 1) := by decide +kernel
theorem dX10_readNumber_32 : decode cX10_readNumber 32 = .ok (.bipush 48, 2) := by decide +kernel
theorem dX10_readNumber_34 : decode cX10_readNumber 34 = .ok (.isub, 1) := by decide +kernel
theorem dX10_readNumber_35 : decode cX10_readNumber 35 = .ok (.istore_n 1, 1) := by decide +kernel
theorem dX10_readNumber_36 : decode cX10_readNumber 36 = .ok (.aload_n 0, 1) := by decide +kernel
theorem dX10_readNumber_37 : decode cX10_readNumber 37 = .ok (.dup, 1) := by decide +kernel
theorem dX10_readNumber_38 : decode cX10_readNumber 38 = .ok (.getfield 19, 3) := by decide +kernel
theorem dX10_readNumber_41 : decode cX10_readNumber 41 = .ok (.iconst 1, 1) := by decide +kernel
theorem dX10_readNumber_42 : decode cX10_readNumber 42 = .ok (.iadd, 1) := by decide +kernel
theorem dX10_readNumber_43 : decode cX10_readNumber 43 = .ok (.putfield 19, 3) := by decide +kernel
theorem dX10_readNumber_46 : decode cX10_readNumber 46 = .ok (.iinc 2 1, 3) := by decide +kernel
theorem dX10_readNumber_49 : decode cX10_readNumber 49 = .ok (.goto (-45), 3) := by decide +kernel
theorem dX10_readNumber_52 : decode cX10_readNumber 52 = .ok (.aload_n 0, 1) := by decide +kernel
theorem dX10_readNumber_53 : decode cX10_readNumber 53 = .ok (.iload_n 1, 1) := by decide +kernel
theorem dX10_readNumber_54 : decode cX10_readNumber 54 = .ok (.invokevirtual 44, 3) := by decide +kernel
theorem dX10_readNumber_57 : decode cX10_readNumber 57 = .ok (.return_, 1) := by decide +kernel
theorem dX11_init_0 : decode cX11_init 0 = .ok (.aload_n 0, 1) := by decide +kernel
theorem dX11_init_1 : decode cX11_init 1 = .ok (.invokespecial 1, 3) := by decide +kernel
theorem dX11_init_4 : decode cX11_init 4 = .ok (.aload_n 0, 1) := by decide +kernel
theorem dX11_init_5 : decode cX11_init 5 = .ok (.new 7, 3) := by decide +kernel
theorem dX11_init_8 : decode cX11_init 8 = .ok (.dup, 1) := by decide +kernel
theorem dX11_init_9 : decode cX11_init 9 = .ok (.invokespecial 9, 3) := by decide +kernel
theorem dX11_init_12 : decode cX11_init 12 = .ok (.putfield 10, 3) := by decide +kernel
theorem dX11_init_15 : decode cX11_init 15 = .ok (.aload_n 0, 1) := by decide +kernel
theorem dX11_init_16 : decode cX11_init 16 = .ok (.new 16, 3) := by decide +kernel
theorem dX11_init_19 : decode cX11_init 19 = .ok (.dup, 1) := by decide +kernel
theorem dX11_init_20 : decode cX11_init 20 = .ok (.invokespecial 18, 3) := by decide +kernel
theorem dX11_init_23 : decode cX11_init 23 = .ok (.putfield 19, 3) := by decide +kernel
theorem dX11_init_26 : decode cX11_init 26 = .ok (.aload_n 0, 1) := by decide +kernel
theorem dX11_init_27 : decode cX11_init 27 = .ok (.new 23, 3) := by decide +kernel
theorem dX11_init_30 : decode cX11_init 30 = .ok (.dup, 1) := by decide +kernel
theorem dX11_init_31 : decode cX11_init 31 = .ok (.invokespecial 25, 3) := by decide +kernel
theorem dX11_init_34 : decode cX11_init 34 = .ok (.putfield 26, 3) := by decide +kernel
theorem dX11_init_37 : decode cX11_init 37 = .ok (.aload_n 0, 1) := by decide +kernel
theorem dX11_init_38 : decode cX11_init 38 = .ok (.new 30, 3) := by decide +kernel
theorem dX11_init_41 : decode cX11_init 41 = .ok (.dup, 1) := by decide +kernel
theorem dX11_init_42 : decode cX11_init 42 = .ok (.invokespecial 32, 3) := by decide +kernel
theorem dX11_init_45 : decode cX11_init 45 = .ok (.putfield 33, 3) := by decide +kernel
theorem dX11_init_48 : decode cX11_init 48 = .ok (.aload_n 0, 1) := by decide +kernel
theorem dX11_init_49 : decode cX11_init 49 = .ok (.new 37, 3) := by decide +kernel
theorem dX11_init_52 : decode cX11_init 52 = .ok (.dup, 1) := by decide +kernel
theorem dX11_init_53 : decode cX11_init 53 = .ok (.invokespecial 39, 3) := by decide +kernel
theorem dX11_init_56 : decode cX11_init 56 = .ok (.putfield 40, 3) := by decide +kernel
theorem dX11_init_59 : decode cX11_init 59 = .ok (.aload_n 0, 1) := by decide +kernel
theorem dX11_init_60 : decode cX11_init 60 = .ok (.new 44, 3) := by decide +kernel
theorem dX11_init_63 : decode cX11_init 63 = .ok (.dup, 1) := by decide +kernel
theorem dX11_init_64 : decode cX11_init 64 = .ok (.invokespecial 46, 3) := by decide +kernel
theorem dX11_init_67 : decode cX11_init 67 = .ok (.putfield 47, 3) := by decide +kernel
theorem dX11_init_70 : decode cX11_init 70 = .ok (.aload_n 0, 1) := by decide +kernel
theorem dX11_init_71 : decode cX11_init 71 = .ok (.new 51, 3) := by decide +kernel
theorem dX11_init_74 : decode cX11_init 74 = .ok (.dup, 1) := by decide +kernel
theorem dX11_init_75 : decode cX11_init 75 = .ok (.invokespecial 53, 3) := by decide +kernel
theorem dX11_init_78 : decode cX11_init 78 = .ok (.putfield 54, 3) := by decide +kernel
theorem dX11_init_81 : decode cX11_init 81 = .ok (.aload_n 0, 1) := by decide +kernel
theorem dX11_init_82 : decode cX11_init 82 = .ok (.new 58, 3) := by decide +kernel
theorem dX11_init_85 : decode cX11_init 85 = .ok (.dup, 1) := by decide +kernel
theorem dX11_init_86 : decode cX11_init 86 = .ok (.invokespecial 60, 3) := by decide +kernel
theorem dX11_init_89 : decode cX11_init 89 = .ok (.putfield 61, 3) := by decide +kernel
theorem dX11_init_92 : decode cX11_init 92 = .ok (.aload_n 0, 1) := by decide +kernel
theorem dX11_init_93 : decode cX11_init 93 = .ok (.new 65, 3) := by decide +kernel
theorem dX11_init_96 : decode cX11_init 96 = .ok (.dup, 1) := by decide +kernel
theorem dX11_init_97 : decode cX11_init 97 = .ok (.invokespecial 67, 3) := by decide +kernel
theorem dX11_init_100 : decode cX11_init 100 = .ok (.putfield 68, 3) := by decide +kernel
theorem dX11_init_103 : decode cX11_init 103 = .ok (.aload_n 0, 1) := by decide +kernel
theorem dX11_init_104 : decode cX11_init 104 = .ok (.new 72, 3) := by decide +kernel
theorem dX11_init_107 : decode cX11_init 107 = .ok (.dup, 1) := by decide +kernel
theorem dX11_init_108 : decode cX11_init 108 = .ok (.invokespecial 74, 3) := by decide +kernel
theorem dX11_init_111 : decode cX11_init 111 = .ok (.putfield 75, 3) := by decide +kernel
theorem dX11_init_114 : decode cX11_init 114 = .ok (.aload_n 0, 1) := by decide +kernel
theorem dX11_init_115 : decode cX11_init 115 = .ok (.new 79, 3) := by decide +kernel
theorem dX11_init_118 : decode cX11_init 118 = .ok (.dup, 1) := by decide +kernel
theorem dX11_init_119 : decode cX11_init 119 = .ok (.bipush 10, 2) := by decide +kernel
theorem dX11_init_121 : decode cX11_init 121 = .ok (.invokespecial 81, 3) := by decide +kernel
theorem dX11_init_124 : decode cX11_init 124 = .ok (.putfield 84, 3) := by decide +kernel
theorem dX11_init_127 : decode cX11_init 127 = .ok (.aload_n 0, 1) := by decide +kernel
theorem dX11_init_128 : decode cX11_init 128 = .ok (.bipush 10, 2) := by decide +kernel
theorem dX11_init_130 : decode cX11_init 130 = .ok (.newarray .int, 2) := by decide +kernel
theorem dX11_init_132 : decode cX11_init 132 = .ok (.putfield 88, 3) := by decide +kernel
theorem dX11_init_135 : decode cX11_init 135 = .ok (.aload_n 0, 1) := by decide +kernel
theorem dX11_init_136 : decode cX11_init 136 = .ok (.bipush 10, 2) := by decide +kernel
theorem dX11_init_138 : decode cX11_init 138 = .ok (.newarray .int, 2) := by decide +kernel
theorem dX11_init_140 : decode cX11_init 140 = .ok (.putfield 92, 3) := by decide +kernel
theorem dX11_init_143 : decode cX11_init 143 = .ok (.aload_n 0, 1) := by decide +kernel
theorem dX11_init_144 : decode cX11_init 144 = .ok (.iconst 0, 1) := by decide +kernel
theorem dX11_init_145 : decode cX11_init 145 = .ok (.putfield 95, 3) := by decide +kernel
theorem dX11_init_148 : decode cX11_init 148 = .ok (.return_, 1) := by decide +kernel
theorem dX11_shop_0 : decode cX11_shop 0 = .ok (.iload_n 1, 1) := by decide +kernel
theorem dX11_shop_1 : decode cX11_shop 1 = .ok (.sipush 10000, 3) := by decide +kernel
theorem dX11_shop_4 : decode cX11_shop 4 = .ok (.invokestatic 99, 3) := by decide +kernel
theorem dX11_shop_7 : decode cX11_shop 7 = .ok (.ifCond .ne 5, 3) := by decide +kernel
theorem dX11_shop_10 : decode cX11_shop 10 = .ok (.iconst (-1), 1) := by decide +kernel
theorem dX11_shop_11 : decode cX11_shop 11 = .ok (.ireturn, 1) := by decide +kernel
theorem dX11_shop_12 : decode cX11_shop 12 = .ok (.aload_n 0, 1) := by decide +kernel
theorem dX11_shop_13 : decode cX11_shop 13 = .ok (.getfield 19, 3) := by decide +kernel
theorem dX11_shop_16 : decode cX11_shop 16 = .ok (.getfield 103, 3) := by decide +kernel
theorem dX11_shop_19 : decode cX11_shop 19 = .ok (.iload_n 1, 1) := by decide +kernel
theorem dX11_shop_20 : decode cX11_shop 20 = .ok (.invokevirtual 106, 3) := by decide +kernel
theorem dX11_shop_23 : decode cX11_shop 23 = .ok (.ireturn, 1) := by decide +kernel
theorem dX11_kind_0 : decode cX11_kind 0 = .ok (.iconst 1, 1) := by decide +kernel
theorem dX11_kind_1 : decode cX11_kind 1 = .ok (.iload_n 1, 1) := by decide +kernel
theorem dX11_kind_2 : decode cX11_kind 2 = .ok (.sipush 9999, 3) := by decide +kernel
theorem dX11_kind_5 : decode cX11_kind 5 = .ok (.invokestatic 110, 3) := by decide +kernel
theorem dX11_kind_8 : decode cX11_kind 8 = .ok (.ifCond .eq 14, 3) := by decide +kernel
theorem dX11_kind_11 : decode cX11_kind 11 = .ok (.iconst 0, 1) := by decide +kernel
theorem dX11_kind_12 : decode cX11_kind 12 = .ok (.iload_n 2, 1) := by decide +kernel
theorem dX11_kind_13 : decode cX11_kind 13 = .ok (.sipush 9999, 3) := by decide +kernel
theorem dX11_kind_16 : decode cX11_kind 16 = .ok (.invokestatic 110, 3) := by decide +kernel
theorem dX11_kind_19 : decode cX11_kind 19 = .ok (.ifCond .ne 5, 3) := by decide +kernel
theorem dX11_kind_22 : decode cX11_kind 22 = .ok (.iconst (-1), 1) := by decide +kernel
theorem dX11_kind_23 : decode cX11_kind 23 = .ok (.ireturn, 1) := by decide +kernel
theorem dX11_kind_24 : decode cX11_kind 24 = .ok (.iconst 1, 1) := by decide +kernel
theorem dX11_kind_25 : decode cX11_kind 25 = .ok (.iload_n 3, 1) := by decide +kernel
theorem dX11_kind_26 : decode cX11_kind 26 = .ok (.sipush 9999, 3) := by decide +kernel
theorem dX11_kind_29 : decode cX11_kind 29 = .ok (.invokestatic 110, 3) := by decide +kernel
theorem dX11_kind_32 : decode cX11_kind 32 = .ok (.ifCond .eq 13, 3) := by decide +kernel
theorem dX11_kind_35 : decode cX11_kind 35 = .ok (.iconst 0, 1) := by decide +kernel
theorem dX11_kind_36 : decode cX11_kind 36 = .ok (.iload 4, 2) := by decide +kernel
theorem dX11_kind_38 : decode cX11_kind 38 = .ok (.iconst 1, 1) := by decide +kernel
theorem dX11_kind_39 : decode cX11_kind 39 = .ok (.invokestatic 110, 3) := by decide +kernel
theorem dX11_kind_42 : decode cX11_kind 42 = .ok (.ifCond .ne 5, 3) := by decide +kernel
theorem dX11_kind_45 : decode cX11_kind 45 = .ok (.iconst (-1), 1) := by decide +kernel
theorem dX11_kind_46 : decode cX11_kind 46 = .ok (.ireturn, 1) := by decide +kernel
theorem dX11_kind_47 : decode cX11_kind 47 = .ok (.aload_n 0, 1) := by decide +kernel
theorem dX11_kind_48 : decode cX11_kind 48 = .ok (.getfield 26, 3) := by decide +kernel
theorem dX11_kind_51 : decode cX11_kind 51 = .ok (.iload_n 1, 1) := by decide +kernel
theorem dX11_kind_52 : decode cX11_kind 52 = .ok (.iload_n 2, 1) := by decide +kernel
theorem dX11_kind_53 : decode cX11_kind 53 = .ok (.iload_n 3, 1) := by decide +kernel
theorem dX11_kind_54 : decode cX11_kind 54 = .ok (.iload 4, 2) := by decide +kernel
theorem dX11_kind_56 : decode cX11_kind 56 = .ok (.invokevirtual 114, 3) := by decide +kernel
theorem dX11_kind_59 : decode cX11_kind 59 = .ok (.ireturn, 1) := by decide +kernel
theorem dX11_priceAt_0 : decode cX11_priceAt 0 = .ok (.aload_n 0, 1) := by decide +kernel
theorem dX11_priceAt_1 : decode cX11_priceAt 1 = .ok (.getfield 26, 3) := by decide +kernel
theorem dX11_priceAt_4 : decode cX11_priceAt 4 = .ok (.iload_n 1, 1) := by decide +kernel
theorem dX11_priceAt_5 : decode cX11_priceAt 5 = .ok (.invokevirtual 117, 3) := by decide +kernel
theorem dX11_priceAt_8 : decode cX11_priceAt 8 = .ok (.ifCond .eq 11, 3) := by decide +kernel
theorem dX11_priceAt_11 : decode cX11_priceAt 11 = .ok (.iload_n 2, 1) := by decide +kernel
theorem dX11_priceAt_12 : decode cX11_priceAt 12 = .ok (.iconst 4, 1) := by decide +kernel
theorem dX11_priceAt_13 : decode cX11_priceAt 13 = .ok (.invokestatic 99, 3) := by decide +kernel
theorem dX11_priceAt_16 : decode cX11_priceAt 16 = .ok (.ifCond .ne 5, 3) := by decide +kernel
theorem dX11_priceAt_19 : decode cX11_priceAt 19 = .ok (.iconst (-1), 1) := by decide +kernel
theorem dX11_priceAt_20 : decode cX11_priceAt 20 = .ok (.ireturn, 1) := by decide +kernel
theorem dX11_priceAt_21 : decode cX11_priceAt 21 = .ok (.aload_n 0, 1) := by decide +kernel
theorem dX11_priceAt_22 : decode cX11_priceAt 22 = .ok (.getfield 26, 3) := by decide +kernel
theorem dX11_priceAt_25 : decode cX11_priceAt 25 = .ok (.iload_n 1, 1) := by decide +kernel
theorem dX11_priceAt_26 : decode cX11_priceAt 26 = .ok (.iload_n 2, 1) := by decide +kernel
theorem dX11_priceAt_27 : decode cX11_priceAt 27 = .ok (.invokevirtual 121, 3) := by decide +kernel
theorem dX11_priceAt_30 : decode cX11_priceAt 30 = .ok (.ireturn, 1) := by decide +kernel
theorem dX11_throwing_0 : decode cX11_throwing 0 = .ok (.aload_n 0, 1) := by decide +kernel
theorem dX11_throwing_1 : decode cX11_throwing 1 = .ok (.getfield 26, 3) := by decide +kernel
theorem dX11_throwing_4 : decode cX11_throwing 4 = .ok (.iload_n 1, 1) := by decide +kernel
theorem dX11_throwing_5 : decode cX11_throwing 5 = .ok (.invokevirtual 117, 3) := by decide +kernel
theorem dX11_throwing_8 : decode cX11_throwing 8 = .ok (.ifCond .eq 14, 3) := by decide +kernel
theorem dX11_throwing_11 : decode cX11_throwing 11 = .ok (.iconst 0, 1) := by decide +kernel
theorem dX11_throwing_12 : decode cX11_throwing 12 = .ok (.iload_n 2, 1) := by decide +kernel
theorem dX11_throwing_13 : decode cX11_throwing 13 = .ok (.sipush 9999, 3) := by decide +kernel
theorem dX11_throwing_16 : decode cX11_throwing 16 = .ok (.invokestatic 110, 3) := by decide +kernel
theorem dX11_throwing_19 : decode cX11_throwing 19 = .ok (.ifCond .ne 5, 3) := by decide +kernel
theorem dX11_throwing_22 : decode cX11_throwing 22 = .ok (.iconst (-1), 1) := by decide +kernel
theorem dX11_throwing_23 : decode cX11_throwing 23 = .ok (.ireturn, 1) := by decide +kernel
theorem dX11_throwing_24 : decode cX11_throwing 24 = .ok (.aload_n 0, 1) := by decide +kernel
theorem dX11_throwing_25 : decode cX11_throwing 25 = .ok (.getfield 26, 3) := by decide +kernel
theorem dX11_throwing_28 : decode cX11_throwing 28 = .ok (.getfield 125, 3) := by decide +kernel
theorem dX11_throwing_31 : decode cX11_throwing 31 = .ok (.iload_n 1, 1) := by decide +kernel
theorem dX11_throwing_32 : decode cX11_throwing 32 = .ok (.iaload, 1) := by decide +kernel
theorem dX11_throwing_33 : decode cX11_throwing 33 = .ok (.istore_n 3, 1) := by decide +kernel
theorem dX11_throwing_34 : decode cX11_throwing 34 = .ok (.aload_n 0, 1) := by decide +kernel
theorem dX11_throwing_35 : decode cX11_throwing 35 = .ok (.getfield 26, 3) := by decide +kernel
theorem dX11_throwing_38 : decode cX11_throwing 38 = .ok (.getfield 125, 3) := by decide +kernel
theorem dX11_throwing_41 : decode cX11_throwing 41 = .ok (.iload_n 1, 1) := by decide +kernel
theorem dX11_throwing_42 : decode cX11_throwing 42 = .ok (.iload_n 2, 1) := by decide +kernel
theorem dX11_throwing_43 : decode cX11_throwing 43 = .ok (.iastore, 1) := by decide +kernel
theorem dX11_throwing_44 : decode cX11_throwing 44 = .ok (.iload_n 3, 1) := by decide +kernel
theorem dX11_throwing_45 : decode cX11_throwing 45 = .ok (.ireturn, 1) := by decide +kernel
theorem dX11_weather_0 : decode cX11_weather 0 = .ok (.iload_n 1, 1) := by decide +kernel
theorem dX11_weather_1 : decode cX11_weather 1 = .ok (.sipush 1500, 3) := by decide +kernel
theorem dX11_weather_4 : decode cX11_weather 4 = .ok (.invokestatic 99, 3) := by decide +kernel
theorem dX11_weather_7 : decode cX11_weather 7 = .ok (.ifCond .eq 11, 3) := by decide +kernel
theorem dX11_weather_10 : decode cX11_weather 10 = .ok (.iload_n 2, 1) := by decide +kernel
theorem dX11_weather_11 : decode cX11_weather 11 = .ok (.iconst 3, 1) := by decide +kernel
theorem dX11_weather_12 : decode cX11_weather 12 = .ok (.invokestatic 99, 3) := by decide +kernel
theorem dX11_weather_15 : decode cX11_weather 15 = .ok (.ifCond .ne 5, 3) := by decide +kernel
theorem dX11_weather_18 : decode cX11_weather 18 = .ok (.iconst (-1), 1) := by decide +kernel
theorem dX11_weather_19 : decode cX11_weather 19 = .ok (.ireturn, 1) := by decide +kernel
theorem dX11_weather_20 : decode cX11_weather 20 = .ok (.aload_n 0, 1) := by decide +kernel
theorem dX11_weather_21 : decode cX11_weather 21 = .ok (.getfield 10, 3) := by decide +kernel
theorem dX11_weather_24 : decode cX11_weather 24 = .ok (.getfield 128, 3) := by decide +kernel
theorem dX11_weather_27 : decode cX11_weather 27 = .ok (.iload_n 1, 1) := by decide +kernel
theorem dX11_weather_28 : decode cX11_weather 28 = .ok (.iaload, 1) := by decide +kernel
theorem dX11_weather_29 : decode cX11_weather 29 = .ok (.istore_n 3, 1) := by decide +kernel
theorem dX11_weather_30 : decode cX11_weather 30 = .ok (.aload_n 0, 1) := by decide +kernel
theorem dX11_weather_31 : decode cX11_weather 31 = .ok (.getfield 10, 3) := by decide +kernel
theorem dX11_weather_34 : decode cX11_weather 34 = .ok (.getfield 128, 3) := by decide +kernel
theorem dX11_weather_37 : decode cX11_weather 37 = .ok (.iload_n 1, 1) := by decide +kernel
theorem dX11_weather_38 : decode cX11_weather 38 = .ok (.iload_n 2, 1) := by decide +kernel
theorem dX11_weather_39 : decode cX11_weather 39 = .ok (.iastore, 1) := by decide +kernel
theorem dX11_weather_40 : decode cX11_weather 40 = .ok (.iload_n 3, 1) := by decide +kernel
theorem dX11_weather_41 : decode cX11_weather 41 = .ok (.ireturn, 1) := by decide +kernel
theorem dX11_hours_0 : decode cX11_hours 0 = .ok (.iconst 1, 1) := by decide +kernel
theorem dX11_hours_1 : decode cX11_hours 1 = .ok (.iload_n 1, 1) := by decide +kernel
theorem dX11_hours_2 : decode cX11_hours 2 = .ok (.sipush 240, 3) := by decide +kernel
theorem dX11_hours_5 : decode cX11_hours 5 = .ok (.invokestatic 110, 3) := by decide +kernel
theorem dX11_hours_8 : decode cX11_hours 8 = .ok (.ifCond .eq 17, 3) := by decide +kernel
theorem dX11_hours_11 : decode cX11_hours 11 = .ok (.iload_n 1, 1) := by decide +kernel
theorem dX11_hours_12 : decode cX11_hours 12 = .ok (.ldc 131, 2) := by decide +kernel
theorem dX11_hours_14 : decode cX11_hours 14 = .ok (.aload_n 0, 1) := by decide +kernel
theorem dX11_hours_15 : decode cX11_hours 15 = .ok (.getfield 10, 3) := by decide +kernel
theorem dX11_hours_18 : decode cX11_hours 18 = .ok (.getfield 132, 3) := by decide +kernel
theorem dX11_hours_21 : decode cX11_hours 21 = .ok (.isub, 1) := by decide +kernel
theorem dX11_hours_22 : decode cX11_hours 22 = .ok (.if_icmp .le 5, 3) := by decide +kernel
theorem dX11_hours_25 : decode cX11_hours 25 = .ok (.iconst (-1), 1) := by decide +kernel
theorem dX11_hours_26 : decode cX11_hours 26 = .ok (.ireturn, 1) := by decide +kernel
theorem dX11_hours_27 : decode cX11_hours 27 = .ok (.iconst 0, 1) := by decide +kernel
theorem dX11_hours_28 : decode cX11_hours 28 = .ok (.istore_n 2, 1) := by decide +kernel
theorem dX11_hours_29 : decode cX11_hours 29 = .ok (.iload_n 2, 1) := by decide +kernel
theorem dX11_hours_30 : decode cX11_hours 30 = .ok (.iload_n 1, 1) := by decide +kernel
theorem dX11_hours_31 : decode cX11_hours 31 = .ok (.if_icmp .ge 36, 3) := by decide +kernel
theorem dX11_hours_34 : decode cX11_hours 34 = .ok (.aload_n 0, 1) := by decide +kernel
theorem dX11_hours_35 : decode cX11_hours 35 = .ok (.getfield 10, 3) := by decide +kernel
theorem dX11_hours_38 : decode cX11_hours 38 = .ok (.dup, 1) := by decide +kernel
theorem dX11_hours_39 : decode cX11_hours 39 = .ok (.getfield 132, 3) := by decide +kernel
theorem dX11_hours_42 : decode cX11_hours 42 = .ok (.iconst 1, 1) := by decide +kernel
theorem dX11_hours_43 : decode cX11_hours 43 = .ok (.iadd, 1) := by decide +kernel
theorem dX11_hours_44 : decode cX11_hours 44 = .ok (.putfield 132, 3) := by decide +kernel
theorem dX11_hours_47 : decode cX11_hours 47 = .ok (.aload_n 0, 1) := by decide +kernel
theorem dX11_hours_48 : decode cX11_hours 48 = .ok (.getfield 10, 3) := by decide +kernel
theorem dX11_hours_51 : decode cX11_hours 51 = .ok (.invokevirtual 135, 3) := by decide +kernel
theorem dX11_hours_54 : decode cX11_hours 54 = .ok (.ifCond .ne 7, 3) := by decide +kernel
theorem dX11_hours_57 : decode cX11_hours 57 = .ok (.aload_n 0, 1) := by decide +kernel
theorem dX11_hours_58 : decode cX11_hours 58 = .ok (.invokevirtual 139, 3) := by decide +kernel
theorem dX11_hours_61 : decode cX11_hours 61 = .ok (.iinc 2 1, 3) := by decide +kernel
theorem dX11_hours_64 : decode cX11_hours 64 = .ok (.goto (-35), 3) := by decide +kernel
theorem dX11_hours_67 : decode cX11_hours 67 = .ok (.aload_n 0, 1) := by decide +kernel
theorem dX11_hours_68 : decode cX11_hours 68 = .ok (.getfield 10, 3) := by decide +kernel
theorem dX11_hours_71 : decode cX11_hours 71 = .ok (.getfield 132, 3) := by decide +kernel
theorem dX11_hours_74 : decode cX11_hours 74 = .ok (.ireturn, 1) := by decide +kernel
theorem dX11_cut_0 : decode cX11_cut 0 = .ok (.aload_n 0, 1) := by decide +kernel
theorem dX11_cut_1 : decode cX11_cut 1 = .ok (.iload_n 1, 1) := by decide +kernel
theorem dX11_cut_2 : decode cX11_cut 2 = .ok (.iload_n 2, 1) := by decide +kernel
theorem dX11_cut_3 : decode cX11_cut 3 = .ok (.invokevirtual 142, 3) := by decide +kernel
theorem dX11_cut_6 : decode cX11_cut 6 = .ok (.ifCond .eq 11, 3) := by decide +kernel
theorem dX11_cut_9 : decode cX11_cut 9 = .ok (.iload_n 3, 1) := by decide +kernel
theorem dX11_cut_10 : decode cX11_cut 10 = .ok (.iconst 4, 1) := by decide +kernel
theorem dX11_cut_11 : decode cX11_cut 11 = .ok (.invokestatic 99, 3) := by decide +kernel
theorem dX11_cut_14 : decode cX11_cut 14 = .ok (.ifCond .ne 5, 3) := by decide +kernel
theorem dX11_cut_17 : decode cX11_cut 17 = .ok (.iconst (-1), 1) := by decide +kernel
theorem dX11_cut_18 : decode cX11_cut 18 = .ok (.ireturn, 1) := by decide +kernel
theorem dX11_cut_19 : decode cX11_cut 19 = .ok (.aload_n 0, 1) := by decide +kernel
theorem dX11_cut_20 : decode cX11_cut 20 = .ok (.getfield 19, 3) := by decide +kernel
theorem dX11_cut_23 : decode cX11_cut 23 = .ok (.getfield 145, 3) := by decide +kernel
theorem dX11_cut_26 : decode cX11_cut 26 = .ok (.iload_n 1, 1) := by decide +kernel
theorem dX11_cut_27 : decode cX11_cut 27 = .ok (.aaload, 1) := by decide +kernel
theorem dX11_cut_28 : decode cX11_cut 28 = .ok (.iload_n 2, 1) := by decide +kernel
theorem dX11_cut_29 : decode cX11_cut 29 = .ok (.iaload, 1) := by decide +kernel
theorem dX11_cut_30 : decode cX11_cut 30 = .ok (.istore 4, 2) := by decide +kernel
theorem dX11_cut_32 : decode cX11_cut 32 = .ok (.iload_n 3, 1) := by decide +kernel
theorem dX11_cut_33 : decode cX11_cut 33 = .ok (.iload 4, 2) := by decide +kernel
theorem dX11_cut_35 : decode cX11_cut 35 = .ok (.if_icmp .gt 6, 3) := by decide +kernel
theorem dX11_cut_38 : decode cX11_cut 38 = .ok (.bipush (-2), 2) := by decide +kernel
theorem dX11_cut_40 : decode cX11_cut 40 = .ok (.ireturn, 1) := by decide +kernel
theorem dX11_cut_41 : decode cX11_cut 41 = .ok (.aload_n 0, 1) := by decide +kernel
theorem dX11_cut_42 : decode cX11_cut 42 = .ok (.getfield 19, 3) := by decide +kernel
theorem dX11_cut_45 : decode cX11_cut 45 = .ok (.getfield 145, 3) := by decide +kernel
theorem dX11_cut_48 : decode cX11_cut 48 = .ok (.iload_n 1, 1) := by decide +kernel
theorem dX11_cut_49 : decode cX11_cut 49 = .ok (.aaload, 1) := by decide +kernel
theorem dX11_cut_50 : decode cX11_cut 50 = .ok (.iload_n 2, 1) := by decide +kernel
theorem dX11_cut_51 : decode cX11_cut 51 = .ok (.iload_n 3, 1) := by decide +kernel
theorem dX11_cut_52 : decode cX11_cut 52 = .ok (.iastore, 1) := by decide +kernel
theorem dX11_cut_53 : decode cX11_cut 53 = .ok (.iload 4, 2) := by decide +kernel
theorem dX11_cut_55 : decode cX11_cut 55 = .ok (.ireturn, 1) := by decide +kernel
theorem dX11_step_0 : decode cX11_step 0 = .ok (.aload_n 0, 1) := by decide +kernel
theorem dX11_step_1 : decode cX11_step 1 = .ok (.iload_n 1, 1) := by decide +kernel
theorem dX11_step_2 : decode cX11_step 2 = .ok (.iload_n 2, 1) := by decide +kernel
theorem dX11_step_3 : decode cX11_step 3 = .ok (.invokevirtual 142, 3) := by decide +kernel
theorem dX11_step_6 : decode cX11_step 6 = .ok (.ifCond .ne 5, 3) := by decide +kernel
theorem dX11_step_9 : decode cX11_step 9 = .ok (.iconst (-1), 1) := by decide +kernel
theorem dX11_step_10 : decode cX11_step 10 = .ok (.ireturn, 1) := by decide +kernel
theorem dX11_step_11 : decode cX11_step 11 = .ok (.aload_n 0, 1) := by decide +kernel
theorem dX11_step_12 : decode cX11_step 12 = .ok (.getfield 19, 3) := by decide +kernel
theorem dX11_step_15 : decode cX11_step 15 = .ok (.getfield 145, 3) := by decide +kernel
theorem dX11_step_18 : decode cX11_step 18 = .ok (.iload_n 1, 1) := by decide +kernel
theorem dX11_step_19 : decode cX11_step 19 = .ok (.aaload, 1) := by decide +kernel
theorem dX11_step_20 : decode cX11_step 20 = .ok (.iload_n 2, 1) := by decide +kernel
theorem dX11_step_21 : decode cX11_step 21 = .ok (.iaload, 1) := by decide +kernel
theorem dX11_step_22 : decode cX11_step 22 = .ok (.ireturn, 1) := by decide +kernel
theorem dX11_warm_0 : decode cX11_warm 0 = .ok (.aload_n 0, 1) := by decide +kernel
theorem dX11_warm_1 : decode cX11_warm 1 = .ok (.iload_n 1, 1) := by decide +kernel
theorem dX11_warm_2 : decode cX11_warm 2 = .ok (.iload_n 2, 1) := by decide +kernel
theorem dX11_warm_3 : decode cX11_warm 3 = .ok (.invokevirtual 142, 3) := by decide +kernel
theorem dX11_warm_6 : decode cX11_warm 6 = .ok (.ifCond .eq 13, 3) := by decide +kernel
theorem dX11_warm_9 : decode cX11_warm 9 = .ok (.iconst 0, 1) := by decide +kernel
theorem dX11_warm_10 : decode cX11_warm 10 = .ok (.iload_n 3, 1) := by decide +kernel
theorem dX11_warm_11 : decode cX11_warm 11 = .ok (.bipush 24, 2) := by decide +kernel
theorem dX11_warm_13 : decode cX11_warm 13 = .ok (.invokestatic 110, 3) := by decide +kernel
theorem dX11_warm_16 : decode cX11_warm 16 = .ok (.ifCond .ne 5, 3) := by decide +kernel
theorem dX11_warm_19 : decode cX11_warm 19 = .ok (.iconst (-1), 1) := by decide +kernel
theorem dX11_warm_20 : decode cX11_warm 20 = .ok (.ireturn, 1) := by decide +kernel
theorem dX11_warm_21 : decode cX11_warm 21 = .ok (.aload_n 0, 1) := by decide +kernel
theorem dX11_warm_22 : decode cX11_warm 22 = .ok (.getfield 19, 3) := by decide +kernel
theorem dX11_warm_25 : decode cX11_warm 25 = .ok (.getfield 149, 3) := by decide +kernel
theorem dX11_warm_28 : decode cX11_warm 28 = .ok (.iload_n 1, 1) := by decide +kernel
theorem dX11_warm_29 : decode cX11_warm 29 = .ok (.aaload, 1) := by decide +kernel
theorem dX11_warm_30 : decode cX11_warm 30 = .ok (.iload_n 2, 1) := by decide +kernel
theorem dX11_warm_31 : decode cX11_warm 31 = .ok (.iaload, 1) := by decide +kernel
theorem dX11_warm_32 : decode cX11_warm 32 = .ok (.istore 4, 2) := by decide +kernel
theorem dX11_warm_34 : decode cX11_warm 34 = .ok (.aload_n 0, 1) := by decide +kernel
theorem dX11_warm_35 : decode cX11_warm 35 = .ok (.getfield 19, 3) := by decide +kernel
theorem dX11_warm_38 : decode cX11_warm 38 = .ok (.getfield 149, 3) := by decide +kernel
theorem dX11_warm_41 : decode cX11_warm 41 = .ok (.iload_n 1, 1) := by decide +kernel
theorem dX11_warm_42 : decode cX11_warm 42 = .ok (.aaload, 1) := by decide +kernel
theorem dX11_warm_43 : decode cX11_warm 43 = .ok (.iload_n 2, 1) := by decide +kernel
theorem dX11_warm_44 : decode cX11_warm 44 = .ok (.iload_n 3, 1) := by decide +kernel
theorem dX11_warm_45 : decode cX11_warm 45 = .ok (.iastore, 1) := by decide +kernel
theorem dX11_warm_46 : decode cX11_warm 46 = .ok (.iload 4, 2) := by decide +kernel
theorem dX11_warm_48 : decode cX11_warm 48 = .ok (.ireturn, 1) := by decide +kernel
theorem dX11_batch_0 : decode cX11_batch 0 = .ok (.iload_n 2, 1) := by decide +kernel
theorem dX11_batch_1 : decode cX11_batch 1 = .ok (.ifCond .lt 15, 3) := by decide +kernel
theorem dX11_batch_4 : decode cX11_batch 4 = .ok (.aload_n 0, 1) := by decide +kernel
theorem dX11_batch_5 : decode cX11_batch 5 = .ok (.iload_n 1, 1) := by decide +kernel
theorem dX11_batch_6 : decode cX11_batch 6 = .ok (.iload_n 2, 1) := by decide +kernel
theorem dX11_batch_7 : decode cX11_batch 7 = .ok (.bipush 100, 2) := by decide +kernel
theorem dX11_batch_9 : decode cX11_batch 9 = .ok (.idiv, 1) := by decide +kernel
theorem dX11_batch_10 : decode cX11_batch 10 = .ok (.invokevirtual 142, 3) := by decide +kernel
theorem dX11_batch_13 : decode cX11_batch 13 = .ok (.ifCond .ne 5, 3) := by decide +kernel
theorem dX11_batch_16 : decode cX11_batch 16 = .ok (.iconst (-1), 1) := by decide +kernel
theorem dX11_batch_17 : decode cX11_batch 17 = .ok (.ireturn, 1) := by decide +kernel
theorem dX11_batch_18 : decode cX11_batch 18 = .ok (.aload_n 0, 1) := by decide +kernel
theorem dX11_batch_19 : decode cX11_batch 19 = .ok (.getfield 10, 3) := by decide +kernel
theorem dX11_batch_22 : decode cX11_batch 22 = .ok (.invokevirtual 152, 3) := by decide +kernel
theorem dX11_batch_25 : decode cX11_batch 25 = .ok (.istore 5, 2) := by decide +kernel
theorem dX11_batch_27 : decode cX11_batch 27 = .ok (.iconst 0, 1) := by decide +kernel
theorem dX11_batch_28 : decode cX11_batch 28 = .ok (.iload_n 3, 1) := by decide +kernel
theorem dX11_batch_29 : decode cX11_batch 29 = .ok (.bipush 9, 2) := by decide +kernel
theorem dX11_batch_31 : decode cX11_batch 31 = .ok (.invokestatic 110, 3) := by decide +kernel
theorem dX11_batch_34 : decode cX11_batch 34 = .ok (.ifCond .eq 21, 3) := by decide +kernel
theorem dX11_batch_37 : decode cX11_batch 37 = .ok (.iload_n 3, 1) := by decide +kernel
theorem dX11_batch_38 : decode cX11_batch 38 = .ok (.iload 5, 2) := by decide +kernel
theorem dX11_batch_40 : decode cX11_batch 40 = .ok (.if_icmp .gt 15, 3) := by decide +kernel
theorem dX11_batch_43 : decode cX11_batch 43 = .ok (.iconst 1, 1) := by decide +kernel
theorem dX11_batch_44 : decode cX11_batch 44 = .ok (.iload 4, 2) := by decide +kernel
theorem dX11_batch_46 : decode cX11_batch 46 = .ok (.sipush 999, 3) := by decide +kernel
theorem dX11_batch_49 : decode cX11_batch 49 = .ok (.invokestatic 110, 3) := by decide +kernel
theorem dX11_batch_52 : decode cX11_batch 52 = .ok (.ifCond .ne 5, 3) := by decide +kernel
theorem dX11_batch_55 : decode cX11_batch 55 = .ok (.iconst (-1), 1) := by decide +kernel
theorem dX11_batch_56 : decode cX11_batch 56 = .ok (.ireturn, 1) := by decide +kernel
theorem dX11_batch_57 : decode cX11_batch 57 = .ok (.aload_n 0, 1) := by decide +kernel
theorem dX11_batch_58 : decode cX11_batch 58 = .ok (.getfield 33, 3) := by decide +kernel
theorem dX11_batch_61 : decode cX11_batch 61 = .ok (.invokevirtual 155, 3) := by decide +kernel
theorem dX11_batch_64 : decode cX11_batch 64 = .ok (.ifCond .ne 6, 3) := by decide +kernel
theorem dX11_batch_67 : decode cX11_batch 67 = .ok (.bipush (-3), 2) := by decide +kernel
theorem dX11_batch_69 : decode cX11_batch 69 = .ok (.ireturn, 1) := by decide +kernel
theorem dX11_batch_70 : decode cX11_batch 70 = .ok (.aload_n 0, 1) := by decide +kernel
theorem dX11_batch_71 : decode cX11_batch 71 = .ok (.getfield 33, 3) := by decide +kernel
theorem dX11_batch_74 : decode cX11_batch 74 = .ok (.iload_n 1, 1) := by decide +kernel
theorem dX11_batch_75 : decode cX11_batch 75 = .ok (.iload_n 2, 1) := by decide +kernel
theorem dX11_batch_76 : decode cX11_batch 76 = .ok (.iload 5, 2) := by decide +kernel
theorem dX11_batch_78 : decode cX11_batch 78 = .ok (.iload_n 3, 1) := by decide +kernel
theorem dX11_batch_79 : decode cX11_batch 79 = .ok (.isub, 1) := by decide +kernel
theorem dX11_batch_80 : decode cX11_batch 80 = .ok (.iload 4, 2) := by decide +kernel
theorem dX11_batch_82 : decode cX11_batch 82 = .ok (.invokevirtual 158, 3) := by decide +kernel
theorem dX11_batch_85 : decode cX11_batch 85 = .ok (.istore 6, 2) := by decide +kernel
theorem dX11_batch_87 : decode cX11_batch 87 = .ok (.aload_n 0, 1) := by decide +kernel
theorem dX11_batch_88 : decode cX11_batch 88 = .ok (.getfield 33, 3) := by decide +kernel
theorem dX11_batch_91 : decode cX11_batch 91 = .ok (.getfield 159, 3) := by decide +kernel
theorem dX11_batch_94 : decode cX11_batch 94 = .ok (.iload 6, 2) := by decide +kernel
theorem dX11_batch_96 : decode cX11_batch 96 = .ok (.aaload, 1) := by decide +kernel
theorem dX11_batch_97 : decode cX11_batch 97 = .ok (.bipush 13, 2) := by decide +kernel
theorem dX11_batch_99 : decode cX11_batch 99 = .ok (.iload 5, 2) := by decide +kernel
theorem dX11_batch_101 : decode cX11_batch 101 = .ok (.iastore, 1) := by decide +kernel
theorem dX11_batch_102 : decode cX11_batch 102 = .ok (.aload_n 0, 1) := by decide +kernel
theorem dX11_batch_103 : decode cX11_batch 103 = .ok (.dup, 1) := by decide +kernel
theorem dX11_batch_104 : decode cX11_batch 104 = .ok (.getfield 95, 3) := by decide +kernel
theorem dX11_batch_107 : decode cX11_batch 107 = .ok (.iload 4, 2) := by decide +kernel
theorem dX11_batch_109 : decode cX11_batch 109 = .ok (.aload_n 0, 1) := by decide +kernel
theorem dX11_batch_110 : decode cX11_batch 110 = .ok (.getfield 26, 3) := by decide +kernel
theorem dX11_batch_113 : decode cX11_batch 113 = .ok (.getfield 162, 3) := by decide +kernel
theorem dX11_batch_116 : decode cX11_batch 116 = .ok (.iload_n 2, 1) := by decide +kernel
theorem dX11_batch_117 : decode cX11_batch 117 = .ok (.bipush 100, 2) := by decide +kernel
theorem dX11_batch_119 : decode cX11_batch 119 = .ok (.idiv, 1) := by decide +kernel
theorem dX11_batch_120 : decode cX11_batch 120 = .ok (.iaload, 1) := by decide +kernel
theorem dX11_batch_121 : decode cX11_batch 121 = .ok (.imul, 1) := by decide +kernel
theorem dX11_batch_122 : decode cX11_batch 122 = .ok (.iadd, 1) := by decide +kernel
theorem dX11_batch_123 : decode cX11_batch 123 = .ok (.putfield 95, 3) := by decide +kernel
theorem dX11_batch_126 : decode cX11_batch 126 = .ok (.iload 6, 2) := by decide +kernel
theorem dX11_batch_128 : decode cX11_batch 128 = .ok (.ireturn, 1) := by decide +kernel
theorem dX11_ofBatch_0 : decode cX11_ofBatch 0 = .ok (.aload_n 0, 1) := by decide +kernel
theorem dX11_ofBatch_1 : decode cX11_ofBatch 1 = .ok (.getfield 33, 3) := by decide +kernel
theorem dX11_ofBatch_4 : decode cX11_ofBatch 4 = .ok (.iload_n 1, 1) := by decide +kernel
theorem dX11_ofBatch_5 : decode cX11_ofBatch 5 = .ok (.invokevirtual 165, 3) := by decide +kernel
theorem dX11_ofBatch_8 : decode cX11_ofBatch 8 = .ok (.ifCond .eq 13, 3) := by decide +kernel
theorem dX11_ofBatch_11 : decode cX11_ofBatch 11 = .ok (.iconst 0, 1) := by decide +kernel
theorem dX11_ofBatch_12 : decode cX11_ofBatch 12 = .ok (.iload_n 2, 1) := by decide +kernel
theorem dX11_ofBatch_13 : decode cX11_ofBatch 13 = .ok (.bipush 12, 2) := by decide +kernel
theorem dX11_ofBatch_15 : decode cX11_ofBatch 15 = .ok (.invokestatic 110, 3) := by decide +kernel
theorem dX11_ofBatch_18 : decode cX11_ofBatch 18 = .ok (.ifCond .ne 6, 3) := by decide +kernel
theorem dX11_ofBatch_21 : decode cX11_ofBatch 21 = .ok (.ldc 166, 2) := by decide +kernel
theorem dX11_ofBatch_23 : decode cX11_ofBatch 23 = .ok (.ireturn, 1) := by decide +kernel
theorem dX11_ofBatch_24 : decode cX11_ofBatch 24 = .ok (.aload_n 0, 1) := by decide +kernel
theorem dX11_ofBatch_25 : decode cX11_ofBatch 25 = .ok (.getfield 33, 3) := by decide +kernel
theorem dX11_ofBatch_28 : decode cX11_ofBatch 28 = .ok (.getfield 159, 3) := by decide +kernel
theorem dX11_ofBatch_31 : decode cX11_ofBatch 31 = .ok (.iload_n 1, 1) := by decide +kernel
theorem dX11_ofBatch_32 : decode cX11_ofBatch 32 = .ok (.aaload, 1) := by decide +kernel
theorem dX11_ofBatch_33 : decode cX11_ofBatch 33 = .ok (.iload_n 2, 1) := by decide +kernel
theorem dX11_ofBatch_34 : decode cX11_ofBatch 34 = .ok (.iaload, 1) := by decide +kernel
theorem dX11_ofBatch_35 : decode cX11_ofBatch 35 = .ok (.ireturn, 1) := by decide +kernel
theorem dX11_shelf_0 : decode cX11_shelf 0 = .ok (.aload_n 0, 1) := by decide +kernel
theorem dX11_shelf_1 : decode cX11_shelf 1 = .ok (.iload_n 1, 1) := by decide +kernel
theorem dX11_shelf_2 : decode cX11_shelf 2 = .ok (.iload_n 2, 1) := by decide +kernel
theorem dX11_shelf_3 : decode cX11_shelf 3 = .ok (.invokevirtual 142, 3) := by decide +kernel
theorem dX11_shelf_6 : decode cX11_shelf 6 = .ok (.ifCond .eq 12, 3) := by decide +kernel
theorem dX11_shelf_9 : decode cX11_shelf 9 = .ok (.iconst 0, 1) := by decide +kernel
theorem dX11_shelf_10 : decode cX11_shelf 10 = .ok (.iload_n 3, 1) := by decide +kernel
theorem dX11_shelf_11 : decode cX11_shelf 11 = .ok (.iconst 2, 1) := by decide +kernel
theorem dX11_shelf_12 : decode cX11_shelf 12 = .ok (.invokestatic 110, 3) := by decide +kernel
theorem dX11_shelf_15 : decode cX11_shelf 15 = .ok (.ifCond .ne 5, 3) := by decide +kernel
theorem dX11_shelf_18 : decode cX11_shelf 18 = .ok (.iconst (-1), 1) := by decide +kernel
theorem dX11_shelf_19 : decode cX11_shelf 19 = .ok (.ireturn, 1) := by decide +kernel
theorem dX11_shelf_20 : decode cX11_shelf 20 = .ok (.iload_n 3, 1) := by decide +kernel
theorem dX11_shelf_21 : decode cX11_shelf 21 = .ok (.ifCond .ne 13, 3) := by decide +kernel
theorem dX11_shelf_24 : decode cX11_shelf 24 = .ok (.aload_n 0, 1) := by decide +kernel
theorem dX11_shelf_25 : decode cX11_shelf 25 = .ok (.getfield 33, 3) := by decide +kernel
theorem dX11_shelf_28 : decode cX11_shelf 28 = .ok (.iload_n 1, 1) := by decide +kernel
theorem dX11_shelf_29 : decode cX11_shelf 29 = .ok (.iload_n 2, 1) := by decide +kernel
theorem dX11_shelf_30 : decode cX11_shelf 30 = .ok (.invokevirtual 167, 3) := by decide +kernel
theorem dX11_shelf_33 : decode cX11_shelf 33 = .ok (.ireturn, 1) := by decide +kernel
theorem dX11_shelf_34 : decode cX11_shelf 34 = .ok (.aload_n 0, 1) := by decide +kernel
theorem dX11_shelf_35 : decode cX11_shelf 35 = .ok (.iload_n 1, 1) := by decide +kernel
theorem dX11_shelf_36 : decode cX11_shelf 36 = .ok (.iload_n 2, 1) := by decide +kernel
theorem dX11_shelf_37 : decode cX11_shelf 37 = .ok (.iload_n 3, 1) := by decide +kernel
theorem dX11_shelf_38 : decode cX11_shelf 38 = .ok (.iconst 1, 1) := by decide +kernel
theorem dX11_shelf_39 : decode cX11_shelf 39 = .ok (.if_icmp .ne 7, 3) := by decide +kernel
theorem dX11_shelf_42 : decode cX11_shelf 42 = .ok (.iconst 0, 1) := by decide +kernel
theorem dX11_shelf_43 : decode cX11_shelf 43 = .ok (.goto 4, 3) := by decide +kernel
theorem dX11_shelf_46 : decode cX11_shelf 46 = .ok (.iconst 1, 1) := by decide +kernel
theorem dX11_shelf_47 : decode cX11_shelf 47 = .ok (.invokevirtual 170, 3) := by decide +kernel
theorem dX11_shelf_50 : decode cX11_shelf 50 = .ok (.ireturn, 1) := by decide +kernel
theorem dX11_feed_0 : decode cX11_feed 0 = .ok (.aload_n 0, 1) := by decide +kernel
theorem dX11_feed_1 : decode cX11_feed 1 = .ok (.getfield 40, 3) := by decide +kernel
theorem dX11_feed_4 : decode cX11_feed 4 = .ok (.getfield 174, 3) := by decide +kernel
theorem dX11_feed_7 : decode cX11_feed 7 = .ok (.sipush 140, 3) := by decide +kernel
theorem dX11_feed_10 : decode cX11_feed 10 = .ok (.if_icmp .le 6, 3) := by decide +kernel
theorem dX11_feed_13 : decode cX11_feed 13 = .ok (.bipush (-3), 2) := by decide +kernel
theorem dX11_feed_15 : decode cX11_feed 15 = .ok (.ireturn, 1) := by decide +kernel
theorem dX11_feed_16 : decode cX11_feed 16 = .ok (.aload_n 0, 1) := by decide +kernel
theorem dX11_feed_17 : decode cX11_feed 17 = .ok (.getfield 40, 3) := by decide +kernel
theorem dX11_feed_20 : decode cX11_feed 20 = .ok (.iload_n 1, 1) := by decide +kernel
theorem dX11_feed_21 : decode cX11_feed 21 = .ok (.invokevirtual 177, 3) := by decide +kernel
theorem dX11_feed_24 : decode cX11_feed 24 = .ok (.aload_n 0, 1) := by decide +kernel
theorem dX11_feed_25 : decode cX11_feed 25 = .ok (.getfield 40, 3) := by decide +kernel
theorem dX11_feed_28 : decode cX11_feed 28 = .ok (.iload_n 2, 1) := by decide +kernel
theorem dX11_feed_29 : decode cX11_feed 29 = .ok (.invokevirtual 177, 3) := by decide +kernel
theorem dX11_feed_32 : decode cX11_feed 32 = .ok (.aload_n 0, 1) := by decide +kernel
theorem dX11_feed_33 : decode cX11_feed 33 = .ok (.getfield 40, 3) := by decide +kernel
theorem dX11_feed_36 : decode cX11_feed 36 = .ok (.iload_n 3, 1) := by decide +kernel
theorem dX11_feed_37 : decode cX11_feed 37 = .ok (.invokevirtual 177, 3) := by decide +kernel
theorem dX11_feed_40 : decode cX11_feed 40 = .ok (.aload_n 0, 1) := by decide +kernel
theorem dX11_feed_41 : decode cX11_feed 41 = .ok (.getfield 40, 3) := by decide +kernel
theorem dX11_feed_44 : decode cX11_feed 44 = .ok (.iload 4, 2) := by decide +kernel
theorem dX11_feed_46 : decode cX11_feed 46 = .ok (.invokevirtual 177, 3) := by decide +kernel
theorem dX11_feed_49 : decode cX11_feed 49 = .ok (.aload_n 0, 1) := by decide +kernel
theorem dX11_feed_50 : decode cX11_feed 50 = .ok (.getfield 40, 3) := by decide +kernel
theorem dX11_feed_53 : decode cX11_feed 53 = .ok (.iload 5, 2) := by decide +kernel
theorem dX11_feed_55 : decode cX11_feed 55 = .ok (.invokevirtual 177, 3) := by decide +kernel
theorem dX11_feed_58 : decode cX11_feed 58 = .ok (.aload_n 0, 1) := by decide +kernel
theorem dX11_feed_59 : decode cX11_feed 59 = .ok (.getfield 40, 3) := by decide +kernel
theorem dX11_feed_62 : decode cX11_feed 62 = .ok (.getfield 174, 3) := by decide +kernel
theorem dX11_feed_65 : decode cX11_feed 65 = .ok (.ireturn, 1) := by decide +kernel
theorem dX11_end_0 : decode cX11_end 0 = .ok (.iconst 0, 1) := by decide +kernel
theorem dX11_end_1 : decode cX11_end 1 = .ok (.iload_n 1, 1) := by decide +kernel
theorem dX11_end_2 : decode cX11_end 2 = .ok (.aload_n 0, 1) := by decide +kernel
theorem dX11_end_3 : decode cX11_end 3 = .ok (.getfield 40, 3) := by decide +kernel
theorem dX11_end_6 : decode cX11_end 6 = .ok (.getfield 174, 3) := by decide +kernel
theorem dX11_end_9 : decode cX11_end 9 = .ok (.invokestatic 110, 3) := by decide +kernel
theorem dX11_end_12 : decode cX11_end 12 = .ok (.ifCond .ne 5, 3) := by decide +kernel
theorem dX11_end_15 : decode cX11_end 15 = .ok (.iconst (-1), 1) := by decide +kernel
theorem dX11_end_16 : decode cX11_end 16 = .ok (.ireturn, 1) := by decide +kernel
theorem dX11_end_17 : decode cX11_end 17 = .ok (.aload_n 0, 1) := by decide +kernel
theorem dX11_end_18 : decode cX11_end 18 = .ok (.getfield 40, 3) := by decide +kernel
theorem dX11_end_21 : decode cX11_end 21 = .ok (.iload_n 1, 1) := by decide +kernel
theorem dX11_end_22 : decode cX11_end 22 = .ok (.putfield 174, 3) := by decide +kernel
theorem dX11_end_25 : decode cX11_end 25 = .ok (.iload_n 1, 1) := by decide +kernel
theorem dX11_end_26 : decode cX11_end 26 = .ok (.ireturn, 1) := by decide +kernel
theorem dX11_law_0 : decode cX11_law 0 = .ok (.iconst 0, 1) := by decide +kernel
theorem dX11_law_1 : decode cX11_law 1 = .ok (.iload_n 1, 1) := by decide +kernel
theorem dX11_law_2 : decode cX11_law 2 = .ok (.iconst 1, 1) := by decide +kernel
theorem dX11_law_3 : decode cX11_law 3 = .ok (.invokestatic 110, 3) := by decide +kernel
theorem dX11_law_6 : decode cX11_law 6 = .ok (.ifCond .eq 13, 3) := by decide +kernel
theorem dX11_law_9 : decode cX11_law 9 = .ok (.iload_n 2, 1) := by decide +kernel
theorem dX11_law_10 : decode cX11_law 10 = .ok (.sipush 1500, 3) := by decide +kernel
theorem dX11_law_13 : decode cX11_law 13 = .ok (.invokestatic 99, 3) := by decide +kernel
theorem dX11_law_16 : decode cX11_law 16 = .ok (.ifCond .ne 5, 3) := by decide +kernel
theorem dX11_law_19 : decode cX11_law 19 = .ok (.iconst (-1), 1) := by decide +kernel
theorem dX11_law_20 : decode cX11_law 20 = .ok (.ireturn, 1) := by decide +kernel
theorem dX11_law_21 : decode cX11_law 21 = .ok (.aload_n 0, 1) := by decide +kernel
theorem dX11_law_22 : decode cX11_law 22 = .ok (.getfield 47, 3) := by decide +kernel
theorem dX11_law_25 : decode cX11_law 25 = .ok (.getfield 180, 3) := by decide +kernel
theorem dX11_law_28 : decode cX11_law 28 = .ok (.bipush 16, 2) := by decide +kernel
theorem dX11_law_30 : decode cX11_law 30 = .ok (.if_icmp .lt 6, 3) := by decide +kernel
theorem dX11_law_33 : decode cX11_law 33 = .ok (.bipush (-3), 2) := by decide +kernel
theorem dX11_law_35 : decode cX11_law 35 = .ok (.ireturn, 1) := by decide +kernel
theorem dX11_law_36 : decode cX11_law 36 = .ok (.aload_n 0, 1) := by decide +kernel
theorem dX11_law_37 : decode cX11_law 37 = .ok (.getfield 40, 3) := by decide +kernel
theorem dX11_law_40 : decode cX11_law 40 = .ok (.aload_n 0, 1) := by decide +kernel
theorem dX11_law_41 : decode cX11_law 41 = .ok (.getfield 47, 3) := by decide +kernel
theorem dX11_law_44 : decode cX11_law 44 = .ok (.getfield 183, 3) := by decide +kernel
theorem dX11_law_47 : decode cX11_law 47 = .ok (.aload_n 0, 1) := by decide +kernel
theorem dX11_law_48 : decode cX11_law 48 = .ok (.getfield 47, 3) := by decide +kernel
theorem dX11_law_51 : decode cX11_law 51 = .ok (.getfield 180, 3) := by decide +kernel
theorem dX11_law_54 : decode cX11_law 54 = .ok (.aaload, 1) := by decide +kernel
theorem dX11_law_55 : decode cX11_law 55 = .ok (.invokevirtual 186, 3) := by decide +kernel
theorem dX11_law_58 : decode cX11_law 58 = .ok (.istore_n 3, 1) := by decide +kernel
theorem dX11_law_59 : decode cX11_law 59 = .ok (.aload_n 0, 1) := by decide +kernel
theorem dX11_law_60 : decode cX11_law 60 = .ok (.getfield 40, 3) := by decide +kernel
theorem dX11_law_63 : decode cX11_law 63 = .ok (.iconst 0, 1) := by decide +kernel
theorem dX11_law_64 : decode cX11_law 64 = .ok (.putfield 174, 3) := by decide +kernel
theorem dX11_law_67 : decode cX11_law 67 = .ok (.iload_n 3, 1) := by decide +kernel
theorem dX11_law_68 : decode cX11_law 68 = .ok (.iconst (-1), 1) := by decide +kernel
theorem dX11_law_69 : decode cX11_law 69 = .ok (.if_icmp .eq 8, 3) := by decide +kernel
theorem dX11_law_72 : decode cX11_law 72 = .ok (.bipush (-100), 2) := by decide +kernel
theorem dX11_law_74 : decode cX11_law 74 = .ok (.iload_n 3, 1) := by decide +kernel
theorem dX11_law_75 : decode cX11_law 75 = .ok (.isub, 1) := by decide +kernel
theorem dX11_law_76 : decode cX11_law 76 = .ok (.ireturn, 1) := by decide +kernel
theorem dX11_law_77 : decode cX11_law 77 = .ok (.aload_n 0, 1) := by decide +kernel
theorem dX11_law_78 : decode cX11_law 78 = .ok (.getfield 47, 3) := by decide +kernel
theorem dX11_law_81 : decode cX11_law 81 = .ok (.aload_n 0, 1) := by decide +kernel
theorem dX11_law_82 : decode cX11_law 82 = .ok (.getfield 40, 3) := by decide +kernel
theorem dX11_law_85 : decode cX11_law 85 = .ok (.getfield 190, 3) := by decide +kernel
theorem dX11_law_88 : decode cX11_law 88 = .ok (.iload_n 1, 1) := by decide +kernel
theorem dX11_law_89 : decode cX11_law 89 = .ok (.iload_n 2, 1) := by decide +kernel
theorem dX11_law_90 : decode cX11_law 90 = .ok (.aload_n 0, 1) := by decide +kernel
theorem dX11_law_91 : decode cX11_law 91 = .ok (.getfield 10, 3) := by decide +kernel
theorem dX11_law_94 : decode cX11_law 94 = .ok (.invokevirtual 152, 3) := by decide +kernel
theorem dX11_law_97 : decode cX11_law 97 = .ok (.invokevirtual 193, 3) := by decide +kernel
theorem dX11_law_100 : decode cX11_law 100 = .ok (.ireturn, 1) := by decide +kernel
theorem dX11_inForce_0 : decode cX11_inForce 0 = .ok (.iconst 0, 1) := by decide +kernel
theorem dX11_inForce_1 : decode cX11_inForce 1 = .ok (.iload_n 1, 1) := by decide +kernel
theorem dX11_inForce_2 : decode cX11_inForce 2 = .ok (.iconst 1, 1) := by decide +kernel
theorem dX11_inForce_3 : decode cX11_inForce 3 = .ok (.invokestatic 110, 3) := by decide +kernel
theorem dX11_inForce_6 : decode cX11_inForce 6 = .ok (.ifCond .eq 23, 3) := by decide +kernel
theorem dX11_inForce_9 : decode cX11_inForce 9 = .ok (.iload_n 2, 1) := by decide +kernel
theorem dX11_inForce_10 : decode cX11_inForce 10 = .ok (.sipush 1500, 3) := by decide +kernel
theorem dX11_inForce_13 : decode cX11_inForce 13 = .ok (.invokestatic 99, 3) := by decide +kernel
theorem dX11_inForce_16 : decode cX11_inForce 16 = .ok (.ifCond .eq 13, 3) := by decide +kernel
theorem dX11_inForce_19 : decode cX11_inForce 19 = .ok (.iload_n 3, 1) := by decide +kernel
theorem dX11_inForce_20 : decode cX11_inForce 20 = .ok (.sipush 1500, 3) := by decide +kernel
theorem dX11_inForce_23 : decode cX11_inForce 23 = .ok (.invokestatic 99, 3) := by decide +kernel
theorem dX11_inForce_26 : decode cX11_inForce 26 = .ok (.ifCond .ne 5, 3) := by decide +kernel
theorem dX11_inForce_29 : decode cX11_inForce 29 = .ok (.iconst (-1), 1) := by decide +kernel
theorem dX11_inForce_30 : decode cX11_inForce 30 = .ok (.ireturn, 1) := by decide +kernel
theorem dX11_inForce_31 : decode cX11_inForce 31 = .ok (.aload_n 0, 1) := by decide +kernel
theorem dX11_inForce_32 : decode cX11_inForce 32 = .ok (.getfield 47, 3) := by decide +kernel
theorem dX11_inForce_35 : decode cX11_inForce 35 = .ok (.iload_n 1, 1) := by decide +kernel
theorem dX11_inForce_36 : decode cX11_inForce 36 = .ok (.iload_n 2, 1) := by decide +kernel
theorem dX11_inForce_37 : decode cX11_inForce 37 = .ok (.iload_n 3, 1) := by decide +kernel
theorem dX11_inForce_38 : decode cX11_inForce 38 = .ok (.invokevirtual 194, 3) := by decide +kernel
theorem dX11_inForce_41 : decode cX11_inForce 41 = .ok (.ireturn, 1) := by decide +kernel
theorem dX11_says_0 : decode cX11_says 0 = .ok (.iload_n 1, 1) := by decide +kernel
theorem dX11_says_1 : decode cX11_says 1 = .ok (.aload_n 0, 1) := by decide +kernel
theorem dX11_says_2 : decode cX11_says 2 = .ok (.getfield 47, 3) := by decide +kernel
theorem dX11_says_5 : decode cX11_says 5 = .ok (.getfield 180, 3) := by decide +kernel
theorem dX11_says_8 : decode cX11_says 8 = .ok (.invokestatic 99, 3) := by decide +kernel
theorem dX11_says_11 : decode cX11_says 11 = .ok (.ifCond .eq 14, 3) := by decide +kernel
theorem dX11_says_14 : decode cX11_says 14 = .ok (.aload_n 0, 1) := by decide +kernel
theorem dX11_says_15 : decode cX11_says 15 = .ok (.getfield 33, 3) := by decide +kernel
theorem dX11_says_18 : decode cX11_says 18 = .ok (.iload_n 2, 1) := by decide +kernel
theorem dX11_says_19 : decode cX11_says 19 = .ok (.invokevirtual 165, 3) := by decide +kernel
theorem dX11_says_22 : decode cX11_says 22 = .ok (.ifCond .ne 6, 3) := by decide +kernel
theorem dX11_says_25 : decode cX11_says 25 = .ok (.ldc 166, 2) := by decide +kernel
theorem dX11_says_27 : decode cX11_says 27 = .ok (.ireturn, 1) := by decide +kernel
theorem dX11_says_28 : decode cX11_says 28 = .ok (.aload_n 0, 1) := by decide +kernel
theorem dX11_says_29 : decode cX11_says 29 = .ok (.iload_n 1, 1) := by decide +kernel
theorem dX11_says_30 : decode cX11_says 30 = .ok (.iload_n 2, 1) := by decide +kernel
theorem dX11_says_31 : decode cX11_says 31 = .ok (.invokevirtual 197, 3) := by decide +kernel
theorem dX11_says_34 : decode cX11_says 34 = .ok (.ireturn, 1) := by decide +kernel
theorem dX11_buy_0 : decode cX11_buy 0 = .ok (.aload_n 0, 1) := by decide +kernel
theorem dX11_buy_1 : decode cX11_buy 1 = .ok (.iload_n 1, 1) := by decide +kernel
theorem dX11_buy_2 : decode cX11_buy 2 = .ok (.iload_n 2, 1) := by decide +kernel
theorem dX11_buy_3 : decode cX11_buy 3 = .ok (.invokevirtual 142, 3) := by decide +kernel
theorem dX11_buy_6 : decode cX11_buy 6 = .ok (.ifCond .eq 14, 3) := by decide +kernel
theorem dX11_buy_9 : decode cX11_buy 9 = .ok (.iconst 0, 1) := by decide +kernel
theorem dX11_buy_10 : decode cX11_buy 10 = .ok (.iload_n 3, 1) := by decide +kernel
theorem dX11_buy_11 : decode cX11_buy 11 = .ok (.sipush 999, 3) := by decide +kernel
theorem dX11_buy_14 : decode cX11_buy 14 = .ok (.invokestatic 110, 3) := by decide +kernel
theorem dX11_buy_17 : decode cX11_buy 17 = .ok (.ifCond .ne 5, 3) := by decide +kernel
theorem dX11_buy_20 : decode cX11_buy 20 = .ok (.iconst (-1), 1) := by decide +kernel
theorem dX11_buy_21 : decode cX11_buy 21 = .ok (.ireturn, 1) := by decide +kernel
theorem dX11_buy_22 : decode cX11_buy 22 = .ok (.aload_n 0, 1) := by decide +kernel
theorem dX11_buy_23 : decode cX11_buy 23 = .ok (.iload_n 1, 1) := by decide +kernel
theorem dX11_buy_24 : decode cX11_buy 24 = .ok (.iload_n 2, 1) := by decide +kernel
theorem dX11_buy_25 : decode cX11_buy 25 = .ok (.invokevirtual 200, 3) := by decide +kernel
theorem dX11_buy_28 : decode cX11_buy 28 = .ok (.ifCond .ne 6, 3) := by decide +kernel
theorem dX11_buy_31 : decode cX11_buy 31 = .ok (.bipush (-2), 2) := by decide +kernel
theorem dX11_buy_33 : decode cX11_buy 33 = .ok (.ireturn, 1) := by decide +kernel
theorem dX11_buy_34 : decode cX11_buy 34 = .ok (.aload_n 0, 1) := by decide +kernel
theorem dX11_buy_35 : decode cX11_buy 35 = .ok (.getfield 61, 3) := by decide +kernel
theorem dX11_buy_38 : decode cX11_buy 38 = .ok (.getfield 203, 3) := by decide +kernel
theorem dX11_buy_41 : decode cX11_buy 41 = .ok (.sipush 600, 3) := by decide +kernel
theorem dX11_buy_44 : decode cX11_buy 44 = .ok (.if_icmp .lt 6, 3) := by decide +kernel
theorem dX11_buy_47 : decode cX11_buy 47 = .ok (.bipush (-3), 2) := by decide +kernel
theorem dX11_buy_49 : decode cX11_buy 49 = .ok (.ireturn, 1) := by decide +kernel
theorem dX11_buy_50 : decode cX11_buy 50 = .ok (.aload_n 0, 1) := by decide +kernel
theorem dX11_buy_51 : decode cX11_buy 51 = .ok (.iload_n 1, 1) := by decide +kernel
theorem dX11_buy_52 : decode cX11_buy 52 = .ok (.iload_n 2, 1) := by decide +kernel
theorem dX11_buy_53 : decode cX11_buy 53 = .ok (.iconst 0, 1) := by decide +kernel
theorem dX11_buy_54 : decode cX11_buy 54 = .ok (.invokevirtual 170, 3) := by decide +kernel
theorem dX11_buy_57 : decode cX11_buy 57 = .ok (.pop, 1) := by decide +kernel
theorem dX11_buy_58 : decode cX11_buy 58 = .ok (.aload_n 0, 1) := by decide +kernel
theorem dX11_buy_59 : decode cX11_buy 59 = .ok (.getfield 33, 3) := by decide +kernel
theorem dX11_buy_62 : decode cX11_buy 62 = .ok (.iload_n 3, 1) := by decide +kernel
theorem dX11_buy_63 : decode cX11_buy 63 = .ok (.bipush 6, 2) := by decide +kernel
theorem dX11_buy_65 : decode cX11_buy 65 = .ok (.invokevirtual 204, 3) := by decide +kernel
theorem dX11_buy_68 : decode cX11_buy 68 = .ok (.istore 4, 2) := by decide +kernel
theorem dX11_buy_70 : decode cX11_buy 70 = .ok (.aload_n 0, 1) := by decide +kernel
theorem dX11_buy_71 : decode cX11_buy 71 = .ok (.getfield 19, 3) := by decide +kernel
theorem dX11_buy_74 : decode cX11_buy 74 = .ok (.getfield 145, 3) := by decide +kernel
theorem dX11_buy_77 : decode cX11_buy 77 = .ok (.iload_n 1, 1) := by decide +kernel
theorem dX11_buy_78 : decode cX11_buy 78 = .ok (.aaload, 1) := by decide +kernel
theorem dX11_buy_79 : decode cX11_buy 79 = .ok (.iload_n 2, 1) := by decide +kernel
theorem dX11_buy_80 : decode cX11_buy 80 = .ok (.iaload, 1) := by decide +kernel
theorem dX11_buy_81 : decode cX11_buy 81 = .ok (.istore 5, 2) := by decide +kernel
theorem dX11_buy_83 : decode cX11_buy 83 = .ok (.aload_n 0, 1) := by decide +kernel
theorem dX11_buy_84 : decode cX11_buy 84 = .ok (.getfield 19, 3) := by decide +kernel
theorem dX11_buy_87 : decode cX11_buy 87 = .ok (.getfield 207, 3) := by decide +kernel
theorem dX11_buy_90 : decode cX11_buy 90 = .ok (.iload_n 1, 1) := by decide +kernel
theorem dX11_buy_91 : decode cX11_buy 91 = .ok (.dup2, 1) := by decide +kernel
theorem dX11_buy_92 : decode cX11_buy 92 = .ok (.iaload, 1) := by decide +kernel
theorem dX11_buy_93 : decode cX11_buy 93 = .ok (.iload 4, 2) := by decide +kernel
theorem dX11_buy_95 : decode cX11_buy 95 = .ok (.aload_n 0, 1) := by decide +kernel
theorem dX11_buy_96 : decode cX11_buy 96 = .ok (.getfield 26, 3) := by decide +kernel
theorem dX11_buy_99 : decode cX11_buy 99 = .ok (.iload_n 2, 1) := by decide +kernel
theorem dX11_buy_100 : decode cX11_buy 100 = .ok (.iload 5, 2) := by decide +kernel
theorem dX11_buy_102 : decode cX11_buy 102 = .ok (.invokevirtual 121, 3) := by decide +kernel
theorem dX11_buy_105 : decode cX11_buy 105 = .ok (.imul, 1) := by decide +kernel
theorem dX11_buy_106 : decode cX11_buy 106 = .ok (.iadd, 1) := by decide +kernel
theorem dX11_buy_107 : decode cX11_buy 107 = .ok (.iastore, 1) := by decide +kernel
theorem dX11_buy_108 : decode cX11_buy 108 = .ok (.aload_n 0, 1) := by decide +kernel
theorem dX11_buy_109 : decode cX11_buy 109 = .ok (.getfield 61, 3) := by decide +kernel
theorem dX11_buy_112 : decode cX11_buy 112 = .ok (.iload_n 1, 1) := by decide +kernel
theorem dX11_buy_113 : decode cX11_buy 113 = .ok (.iload_n 2, 1) := by decide +kernel
theorem dX11_buy_114 : decode cX11_buy 114 = .ok (.aload_n 0, 1) := by decide +kernel
theorem dX11_buy_115 : decode cX11_buy 115 = .ok (.getfield 10, 3) := by decide +kernel
theorem dX11_buy_118 : decode cX11_buy 118 = .ok (.getfield 132, 3) := by decide +kernel
theorem dX11_buy_121 : decode cX11_buy 121 = .ok (.invokevirtual 210, 3) := by decide +kernel
theorem dX11_buy_124 : decode cX11_buy 124 = .ok (.istore 6, 2) := by decide +kernel
theorem dX11_buy_126 : decode cX11_buy 126 = .ok (.aload_n 0, 1) := by decide +kernel
theorem dX11_buy_127 : decode cX11_buy 127 = .ok (.getfield 61, 3) := by decide +kernel
theorem dX11_buy_130 : decode cX11_buy 130 = .ok (.getfield 212, 3) := by decide +kernel
theorem dX11_buy_133 : decode cX11_buy 133 = .ok (.iload 6, 2) := by decide +kernel
theorem dX11_buy_135 : decode cX11_buy 135 = .ok (.iload 5, 2) := by decide +kernel
theorem dX11_buy_137 : decode cX11_buy 137 = .ok (.iastore, 1) := by decide +kernel
theorem dX11_buy_138 : decode cX11_buy 138 = .ok (.aload_n 0, 1) := by decide +kernel
theorem dX11_buy_139 : decode cX11_buy 139 = .ok (.getfield 61, 3) := by decide +kernel
theorem dX11_buy_142 : decode cX11_buy 142 = .ok (.getfield 214, 3) := by decide +kernel
theorem dX11_buy_145 : decode cX11_buy 145 = .ok (.iload 6, 2) := by decide +kernel
theorem dX11_buy_147 : decode cX11_buy 147 = .ok (.aload_n 0, 1) := by decide +kernel
theorem dX11_buy_148 : decode cX11_buy 148 = .ok (.getfield 10, 3) := by decide +kernel
theorem dX11_buy_151 : decode cX11_buy 151 = .ok (.invokevirtual 215, 3) := by decide +kernel
theorem dX11_buy_154 : decode cX11_buy 154 = .ok (.iastore, 1) := by decide +kernel
theorem dX11_buy_155 : decode cX11_buy 155 = .ok (.aload_n 0, 1) := by decide +kernel
theorem dX11_buy_156 : decode cX11_buy 156 = .ok (.getfield 61, 3) := by decide +kernel
theorem dX11_buy_159 : decode cX11_buy 159 = .ok (.getfield 218, 3) := by decide +kernel
theorem dX11_buy_162 : decode cX11_buy 162 = .ok (.iload 6, 2) := by decide +kernel
theorem dX11_buy_164 : decode cX11_buy 164 = .ok (.iload_n 3, 1) := by decide +kernel
theorem dX11_buy_165 : decode cX11_buy 165 = .ok (.iastore, 1) := by decide +kernel
theorem dX11_buy_166 : decode cX11_buy 166 = .ok (.aload_n 0, 1) := by decide +kernel
theorem dX11_buy_167 : decode cX11_buy 167 = .ok (.getfield 61, 3) := by decide +kernel
theorem dX11_buy_170 : decode cX11_buy 170 = .ok (.getfield 221, 3) := by decide +kernel
theorem dX11_buy_173 : decode cX11_buy 173 = .ok (.iload 6, 2) := by decide +kernel
theorem dX11_buy_175 : decode cX11_buy 175 = .ok (.iload 4, 2) := by decide +kernel
theorem dX11_buy_177 : decode cX11_buy 177 = .ok (.iastore, 1) := by decide +kernel
theorem dX11_buy_178 : decode cX11_buy 178 = .ok (.iload 4, 2) := by decide +kernel
theorem dX11_buy_180 : decode cX11_buy 180 = .ok (.ireturn, 1) := by decide +kernel
theorem dX11_foretold_0 : decode cX11_foretold 0 = .ok (.aload_n 0, 1) := by decide +kernel
theorem dX11_foretold_1 : decode cX11_foretold 1 = .ok (.iload_n 1, 1) := by decide +kernel
theorem dX11_foretold_2 : decode cX11_foretold 2 = .ok (.iload_n 2, 1) := by decide +kernel
theorem dX11_foretold_3 : decode cX11_foretold 3 = .ok (.invokevirtual 142, 3) := by decide +kernel
theorem dX11_foretold_6 : decode cX11_foretold 6 = .ok (.ifCond .eq 18, 3) := by decide +kernel
theorem dX11_foretold_9 : decode cX11_foretold 9 = .ok (.iload_n 3, 1) := by decide +kernel
theorem dX11_foretold_10 : decode cX11_foretold 10 = .ok (.ifCond .lt 14, 3) := by decide +kernel
theorem dX11_foretold_13 : decode cX11_foretold 13 = .ok (.iload 4, 2) := by decide +kernel
theorem dX11_foretold_15 : decode cX11_foretold 15 = .ok (.sipush 1500, 3) := by decide +kernel
theorem dX11_foretold_18 : decode cX11_foretold 18 = .ok (.invokestatic 99, 3) := by decide +kernel
theorem dX11_foretold_21 : decode cX11_foretold 21 = .ok (.ifCond .ne 5, 3) := by decide +kernel
theorem dX11_foretold_24 : decode cX11_foretold 24 = .ok (.iconst (-1), 1) := by decide +kernel
theorem dX11_foretold_25 : decode cX11_foretold 25 = .ok (.ireturn, 1) := by decide +kernel
theorem dX11_foretold_26 : decode cX11_foretold 26 = .ok (.iload_n 3, 1) := by decide +kernel
theorem dX11_foretold_27 : decode cX11_foretold 27 = .ok (.bipush 100, 2) := by decide +kernel
theorem dX11_foretold_29 : decode cX11_foretold 29 = .ok (.idiv, 1) := by decide +kernel
theorem dX11_foretold_30 : decode cX11_foretold 30 = .ok (.istore 5, 2) := by decide +kernel
theorem dX11_foretold_32 : decode cX11_foretold 32 = .ok (.iload_n 3, 1) := by decide +kernel
theorem dX11_foretold_33 : decode cX11_foretold 33 = .ok (.bipush 10, 2) := by decide +kernel
theorem dX11_foretold_35 : decode cX11_foretold 35 = .ok (.idiv, 1) := by decide +kernel
theorem dX11_foretold_36 : decode cX11_foretold 36 = .ok (.bipush 10, 2) := by decide +kernel
theorem dX11_foretold_38 : decode cX11_foretold 38 = .ok (.irem, 1) := by decide +kernel
theorem dX11_foretold_39 : decode cX11_foretold 39 = .ok (.istore 6, 2) := by decide +kernel
theorem dX11_foretold_41 : decode cX11_foretold 41 = .ok (.iload_n 3, 1) := by decide +kernel
theorem dX11_foretold_42 : decode cX11_foretold 42 = .ok (.bipush 10, 2) := by decide +kernel
theorem dX11_foretold_44 : decode cX11_foretold 44 = .ok (.irem, 1) := by decide +kernel
theorem dX11_foretold_45 : decode cX11_foretold 45 = .ok (.istore 7, 2) := by decide +kernel
theorem dX11_foretold_47 : decode cX11_foretold 47 = .ok (.bipush 6, 2) := by decide +kernel
theorem dX11_foretold_49 : decode cX11_foretold 49 = .ok (.iload 5, 2) := by decide +kernel
theorem dX11_foretold_51 : decode cX11_foretold 51 = .ok (.bipush 19, 2) := by decide +kernel
theorem dX11_foretold_53 : decode cX11_foretold 53 = .ok (.invokestatic 110, 3) := by decide +kernel
theorem dX11_foretold_56 : decode cX11_foretold 56 = .ok (.ifCond .eq 21, 3) := by decide +kernel
theorem dX11_foretold_59 : decode cX11_foretold 59 = .ok (.iload 6, 2) := by decide +kernel
theorem dX11_foretold_61 : decode cX11_foretold 61 = .ok (.iconst 4, 1) := by decide +kernel
theorem dX11_foretold_62 : decode cX11_foretold 62 = .ok (.invokestatic 99, 3) := by decide +kernel
theorem dX11_foretold_65 : decode cX11_foretold 65 = .ok (.ifCond .eq 12, 3) := by decide +kernel
theorem dX11_foretold_68 : decode cX11_foretold 68 = .ok (.iload 7, 2) := by decide +kernel
theorem dX11_foretold_70 : decode cX11_foretold 70 = .ok (.iconst 3, 1) := by decide +kernel
theorem dX11_foretold_71 : decode cX11_foretold 71 = .ok (.invokestatic 99, 3) := by decide +kernel
theorem dX11_foretold_74 : decode cX11_foretold 74 = .ok (.ifCond .ne 5, 3) := by decide +kernel
theorem dX11_foretold_77 : decode cX11_foretold 77 = .ok (.iconst (-1), 1) := by decide +kernel
theorem dX11_foretold_78 : decode cX11_foretold 78 = .ok (.ireturn, 1) := by decide +kernel
theorem dX11_foretold_79 : decode cX11_foretold 79 = .ok (.aload_n 0, 1) := by decide +kernel
theorem dX11_foretold_80 : decode cX11_foretold 80 = .ok (.getfield 61, 3) := by decide +kernel
theorem dX11_foretold_83 : decode cX11_foretold 83 = .ok (.iload_n 1, 1) := by decide +kernel
theorem dX11_foretold_84 : decode cX11_foretold 84 = .ok (.iload_n 2, 1) := by decide +kernel
theorem dX11_foretold_85 : decode cX11_foretold 85 = .ok (.iload 5, 2) := by decide +kernel
theorem dX11_foretold_87 : decode cX11_foretold 87 = .ok (.iload 6, 2) := by decide +kernel
theorem dX11_foretold_89 : decode cX11_foretold 89 = .ok (.iload 7, 2) := by decide +kernel
theorem dX11_foretold_91 : decode cX11_foretold 91 = .ok (.iload 4, 2) := by decide +kernel
theorem dX11_foretold_93 : decode cX11_foretold 93 = .ok (.invokevirtual 224, 3) := by decide +kernel
theorem dX11_foretold_96 : decode cX11_foretold 96 = .ok (.ireturn, 1) := by decide +kernel
theorem dX11_plan_0 : decode cX11_plan 0 = .ok (.aload_n 0, 1) := by decide +kernel
theorem dX11_plan_1 : decode cX11_plan 1 = .ok (.iload_n 1, 1) := by decide +kernel
theorem dX11_plan_2 : decode cX11_plan 2 = .ok (.iload_n 2, 1) := by decide +kernel
theorem dX11_plan_3 : decode cX11_plan 3 = .ok (.invokevirtual 142, 3) := by decide +kernel
theorem dX11_plan_6 : decode cX11_plan 6 = .ok (.ifCond .eq 12, 3) := by decide +kernel
theorem dX11_plan_9 : decode cX11_plan 9 = .ok (.aload_n 0, 1) := by decide +kernel
theorem dX11_plan_10 : decode cX11_plan 10 = .ok (.iload_n 1, 1) := by decide +kernel
theorem dX11_plan_11 : decode cX11_plan 11 = .ok (.iload_n 2, 1) := by decide +kernel
theorem dX11_plan_12 : decode cX11_plan 12 = .ok (.invokevirtual 200, 3) := by decide +kernel
theorem dX11_plan_15 : decode cX11_plan 15 = .ok (.ifCond .ne 6, 3) := by decide +kernel
theorem dX11_plan_18 : decode cX11_plan 18 = .ok (.ldc 166, 2) := by decide +kernel
theorem dX11_plan_20 : decode cX11_plan 20 = .ok (.ireturn, 1) := by decide +kernel
theorem dX11_plan_21 : decode cX11_plan 21 = .ok (.aload_n 0, 1) := by decide +kernel
theorem dX11_plan_22 : decode cX11_plan 22 = .ok (.getfield 10, 3) := by decide +kernel
theorem dX11_plan_25 : decode cX11_plan 25 = .ok (.invokevirtual 215, 3) := by decide +kernel
theorem dX11_plan_28 : decode cX11_plan 28 = .ok (.istore_n 3, 1) := by decide +kernel
theorem dX11_plan_29 : decode cX11_plan 29 = .ok (.iconst 0, 1) := by decide +kernel
theorem dX11_plan_30 : decode cX11_plan 30 = .ok (.istore 4, 2) := by decide +kernel
theorem dX11_plan_32 : decode cX11_plan 32 = .ok (.iload 4, 2) := by decide +kernel
theorem dX11_plan_34 : decode cX11_plan 34 = .ok (.iconst 4, 1) := by decide +kernel
theorem dX11_plan_35 : decode cX11_plan 35 = .ok (.if_icmp .ge 82, 3) := by decide +kernel
theorem dX11_plan_38 : decode cX11_plan 38 = .ok (.aload_n 0, 1) := by decide +kernel
theorem dX11_plan_39 : decode cX11_plan 39 = .ok (.getfield 68, 3) := by decide +kernel
theorem dX11_plan_42 : decode cX11_plan 42 = .ok (.getfield 228, 3) := by decide +kernel
theorem dX11_plan_45 : decode cX11_plan 45 = .ok (.iload 4, 2) := by decide +kernel
theorem dX11_plan_47 : decode cX11_plan 47 = .ok (.aload_n 0, 1) := by decide +kernel
theorem dX11_plan_48 : decode cX11_plan 48 = .ok (.getfield 26, 3) := by decide +kernel
theorem dX11_plan_51 : decode cX11_plan 51 = .ok (.iload_n 2, 1) := by decide +kernel
theorem dX11_plan_52 : decode cX11_plan 52 = .ok (.iload 4, 2) := by decide +kernel
theorem dX11_plan_54 : decode cX11_plan 54 = .ok (.invokevirtual 121, 3) := by decide +kernel
theorem dX11_plan_57 : decode cX11_plan 57 = .ok (.iastore, 1) := by decide +kernel
theorem dX11_plan_58 : decode cX11_plan 58 = .ok (.iconst 0, 1) := by decide +kernel
theorem dX11_plan_59 : decode cX11_plan 59 = .ok (.istore 5, 2) := by decide +kernel
theorem dX11_plan_61 : decode cX11_plan 61 = .ok (.iload 5, 2) := by decide +kernel
theorem dX11_plan_63 : decode cX11_plan 63 = .ok (.bipush 14, 2) := by decide +kernel
theorem dX11_plan_65 : decode cX11_plan 65 = .ok (.if_icmp .ge 46, 3) := by decide +kernel
theorem dX11_plan_68 : decode cX11_plan 68 = .ok (.aload_n 0, 1) := by decide +kernel
theorem dX11_plan_69 : decode cX11_plan 69 = .ok (.getfield 68, 3) := by decide +kernel
theorem dX11_plan_72 : decode cX11_plan 72 = .ok (.getfield 231, 3) := by decide +kernel
theorem dX11_plan_75 : decode cX11_plan 75 = .ok (.iload 5, 2) := by decide +kernel
theorem dX11_plan_77 : decode cX11_plan 77 = .ok (.aaload, 1) := by decide +kernel
theorem dX11_plan_78 : decode cX11_plan 78 = .ok (.iload 4, 2) := by decide +kernel
theorem dX11_plan_80 : decode cX11_plan 80 = .ok (.aload_n 0, 1) := by decide +kernel
theorem dX11_plan_81 : decode cX11_plan 81 = .ok (.getfield 61, 3) := by decide +kernel
theorem dX11_plan_84 : decode cX11_plan 84 = .ok (.iload_n 1, 1) := by decide +kernel
theorem dX11_plan_85 : decode cX11_plan 85 = .ok (.iload_n 2, 1) := by decide +kernel
theorem dX11_plan_86 : decode cX11_plan 86 = .ok (.bipush 6, 2) := by decide +kernel
theorem dX11_plan_88 : decode cX11_plan 88 = .ok (.iload 5, 2) := by decide +kernel
theorem dX11_plan_90 : decode cX11_plan 90 = .ok (.iadd, 1) := by decide +kernel
theorem dX11_plan_91 : decode cX11_plan 91 = .ok (.iload 4, 2) := by decide +kernel
theorem dX11_plan_93 : decode cX11_plan 93 = .ok (.iload_n 3, 1) := by decide +kernel
theorem dX11_plan_94 : decode cX11_plan 94 = .ok (.aload_n 0, 1) := by decide +kernel
theorem dX11_plan_95 : decode cX11_plan 95 = .ok (.getfield 10, 3) := by decide +kernel
theorem dX11_plan_98 : decode cX11_plan 98 = .ok (.invokevirtual 152, 3) := by decide +kernel
theorem dX11_plan_101 : decode cX11_plan 101 = .ok (.invokevirtual 224, 3) := by decide +kernel
theorem dX11_plan_104 : decode cX11_plan 104 = .ok (.iastore, 1) := by decide +kernel
theorem dX11_plan_105 : decode cX11_plan 105 = .ok (.iinc 5 1, 3) := by decide +kernel
theorem dX11_plan_108 : decode cX11_plan 108 = .ok (.goto (-47), 3) := by decide +kernel
theorem dX11_plan_111 : decode cX11_plan 111 = .ok (.iinc 4 1, 3) := by decide +kernel
theorem dX11_plan_114 : decode cX11_plan 114 = .ok (.goto (-82), 3) := by decide +kernel
theorem dX11_plan_117 : decode cX11_plan 117 = .ok (.aload_n 0, 1) := by decide +kernel
theorem dX11_plan_118 : decode cX11_plan 118 = .ok (.iload_n 1, 1) := by decide +kernel
theorem dX11_plan_119 : decode cX11_plan 119 = .ok (.iload_n 2, 1) := by decide +kernel
theorem dX11_plan_120 : decode cX11_plan 120 = .ok (.iconst 0, 1) := by decide +kernel
theorem dX11_plan_121 : decode cX11_plan 121 = .ok (.invokevirtual 170, 3) := by decide +kernel
theorem dX11_plan_124 : decode cX11_plan 124 = .ok (.istore 4, 2) := by decide +kernel
theorem dX11_plan_126 : decode cX11_plan 126 = .ok (.aload_n 0, 1) := by decide +kernel
theorem dX11_plan_127 : decode cX11_plan 127 = .ok (.getfield 68, 3) := by decide +kernel
theorem dX11_plan_130 : decode cX11_plan 130 = .ok (.aload_n 0, 1) := by decide +kernel
theorem dX11_plan_131 : decode cX11_plan 131 = .ok (.getfield 10, 3) := by decide +kernel
theorem dX11_plan_134 : decode cX11_plan 134 = .ok (.invokevirtual 135, 3) := by decide +kernel
theorem dX11_plan_137 : decode cX11_plan 137 = .ok (.aload_n 0, 1) := by decide +kernel
theorem dX11_plan_138 : decode cX11_plan 138 = .ok (.getfield 19, 3) := by decide +kernel
theorem dX11_plan_141 : decode cX11_plan 141 = .ok (.getfield 145, 3) := by decide +kernel
theorem dX11_plan_144 : decode cX11_plan 144 = .ok (.iload_n 1, 1) := by decide +kernel
theorem dX11_plan_145 : decode cX11_plan 145 = .ok (.aaload, 1) := by decide +kernel
theorem dX11_plan_146 : decode cX11_plan 146 = .ok (.iload_n 2, 1) := by decide +kernel
theorem dX11_plan_147 : decode cX11_plan 147 = .ok (.iaload, 1) := by decide +kernel
theorem dX11_plan_148 : decode cX11_plan 148 = .ok (.iload 4, 2) := by decide +kernel
theorem dX11_plan_150 : decode cX11_plan 150 = .ok (.aload_n 0, 1) := by decide +kernel
theorem dX11_plan_151 : decode cX11_plan 151 = .ok (.getfield 26, 3) := by decide +kernel
theorem dX11_plan_154 : decode cX11_plan 154 = .ok (.getfield 125, 3) := by decide +kernel
theorem dX11_plan_157 : decode cX11_plan 157 = .ok (.iload_n 2, 1) := by decide +kernel
theorem dX11_plan_158 : decode cX11_plan 158 = .ok (.iaload, 1) := by decide +kernel
theorem dX11_plan_159 : decode cX11_plan 159 = .ok (.invokevirtual 233, 3) := by decide +kernel
theorem dX11_plan_162 : decode cX11_plan 162 = .ok (.ireturn, 1) := by decide +kernel
theorem dX11_planned_0 : decode cX11_planned 0 = .ok (.aload_n 0, 1) := by decide +kernel
theorem dX11_planned_1 : decode cX11_planned 1 = .ok (.getfield 68, 3) := by decide +kernel
theorem dX11_planned_4 : decode cX11_planned 4 = .ok (.getfield 236, 3) := by decide +kernel
theorem dX11_planned_7 : decode cX11_planned 7 = .ok (.ifCond .eq 19, 3) := by decide +kernel
theorem dX11_planned_10 : decode cX11_planned 10 = .ok (.aload_n 0, 1) := by decide +kernel
theorem dX11_planned_11 : decode cX11_planned 11 = .ok (.getfield 68, 3) := by decide +kernel
theorem dX11_planned_14 : decode cX11_planned 14 = .ok (.getfield 240, 3) := by decide +kernel
theorem dX11_planned_17 : decode cX11_planned 17 = .ok (.iload_n 1, 1) := by decide +kernel
theorem dX11_planned_18 : decode cX11_planned 18 = .ok (.bipush 19, 2) := by decide +kernel
theorem dX11_planned_20 : decode cX11_planned 20 = .ok (.invokestatic 110, 3) := by decide +kernel
theorem dX11_planned_23 : decode cX11_planned 23 = .ok (.ifCond .ne 5, 3) := by decide +kernel
theorem dX11_planned_26 : decode cX11_planned 26 = .ok (.iconst (-1), 1) := by decide +kernel
theorem dX11_planned_27 : decode cX11_planned 27 = .ok (.ireturn, 1) := by decide +kernel
theorem dX11_planned_28 : decode cX11_planned 28 = .ok (.aload_n 0, 1) := by decide +kernel
theorem dX11_planned_29 : decode cX11_planned 29 = .ok (.getfield 68, 3) := by decide +kernel
theorem dX11_planned_32 : decode cX11_planned 32 = .ok (.getfield 243, 3) := by decide +kernel
theorem dX11_planned_35 : decode cX11_planned 35 = .ok (.iload_n 1, 1) := by decide +kernel
theorem dX11_planned_36 : decode cX11_planned 36 = .ok (.bipush 6, 2) := by decide +kernel
theorem dX11_planned_38 : decode cX11_planned 38 = .ok (.isub, 1) := by decide +kernel
theorem dX11_planned_39 : decode cX11_planned 39 = .ok (.iaload, 1) := by decide +kernel
theorem dX11_planned_40 : decode cX11_planned 40 = .ok (.ireturn, 1) := by decide +kernel
theorem dX11_left_0 : decode cX11_left 0 = .ok (.aload_n 0, 1) := by decide +kernel
theorem dX11_left_1 : decode cX11_left 1 = .ok (.getfield 68, 3) := by decide +kernel
theorem dX11_left_4 : decode cX11_left 4 = .ok (.getfield 236, 3) := by decide +kernel
theorem dX11_left_7 : decode cX11_left 7 = .ok (.ifCond .eq 13, 3) := by decide +kernel
theorem dX11_left_10 : decode cX11_left 10 = .ok (.aload_n 0, 1) := by decide +kernel
theorem dX11_left_11 : decode cX11_left 11 = .ok (.getfield 68, 3) := by decide +kernel
theorem dX11_left_14 : decode cX11_left 14 = .ok (.getfield 246, 3) := by decide +kernel
theorem dX11_left_17 : decode cX11_left 17 = .ok (.goto 4, 3) := by decide +kernel
theorem dX11_left_20 : decode cX11_left 20 = .ok (.iconst (-1), 1) := by decide +kernel
theorem dX11_left_21 : decode cX11_left 21 = .ok (.ireturn, 1) := by decide +kernel
theorem dX11_order_0 : decode cX11_order 0 = .ok (.aload_n 0, 1) := by decide +kernel
theorem dX11_order_1 : decode cX11_order 1 = .ok (.iload_n 1, 1) := by decide +kernel
theorem dX11_order_2 : decode cX11_order 2 = .ok (.iload_n 2, 1) := by decide +kernel
theorem dX11_order_3 : decode cX11_order 3 = .ok (.iload_n 3, 1) := by decide +kernel
theorem dX11_order_4 : decode cX11_order 4 = .ok (.iload 4, 2) := by decide +kernel
theorem dX11_order_6 : decode cX11_order 6 = .ok (.invokevirtual 249, 3) := by decide +kernel
theorem dX11_order_9 : decode cX11_order 9 = .ok (.ifCond .ne 5, 3) := by decide +kernel
theorem dX11_order_12 : decode cX11_order 12 = .ok (.iconst (-1), 1) := by decide +kernel
theorem dX11_order_13 : decode cX11_order 13 = .ok (.ireturn, 1) := by decide +kernel
theorem dX11_order_14 : decode cX11_order 14 = .ok (.aload_n 0, 1) := by decide +kernel
theorem dX11_order_15 : decode cX11_order 15 = .ok (.getfield 61, 3) := by decide +kernel
theorem dX11_order_18 : decode cX11_order 18 = .ok (.iload_n 1, 1) := by decide +kernel
theorem dX11_order_19 : decode cX11_order 19 = .ok (.iload_n 2, 1) := by decide +kernel
theorem dX11_order_20 : decode cX11_order 20 = .ok (.iload_n 3, 1) := by decide +kernel
theorem dX11_order_21 : decode cX11_order 21 = .ok (.bipush 10, 2) := by decide +kernel
theorem dX11_order_23 : decode cX11_order 23 = .ok (.idiv, 1) := by decide +kernel
theorem dX11_order_24 : decode cX11_order 24 = .ok (.iload_n 3, 1) := by decide +kernel
theorem dX11_order_25 : decode cX11_order 25 = .ok (.bipush 10, 2) := by decide +kernel
theorem dX11_order_27 : decode cX11_order 27 = .ok (.irem, 1) := by decide +kernel
theorem dX11_order_28 : decode cX11_order 28 = .ok (.iload 4, 2) := by decide +kernel
theorem dX11_order_30 : decode cX11_order 30 = .ok (.invokevirtual 253, 3) := by decide +kernel
theorem dX11_order_33 : decode cX11_order 33 = .ok (.aload_n 0, 1) := by decide +kernel
theorem dX11_order_34 : decode cX11_order 34 = .ok (.getfield 61, 3) := by decide +kernel
theorem dX11_order_37 : decode cX11_order 37 = .ok (.aload_n 0, 1) := by decide +kernel
theorem dX11_order_38 : decode cX11_order 38 = .ok (.getfield 26, 3) := by decide +kernel
theorem dX11_order_41 : decode cX11_order 41 = .ok (.iload_n 2, 1) := by decide +kernel
theorem dX11_order_42 : decode cX11_order 42 = .ok (.invokevirtual 257, 3) := by decide +kernel
theorem dX11_order_45 : decode cX11_order 45 = .ok (.aload_n 0, 1) := by decide +kernel
theorem dX11_order_46 : decode cX11_order 46 = .ok (.getfield 26, 3) := by decide +kernel
theorem dX11_order_49 : decode cX11_order 49 = .ok (.iload_n 2, 1) := by decide +kernel
theorem dX11_order_50 : decode cX11_order 50 = .ok (.invokevirtual 260, 3) := by decide +kernel
theorem dX11_order_53 : decode cX11_order 53 = .ok (.invokevirtual 263, 3) := by decide +kernel
theorem dX11_order_56 : decode cX11_order 56 = .ok (.ireturn, 1) := by decide +kernel
theorem dX11_loss_0 : decode cX11_loss 0 = .ok (.aload_n 0, 1) := by decide +kernel
theorem dX11_loss_1 : decode cX11_loss 1 = .ok (.iload_n 1, 1) := by decide +kernel
theorem dX11_loss_2 : decode cX11_loss 2 = .ok (.iload_n 2, 1) := by decide +kernel
theorem dX11_loss_3 : decode cX11_loss 3 = .ok (.iload_n 3, 1) := by decide +kernel
theorem dX11_loss_4 : decode cX11_loss 4 = .ok (.iload 4, 2) := by decide +kernel
theorem dX11_loss_6 : decode cX11_loss 6 = .ok (.invokevirtual 249, 3) := by decide +kernel
theorem dX11_loss_9 : decode cX11_loss 9 = .ok (.ifCond .eq 15, 3) := by decide +kernel
theorem dX11_loss_12 : decode cX11_loss 12 = .ok (.iconst 0, 1) := by decide +kernel
theorem dX11_loss_13 : decode cX11_loss 13 = .ok (.iload 5, 2) := by decide +kernel
theorem dX11_loss_15 : decode cX11_loss 15 = .ok (.sipush 999, 3) := by decide +kernel
theorem dX11_loss_18 : decode cX11_loss 18 = .ok (.invokestatic 110, 3) := by decide +kernel
theorem dX11_loss_21 : decode cX11_loss 21 = .ok (.ifCond .ne 7, 3) := by decide +kernel
theorem dX11_loss_24 : decode cX11_loss 24 = .ok (.ldc2_w 266, 3) := by decide +kernel
theorem dX11_loss_27 : decode cX11_loss 27 = .ok (.lreturn, 1) := by decide +kernel
theorem dX11_loss_28 : decode cX11_loss 28 = .ok (.aload_n 0, 1) := by decide +kernel
theorem dX11_loss_29 : decode cX11_loss 29 = .ok (.getfield 61, 3) := by decide +kernel
theorem dX11_loss_32 : decode cX11_loss 32 = .ok (.iload_n 1, 1) := by decide +kernel
theorem dX11_loss_33 : decode cX11_loss 33 = .ok (.iload_n 2, 1) := by decide +kernel
theorem dX11_loss_34 : decode cX11_loss 34 = .ok (.iload_n 3, 1) := by decide +kernel
theorem dX11_loss_35 : decode cX11_loss 35 = .ok (.bipush 10, 2) := by decide +kernel
theorem dX11_loss_37 : decode cX11_loss 37 = .ok (.idiv, 1) := by decide +kernel
theorem dX11_loss_38 : decode cX11_loss 38 = .ok (.iload_n 3, 1) := by decide +kernel
theorem dX11_loss_39 : decode cX11_loss 39 = .ok (.bipush 10, 2) := by decide +kernel
theorem dX11_loss_41 : decode cX11_loss 41 = .ok (.irem, 1) := by decide +kernel
theorem dX11_loss_42 : decode cX11_loss 42 = .ok (.iload 4, 2) := by decide +kernel
theorem dX11_loss_44 : decode cX11_loss 44 = .ok (.invokevirtual 253, 3) := by decide +kernel
theorem dX11_loss_47 : decode cX11_loss 47 = .ok (.aload_n 0, 1) := by decide +kernel
theorem dX11_loss_48 : decode cX11_loss 48 = .ok (.getfield 61, 3) := by decide +kernel
theorem dX11_loss_51 : decode cX11_loss 51 = .ok (.iload 5, 2) := by decide +kernel
theorem dX11_loss_53 : decode cX11_loss 53 = .ok (.aload_n 0, 1) := by decide +kernel
theorem dX11_loss_54 : decode cX11_loss 54 = .ok (.getfield 26, 3) := by decide +kernel
theorem dX11_loss_57 : decode cX11_loss 57 = .ok (.iload_n 2, 1) := by decide +kernel
theorem dX11_loss_58 : decode cX11_loss 58 = .ok (.invokevirtual 257, 3) := by decide +kernel
theorem dX11_loss_61 : decode cX11_loss 61 = .ok (.aload_n 0, 1) := by decide +kernel
theorem dX11_loss_62 : decode cX11_loss 62 = .ok (.getfield 26, 3) := by decide +kernel
theorem dX11_loss_65 : decode cX11_loss 65 = .ok (.iload_n 2, 1) := by decide +kernel
theorem dX11_loss_66 : decode cX11_loss 66 = .ok (.invokevirtual 260, 3) := by decide +kernel
theorem dX11_loss_69 : decode cX11_loss 69 = .ok (.invokevirtual 268, 3) := by decide +kernel
theorem dX11_loss_72 : decode cX11_loss 72 = .ok (.lreturn, 1) := by decide +kernel
theorem dX11_crates_0 : decode cX11_crates 0 = .ok (.aload_n 0, 1) := by decide +kernel
theorem dX11_crates_1 : decode cX11_crates 1 = .ok (.getfield 19, 3) := by decide +kernel
theorem dX11_crates_4 : decode cX11_crates 4 = .ok (.getfield 103, 3) := by decide +kernel
theorem dX11_crates_7 : decode cX11_crates 7 = .ok (.iload_n 1, 1) := by decide +kernel
theorem dX11_crates_8 : decode cX11_crates 8 = .ok (.invokevirtual 272, 3) := by decide +kernel
theorem dX11_crates_11 : decode cX11_crates 11 = .ok (.ifCond .eq 21, 3) := by decide +kernel
theorem dX11_crates_14 : decode cX11_crates 14 = .ok (.iconst 0, 1) := by decide +kernel
theorem dX11_crates_15 : decode cX11_crates 15 = .ok (.iload_n 2, 1) := by decide +kernel
theorem dX11_crates_16 : decode cX11_crates 16 = .ok (.iconst 1, 1) := by decide +kernel
theorem dX11_crates_17 : decode cX11_crates 17 = .ok (.invokestatic 110, 3) := by decide +kernel
theorem dX11_crates_20 : decode cX11_crates 20 = .ok (.ifCond .eq 12, 3) := by decide +kernel
theorem dX11_crates_23 : decode cX11_crates 23 = .ok (.iconst 0, 1) := by decide +kernel
theorem dX11_crates_24 : decode cX11_crates 24 = .ok (.iload_n 3, 1) := by decide +kernel
theorem dX11_crates_25 : decode cX11_crates 25 = .ok (.iconst 3, 1) := by decide +kernel
theorem dX11_crates_26 : decode cX11_crates 26 = .ok (.invokestatic 110, 3) := by decide +kernel
theorem dX11_crates_29 : decode cX11_crates 29 = .ok (.ifCond .ne 5, 3) := by decide +kernel
theorem dX11_crates_32 : decode cX11_crates 32 = .ok (.iconst (-1), 1) := by decide +kernel
theorem dX11_crates_33 : decode cX11_crates 33 = .ok (.ireturn, 1) := by decide +kernel
theorem dX11_crates_34 : decode cX11_crates 34 = .ok (.iload_n 2, 1) := by decide +kernel
theorem dX11_crates_35 : decode cX11_crates 35 = .ok (.ifCond .ne 13, 3) := by decide +kernel
theorem dX11_crates_38 : decode cX11_crates 38 = .ok (.aload_n 0, 1) := by decide +kernel
theorem dX11_crates_39 : decode cX11_crates 39 = .ok (.getfield 75, 3) := by decide +kernel
theorem dX11_crates_42 : decode cX11_crates 42 = .ok (.getfield 273, 3) := by decide +kernel
theorem dX11_crates_45 : decode cX11_crates 45 = .ok (.goto 10, 3) := by decide +kernel
theorem dX11_crates_48 : decode cX11_crates 48 = .ok (.aload_n 0, 1) := by decide +kernel
theorem dX11_crates_49 : decode cX11_crates 49 = .ok (.getfield 75, 3) := by decide +kernel
theorem dX11_crates_52 : decode cX11_crates 52 = .ok (.getfield 276, 3) := by decide +kernel
theorem dX11_crates_55 : decode cX11_crates 55 = .ok (.astore 4, 2) := by decide +kernel
theorem dX11_crates_57 : decode cX11_crates 57 = .ok (.aload 4, 2) := by decide +kernel
theorem dX11_crates_59 : decode cX11_crates 59 = .ok (.iload_n 1, 1) := by decide +kernel
theorem dX11_crates_60 : decode cX11_crates 60 = .ok (.iaload, 1) := by decide +kernel
theorem dX11_crates_61 : decode cX11_crates 61 = .ok (.istore 5, 2) := by decide +kernel
theorem dX11_crates_63 : decode cX11_crates 63 = .ok (.aload 4, 2) := by decide +kernel
theorem dX11_crates_65 : decode cX11_crates 65 = .ok (.iload_n 1, 1) := by decide +kernel
theorem dX11_crates_66 : decode cX11_crates 66 = .ok (.iload_n 3, 1) := by decide +kernel
theorem dX11_crates_67 : decode cX11_crates 67 = .ok (.iastore, 1) := by decide +kernel
theorem dX11_crates_68 : decode cX11_crates 68 = .ok (.iload 5, 2) := by decide +kernel
theorem dX11_crates_70 : decode cX11_crates 70 = .ok (.ireturn, 1) := by decide +kernel
theorem dX11_ways_0 : decode cX11_ways 0 = .ok (.aload_n 0, 1) := by decide +kernel
theorem dX11_ways_1 : decode cX11_ways 1 = .ok (.getfield 75, 3) := by decide +kernel
theorem dX11_ways_4 : decode cX11_ways 4 = .ok (.invokevirtual 279, 3) := by decide +kernel
theorem dX11_ways_7 : decode cX11_ways 7 = .ok (.bipush 6, 2) := by decide +kernel
theorem dX11_ways_9 : decode cX11_ways 9 = .ok (.if_icmp .le 6, 3) := by decide +kernel
theorem dX11_ways_12 : decode cX11_ways 12 = .ok (.bipush (-4), 2) := by decide +kernel
theorem dX11_ways_14 : decode cX11_ways 14 = .ok (.ireturn, 1) := by decide +kernel
theorem dX11_ways_15 : decode cX11_ways 15 = .ok (.aload_n 0, 1) := by decide +kernel
theorem dX11_ways_16 : decode cX11_ways 16 = .ok (.getfield 75, 3) := by decide +kernel
theorem dX11_ways_19 : decode cX11_ways 19 = .ok (.aload_n 0, 1) := by decide +kernel
theorem dX11_ways_20 : decode cX11_ways 20 = .ok (.getfield 19, 3) := by decide +kernel
theorem dX11_ways_23 : decode cX11_ways 23 = .ok (.getfield 103, 3) := by decide +kernel
theorem dX11_ways_26 : decode cX11_ways 26 = .ok (.invokevirtual 282, 3) := by decide +kernel
theorem dX11_ways_29 : decode cX11_ways 29 = .ok (.ireturn, 1) := by decide +kernel
theorem dX11_comes_0 : decode cX11_comes 0 = .ok (.iload_n 1, 1) := by decide +kernel
theorem dX11_comes_1 : decode cX11_comes 1 = .ok (.aload_n 0, 1) := by decide +kernel
theorem dX11_comes_2 : decode cX11_comes 2 = .ok (.getfield 75, 3) := by decide +kernel
theorem dX11_comes_5 : decode cX11_comes 5 = .ok (.getfield 285, 3) := by decide +kernel
theorem dX11_comes_8 : decode cX11_comes 8 = .ok (.invokestatic 99, 3) := by decide +kernel
theorem dX11_comes_11 : decode cX11_comes 11 = .ok (.ifCond .ne 5, 3) := by decide +kernel
theorem dX11_comes_14 : decode cX11_comes 14 = .ok (.iconst (-1), 1) := by decide +kernel
theorem dX11_comes_15 : decode cX11_comes 15 = .ok (.ireturn, 1) := by decide +kernel
theorem dX11_comes_16 : decode cX11_comes 16 = .ok (.aload_n 0, 1) := by decide +kernel
theorem dX11_comes_17 : decode cX11_comes 17 = .ok (.getfield 75, 3) := by decide +kernel
theorem dX11_comes_20 : decode cX11_comes 20 = .ok (.getfield 286, 3) := by decide +kernel
theorem dX11_comes_23 : decode cX11_comes 23 = .ok (.iload_n 1, 1) := by decide +kernel
theorem dX11_comes_24 : decode cX11_comes 24 = .ok (.iaload, 1) := by decide +kernel
theorem dX11_comes_25 : decode cX11_comes 25 = .ok (.bipush 15, 2) := by decide +kernel
theorem dX11_comes_27 : decode cX11_comes 27 = .ok (.if_icmp .ne 8, 3) := by decide +kernel
theorem dX11_comes_30 : decode cX11_comes 30 = .ok (.bipush (-2), 2) := by decide +kernel
theorem dX11_comes_32 : decode cX11_comes 32 = .ok (.goto 12, 3) := by decide +kernel
theorem dX11_comes_35 : decode cX11_comes 35 = .ok (.aload_n 0, 1) := by decide +kernel
theorem dX11_comes_36 : decode cX11_comes 36 = .ok (.getfield 75, 3) := by decide +kernel
theorem dX11_comes_39 : decode cX11_comes 39 = .ok (.getfield 286, 3) := by decide +kernel
theorem dX11_comes_42 : decode cX11_comes 42 = .ok (.iload_n 1, 1) := by decide +kernel
theorem dX11_comes_43 : decode cX11_comes 43 = .ok (.iaload, 1) := by decide +kernel
theorem dX11_comes_44 : decode cX11_comes 44 = .ok (.ireturn, 1) := by decide +kernel
theorem dX11_move_0 : decode cX11_move 0 = .ok (.aload_n 0, 1) := by decide +kernel
theorem dX11_move_1 : decode cX11_move 1 = .ok (.iload_n 1, 1) := by decide +kernel
theorem dX11_move_2 : decode cX11_move 2 = .ok (.iload_n 3, 1) := by decide +kernel
theorem dX11_move_3 : decode cX11_move 3 = .ok (.invokevirtual 142, 3) := by decide +kernel
theorem dX11_move_6 : decode cX11_move 6 = .ok (.ifCond .eq 22, 3) := by decide +kernel
theorem dX11_move_9 : decode cX11_move 9 = .ok (.aload_n 0, 1) := by decide +kernel
theorem dX11_move_10 : decode cX11_move 10 = .ok (.getfield 19, 3) := by decide +kernel
theorem dX11_move_13 : decode cX11_move 13 = .ok (.getfield 103, 3) := by decide +kernel
theorem dX11_move_16 : decode cX11_move 16 = .ok (.iload_n 2, 1) := by decide +kernel
theorem dX11_move_17 : decode cX11_move 17 = .ok (.invokevirtual 272, 3) := by decide +kernel
theorem dX11_move_20 : decode cX11_move 20 = .ok (.ifCond .eq 8, 3) := by decide +kernel
theorem dX11_move_23 : decode cX11_move 23 = .ok (.iload_n 1, 1) := by decide +kernel
theorem dX11_move_24 : decode cX11_move 24 = .ok (.iload_n 2, 1) := by decide +kernel
theorem dX11_move_25 : decode cX11_move 25 = .ok (.if_icmp .ne 5, 3) := by decide +kernel
theorem dX11_move_28 : decode cX11_move 28 = .ok (.iconst (-1), 1) := by decide +kernel
theorem dX11_move_29 : decode cX11_move 29 = .ok (.ireturn, 1) := by decide +kernel
theorem dX11_move_30 : decode cX11_move 30 = .ok (.iconst 1, 1) := by decide +kernel
theorem dX11_move_31 : decode cX11_move 31 = .ok (.iload 4, 2) := by decide +kernel
theorem dX11_move_33 : decode cX11_move 33 = .ok (.sipush 999, 3) := by decide +kernel
theorem dX11_move_36 : decode cX11_move 36 = .ok (.invokestatic 110, 3) := by decide +kernel
theorem dX11_move_39 : decode cX11_move 39 = .ok (.ifCond .ne 5, 3) := by decide +kernel
theorem dX11_move_42 : decode cX11_move 42 = .ok (.iconst (-1), 1) := by decide +kernel
theorem dX11_move_43 : decode cX11_move 43 = .ok (.ireturn, 1) := by decide +kernel
theorem dX11_move_44 : decode cX11_move 44 = .ok (.aload_n 0, 1) := by decide +kernel
theorem dX11_move_45 : decode cX11_move 45 = .ok (.iload_n 1, 1) := by decide +kernel
theorem dX11_move_46 : decode cX11_move 46 = .ok (.iload_n 3, 1) := by decide +kernel
theorem dX11_move_47 : decode cX11_move 47 = .ok (.iconst 0, 1) := by decide +kernel
theorem dX11_move_48 : decode cX11_move 48 = .ok (.invokevirtual 170, 3) := by decide +kernel
theorem dX11_move_51 : decode cX11_move 51 = .ok (.ifCond .ne 6, 3) := by decide +kernel
theorem dX11_move_54 : decode cX11_move 54 = .ok (.bipush (-2), 2) := by decide +kernel
theorem dX11_move_56 : decode cX11_move 56 = .ok (.ireturn, 1) := by decide +kernel
theorem dX11_move_57 : decode cX11_move 57 = .ok (.aload_n 0, 1) := by decide +kernel
theorem dX11_move_58 : decode cX11_move 58 = .ok (.getfield 33, 3) := by decide +kernel
theorem dX11_move_61 : decode cX11_move 61 = .ok (.iload 4, 2) := by decide +kernel
theorem dX11_move_63 : decode cX11_move 63 = .ok (.invokevirtual 288, 3) := by decide +kernel
theorem dX11_move_66 : decode cX11_move 66 = .ok (.aload_n 0, 1) := by decide +kernel
theorem dX11_move_67 : decode cX11_move 67 = .ok (.getfield 33, 3) := by decide +kernel
theorem dX11_move_70 : decode cX11_move 70 = .ok (.invokevirtual 155, 3) := by decide +kernel
theorem dX11_move_73 : decode cX11_move 73 = .ok (.if_icmp .le 6, 3) := by decide +kernel
theorem dX11_move_76 : decode cX11_move 76 = .ok (.bipush (-3), 2) := by decide +kernel
theorem dX11_move_78 : decode cX11_move 78 = .ok (.ireturn, 1) := by decide +kernel
theorem dX11_move_79 : decode cX11_move 79 = .ok (.aload_n 0, 1) := by decide +kernel
theorem dX11_move_80 : decode cX11_move 80 = .ok (.getfield 33, 3) := by decide +kernel
theorem dX11_move_83 : decode cX11_move 83 = .ok (.iload 4, 2) := by decide +kernel
theorem dX11_move_85 : decode cX11_move 85 = .ok (.iload_n 2, 1) := by decide +kernel
theorem dX11_move_86 : decode cX11_move 86 = .ok (.invokevirtual 291, 3) := by decide +kernel
theorem dX11_move_89 : decode cX11_move 89 = .ok (.ireturn, 1) := by decide +kernel
theorem dX11_drawn_0 : decode cX11_drawn 0 = .ok (.aload_n 0, 1) := by decide +kernel
theorem dX11_drawn_1 : decode cX11_drawn 1 = .ok (.getfield 19, 3) := by decide +kernel
theorem dX11_drawn_4 : decode cX11_drawn 4 = .ok (.getfield 103, 3) := by decide +kernel
theorem dX11_drawn_7 : decode cX11_drawn 7 = .ok (.iload_n 1, 1) := by decide +kernel
theorem dX11_drawn_8 : decode cX11_drawn 8 = .ok (.invokevirtual 272, 3) := by decide +kernel
theorem dX11_drawn_11 : decode cX11_drawn 11 = .ok (.ifCond .eq 12, 3) := by decide +kernel
theorem dX11_drawn_14 : decode cX11_drawn 14 = .ok (.iconst (-1), 1) := by decide +kernel
theorem dX11_drawn_15 : decode cX11_drawn 15 = .ok (.iload_n 2, 1) := by decide +kernel
theorem dX11_drawn_16 : decode cX11_drawn 16 = .ok (.iconst 1, 1) := by decide +kernel
theorem dX11_drawn_17 : decode cX11_drawn 17 = .ok (.invokestatic 110, 3) := by decide +kernel
theorem dX11_drawn_20 : decode cX11_drawn 20 = .ok (.ifCond .ne 6, 3) := by decide +kernel
theorem dX11_drawn_23 : decode cX11_drawn 23 = .ok (.bipush (-2), 2) := by decide +kernel
theorem dX11_drawn_25 : decode cX11_drawn 25 = .ok (.ireturn, 1) := by decide +kernel
theorem dX11_drawn_26 : decode cX11_drawn 26 = .ok (.aload_n 0, 1) := by decide +kernel
theorem dX11_drawn_27 : decode cX11_drawn 27 = .ok (.getfield 19, 3) := by decide +kernel
theorem dX11_drawn_30 : decode cX11_drawn 30 = .ok (.getfield 294, 3) := by decide +kernel
theorem dX11_drawn_33 : decode cX11_drawn 33 = .ok (.iload_n 1, 1) := by decide +kernel
theorem dX11_drawn_34 : decode cX11_drawn 34 = .ok (.iaload, 1) := by decide +kernel
theorem dX11_drawn_35 : decode cX11_drawn 35 = .ok (.istore_n 3, 1) := by decide +kernel
theorem dX11_drawn_36 : decode cX11_drawn 36 = .ok (.aload_n 0, 1) := by decide +kernel
theorem dX11_drawn_37 : decode cX11_drawn 37 = .ok (.getfield 19, 3) := by decide +kernel
theorem dX11_drawn_40 : decode cX11_drawn 40 = .ok (.getfield 294, 3) := by decide +kernel
theorem dX11_drawn_43 : decode cX11_drawn 43 = .ok (.iload_n 1, 1) := by decide +kernel
theorem dX11_drawn_44 : decode cX11_drawn 44 = .ok (.iload_n 2, 1) := by decide +kernel
theorem dX11_drawn_45 : decode cX11_drawn 45 = .ok (.iastore, 1) := by decide +kernel
theorem dX11_drawn_46 : decode cX11_drawn 46 = .ok (.iload_n 3, 1) := by decide +kernel
theorem dX11_drawn_47 : decode cX11_drawn 47 = .ok (.ireturn, 1) := by decide +kernel
theorem dX11_early_0 : decode cX11_early 0 = .ok (.aload_n 0, 1) := by decide +kernel
theorem dX11_early_1 : decode cX11_early 1 = .ok (.iload_n 1, 1) := by decide +kernel
theorem dX11_early_2 : decode cX11_early 2 = .ok (.iload_n 2, 1) := by decide +kernel
theorem dX11_early_3 : decode cX11_early 3 = .ok (.invokevirtual 142, 3) := by decide +kernel
theorem dX11_early_6 : decode cX11_early 6 = .ok (.ifCond .eq 12, 3) := by decide +kernel
theorem dX11_early_9 : decode cX11_early 9 = .ok (.iload_n 3, 1) := by decide +kernel
theorem dX11_early_10 : decode cX11_early 10 = .ok (.iload 4, 2) := by decide +kernel
theorem dX11_early_12 : decode cX11_early 12 = .ok (.invokestatic 297, 3) := by decide +kernel
theorem dX11_early_15 : decode cX11_early 15 = .ok (.ifCond .ne 5, 3) := by decide +kernel
theorem dX11_early_18 : decode cX11_early 18 = .ok (.iconst (-1), 1) := by decide +kernel
theorem dX11_early_19 : decode cX11_early 19 = .ok (.ireturn, 1) := by decide +kernel
theorem dX11_early_20 : decode cX11_early 20 = .ok (.aload_n 0, 1) := by decide +kernel
theorem dX11_early_21 : decode cX11_early 21 = .ok (.getfield 61, 3) := by decide +kernel
theorem dX11_early_24 : decode cX11_early 24 = .ok (.iload_n 1, 1) := by decide +kernel
theorem dX11_early_25 : decode cX11_early 25 = .ok (.iload_n 2, 1) := by decide +kernel
theorem dX11_early_26 : decode cX11_early 26 = .ok (.iload_n 3, 1) := by decide +kernel
theorem dX11_early_27 : decode cX11_early 27 = .ok (.iload 4, 2) := by decide +kernel
theorem dX11_early_29 : decode cX11_early 29 = .ok (.invokevirtual 300, 3) := by decide +kernel
theorem dX11_early_32 : decode cX11_early 32 = .ok (.ireturn, 1) := by decide +kernel
theorem dX11_waiting_0 : decode cX11_waiting 0 = .ok (.aload_n 0, 1) := by decide +kernel
theorem dX11_waiting_1 : decode cX11_waiting 1 = .ok (.getfield 26, 3) := by decide +kernel
theorem dX11_waiting_4 : decode cX11_waiting 4 = .ok (.iload_n 1, 1) := by decide +kernel
theorem dX11_waiting_5 : decode cX11_waiting 5 = .ok (.invokevirtual 117, 3) := by decide +kernel
theorem dX11_waiting_8 : decode cX11_waiting 8 = .ok (.ifCond .eq 21, 3) := by decide +kernel
theorem dX11_waiting_11 : decode cX11_waiting 11 = .ok (.iload_n 2, 1) := by decide +kernel
theorem dX11_waiting_12 : decode cX11_waiting 12 = .ok (.iload_n 3, 1) := by decide +kernel
theorem dX11_waiting_13 : decode cX11_waiting 13 = .ok (.invokestatic 297, 3) := by decide +kernel
theorem dX11_waiting_16 : decode cX11_waiting 16 = .ok (.ifCond .eq 13, 3) := by decide +kernel
theorem dX11_waiting_19 : decode cX11_waiting 19 = .ok (.iconst 0, 1) := by decide +kernel
theorem dX11_waiting_20 : decode cX11_waiting 20 = .ok (.iload 4, 2) := by decide +kernel
theorem dX11_waiting_22 : decode cX11_waiting 22 = .ok (.iconst 1, 1) := by decide +kernel
theorem dX11_waiting_23 : decode cX11_waiting 23 = .ok (.invokestatic 110, 3) := by decide +kernel
theorem dX11_waiting_26 : decode cX11_waiting 26 = .ok (.ifCond .ne 6, 3) := by decide +kernel
theorem dX11_waiting_29 : decode cX11_waiting 29 = .ok (.ldc 166, 2) := by decide +kernel
theorem dX11_waiting_31 : decode cX11_waiting 31 = .ok (.ireturn, 1) := by decide +kernel
theorem dX11_waiting_32 : decode cX11_waiting 32 = .ok (.aload_n 0, 1) := by decide +kernel
theorem dX11_waiting_33 : decode cX11_waiting 33 = .ok (.getfield 19, 3) := by decide +kernel
theorem dX11_waiting_36 : decode cX11_waiting 36 = .ok (.iconst 1, 1) := by decide +kernel
theorem dX11_waiting_37 : decode cX11_waiting 37 = .ok (.invokevirtual 303, 3) := by decide +kernel
theorem dX11_waiting_40 : decode cX11_waiting 40 = .ok (.istore 5, 2) := by decide +kernel
theorem dX11_waiting_42 : decode cX11_waiting 42 = .ok (.aload_n 0, 1) := by decide +kernel
theorem dX11_waiting_43 : decode cX11_waiting 43 = .ok (.getfield 19, 3) := by decide +kernel
theorem dX11_waiting_46 : decode cX11_waiting 46 = .ok (.iconst 0, 1) := by decide +kernel
theorem dX11_waiting_47 : decode cX11_waiting 47 = .ok (.invokevirtual 303, 3) := by decide +kernel
theorem dX11_waiting_50 : decode cX11_waiting 50 = .ok (.istore 6, 2) := by decide +kernel
theorem dX11_waiting_52 : decode cX11_waiting 52 = .ok (.iload 5, 2) := by decide +kernel
theorem dX11_waiting_54 : decode cX11_waiting 54 = .ok (.ifCond .eq 8, 3) := by decide +kernel
theorem dX11_waiting_57 : decode cX11_waiting 57 = .ok (.iload 6, 2) := by decide +kernel
theorem dX11_waiting_59 : decode cX11_waiting 59 = .ok (.ifCond .ne 7, 3) := by decide +kernel
theorem dX11_waiting_62 : decode cX11_waiting 62 = .ok (.ldc_w 306, 3) := by decide +kernel
theorem dX11_waiting_65 : decode cX11_waiting 65 = .ok (.ireturn, 1) := by decide +kernel
theorem dX11_waiting_66 : decode cX11_waiting 66 = .ok (.iload 5, 2) := by decide +kernel
theorem dX11_waiting_68 : decode cX11_waiting 68 = .ok (.iload 6, 2) := by decide +kernel
theorem dX11_waiting_70 : decode cX11_waiting 70 = .ok (.iadd, 1) := by decide +kernel
theorem dX11_waiting_71 : decode cX11_waiting 71 = .ok (.bipush 10, 2) := by decide +kernel
theorem dX11_waiting_73 : decode cX11_waiting 73 = .ok (.if_icmp .le 7, 3) := by decide +kernel
theorem dX11_waiting_76 : decode cX11_waiting 76 = .ok (.ldc_w 307, 3) := by decide +kernel
theorem dX11_waiting_79 : decode cX11_waiting 79 = .ok (.ireturn, 1) := by decide +kernel
theorem dX11_waiting_80 : decode cX11_waiting 80 = .ok (.aload_n 0, 1) := by decide +kernel
theorem dX11_waiting_81 : decode cX11_waiting 81 = .ok (.iload_n 1, 1) := by decide +kernel
theorem dX11_waiting_82 : decode cX11_waiting 82 = .ok (.iload_n 2, 1) := by decide +kernel
theorem dX11_waiting_83 : decode cX11_waiting 83 = .ok (.iload_n 3, 1) := by decide +kernel
theorem dX11_waiting_84 : decode cX11_waiting 84 = .ok (.invokevirtual 308, 3) := by decide +kernel
theorem dX11_waiting_87 : decode cX11_waiting 87 = .ok (.istore 7, 2) := by decide +kernel
theorem dX11_waiting_89 : decode cX11_waiting 89 = .ok (.iload 4, 2) := by decide +kernel
theorem dX11_waiting_91 : decode cX11_waiting 91 = .ok (.ifCond .ne 16, 3) := by decide +kernel
theorem dX11_waiting_94 : decode cX11_waiting 94 = .ok (.aload_n 0, 1) := by decide +kernel
theorem dX11_waiting_95 : decode cX11_waiting 95 = .ok (.iload 7, 2) := by decide +kernel
theorem dX11_waiting_97 : decode cX11_waiting 97 = .ok (.iload 5, 2) := by decide +kernel
theorem dX11_waiting_99 : decode cX11_waiting 99 = .ok (.iload 6, 2) := by decide +kernel
theorem dX11_waiting_101 : decode cX11_waiting 101 = .ok (.invokevirtual 311, 3) := by decide +kernel
theorem dX11_waiting_104 : decode cX11_waiting 104 = .ok (.goto 16, 3) := by decide +kernel
theorem dX11_waiting_107 : decode cX11_waiting 107 = .ok (.aload_n 0, 1) := by decide +kernel
theorem dX11_waiting_108 : decode cX11_waiting 108 = .ok (.iload 7, 2) := by decide +kernel
theorem dX11_waiting_110 : decode cX11_waiting 110 = .ok (.iload 5, 2) := by decide +kernel
theorem dX11_waiting_112 : decode cX11_waiting 112 = .ok (.iload 5, 2) := by decide +kernel
theorem dX11_waiting_114 : decode cX11_waiting 114 = .ok (.iload 6, 2) := by decide +kernel
theorem dX11_waiting_116 : decode cX11_waiting 116 = .ok (.iadd, 1) := by decide +kernel
theorem dX11_waiting_117 : decode cX11_waiting 117 = .ok (.invokevirtual 314, 3) := by decide +kernel
theorem dX11_waiting_120 : decode cX11_waiting 120 = .ok (.ireturn, 1) := by decide +kernel
theorem dX11_kitchen_0 : decode cX11_kitchen 0 = .ok (.iload_n 1, 1) := by decide +kernel
theorem dX11_kitchen_1 : decode cX11_kitchen 1 = .ok (.sipush 10000, 3) := by decide +kernel
theorem dX11_kitchen_4 : decode cX11_kitchen 4 = .ok (.invokestatic 99, 3) := by decide +kernel
theorem dX11_kitchen_7 : decode cX11_kitchen 7 = .ok (.ifCond .eq 12, 3) := by decide +kernel
theorem dX11_kitchen_10 : decode cX11_kitchen 10 = .ok (.iload_n 2, 1) := by decide +kernel
theorem dX11_kitchen_11 : decode cX11_kitchen 11 = .ok (.bipush 24, 2) := by decide +kernel
theorem dX11_kitchen_13 : decode cX11_kitchen 13 = .ok (.invokestatic 99, 3) := by decide +kernel
theorem dX11_kitchen_16 : decode cX11_kitchen 16 = .ok (.ifCond .ne 5, 3) := by decide +kernel
theorem dX11_kitchen_19 : decode cX11_kitchen 19 = .ok (.iconst (-1), 1) := by decide +kernel
theorem dX11_kitchen_20 : decode cX11_kitchen 20 = .ok (.ireturn, 1) := by decide +kernel
theorem dX11_kitchen_21 : decode cX11_kitchen 21 = .ok (.aload_n 0, 1) := by decide +kernel
theorem dX11_kitchen_22 : decode cX11_kitchen 22 = .ok (.getfield 84, 3) := by decide +kernel
theorem dX11_kitchen_25 : decode cX11_kitchen 25 = .ok (.iload_n 1, 1) := by decide +kernel
theorem dX11_kitchen_26 : decode cX11_kitchen 26 = .ok (.invokevirtual 106, 3) := by decide +kernel
theorem dX11_kitchen_29 : decode cX11_kitchen 29 = .ok (.istore_n 3, 1) := by decide +kernel
theorem dX11_kitchen_30 : decode cX11_kitchen 30 = .ok (.iload_n 3, 1) := by decide +kernel
theorem dX11_kitchen_31 : decode cX11_kitchen 31 = .ok (.ifCond .lt 10, 3) := by decide +kernel
theorem dX11_kitchen_34 : decode cX11_kitchen 34 = .ok (.aload_n 0, 1) := by decide +kernel
theorem dX11_kitchen_35 : decode cX11_kitchen 35 = .ok (.getfield 88, 3) := by decide +kernel
theorem dX11_kitchen_38 : decode cX11_kitchen 38 = .ok (.iload_n 3, 1) := by decide +kernel
theorem dX11_kitchen_39 : decode cX11_kitchen 39 = .ok (.iload_n 2, 1) := by decide +kernel
theorem dX11_kitchen_40 : decode cX11_kitchen 40 = .ok (.iastore, 1) := by decide +kernel
theorem dX11_kitchen_41 : decode cX11_kitchen 41 = .ok (.iload_n 3, 1) := by decide +kernel
theorem dX11_kitchen_42 : decode cX11_kitchen 42 = .ok (.ireturn, 1) := by decide +kernel
theorem dX11_gift_0 : decode cX11_gift 0 = .ok (.aload_n 0, 1) := by decide +kernel
theorem dX11_gift_1 : decode cX11_gift 1 = .ok (.iload_n 1, 1) := by decide +kernel
theorem dX11_gift_2 : decode cX11_gift 2 = .ok (.iload_n 2, 1) := by decide +kernel
theorem dX11_gift_3 : decode cX11_gift 3 = .ok (.invokevirtual 142, 3) := by decide +kernel
theorem dX11_gift_6 : decode cX11_gift 6 = .ok (.ifCond .eq 26, 3) := by decide +kernel
theorem dX11_gift_9 : decode cX11_gift 9 = .ok (.aload_n 0, 1) := by decide +kernel
theorem dX11_gift_10 : decode cX11_gift 10 = .ok (.getfield 84, 3) := by decide +kernel
theorem dX11_gift_13 : decode cX11_gift 13 = .ok (.iload_n 3, 1) := by decide +kernel
theorem dX11_gift_14 : decode cX11_gift 14 = .ok (.invokevirtual 272, 3) := by decide +kernel
theorem dX11_gift_17 : decode cX11_gift 17 = .ok (.ifCond .eq 15, 3) := by decide +kernel
theorem dX11_gift_20 : decode cX11_gift 20 = .ok (.iconst 1, 1) := by decide +kernel
theorem dX11_gift_21 : decode cX11_gift 21 = .ok (.iload 4, 2) := by decide +kernel
theorem dX11_gift_23 : decode cX11_gift 23 = .ok (.sipush 999, 3) := by decide +kernel
theorem dX11_gift_26 : decode cX11_gift 26 = .ok (.invokestatic 110, 3) := by decide +kernel
theorem dX11_gift_29 : decode cX11_gift 29 = .ok (.ifCond .ne 5, 3) := by decide +kernel
theorem dX11_gift_32 : decode cX11_gift 32 = .ok (.iconst (-1), 1) := by decide +kernel
theorem dX11_gift_33 : decode cX11_gift 33 = .ok (.ireturn, 1) := by decide +kernel
theorem dX11_gift_34 : decode cX11_gift 34 = .ok (.aload_n 0, 1) := by decide +kernel
theorem dX11_gift_35 : decode cX11_gift 35 = .ok (.getfield 19, 3) := by decide +kernel
theorem dX11_gift_38 : decode cX11_gift 38 = .ok (.getfield 103, 3) := by decide +kernel
theorem dX11_gift_41 : decode cX11_gift 41 = .ok (.iload_n 1, 1) := by decide +kernel
theorem dX11_gift_42 : decode cX11_gift 42 = .ok (.aload_n 0, 1) := by decide +kernel
theorem dX11_gift_43 : decode cX11_gift 43 = .ok (.getfield 84, 3) := by decide +kernel
theorem dX11_gift_46 : decode cX11_gift 46 = .ok (.iload_n 3, 1) := by decide +kernel
theorem dX11_gift_47 : decode cX11_gift 47 = .ok (.invokevirtual 317, 3) := by decide +kernel
theorem dX11_gift_50 : decode cX11_gift 50 = .ok (.istore 5, 2) := by decide +kernel
theorem dX11_gift_52 : decode cX11_gift 52 = .ok (.iload 5, 2) := by decide +kernel
theorem dX11_gift_54 : decode cX11_gift 54 = .ok (.bipush 10, 2) := by decide +kernel
theorem dX11_gift_56 : decode cX11_gift 56 = .ok (.iadd, 1) := by decide +kernel
theorem dX11_gift_57 : decode cX11_gift 57 = .ok (.iconst 1, 1) := by decide +kernel
theorem dX11_gift_58 : decode cX11_gift 58 = .ok (.isub, 1) := by decide +kernel
theorem dX11_gift_59 : decode cX11_gift 59 = .ok (.bipush 10, 2) := by decide +kernel
theorem dX11_gift_61 : decode cX11_gift 61 = .ok (.idiv, 1) := by decide +kernel
theorem dX11_gift_62 : decode cX11_gift 62 = .ok (.istore 6, 2) := by decide +kernel
theorem dX11_gift_64 : decode cX11_gift 64 = .ok (.aload_n 0, 1) := by decide +kernel
theorem dX11_gift_65 : decode cX11_gift 65 = .ok (.getfield 10, 3) := by decide +kernel
theorem dX11_gift_68 : decode cX11_gift 68 = .ok (.invokevirtual 135, 3) := by decide +kernel
theorem dX11_gift_71 : decode cX11_gift 71 = .ok (.iload 6, 2) := by decide +kernel
theorem dX11_gift_73 : decode cX11_gift 73 = .ok (.iadd, 1) := by decide +kernel
theorem dX11_gift_74 : decode cX11_gift 74 = .ok (.aload_n 0, 1) := by decide +kernel
theorem dX11_gift_75 : decode cX11_gift 75 = .ok (.getfield 88, 3) := by decide +kernel
theorem dX11_gift_78 : decode cX11_gift 78 = .ok (.iload_n 3, 1) := by decide +kernel
theorem dX11_gift_79 : decode cX11_gift 79 = .ok (.iaload, 1) := by decide +kernel
theorem dX11_gift_80 : decode cX11_gift 80 = .ok (.if_icmp .le 6, 3) := by decide +kernel
theorem dX11_gift_83 : decode cX11_gift 83 = .ok (.bipush (-2), 2) := by decide +kernel
theorem dX11_gift_85 : decode cX11_gift 85 = .ok (.ireturn, 1) := by decide +kernel
theorem dX11_gift_86 : decode cX11_gift 86 = .ok (.aload_n 0, 1) := by decide +kernel
theorem dX11_gift_87 : decode cX11_gift 87 = .ok (.getfield 26, 3) := by decide +kernel
theorem dX11_gift_90 : decode cX11_gift 90 = .ok (.getfield 321, 3) := by decide +kernel
theorem dX11_gift_93 : decode cX11_gift 93 = .ok (.iload_n 2, 1) := by decide +kernel
theorem dX11_gift_94 : decode cX11_gift 94 = .ok (.iaload, 1) := by decide +kernel
theorem dX11_gift_95 : decode cX11_gift 95 = .ok (.iconst 1, 1) := by decide +kernel
theorem dX11_gift_96 : decode cX11_gift 96 = .ok (.if_icmp .ne 12, 3) := by decide +kernel
theorem dX11_gift_99 : decode cX11_gift 99 = .ok (.iload 6, 2) := by decide +kernel
theorem dX11_gift_101 : decode cX11_gift 101 = .ok (.iconst 2, 1) := by decide +kernel
theorem dX11_gift_102 : decode cX11_gift 102 = .ok (.if_icmp .le 6, 3) := by decide +kernel
theorem dX11_gift_105 : decode cX11_gift 105 = .ok (.bipush (-2), 2) := by decide +kernel
theorem dX11_gift_107 : decode cX11_gift 107 = .ok (.ireturn, 1) := by decide +kernel
theorem dX11_gift_108 : decode cX11_gift 108 = .ok (.aload_n 0, 1) := by decide +kernel
theorem dX11_gift_109 : decode cX11_gift 109 = .ok (.iload_n 1, 1) := by decide +kernel
theorem dX11_gift_110 : decode cX11_gift 110 = .ok (.iload_n 2, 1) := by decide +kernel
theorem dX11_gift_111 : decode cX11_gift 111 = .ok (.iconst 1, 1) := by decide +kernel
theorem dX11_gift_112 : decode cX11_gift 112 = .ok (.invokevirtual 170, 3) := by decide +kernel
theorem dX11_gift_115 : decode cX11_gift 115 = .ok (.ifCond .ne 6, 3) := by decide +kernel
theorem dX11_gift_118 : decode cX11_gift 118 = .ok (.bipush (-2), 2) := by decide +kernel
theorem dX11_gift_120 : decode cX11_gift 120 = .ok (.ireturn, 1) := by decide +kernel
theorem dX11_gift_121 : decode cX11_gift 121 = .ok (.aload_n 0, 1) := by decide +kernel
theorem dX11_gift_122 : decode cX11_gift 122 = .ok (.getfield 33, 3) := by decide +kernel
theorem dX11_gift_125 : decode cX11_gift 125 = .ok (.iload 4, 2) := by decide +kernel
theorem dX11_gift_127 : decode cX11_gift 127 = .ok (.bipush 8, 2) := by decide +kernel
theorem dX11_gift_129 : decode cX11_gift 129 = .ok (.invokevirtual 204, 3) := by decide +kernel
theorem dX11_gift_132 : decode cX11_gift 132 = .ok (.ireturn, 1) := by decide +kernel
theorem dX11_bin_0 : decode cX11_bin 0 = .ok (.aload_n 0, 1) := by decide +kernel
theorem dX11_bin_1 : decode cX11_bin 1 = .ok (.getfield 33, 3) := by decide +kernel
theorem dX11_bin_4 : decode cX11_bin 4 = .ok (.iload_n 1, 1) := by decide +kernel
theorem dX11_bin_5 : decode cX11_bin 5 = .ok (.invokevirtual 165, 3) := by decide +kernel
theorem dX11_bin_8 : decode cX11_bin 8 = .ok (.ifCond .eq 23, 3) := by decide +kernel
theorem dX11_bin_11 : decode cX11_bin 11 = .ok (.iconst 1, 1) := by decide +kernel
theorem dX11_bin_12 : decode cX11_bin 12 = .ok (.iload_n 2, 1) := by decide +kernel
theorem dX11_bin_13 : decode cX11_bin 13 = .ok (.sipush 999, 3) := by decide +kernel
theorem dX11_bin_16 : decode cX11_bin 16 = .ok (.invokestatic 110, 3) := by decide +kernel
theorem dX11_bin_19 : decode cX11_bin 19 = .ok (.ifCond .eq 12, 3) := by decide +kernel
theorem dX11_bin_22 : decode cX11_bin 22 = .ok (.iconst 0, 1) := by decide +kernel
theorem dX11_bin_23 : decode cX11_bin 23 = .ok (.iload_n 3, 1) := by decide +kernel
theorem dX11_bin_24 : decode cX11_bin 24 = .ok (.iconst 1, 1) := by decide +kernel
theorem dX11_bin_25 : decode cX11_bin 25 = .ok (.invokestatic 110, 3) := by decide +kernel
theorem dX11_bin_28 : decode cX11_bin 28 = .ok (.ifCond .ne 5, 3) := by decide +kernel
theorem dX11_bin_31 : decode cX11_bin 31 = .ok (.iconst (-1), 1) := by decide +kernel
theorem dX11_bin_32 : decode cX11_bin 32 = .ok (.ireturn, 1) := by decide +kernel
theorem dX11_bin_33 : decode cX11_bin 33 = .ok (.iload_n 2, 1) := by decide +kernel
theorem dX11_bin_34 : decode cX11_bin 34 = .ok (.aload_n 0, 1) := by decide +kernel
theorem dX11_bin_35 : decode cX11_bin 35 = .ok (.getfield 33, 3) := by decide +kernel
theorem dX11_bin_38 : decode cX11_bin 38 = .ok (.getfield 159, 3) := by decide +kernel
theorem dX11_bin_41 : decode cX11_bin 41 = .ok (.iload_n 1, 1) := by decide +kernel
theorem dX11_bin_42 : decode cX11_bin 42 = .ok (.aaload, 1) := by decide +kernel
theorem dX11_bin_43 : decode cX11_bin 43 = .ok (.iconst 5, 1) := by decide +kernel
theorem dX11_bin_44 : decode cX11_bin 44 = .ok (.iaload, 1) := by decide +kernel
theorem dX11_bin_45 : decode cX11_bin 45 = .ok (.if_icmp .le 6, 3) := by decide +kernel
theorem dX11_bin_48 : decode cX11_bin 48 = .ok (.bipush (-2), 2) := by decide +kernel
theorem dX11_bin_50 : decode cX11_bin 50 = .ok (.ireturn, 1) := by decide +kernel
theorem dX11_bin_51 : decode cX11_bin 51 = .ok (.iload_n 3, 1) := by decide +kernel
theorem dX11_bin_52 : decode cX11_bin 52 = .ok (.iconst 1, 1) := by decide +kernel
theorem dX11_bin_53 : decode cX11_bin 53 = .ok (.if_icmp .ne 35, 3) := by decide +kernel
theorem dX11_bin_56 : decode cX11_bin 56 = .ok (.aload_n 0, 1) := by decide +kernel
theorem dX11_bin_57 : decode cX11_bin 57 = .ok (.getfield 33, 3) := by decide +kernel
theorem dX11_bin_60 : decode cX11_bin 60 = .ok (.getfield 324, 3) := by decide +kernel
theorem dX11_bin_63 : decode cX11_bin 63 = .ok (.sipush 400, 3) := by decide +kernel
theorem dX11_bin_66 : decode cX11_bin 66 = .ok (.if_icmp .lt 6, 3) := by decide +kernel
theorem dX11_bin_69 : decode cX11_bin 69 = .ok (.bipush (-3), 2) := by decide +kernel
theorem dX11_bin_71 : decode cX11_bin 71 = .ok (.ireturn, 1) := by decide +kernel
theorem dX11_bin_72 : decode cX11_bin 72 = .ok (.aload_n 0, 1) := by decide +kernel
theorem dX11_bin_73 : decode cX11_bin 73 = .ok (.getfield 33, 3) := by decide +kernel
theorem dX11_bin_76 : decode cX11_bin 76 = .ok (.iload_n 1, 1) := by decide +kernel
theorem dX11_bin_77 : decode cX11_bin 77 = .ok (.iload_n 2, 1) := by decide +kernel
theorem dX11_bin_78 : decode cX11_bin 78 = .ok (.aload_n 0, 1) := by decide +kernel
theorem dX11_bin_79 : decode cX11_bin 79 = .ok (.getfield 10, 3) := by decide +kernel
theorem dX11_bin_82 : decode cX11_bin 82 = .ok (.invokevirtual 152, 3) := by decide +kernel
theorem dX11_bin_85 : decode cX11_bin 85 = .ok (.invokevirtual 327, 3) := by decide +kernel
theorem dX11_bin_88 : decode cX11_bin 88 = .ok (.aload_n 0, 1) := by decide +kernel
theorem dX11_bin_89 : decode cX11_bin 89 = .ok (.iload_n 1, 1) := by decide +kernel
theorem dX11_bin_90 : decode cX11_bin 90 = .ok (.iload_n 2, 1) := by decide +kernel
theorem dX11_bin_91 : decode cX11_bin 91 = .ok (.invokevirtual 331, 3) := by decide +kernel
theorem dX11_bin_94 : decode cX11_bin 94 = .ok (.aload_n 0, 1) := by decide +kernel
theorem dX11_bin_95 : decode cX11_bin 95 = .ok (.getfield 33, 3) := by decide +kernel
theorem dX11_bin_98 : decode cX11_bin 98 = .ok (.getfield 159, 3) := by decide +kernel
theorem dX11_bin_101 : decode cX11_bin 101 = .ok (.iload_n 1, 1) := by decide +kernel
theorem dX11_bin_102 : decode cX11_bin 102 = .ok (.aaload, 1) := by decide +kernel
theorem dX11_bin_103 : decode cX11_bin 103 = .ok (.iconst 5, 1) := by decide +kernel
theorem dX11_bin_104 : decode cX11_bin 104 = .ok (.iaload, 1) := by decide +kernel
theorem dX11_bin_105 : decode cX11_bin 105 = .ok (.ireturn, 1) := by decide +kernel
theorem dX11_tossed_0 : decode cX11_tossed 0 = .ok (.iload_n 1, 1) := by decide +kernel
theorem dX11_tossed_1 : decode cX11_tossed 1 = .ok (.sipush 1500, 3) := by decide +kernel
theorem dX11_tossed_4 : decode cX11_tossed 4 = .ok (.invokestatic 99, 3) := by decide +kernel
theorem dX11_tossed_7 : decode cX11_tossed 7 = .ok (.ifCond .ne 5, 3) := by decide +kernel
theorem dX11_tossed_10 : decode cX11_tossed 10 = .ok (.iconst (-1), 1) := by decide +kernel
theorem dX11_tossed_11 : decode cX11_tossed 11 = .ok (.ireturn, 1) := by decide +kernel
theorem dX11_tossed_12 : decode cX11_tossed 12 = .ok (.aload_n 0, 1) := by decide +kernel
theorem dX11_tossed_13 : decode cX11_tossed 13 = .ok (.getfield 10, 3) := by decide +kernel
theorem dX11_tossed_16 : decode cX11_tossed 16 = .ok (.getfield 335, 3) := by decide +kernel
theorem dX11_tossed_19 : decode cX11_tossed 19 = .ok (.iload_n 1, 1) := by decide +kernel
theorem dX11_tossed_20 : decode cX11_tossed 20 = .ok (.iaload, 1) := by decide +kernel
theorem dX11_tossed_21 : decode cX11_tossed 21 = .ok (.ireturn, 1) := by decide +kernel
theorem dX11_isBad_0 : decode cX11_isBad 0 = .ok (.aload_n 0, 1) := by decide +kernel
theorem dX11_isBad_1 : decode cX11_isBad 1 = .ok (.getfield 26, 3) := by decide +kernel
theorem dX11_isBad_4 : decode cX11_isBad 4 = .ok (.iload_n 1, 1) := by decide +kernel
theorem dX11_isBad_5 : decode cX11_isBad 5 = .ok (.invokevirtual 117, 3) := by decide +kernel
theorem dX11_isBad_8 : decode cX11_isBad 8 = .ok (.ifCond .eq 22, 3) := by decide +kernel
theorem dX11_isBad_11 : decode cX11_isBad 11 = .ok (.iload_n 2, 1) := by decide +kernel
theorem dX11_isBad_12 : decode cX11_isBad 12 = .ok (.bipush 100, 2) := by decide +kernel
theorem dX11_isBad_14 : decode cX11_isBad 14 = .ok (.invokestatic 99, 3) := by decide +kernel
theorem dX11_isBad_17 : decode cX11_isBad 17 = .ok (.ifCond .eq 13, 3) := by decide +kernel
theorem dX11_isBad_20 : decode cX11_isBad 20 = .ok (.iload_n 3, 1) := by decide +kernel
theorem dX11_isBad_21 : decode cX11_isBad 21 = .ok (.sipush 1500, 3) := by decide +kernel
theorem dX11_isBad_24 : decode cX11_isBad 24 = .ok (.invokestatic 99, 3) := by decide +kernel
theorem dX11_isBad_27 : decode cX11_isBad 27 = .ok (.ifCond .ne 5, 3) := by decide +kernel
theorem dX11_isBad_30 : decode cX11_isBad 30 = .ok (.iconst (-1), 1) := by decide +kernel
theorem dX11_isBad_31 : decode cX11_isBad 31 = .ok (.ireturn, 1) := by decide +kernel
theorem dX11_isBad_32 : decode cX11_isBad 32 = .ok (.aload_n 0, 1) := by decide +kernel
theorem dX11_isBad_33 : decode cX11_isBad 33 = .ok (.getfield 33, 3) := by decide +kernel
theorem dX11_isBad_36 : decode cX11_isBad 36 = .ok (.iload_n 1, 1) := by decide +kernel
theorem dX11_isBad_37 : decode cX11_isBad 37 = .ok (.bipush 100, 2) := by decide +kernel
theorem dX11_isBad_39 : decode cX11_isBad 39 = .ok (.imul, 1) := by decide +kernel
theorem dX11_isBad_40 : decode cX11_isBad 40 = .ok (.iload_n 2, 1) := by decide +kernel
theorem dX11_isBad_41 : decode cX11_isBad 41 = .ok (.iadd, 1) := by decide +kernel
theorem dX11_isBad_42 : decode cX11_isBad 42 = .ok (.iload_n 3, 1) := by decide +kernel
theorem dX11_isBad_43 : decode cX11_isBad 43 = .ok (.invokevirtual 338, 3) := by decide +kernel
theorem dX11_isBad_46 : decode cX11_isBad 46 = .ok (.ifCond .eq 7, 3) := by decide +kernel
theorem dX11_isBad_49 : decode cX11_isBad 49 = .ok (.iconst 1, 1) := by decide +kernel
theorem dX11_isBad_50 : decode cX11_isBad 50 = .ok (.goto 4, 3) := by decide +kernel
theorem dX11_isBad_53 : decode cX11_isBad 53 = .ok (.iconst 0, 1) := by decide +kernel
theorem dX11_isBad_54 : decode cX11_isBad 54 = .ok (.ireturn, 1) := by decide +kernel
theorem dX11_since_0 : decode cX11_since 0 = .ok (.aload_n 0, 1) := by decide +kernel
theorem dX11_since_1 : decode cX11_since 1 = .ok (.getfield 26, 3) := by decide +kernel
theorem dX11_since_4 : decode cX11_since 4 = .ok (.iload_n 1, 1) := by decide +kernel
theorem dX11_since_5 : decode cX11_since 5 = .ok (.invokevirtual 117, 3) := by decide +kernel
theorem dX11_since_8 : decode cX11_since 8 = .ok (.ifCond .eq 12, 3) := by decide +kernel
theorem dX11_since_11 : decode cX11_since 11 = .ok (.iload_n 2, 1) := by decide +kernel
theorem dX11_since_12 : decode cX11_since 12 = .ok (.bipush 100, 2) := by decide +kernel
theorem dX11_since_14 : decode cX11_since 14 = .ok (.invokestatic 99, 3) := by decide +kernel
theorem dX11_since_17 : decode cX11_since 17 = .ok (.ifCond .ne 5, 3) := by decide +kernel
theorem dX11_since_20 : decode cX11_since 20 = .ok (.iconst (-1), 1) := by decide +kernel
theorem dX11_since_21 : decode cX11_since 21 = .ok (.ireturn, 1) := by decide +kernel
theorem dX11_since_22 : decode cX11_since 22 = .ok (.aload_n 0, 1) := by decide +kernel
theorem dX11_since_23 : decode cX11_since 23 = .ok (.getfield 33, 3) := by decide +kernel
theorem dX11_since_26 : decode cX11_since 26 = .ok (.iload_n 1, 1) := by decide +kernel
theorem dX11_since_27 : decode cX11_since 27 = .ok (.bipush 100, 2) := by decide +kernel
theorem dX11_since_29 : decode cX11_since 29 = .ok (.imul, 1) := by decide +kernel
theorem dX11_since_30 : decode cX11_since 30 = .ok (.iload_n 2, 1) := by decide +kernel
theorem dX11_since_31 : decode cX11_since 31 = .ok (.iadd, 1) := by decide +kernel
theorem dX11_since_32 : decode cX11_since 32 = .ok (.invokevirtual 341, 3) := by decide +kernel
theorem dX11_since_35 : decode cX11_since 35 = .ok (.ireturn, 1) := by decide +kernel
theorem dX11_till_0 : decode cX11_till 0 = .ok (.aload_n 0, 1) := by decide +kernel
theorem dX11_till_1 : decode cX11_till 1 = .ok (.getfield 19, 3) := by decide +kernel
theorem dX11_till_4 : decode cX11_till 4 = .ok (.getfield 103, 3) := by decide +kernel
theorem dX11_till_7 : decode cX11_till 7 = .ok (.iload_n 1, 1) := by decide +kernel
theorem dX11_till_8 : decode cX11_till 8 = .ok (.invokevirtual 272, 3) := by decide +kernel
theorem dX11_till_11 : decode cX11_till 11 = .ok (.ifCond .ne 5, 3) := by decide +kernel
theorem dX11_till_14 : decode cX11_till 14 = .ok (.iconst (-1), 1) := by decide +kernel
theorem dX11_till_15 : decode cX11_till 15 = .ok (.ireturn, 1) := by decide +kernel
theorem dX11_till_16 : decode cX11_till 16 = .ok (.aload_n 0, 1) := by decide +kernel
theorem dX11_till_17 : decode cX11_till 17 = .ok (.getfield 19, 3) := by decide +kernel
theorem dX11_till_20 : decode cX11_till 20 = .ok (.getfield 207, 3) := by decide +kernel
theorem dX11_till_23 : decode cX11_till 23 = .ok (.iload_n 1, 1) := by decide +kernel
theorem dX11_till_24 : decode cX11_till 24 = .ok (.iaload, 1) := by decide +kernel
theorem dX11_till_25 : decode cX11_till 25 = .ok (.ireturn, 1) := by decide +kernel
theorem dX11_count_0 : decode cX11_count 0 = .ok (.iload_n 1, 1) := by decide +kernel
theorem dX11_count_1 : decode cX11_count 1 = .ok (.tableswitch 190 0 13 #[71, 82, 90, 98, 106, 114, 122, 130, 138, 143, 152, 162, 172, 182], 71) := by decide +kernel
theorem dX11_count_72 : decode cX11_count 72 = .ok (.aload_n 0, 1) := by decide +kernel
theorem dX11_count_73 : decode cX11_count 73 = .ok (.getfield 19, 3) := by decide +kernel
theorem dX11_count_76 : decode cX11_count 76 = .ok (.getfield 103, 3) := by decide +kernel
theorem dX11_count_79 : decode cX11_count 79 = .ok (.getfield 344, 3) := by decide +kernel
theorem dX11_count_82 : decode cX11_count 82 = .ok (.ireturn, 1) := by decide +kernel
theorem dX11_count_83 : decode cX11_count 83 = .ok (.aload_n 0, 1) := by decide +kernel
theorem dX11_count_84 : decode cX11_count 84 = .ok (.getfield 26, 3) := by decide +kernel
theorem dX11_count_87 : decode cX11_count 87 = .ok (.getfield 345, 3) := by decide +kernel
theorem dX11_count_90 : decode cX11_count 90 = .ok (.ireturn, 1) := by decide +kernel
theorem dX11_count_91 : decode cX11_count 91 = .ok (.aload_n 0, 1) := by decide +kernel
theorem dX11_count_92 : decode cX11_count 92 = .ok (.getfield 33, 3) := by decide +kernel
theorem dX11_count_95 : decode cX11_count 95 = .ok (.getfield 346, 3) := by decide +kernel
theorem dX11_count_98 : decode cX11_count 98 = .ok (.ireturn, 1) := by decide +kernel
theorem dX11_count_99 : decode cX11_count 99 = .ok (.aload_n 0, 1) := by decide +kernel
theorem dX11_count_100 : decode cX11_count 100 = .ok (.getfield 61, 3) := by decide +kernel
theorem dX11_count_103 : decode cX11_count 103 = .ok (.getfield 203, 3) := by decide +kernel
theorem dX11_count_106 : decode cX11_count 106 = .ok (.ireturn, 1) := by decide +kernel
theorem dX11_count_107 : decode cX11_count 107 = .ok (.aload_n 0, 1) := by decide +kernel
theorem dX11_count_108 : decode cX11_count 108 = .ok (.getfield 47, 3) := by decide +kernel
theorem dX11_count_111 : decode cX11_count 111 = .ok (.getfield 180, 3) := by decide +kernel
theorem dX11_count_114 : decode cX11_count 114 = .ok (.ireturn, 1) := by decide +kernel
theorem dX11_count_115 : decode cX11_count 115 = .ok (.aload_n 0, 1) := by decide +kernel
theorem dX11_count_116 : decode cX11_count 116 = .ok (.getfield 10, 3) := by decide +kernel
theorem dX11_count_119 : decode cX11_count 119 = .ok (.getfield 132, 3) := by decide +kernel
theorem dX11_count_122 : decode cX11_count 122 = .ok (.ireturn, 1) := by decide +kernel
theorem dX11_count_123 : decode cX11_count 123 = .ok (.aload_n 0, 1) := by decide +kernel
theorem dX11_count_124 : decode cX11_count 124 = .ok (.getfield 84, 3) := by decide +kernel
theorem dX11_count_127 : decode cX11_count 127 = .ok (.getfield 344, 3) := by decide +kernel
theorem dX11_count_130 : decode cX11_count 130 = .ok (.ireturn, 1) := by decide +kernel
theorem dX11_count_131 : decode cX11_count 131 = .ok (.aload_n 0, 1) := by decide +kernel
theorem dX11_count_132 : decode cX11_count 132 = .ok (.getfield 40, 3) := by decide +kernel
theorem dX11_count_135 : decode cX11_count 135 = .ok (.getfield 174, 3) := by decide +kernel
theorem dX11_count_138 : decode cX11_count 138 = .ok (.ireturn, 1) := by decide +kernel
theorem dX11_count_139 : decode cX11_count 139 = .ok (.aload_n 0, 1) := by decide +kernel
theorem dX11_count_140 : decode cX11_count 140 = .ok (.getfield 95, 3) := by decide +kernel
theorem dX11_count_143 : decode cX11_count 143 = .ok (.ireturn, 1) := by decide +kernel
theorem dX11_count_144 : decode cX11_count 144 = .ok (.aload_n 0, 1) := by decide +kernel
theorem dX11_count_145 : decode cX11_count 145 = .ok (.getfield 33, 3) := by decide +kernel
theorem dX11_count_148 : decode cX11_count 148 = .ok (.iconst 5, 1) := by decide +kernel
theorem dX11_count_149 : decode cX11_count 149 = .ok (.invokevirtual 347, 3) := by decide +kernel
theorem dX11_count_152 : decode cX11_count 152 = .ok (.ireturn, 1) := by decide +kernel
theorem dX11_count_153 : decode cX11_count 153 = .ok (.aload_n 0, 1) := by decide +kernel
theorem dX11_count_154 : decode cX11_count 154 = .ok (.getfield 33, 3) := by decide +kernel
theorem dX11_count_157 : decode cX11_count 157 = .ok (.bipush 6, 2) := by decide +kernel
theorem dX11_count_159 : decode cX11_count 159 = .ok (.invokevirtual 347, 3) := by decide +kernel
theorem dX11_count_162 : decode cX11_count 162 = .ok (.ireturn, 1) := by decide +kernel
theorem dX11_count_163 : decode cX11_count 163 = .ok (.aload_n 0, 1) := by decide +kernel
theorem dX11_count_164 : decode cX11_count 164 = .ok (.getfield 33, 3) := by decide +kernel
theorem dX11_count_167 : decode cX11_count 167 = .ok (.bipush 8, 2) := by decide +kernel
theorem dX11_count_169 : decode cX11_count 169 = .ok (.invokevirtual 347, 3) := by decide +kernel
theorem dX11_count_172 : decode cX11_count 172 = .ok (.ireturn, 1) := by decide +kernel
theorem dX11_count_173 : decode cX11_count 173 = .ok (.aload_n 0, 1) := by decide +kernel
theorem dX11_count_174 : decode cX11_count 174 = .ok (.getfield 33, 3) := by decide +kernel
theorem dX11_count_177 : decode cX11_count 177 = .ok (.bipush 9, 2) := by decide +kernel
theorem dX11_count_179 : decode cX11_count 179 = .ok (.invokevirtual 347, 3) := by decide +kernel
theorem dX11_count_182 : decode cX11_count 182 = .ok (.ireturn, 1) := by decide +kernel
theorem dX11_count_183 : decode cX11_count 183 = .ok (.aload_n 0, 1) := by decide +kernel
theorem dX11_count_184 : decode cX11_count 184 = .ok (.getfield 61, 3) := by decide +kernel
theorem dX11_count_187 : decode cX11_count 187 = .ok (.invokevirtual 350, 3) := by decide +kernel
theorem dX11_count_190 : decode cX11_count 190 = .ok (.ireturn, 1) := by decide +kernel
theorem dX11_count_191 : decode cX11_count 191 = .ok (.iconst (-1), 1) := by decide +kernel
theorem dX11_count_192 : decode cX11_count 192 = .ok (.ireturn, 1) := by decide +kernel
theorem dX11_isBelow_0 : decode cX11_isBelow 0 = .ok (.iload_n 0, 1) := by decide +kernel
theorem dX11_isBelow_1 : decode cX11_isBelow 1 = .ok (.ifCond .lt 12, 3) := by decide +kernel
theorem dX11_isBelow_4 : decode cX11_isBelow 4 = .ok (.iload_n 0, 1) := by decide +kernel
theorem dX11_isBelow_5 : decode cX11_isBelow 5 = .ok (.iload_n 1, 1) := by decide +kernel
theorem dX11_isBelow_6 : decode cX11_isBelow 6 = .ok (.if_icmp .ge 7, 3) := by decide +kernel
theorem dX11_isBelow_9 : decode cX11_isBelow 9 = .ok (.iconst 1, 1) := by decide +kernel
theorem dX11_isBelow_10 : decode cX11_isBelow 10 = .ok (.goto 4, 3) := by decide +kernel
theorem dX11_isBelow_13 : decode cX11_isBelow 13 = .ok (.iconst 0, 1) := by decide +kernel
theorem dX11_isBelow_14 : decode cX11_isBelow 14 = .ok (.ireturn, 1) := by decide +kernel
theorem dX11_isFrom_0 : decode cX11_isFrom 0 = .ok (.iload_n 1, 1) := by decide +kernel
theorem dX11_isFrom_1 : decode cX11_isFrom 1 = .ok (.iload_n 0, 1) := by decide +kernel
theorem dX11_isFrom_2 : decode cX11_isFrom 2 = .ok (.if_icmp .lt 12, 3) := by decide +kernel
theorem dX11_isFrom_5 : decode cX11_isFrom 5 = .ok (.iload_n 1, 1) := by decide +kernel
theorem dX11_isFrom_6 : decode cX11_isFrom 6 = .ok (.iload_n 2, 1) := by decide +kernel
theorem dX11_isFrom_7 : decode cX11_isFrom 7 = .ok (.if_icmp .gt 7, 3) := by decide +kernel
theorem dX11_isFrom_10 : decode cX11_isFrom 10 = .ok (.iconst 1, 1) := by decide +kernel
theorem dX11_isFrom_11 : decode cX11_isFrom 11 = .ok (.goto 4, 3) := by decide +kernel
theorem dX11_isFrom_14 : decode cX11_isFrom 14 = .ok (.iconst 0, 1) := by decide +kernel
theorem dX11_isFrom_15 : decode cX11_isFrom 15 = .ok (.ireturn, 1) := by decide +kernel
theorem dX11_areDays_0 : decode cX11_areDays 0 = .ok (.iload_n 0, 1) := by decide +kernel
theorem dX11_areDays_1 : decode cX11_areDays 1 = .ok (.ifCond .lt 19, 3) := by decide +kernel
theorem dX11_areDays_4 : decode cX11_areDays 4 = .ok (.iload_n 0, 1) := by decide +kernel
theorem dX11_areDays_5 : decode cX11_areDays 5 = .ok (.iload_n 1, 1) := by decide +kernel
theorem dX11_areDays_6 : decode cX11_areDays 6 = .ok (.if_icmp .gt 14, 3) := by decide +kernel
theorem dX11_areDays_9 : decode cX11_areDays 9 = .ok (.iload_n 1, 1) := by decide +kernel
theorem dX11_areDays_10 : decode cX11_areDays 10 = .ok (.sipush 1500, 3) := by decide +kernel
theorem dX11_areDays_13 : decode cX11_areDays 13 = .ok (.if_icmp .ge 7, 3) := by decide +kernel
theorem dX11_areDays_16 : decode cX11_areDays 16 = .ok (.iconst 1, 1) := by decide +kernel
theorem dX11_areDays_17 : decode cX11_areDays 17 = .ok (.goto 4, 3) := by decide +kernel
theorem dX11_areDays_20 : decode cX11_areDays 20 = .ok (.iconst 0, 1) := by decide +kernel
theorem dX11_areDays_21 : decode cX11_areDays 21 = .ok (.ireturn, 1) := by decide +kernel
theorem dX11_hasBoth_0 : decode cX11_hasBoth 0 = .ok (.aload_n 0, 1) := by decide +kernel
theorem dX11_hasBoth_1 : decode cX11_hasBoth 1 = .ok (.getfield 19, 3) := by decide +kernel
theorem dX11_hasBoth_4 : decode cX11_hasBoth 4 = .ok (.getfield 103, 3) := by decide +kernel
theorem dX11_hasBoth_7 : decode cX11_hasBoth 7 = .ok (.iload_n 1, 1) := by decide +kernel
theorem dX11_hasBoth_8 : decode cX11_hasBoth 8 = .ok (.invokevirtual 272, 3) := by decide +kernel
theorem dX11_hasBoth_11 : decode cX11_hasBoth 11 = .ok (.ifCond .eq 18, 3) := by decide +kernel
theorem dX11_hasBoth_14 : decode cX11_hasBoth 14 = .ok (.aload_n 0, 1) := by decide +kernel
theorem dX11_hasBoth_15 : decode cX11_hasBoth 15 = .ok (.getfield 26, 3) := by decide +kernel
theorem dX11_hasBoth_18 : decode cX11_hasBoth 18 = .ok (.iload_n 2, 1) := by decide +kernel
theorem dX11_hasBoth_19 : decode cX11_hasBoth 19 = .ok (.invokevirtual 117, 3) := by decide +kernel
theorem dX11_hasBoth_22 : decode cX11_hasBoth 22 = .ok (.ifCond .eq 7, 3) := by decide +kernel
theorem dX11_hasBoth_25 : decode cX11_hasBoth 25 = .ok (.iconst 1, 1) := by decide +kernel
theorem dX11_hasBoth_26 : decode cX11_hasBoth 26 = .ok (.goto 4, 3) := by decide +kernel
theorem dX11_hasBoth_29 : decode cX11_hasBoth 29 = .ok (.iconst 0, 1) := by decide +kernel
theorem dX11_hasBoth_30 : decode cX11_hasBoth 30 = .ok (.ireturn, 1) := by decide +kernel
theorem dX11_mayTell_0 : decode cX11_mayTell 0 = .ok (.aload_n 0, 1) := by decide +kernel
theorem dX11_mayTell_1 : decode cX11_mayTell 1 = .ok (.getfield 10, 3) := by decide +kernel
theorem dX11_mayTell_4 : decode cX11_mayTell 4 = .ok (.invokevirtual 353, 3) := by decide +kernel
theorem dX11_mayTell_7 : decode cX11_mayTell 7 = .ok (.ifCond .eq 26, 3) := by decide +kernel
theorem dX11_mayTell_10 : decode cX11_mayTell 10 = .ok (.aload_n 0, 1) := by decide +kernel
theorem dX11_mayTell_11 : decode cX11_mayTell 11 = .ok (.getfield 61, 3) := by decide +kernel
theorem dX11_mayTell_14 : decode cX11_mayTell 14 = .ok (.iload_n 1, 1) := by decide +kernel
theorem dX11_mayTell_15 : decode cX11_mayTell 15 = .ok (.iload_n 2, 1) := by decide +kernel
theorem dX11_mayTell_16 : decode cX11_mayTell 16 = .ok (.aload_n 0, 1) := by decide +kernel
theorem dX11_mayTell_17 : decode cX11_mayTell 17 = .ok (.getfield 10, 3) := by decide +kernel
theorem dX11_mayTell_20 : decode cX11_mayTell 20 = .ok (.getfield 132, 3) := by decide +kernel
theorem dX11_mayTell_23 : decode cX11_mayTell 23 = .ok (.invokevirtual 357, 3) := by decide +kernel
theorem dX11_mayTell_26 : decode cX11_mayTell 26 = .ok (.ifCond .ne 7, 3) := by decide +kernel
theorem dX11_mayTell_29 : decode cX11_mayTell 29 = .ok (.iconst 1, 1) := by decide +kernel
theorem dX11_mayTell_30 : decode cX11_mayTell 30 = .ok (.goto 4, 3) := by decide +kernel
theorem dX11_mayTell_33 : decode cX11_mayTell 33 = .ok (.iconst 0, 1) := by decide +kernel
theorem dX11_mayTell_34 : decode cX11_mayTell 34 = .ok (.ireturn, 1) := by decide +kernel
theorem dX11_isMorning_0 : decode cX11_isMorning 0 = .ok (.aload_n 0, 1) := by decide +kernel
theorem dX11_isMorning_1 : decode cX11_isMorning 1 = .ok (.iload_n 1, 1) := by decide +kernel
theorem dX11_isMorning_2 : decode cX11_isMorning 2 = .ok (.iload_n 2, 1) := by decide +kernel
theorem dX11_isMorning_3 : decode cX11_isMorning 3 = .ok (.invokevirtual 142, 3) := by decide +kernel
theorem dX11_isMorning_6 : decode cX11_isMorning 6 = .ok (.ifCond .eq 14, 3) := by decide +kernel
theorem dX11_isMorning_9 : decode cX11_isMorning 9 = .ok (.iload 4, 2) := by decide +kernel
theorem dX11_isMorning_11 : decode cX11_isMorning 11 = .ok (.sipush 1500, 3) := by decide +kernel
theorem dX11_isMorning_14 : decode cX11_isMorning 14 = .ok (.invokestatic 99, 3) := by decide +kernel
theorem dX11_isMorning_17 : decode cX11_isMorning 17 = .ok (.ifCond .ne 5, 3) := by decide +kernel
theorem dX11_isMorning_20 : decode cX11_isMorning 20 = .ok (.iconst 0, 1) := by decide +kernel
theorem dX11_isMorning_21 : decode cX11_isMorning 21 = .ok (.ireturn, 1) := by decide +kernel
theorem dX11_isMorning_22 : decode cX11_isMorning 22 = .ok (.iload_n 3, 1) := by decide +kernel
theorem dX11_isMorning_23 : decode cX11_isMorning 23 = .ok (.bipush 70, 2) := by decide +kernel
theorem dX11_isMorning_25 : decode cX11_isMorning 25 = .ok (.invokestatic 99, 3) := by decide +kernel
theorem dX11_isMorning_28 : decode cX11_isMorning 28 = .ok (.ifCond .eq 15, 3) := by decide +kernel
theorem dX11_isMorning_31 : decode cX11_isMorning 31 = .ok (.iload_n 3, 1) := by decide +kernel
theorem dX11_isMorning_32 : decode cX11_isMorning 32 = .ok (.bipush 10, 2) := by decide +kernel
theorem dX11_isMorning_34 : decode cX11_isMorning 34 = .ok (.irem, 1) := by decide +kernel
theorem dX11_isMorning_35 : decode cX11_isMorning 35 = .ok (.iconst 3, 1) := by decide +kernel
theorem dX11_isMorning_36 : decode cX11_isMorning 36 = .ok (.if_icmp .ge 7, 3) := by decide +kernel
theorem dX11_isMorning_39 : decode cX11_isMorning 39 = .ok (.iconst 1, 1) := by decide +kernel
theorem dX11_isMorning_40 : decode cX11_isMorning 40 = .ok (.goto 4, 3) := by decide +kernel
theorem dX11_isMorning_43 : decode cX11_isMorning 43 = .ok (.iconst 0, 1) := by decide +kernel
theorem dX11_isMorning_44 : decode cX11_isMorning 44 = .ok (.ireturn, 1) := by decide +kernel
theorem dX11_askOf_0 : decode cX11_askOf 0 = .ok (.aload_n 0, 1) := by decide +kernel
theorem dX11_askOf_1 : decode cX11_askOf 1 = .ok (.getfield 33, 3) := by decide +kernel
theorem dX11_askOf_4 : decode cX11_askOf 4 = .ok (.getfield 159, 3) := by decide +kernel
theorem dX11_askOf_7 : decode cX11_askOf 7 = .ok (.iload_n 2, 1) := by decide +kernel
theorem dX11_askOf_8 : decode cX11_askOf 8 = .ok (.aaload, 1) := by decide +kernel
theorem dX11_askOf_9 : decode cX11_askOf 9 = .ok (.astore_n 3, 1) := by decide +kernel
theorem dX11_askOf_10 : decode cX11_askOf 10 = .ok (.aload_n 0, 1) := by decide +kernel
theorem dX11_askOf_11 : decode cX11_askOf 11 = .ok (.getfield 54, 3) := by decide +kernel
theorem dX11_askOf_14 : decode cX11_askOf 14 = .ok (.aload_n 0, 1) := by decide +kernel
theorem dX11_askOf_15 : decode cX11_askOf 15 = .ok (.getfield 10, 3) := by decide +kernel
theorem dX11_askOf_18 : decode cX11_askOf 18 = .ok (.invokevirtual 152, 3) := by decide +kernel
theorem dX11_askOf_21 : decode cX11_askOf 21 = .ok (.aload_n 3, 1) := by decide +kernel
theorem dX11_askOf_22 : decode cX11_askOf 22 = .ok (.iconst 3, 1) := by decide +kernel
theorem dX11_askOf_23 : decode cX11_askOf 23 = .ok (.iaload, 1) := by decide +kernel
theorem dX11_askOf_24 : decode cX11_askOf 24 = .ok (.isub, 1) := by decide +kernel
theorem dX11_askOf_25 : decode cX11_askOf 25 = .ok (.putfield 359, 3) := by decide +kernel
theorem dX11_askOf_28 : decode cX11_askOf 28 = .ok (.aload_n 0, 1) := by decide +kernel
theorem dX11_askOf_29 : decode cX11_askOf 29 = .ok (.getfield 54, 3) := by decide +kernel
theorem dX11_askOf_32 : decode cX11_askOf 32 = .ok (.aload_n 3, 1) := by decide +kernel
theorem dX11_askOf_33 : decode cX11_askOf 33 = .ok (.iconst 1, 1) := by decide +kernel
theorem dX11_askOf_34 : decode cX11_askOf 34 = .ok (.iaload, 1) := by decide +kernel
theorem dX11_askOf_35 : decode cX11_askOf 35 = .ok (.putfield 362, 3) := by decide +kernel
theorem dX11_askOf_38 : decode cX11_askOf 38 = .ok (.aload_n 0, 1) := by decide +kernel
theorem dX11_askOf_39 : decode cX11_askOf 39 = .ok (.getfield 54, 3) := by decide +kernel
theorem dX11_askOf_42 : decode cX11_askOf 42 = .ok (.aload_n 0, 1) := by decide +kernel
theorem dX11_askOf_43 : decode cX11_askOf 43 = .ok (.getfield 26, 3) := by decide +kernel
theorem dX11_askOf_46 : decode cX11_askOf 46 = .ok (.getfield 321, 3) := by decide +kernel
theorem dX11_askOf_49 : decode cX11_askOf 49 = .ok (.aload_n 3, 1) := by decide +kernel
theorem dX11_askOf_50 : decode cX11_askOf 50 = .ok (.iconst 1, 1) := by decide +kernel
theorem dX11_askOf_51 : decode cX11_askOf 51 = .ok (.iaload, 1) := by decide +kernel
theorem dX11_askOf_52 : decode cX11_askOf 52 = .ok (.iaload, 1) := by decide +kernel
theorem dX11_askOf_53 : decode cX11_askOf 53 = .ok (.putfield 365, 3) := by decide +kernel
theorem dX11_askOf_56 : decode cX11_askOf 56 = .ok (.aload_n 0, 1) := by decide +kernel
theorem dX11_askOf_57 : decode cX11_askOf 57 = .ok (.getfield 54, 3) := by decide +kernel
theorem dX11_askOf_60 : decode cX11_askOf 60 = .ok (.aload_n 0, 1) := by decide +kernel
theorem dX11_askOf_61 : decode cX11_askOf 61 = .ok (.getfield 10, 3) := by decide +kernel
theorem dX11_askOf_64 : decode cX11_askOf 64 = .ok (.invokevirtual 215, 3) := by decide +kernel
theorem dX11_askOf_67 : decode cX11_askOf 67 = .ok (.putfield 367, 3) := by decide +kernel
theorem dX11_askOf_70 : decode cX11_askOf 70 = .ok (.aload_n 0, 1) := by decide +kernel
theorem dX11_askOf_71 : decode cX11_askOf 71 = .ok (.getfield 54, 3) := by decide +kernel
theorem dX11_askOf_74 : decode cX11_askOf 74 = .ok (.aload_n 0, 1) := by decide +kernel
theorem dX11_askOf_75 : decode cX11_askOf 75 = .ok (.getfield 10, 3) := by decide +kernel
theorem dX11_askOf_78 : decode cX11_askOf 78 = .ok (.invokevirtual 135, 3) := by decide +kernel
theorem dX11_askOf_81 : decode cX11_askOf 81 = .ok (.putfield 369, 3) := by decide +kernel
theorem dX11_askOf_84 : decode cX11_askOf 84 = .ok (.aload_n 0, 1) := by decide +kernel
theorem dX11_askOf_85 : decode cX11_askOf 85 = .ok (.getfield 54, 3) := by decide +kernel
theorem dX11_askOf_88 : decode cX11_askOf 88 = .ok (.aload_n 0, 1) := by decide +kernel
theorem dX11_askOf_89 : decode cX11_askOf 89 = .ok (.getfield 19, 3) := by decide +kernel
theorem dX11_askOf_92 : decode cX11_askOf 92 = .ok (.getfield 145, 3) := by decide +kernel
theorem dX11_askOf_95 : decode cX11_askOf 95 = .ok (.aload_n 3, 1) := by decide +kernel
theorem dX11_askOf_96 : decode cX11_askOf 96 = .ok (.iconst 0, 1) := by decide +kernel
theorem dX11_askOf_97 : decode cX11_askOf 97 = .ok (.iaload, 1) := by decide +kernel
theorem dX11_askOf_98 : decode cX11_askOf 98 = .ok (.aaload, 1) := by decide +kernel
theorem dX11_askOf_99 : decode cX11_askOf 99 = .ok (.aload_n 3, 1) := by decide +kernel
theorem dX11_askOf_100 : decode cX11_askOf 100 = .ok (.iconst 1, 1) := by decide +kernel
theorem dX11_askOf_101 : decode cX11_askOf 101 = .ok (.iaload, 1) := by decide +kernel
theorem dX11_askOf_102 : decode cX11_askOf 102 = .ok (.iaload, 1) := by decide +kernel
theorem dX11_askOf_103 : decode cX11_askOf 103 = .ok (.putfield 370, 3) := by decide +kernel
theorem dX11_askOf_106 : decode cX11_askOf 106 = .ok (.aload_n 0, 1) := by decide +kernel
theorem dX11_askOf_107 : decode cX11_askOf 107 = .ok (.getfield 54, 3) := by decide +kernel
theorem dX11_askOf_110 : decode cX11_askOf 110 = .ok (.aload_n 0, 1) := by decide +kernel
theorem dX11_askOf_111 : decode cX11_askOf 111 = .ok (.getfield 19, 3) := by decide +kernel
theorem dX11_askOf_114 : decode cX11_askOf 114 = .ok (.getfield 149, 3) := by decide +kernel
theorem dX11_askOf_117 : decode cX11_askOf 117 = .ok (.aload_n 3, 1) := by decide +kernel
theorem dX11_askOf_118 : decode cX11_askOf 118 = .ok (.iconst 0, 1) := by decide +kernel
theorem dX11_askOf_119 : decode cX11_askOf 119 = .ok (.iaload, 1) := by decide +kernel
theorem dX11_askOf_120 : decode cX11_askOf 120 = .ok (.aaload, 1) := by decide +kernel
theorem dX11_askOf_121 : decode cX11_askOf 121 = .ok (.aload_n 3, 1) := by decide +kernel
theorem dX11_askOf_122 : decode cX11_askOf 122 = .ok (.iconst 1, 1) := by decide +kernel
theorem dX11_askOf_123 : decode cX11_askOf 123 = .ok (.iaload, 1) := by decide +kernel
theorem dX11_askOf_124 : decode cX11_askOf 124 = .ok (.iaload, 1) := by decide +kernel
theorem dX11_askOf_125 : decode cX11_askOf 125 = .ok (.putfield 372, 3) := by decide +kernel
theorem dX11_askOf_128 : decode cX11_askOf 128 = .ok (.aload_n 0, 1) := by decide +kernel
theorem dX11_askOf_129 : decode cX11_askOf 129 = .ok (.getfield 54, 3) := by decide +kernel
theorem dX11_askOf_132 : decode cX11_askOf 132 = .ok (.aload_n 3, 1) := by decide +kernel
theorem dX11_askOf_133 : decode cX11_askOf 133 = .ok (.iconst 0, 1) := by decide +kernel
theorem dX11_askOf_134 : decode cX11_askOf 134 = .ok (.iaload, 1) := by decide +kernel
theorem dX11_askOf_135 : decode cX11_askOf 135 = .ok (.putfield 374, 3) := by decide +kernel
theorem dX11_askOf_138 : decode cX11_askOf 138 = .ok (.aload_n 0, 1) := by decide +kernel
theorem dX11_askOf_139 : decode cX11_askOf 139 = .ok (.getfield 47, 3) := by decide +kernel
theorem dX11_askOf_142 : decode cX11_askOf 142 = .ok (.iload_n 1, 1) := by decide +kernel
theorem dX11_askOf_143 : decode cX11_askOf 143 = .ok (.aload_n 0, 1) := by decide +kernel
theorem dX11_askOf_144 : decode cX11_askOf 144 = .ok (.getfield 54, 3) := by decide +kernel
theorem dX11_askOf_147 : decode cX11_askOf 147 = .ok (.invokevirtual 377, 3) := by decide +kernel
theorem dX11_askOf_150 : decode cX11_askOf 150 = .ok (.ireturn, 1) := by decide +kernel
theorem dX11_lawToday_0 : decode cX11_lawToday 0 = .ok (.aload_n 0, 1) := by decide +kernel
theorem dX11_lawToday_1 : decode cX11_lawToday 1 = .ok (.getfield 47, 3) := by decide +kernel
theorem dX11_lawToday_4 : decode cX11_lawToday 4 = .ok (.iload_n 1, 1) := by decide +kernel
theorem dX11_lawToday_5 : decode cX11_lawToday 5 = .ok (.aload_n 0, 1) := by decide +kernel
theorem dX11_lawToday_6 : decode cX11_lawToday 6 = .ok (.getfield 10, 3) := by decide +kernel
theorem dX11_lawToday_9 : decode cX11_lawToday 9 = .ok (.invokevirtual 152, 3) := by decide +kernel
theorem dX11_lawToday_12 : decode cX11_lawToday 12 = .ok (.aload_n 0, 1) := by decide +kernel
theorem dX11_lawToday_13 : decode cX11_lawToday 13 = .ok (.getfield 10, 3) := by decide +kernel
theorem dX11_lawToday_16 : decode cX11_lawToday 16 = .ok (.invokevirtual 152, 3) := by decide +kernel
theorem dX11_lawToday_19 : decode cX11_lawToday 19 = .ok (.invokevirtual 194, 3) := by decide +kernel
theorem dX11_lawToday_22 : decode cX11_lawToday 22 = .ok (.ireturn, 1) := by decide +kernel
theorem dX11_lets_0 : decode cX11_lets 0 = .ok (.iload_n 1, 1) := by decide +kernel
theorem dX11_lets_1 : decode cX11_lets 1 = .ok (.ifCond .lt 12, 3) := by decide +kernel
theorem dX11_lets_4 : decode cX11_lets 4 = .ok (.aload_n 0, 1) := by decide +kernel
theorem dX11_lets_5 : decode cX11_lets 5 = .ok (.iload_n 1, 1) := by decide +kernel
theorem dX11_lets_6 : decode cX11_lets 6 = .ok (.iload_n 2, 1) := by decide +kernel
theorem dX11_lets_7 : decode cX11_lets 7 = .ok (.invokevirtual 197, 3) := by decide +kernel
theorem dX11_lets_10 : decode cX11_lets 10 = .ok (.ifCond .eq 7, 3) := by decide +kernel
theorem dX11_lets_13 : decode cX11_lets 13 = .ok (.iconst 1, 1) := by decide +kernel
theorem dX11_lets_14 : decode cX11_lets 14 = .ok (.goto 4, 3) := by decide +kernel
theorem dX11_lets_17 : decode cX11_lets 17 = .ok (.iconst 0, 1) := by decide +kernel
theorem dX11_lets_18 : decode cX11_lets 18 = .ok (.ireturn, 1) := by decide +kernel
theorem dX11_lineUp_0 : decode cX11_lineUp 0 = .ok (.aload_n 0, 1) := by decide +kernel
theorem dX11_lineUp_1 : decode cX11_lineUp 1 = .ok (.iload_n 3, 1) := by decide +kernel
theorem dX11_lineUp_2 : decode cX11_lineUp 2 = .ok (.invokevirtual 381, 3) := by decide +kernel
theorem dX11_lineUp_5 : decode cX11_lineUp 5 = .ok (.istore 4, 2) := by decide +kernel
theorem dX11_lineUp_7 : decode cX11_lineUp 7 = .ok (.iconst 0, 1) := by decide +kernel
theorem dX11_lineUp_8 : decode cX11_lineUp 8 = .ok (.istore 5, 2) := by decide +kernel
theorem dX11_lineUp_10 : decode cX11_lineUp 10 = .ok (.aload_n 0, 1) := by decide +kernel
theorem dX11_lineUp_11 : decode cX11_lineUp 11 = .ok (.getfield 33, 3) := by decide +kernel
theorem dX11_lineUp_14 : decode cX11_lineUp 14 = .ok (.iconst 0, 1) := by decide +kernel
theorem dX11_lineUp_15 : decode cX11_lineUp 15 = .ok (.putfield 384, 3) := by decide +kernel
theorem dX11_lineUp_18 : decode cX11_lineUp 18 = .ok (.iconst 0, 1) := by decide +kernel
theorem dX11_lineUp_19 : decode cX11_lineUp 19 = .ok (.istore 6, 2) := by decide +kernel
theorem dX11_lineUp_21 : decode cX11_lineUp 21 = .ok (.iload 6, 2) := by decide +kernel
theorem dX11_lineUp_23 : decode cX11_lineUp 23 = .ok (.aload_n 0, 1) := by decide +kernel
theorem dX11_lineUp_24 : decode cX11_lineUp 24 = .ok (.getfield 33, 3) := by decide +kernel
theorem dX11_lineUp_27 : decode cX11_lineUp 27 = .ok (.getfield 346, 3) := by decide +kernel
theorem dX11_lineUp_30 : decode cX11_lineUp 30 = .ok (.if_icmp .ge 85, 3) := by decide +kernel
theorem dX11_lineUp_33 : decode cX11_lineUp 33 = .ok (.aload_n 0, 1) := by decide +kernel
theorem dX11_lineUp_34 : decode cX11_lineUp 34 = .ok (.getfield 33, 3) := by decide +kernel
theorem dX11_lineUp_37 : decode cX11_lineUp 37 = .ok (.getfield 159, 3) := by decide +kernel
theorem dX11_lineUp_40 : decode cX11_lineUp 40 = .ok (.iload 6, 2) := by decide +kernel
theorem dX11_lineUp_42 : decode cX11_lineUp 42 = .ok (.aaload, 1) := by decide +kernel
theorem dX11_lineUp_43 : decode cX11_lineUp 43 = .ok (.astore 7, 2) := by decide +kernel
theorem dX11_lineUp_45 : decode cX11_lineUp 45 = .ok (.aload 7, 2) := by decide +kernel
theorem dX11_lineUp_47 : decode cX11_lineUp 47 = .ok (.iconst 0, 1) := by decide +kernel
theorem dX11_lineUp_48 : decode cX11_lineUp 48 = .ok (.iaload, 1) := by decide +kernel
theorem dX11_lineUp_49 : decode cX11_lineUp 49 = .ok (.iload_n 1, 1) := by decide +kernel
theorem dX11_lineUp_50 : decode cX11_lineUp 50 = .ok (.if_icmp .ne 22, 3) := by decide +kernel
theorem dX11_lineUp_53 : decode cX11_lineUp 53 = .ok (.aload 7, 2) := by decide +kernel
theorem dX11_lineUp_55 : decode cX11_lineUp 55 = .ok (.iconst 1, 1) := by decide +kernel
theorem dX11_lineUp_56 : decode cX11_lineUp 56 = .ok (.iaload, 1) := by decide +kernel
theorem dX11_lineUp_57 : decode cX11_lineUp 57 = .ok (.iload_n 2, 1) := by decide +kernel
theorem dX11_lineUp_58 : decode cX11_lineUp 58 = .ok (.if_icmp .ne 14, 3) := by decide +kernel
theorem dX11_lineUp_61 : decode cX11_lineUp 61 = .ok (.aload 7, 2) := by decide +kernel
theorem dX11_lineUp_63 : decode cX11_lineUp 63 = .ok (.iconst 5, 1) := by decide +kernel
theorem dX11_lineUp_64 : decode cX11_lineUp 64 = .ok (.iaload, 1) := by decide +kernel
theorem dX11_lineUp_65 : decode cX11_lineUp 65 = .ok (.ifCond .le 7, 3) := by decide +kernel
theorem dX11_lineUp_68 : decode cX11_lineUp 68 = .ok (.iconst 1, 1) := by decide +kernel
theorem dX11_lineUp_69 : decode cX11_lineUp 69 = .ok (.goto 4, 3) := by decide +kernel
theorem dX11_lineUp_72 : decode cX11_lineUp 72 = .ok (.iconst 0, 1) := by decide +kernel
theorem dX11_lineUp_73 : decode cX11_lineUp 73 = .ok (.istore 8, 2) := by decide +kernel
theorem dX11_lineUp_75 : decode cX11_lineUp 75 = .ok (.iload 8, 2) := by decide +kernel
theorem dX11_lineUp_77 : decode cX11_lineUp 77 = .ok (.ifCond .eq 32, 3) := by decide +kernel
theorem dX11_lineUp_80 : decode cX11_lineUp 80 = .ok (.aload_n 0, 1) := by decide +kernel
theorem dX11_lineUp_81 : decode cX11_lineUp 81 = .ok (.iload 4, 2) := by decide +kernel
theorem dX11_lineUp_83 : decode cX11_lineUp 83 = .ok (.iload 6, 2) := by decide +kernel
theorem dX11_lineUp_85 : decode cX11_lineUp 85 = .ok (.invokevirtual 387, 3) := by decide +kernel
theorem dX11_lineUp_88 : decode cX11_lineUp 88 = .ok (.ifCond .eq 21, 3) := by decide +kernel
theorem dX11_lineUp_91 : decode cX11_lineUp 91 = .ok (.aload_n 0, 1) := by decide +kernel
theorem dX11_lineUp_92 : decode cX11_lineUp 92 = .ok (.getfield 33, 3) := by decide +kernel
theorem dX11_lineUp_95 : decode cX11_lineUp 95 = .ok (.iload 6, 2) := by decide +kernel
theorem dX11_lineUp_97 : decode cX11_lineUp 97 = .ok (.invokevirtual 390, 3) := by decide +kernel
theorem dX11_lineUp_100 : decode cX11_lineUp 100 = .ok (.iload 5, 2) := by decide +kernel
theorem dX11_lineUp_102 : decode cX11_lineUp 102 = .ok (.aload 7, 2) := by decide +kernel
theorem dX11_lineUp_104 : decode cX11_lineUp 104 = .ok (.iconst 5, 1) := by decide +kernel
theorem dX11_lineUp_105 : decode cX11_lineUp 105 = .ok (.iaload, 1) := by decide +kernel
theorem dX11_lineUp_106 : decode cX11_lineUp 106 = .ok (.iadd, 1) := by decide +kernel
theorem dX11_lineUp_107 : decode cX11_lineUp 107 = .ok (.istore 5, 2) := by decide +kernel
theorem dX11_lineUp_109 : decode cX11_lineUp 109 = .ok (.iinc 6 1, 3) := by decide +kernel
theorem dX11_lineUp_112 : decode cX11_lineUp 112 = .ok (.goto (-91), 3) := by decide +kernel
theorem dX11_lineUp_115 : decode cX11_lineUp 115 = .ok (.iload 5, 2) := by decide +kernel
theorem dX11_lineUp_117 : decode cX11_lineUp 117 = .ok (.ireturn, 1) := by decide +kernel
theorem dX11_beginDay_0 : decode cX11_beginDay 0 = .ok (.aload_n 0, 1) := by decide +kernel
theorem dX11_beginDay_1 : decode cX11_beginDay 1 = .ok (.getfield 19, 3) := by decide +kernel
theorem dX11_beginDay_4 : decode cX11_beginDay 4 = .ok (.invokevirtual 393, 3) := by decide +kernel
theorem dX11_beginDay_7 : decode cX11_beginDay 7 = .ok (.aload_n 0, 1) := by decide +kernel
theorem dX11_beginDay_8 : decode cX11_beginDay 8 = .ok (.iconst 0, 1) := by decide +kernel
theorem dX11_beginDay_9 : decode cX11_beginDay 9 = .ok (.invokevirtual 381, 3) := by decide +kernel
theorem dX11_beginDay_12 : decode cX11_beginDay 12 = .ok (.istore_n 1, 1) := by decide +kernel
theorem dX11_beginDay_13 : decode cX11_beginDay 13 = .ok (.iconst 0, 1) := by decide +kernel
theorem dX11_beginDay_14 : decode cX11_beginDay 14 = .ok (.istore_n 2, 1) := by decide +kernel
theorem dX11_beginDay_15 : decode cX11_beginDay 15 = .ok (.iload_n 2, 1) := by decide +kernel
theorem dX11_beginDay_16 : decode cX11_beginDay 16 = .ok (.aload_n 0, 1) := by decide +kernel
theorem dX11_beginDay_17 : decode cX11_beginDay 17 = .ok (.getfield 33, 3) := by decide +kernel
theorem dX11_beginDay_20 : decode cX11_beginDay 20 = .ok (.getfield 346, 3) := by decide +kernel
theorem dX11_beginDay_23 : decode cX11_beginDay 23 = .ok (.if_icmp .ge 40, 3) := by decide +kernel
theorem dX11_beginDay_26 : decode cX11_beginDay 26 = .ok (.aload_n 0, 1) := by decide +kernel
theorem dX11_beginDay_27 : decode cX11_beginDay 27 = .ok (.getfield 33, 3) := by decide +kernel
theorem dX11_beginDay_30 : decode cX11_beginDay 30 = .ok (.getfield 159, 3) := by decide +kernel
theorem dX11_beginDay_33 : decode cX11_beginDay 33 = .ok (.iload_n 2, 1) := by decide +kernel
theorem dX11_beginDay_34 : decode cX11_beginDay 34 = .ok (.aaload, 1) := by decide +kernel
theorem dX11_beginDay_35 : decode cX11_beginDay 35 = .ok (.iconst 5, 1) := by decide +kernel
theorem dX11_beginDay_36 : decode cX11_beginDay 36 = .ok (.iaload, 1) := by decide +kernel
theorem dX11_beginDay_37 : decode cX11_beginDay 37 = .ok (.istore_n 3, 1) := by decide +kernel
theorem dX11_beginDay_38 : decode cX11_beginDay 38 = .ok (.iload_n 3, 1) := by decide +kernel
theorem dX11_beginDay_39 : decode cX11_beginDay 39 = .ok (.ifCond .le 18, 3) := by decide +kernel
theorem dX11_beginDay_42 : decode cX11_beginDay 42 = .ok (.aload_n 0, 1) := by decide +kernel
theorem dX11_beginDay_43 : decode cX11_beginDay 43 = .ok (.iload_n 1, 1) := by decide +kernel
theorem dX11_beginDay_44 : decode cX11_beginDay 44 = .ok (.iload_n 2, 1) := by decide +kernel
theorem dX11_beginDay_45 : decode cX11_beginDay 45 = .ok (.invokevirtual 387, 3) := by decide +kernel
theorem dX11_beginDay_48 : decode cX11_beginDay 48 = .ok (.ifCond .ne 9, 3) := by decide +kernel
theorem dX11_beginDay_51 : decode cX11_beginDay 51 = .ok (.aload_n 0, 1) := by decide +kernel
theorem dX11_beginDay_52 : decode cX11_beginDay 52 = .ok (.iload_n 2, 1) := by decide +kernel
theorem dX11_beginDay_53 : decode cX11_beginDay 53 = .ok (.iload_n 3, 1) := by decide +kernel
theorem dX11_beginDay_54 : decode cX11_beginDay 54 = .ok (.invokevirtual 331, 3) := by decide +kernel
theorem dX11_beginDay_57 : decode cX11_beginDay 57 = .ok (.iinc 2 1, 3) := by decide +kernel
theorem dX11_beginDay_60 : decode cX11_beginDay 60 = .ok (.goto (-45), 3) := by decide +kernel
theorem dX11_beginDay_63 : decode cX11_beginDay 63 = .ok (.return_, 1) := by decide +kernel
theorem dX11_toss_0 : decode cX11_toss 0 = .ok (.aload_n 0, 1) := by decide +kernel
theorem dX11_toss_1 : decode cX11_toss 1 = .ok (.getfield 33, 3) := by decide +kernel
theorem dX11_toss_4 : decode cX11_toss 4 = .ok (.iload_n 1, 1) := by decide +kernel
theorem dX11_toss_5 : decode cX11_toss 5 = .ok (.iload_n 2, 1) := by decide +kernel
theorem dX11_toss_6 : decode cX11_toss 6 = .ok (.bipush 9, 2) := by decide +kernel
theorem dX11_toss_8 : decode cX11_toss 8 = .ok (.invokevirtual 396, 3) := by decide +kernel
theorem dX11_toss_11 : decode cX11_toss 11 = .ok (.aload_n 0, 1) := by decide +kernel
theorem dX11_toss_12 : decode cX11_toss 12 = .ok (.getfield 10, 3) := by decide +kernel
theorem dX11_toss_15 : decode cX11_toss 15 = .ok (.getfield 335, 3) := by decide +kernel
theorem dX11_toss_18 : decode cX11_toss 18 = .ok (.aload_n 0, 1) := by decide +kernel
theorem dX11_toss_19 : decode cX11_toss 19 = .ok (.getfield 10, 3) := by decide +kernel
theorem dX11_toss_22 : decode cX11_toss 22 = .ok (.invokevirtual 152, 3) := by decide +kernel
theorem dX11_toss_25 : decode cX11_toss 25 = .ok (.dup2, 1) := by decide +kernel
theorem dX11_toss_26 : decode cX11_toss 26 = .ok (.iaload, 1) := by decide +kernel
theorem dX11_toss_27 : decode cX11_toss 27 = .ok (.iload_n 2, 1) := by decide +kernel
theorem dX11_toss_28 : decode cX11_toss 28 = .ok (.aload_n 0, 1) := by decide +kernel
theorem dX11_toss_29 : decode cX11_toss 29 = .ok (.getfield 26, 3) := by decide +kernel
theorem dX11_toss_32 : decode cX11_toss 32 = .ok (.getfield 398, 3) := by decide +kernel
theorem dX11_toss_35 : decode cX11_toss 35 = .ok (.aload_n 0, 1) := by decide +kernel
theorem dX11_toss_36 : decode cX11_toss 36 = .ok (.getfield 33, 3) := by decide +kernel
theorem dX11_toss_39 : decode cX11_toss 39 = .ok (.getfield 159, 3) := by decide +kernel
theorem dX11_toss_42 : decode cX11_toss 42 = .ok (.iload_n 1, 1) := by decide +kernel
theorem dX11_toss_43 : decode cX11_toss 43 = .ok (.aaload, 1) := by decide +kernel
theorem dX11_toss_44 : decode cX11_toss 44 = .ok (.iconst 1, 1) := by decide +kernel
theorem dX11_toss_45 : decode cX11_toss 45 = .ok (.iaload, 1) := by decide +kernel
theorem dX11_toss_46 : decode cX11_toss 46 = .ok (.iaload, 1) := by decide +kernel
theorem dX11_toss_47 : decode cX11_toss 47 = .ok (.imul, 1) := by decide +kernel
theorem dX11_toss_48 : decode cX11_toss 48 = .ok (.iadd, 1) := by decide +kernel
theorem dX11_toss_49 : decode cX11_toss 49 = .ok (.iastore, 1) := by decide +kernel
theorem dX11_toss_50 : decode cX11_toss 50 = .ok (.return_, 1) := by decide +kernel
theorem dX11_sumDrawn_0 : decode cX11_sumDrawn 0 = .ok (.iconst 0, 1) := by decide +kernel
theorem dX11_sumDrawn_1 : decode cX11_sumDrawn 1 = .ok (.istore 4, 2) := by decide +kernel
theorem dX11_sumDrawn_3 : decode cX11_sumDrawn 3 = .ok (.iconst 0, 1) := by decide +kernel
theorem dX11_sumDrawn_4 : decode cX11_sumDrawn 4 = .ok (.istore 5, 2) := by decide +kernel
theorem dX11_sumDrawn_6 : decode cX11_sumDrawn 6 = .ok (.iconst 0, 1) := by decide +kernel
theorem dX11_sumDrawn_7 : decode cX11_sumDrawn 7 = .ok (.istore 6, 2) := by decide +kernel
theorem dX11_sumDrawn_9 : decode cX11_sumDrawn 9 = .ok (.iload 6, 2) := by decide +kernel
theorem dX11_sumDrawn_11 : decode cX11_sumDrawn 11 = .ok (.aload_n 0, 1) := by decide +kernel
theorem dX11_sumDrawn_12 : decode cX11_sumDrawn 12 = .ok (.getfield 19, 3) := by decide +kernel
theorem dX11_sumDrawn_15 : decode cX11_sumDrawn 15 = .ok (.getfield 103, 3) := by decide +kernel
theorem dX11_sumDrawn_18 : decode cX11_sumDrawn 18 = .ok (.getfield 344, 3) := by decide +kernel
theorem dX11_sumDrawn_21 : decode cX11_sumDrawn 21 = .ok (.if_icmp .ge 70, 3) := by decide +kernel
theorem dX11_sumDrawn_24 : decode cX11_sumDrawn 24 = .ok (.iload 5, 2) := by decide +kernel
theorem dX11_sumDrawn_26 : decode cX11_sumDrawn 26 = .ok (.bipush 10, 2) := by decide +kernel
theorem dX11_sumDrawn_28 : decode cX11_sumDrawn 28 = .ok (.if_icmp .ge 63, 3) := by decide +kernel
theorem dX11_sumDrawn_31 : decode cX11_sumDrawn 31 = .ok (.aload_n 0, 1) := by decide +kernel
theorem dX11_sumDrawn_32 : decode cX11_sumDrawn 32 = .ok (.getfield 19, 3) := by decide +kernel
theorem dX11_sumDrawn_35 : decode cX11_sumDrawn 35 = .ok (.getfield 294, 3) := by decide +kernel
theorem dX11_sumDrawn_38 : decode cX11_sumDrawn 38 = .ok (.iload 6, 2) := by decide +kernel
theorem dX11_sumDrawn_40 : decode cX11_sumDrawn 40 = .ok (.iaload, 1) := by decide +kernel
theorem dX11_sumDrawn_41 : decode cX11_sumDrawn 41 = .ok (.iconst (-1), 1) := by decide +kernel
theorem dX11_sumDrawn_42 : decode cX11_sumDrawn 42 = .ok (.if_icmp .eq 43, 3) := by decide +kernel
theorem dX11_sumDrawn_45 : decode cX11_sumDrawn 45 = .ok (.aload_n 0, 1) := by decide +kernel
theorem dX11_sumDrawn_46 : decode cX11_sumDrawn 46 = .ok (.getfield 92, 3) := by decide +kernel
theorem dX11_sumDrawn_49 : decode cX11_sumDrawn 49 = .ok (.iload 5, 2) := by decide +kernel
theorem dX11_sumDrawn_51 : decode cX11_sumDrawn 51 = .ok (.aload_n 0, 1) := by decide +kernel
theorem dX11_sumDrawn_52 : decode cX11_sumDrawn 52 = .ok (.getfield 61, 3) := by decide +kernel
theorem dX11_sumDrawn_55 : decode cX11_sumDrawn 55 = .ok (.iload 6, 2) := by decide +kernel
theorem dX11_sumDrawn_57 : decode cX11_sumDrawn 57 = .ok (.iload_n 1, 1) := by decide +kernel
theorem dX11_sumDrawn_58 : decode cX11_sumDrawn 58 = .ok (.iload_n 2, 1) := by decide +kernel
theorem dX11_sumDrawn_59 : decode cX11_sumDrawn 59 = .ok (.iload_n 3, 1) := by decide +kernel
theorem dX11_sumDrawn_60 : decode cX11_sumDrawn 60 = .ok (.invokevirtual 300, 3) := by decide +kernel
theorem dX11_sumDrawn_63 : decode cX11_sumDrawn 63 = .ok (.iastore, 1) := by decide +kernel
theorem dX11_sumDrawn_64 : decode cX11_sumDrawn 64 = .ok (.iload 4, 2) := by decide +kernel
theorem dX11_sumDrawn_66 : decode cX11_sumDrawn 66 = .ok (.aload_n 0, 1) := by decide +kernel
theorem dX11_sumDrawn_67 : decode cX11_sumDrawn 67 = .ok (.getfield 19, 3) := by decide +kernel
theorem dX11_sumDrawn_70 : decode cX11_sumDrawn 70 = .ok (.getfield 294, 3) := by decide +kernel
theorem dX11_sumDrawn_73 : decode cX11_sumDrawn 73 = .ok (.iload 6, 2) := by decide +kernel
theorem dX11_sumDrawn_75 : decode cX11_sumDrawn 75 = .ok (.iaload, 1) := by decide +kernel
theorem dX11_sumDrawn_76 : decode cX11_sumDrawn 76 = .ok (.iload 5, 2) := by decide +kernel
theorem dX11_sumDrawn_78 : decode cX11_sumDrawn 78 = .ok (.ishl, 1) := by decide +kernel
theorem dX11_sumDrawn_79 : decode cX11_sumDrawn 79 = .ok (.ior, 1) := by decide +kernel
theorem dX11_sumDrawn_80 : decode cX11_sumDrawn 80 = .ok (.istore 4, 2) := by decide +kernel
theorem dX11_sumDrawn_82 : decode cX11_sumDrawn 82 = .ok (.iinc 5 1, 3) := by decide +kernel
theorem dX11_sumDrawn_85 : decode cX11_sumDrawn 85 = .ok (.iinc 6 1, 3) := by decide +kernel
theorem dX11_sumDrawn_88 : decode cX11_sumDrawn 88 = .ok (.goto (-79), 3) := by decide +kernel
theorem dX11_sumDrawn_91 : decode cX11_sumDrawn 91 = .ok (.iload 4, 2) := by decide +kernel
theorem dX11_sumDrawn_93 : decode cX11_sumDrawn 93 = .ok (.ireturn, 1) := by decide +kernel
theorem dX11_earlyOf_0 : decode cX11_earlyOf 0 = .ok (.iconst 0, 1) := by decide +kernel
theorem dX11_earlyOf_1 : decode cX11_earlyOf 1 = .ok (.istore_n 2, 1) := by decide +kernel
theorem dX11_earlyOf_2 : decode cX11_earlyOf 2 = .ok (.iconst 0, 1) := by decide +kernel
theorem dX11_earlyOf_3 : decode cX11_earlyOf 3 = .ok (.istore_n 3, 1) := by decide +kernel
theorem dX11_earlyOf_4 : decode cX11_earlyOf 4 = .ok (.iload_n 3, 1) := by decide +kernel
theorem dX11_earlyOf_5 : decode cX11_earlyOf 5 = .ok (.bipush 10, 2) := by decide +kernel
theorem dX11_earlyOf_7 : decode cX11_earlyOf 7 = .ok (.if_icmp .ge 27, 3) := by decide +kernel
theorem dX11_earlyOf_10 : decode cX11_earlyOf 10 = .ok (.iload_n 1, 1) := by decide +kernel
theorem dX11_earlyOf_11 : decode cX11_earlyOf 11 = .ok (.iload_n 3, 1) := by decide +kernel
theorem dX11_earlyOf_12 : decode cX11_earlyOf 12 = .ok (.ishr, 1) := by decide +kernel
theorem dX11_earlyOf_13 : decode cX11_earlyOf 13 = .ok (.iconst 1, 1) := by decide +kernel
theorem dX11_earlyOf_14 : decode cX11_earlyOf 14 = .ok (.iand, 1) := by decide +kernel
theorem dX11_earlyOf_15 : decode cX11_earlyOf 15 = .ok (.iconst 1, 1) := by decide +kernel
theorem dX11_earlyOf_16 : decode cX11_earlyOf 16 = .ok (.if_icmp .ne 12, 3) := by decide +kernel
theorem dX11_earlyOf_19 : decode cX11_earlyOf 19 = .ok (.iload_n 2, 1) := by decide +kernel
theorem dX11_earlyOf_20 : decode cX11_earlyOf 20 = .ok (.aload_n 0, 1) := by decide +kernel
theorem dX11_earlyOf_21 : decode cX11_earlyOf 21 = .ok (.getfield 92, 3) := by decide +kernel
theorem dX11_earlyOf_24 : decode cX11_earlyOf 24 = .ok (.iload_n 3, 1) := by decide +kernel
theorem dX11_earlyOf_25 : decode cX11_earlyOf 25 = .ok (.iaload, 1) := by decide +kernel
theorem dX11_earlyOf_26 : decode cX11_earlyOf 26 = .ok (.iadd, 1) := by decide +kernel
theorem dX11_earlyOf_27 : decode cX11_earlyOf 27 = .ok (.istore_n 2, 1) := by decide +kernel
theorem dX11_earlyOf_28 : decode cX11_earlyOf 28 = .ok (.iinc 3 1, 3) := by decide +kernel
theorem dX11_earlyOf_31 : decode cX11_earlyOf 31 = .ok (.goto (-27), 3) := by decide +kernel
theorem dX11_earlyOf_34 : decode cX11_earlyOf 34 = .ok (.iload_n 2, 1) := by decide +kernel
theorem dX11_earlyOf_35 : decode cX11_earlyOf 35 = .ok (.ireturn, 1) := by decide +kernel
theorem dX11_gapOf_0 : decode cX11_gapOf 0 = .ok (.iload_n 2, 1) := by decide +kernel
theorem dX11_gapOf_1 : decode cX11_gapOf 1 = .ok (.iload_n 3, 1) := by decide +kernel
theorem dX11_gapOf_2 : decode cX11_gapOf 2 = .ok (.imul, 1) := by decide +kernel
theorem dX11_gapOf_3 : decode cX11_gapOf 3 = .ok (.istore 4, 2) := by decide +kernel
theorem dX11_gapOf_5 : decode cX11_gapOf 5 = .ok (.iload 4, 2) := by decide +kernel
theorem dX11_gapOf_7 : decode cX11_gapOf 7 = .ok (.ifCond .gt 7, 3) := by decide +kernel
theorem dX11_gapOf_10 : decode cX11_gapOf 10 = .ok (.ldc_w 306, 3) := by decide +kernel
theorem dX11_gapOf_13 : decode cX11_gapOf 13 = .ok (.ireturn, 1) := by decide +kernel
theorem dX11_gapOf_14 : decode cX11_gapOf 14 = .ok (.aload_n 0, 1) := by decide +kernel
theorem dX11_gapOf_15 : decode cX11_gapOf 15 = .ok (.iload_n 1, 1) := by decide +kernel
theorem dX11_gapOf_16 : decode cX11_gapOf 16 = .ok (.invokevirtual 399, 3) := by decide +kernel
theorem dX11_gapOf_19 : decode cX11_gapOf 19 = .ok (.i2l, 1) := by decide +kernel
theorem dX11_gapOf_20 : decode cX11_gapOf 20 = .ok (.lstore 5, 2) := by decide +kernel
theorem dX11_gapOf_22 : decode cX11_gapOf 22 = .ok (.aload_n 0, 1) := by decide +kernel
theorem dX11_gapOf_23 : decode cX11_gapOf 23 = .ok (.iconst 1, 1) := by decide +kernel
theorem dX11_gapOf_24 : decode cX11_gapOf 24 = .ok (.iload_n 2, 1) := by decide +kernel
theorem dX11_gapOf_25 : decode cX11_gapOf 25 = .ok (.iload_n 3, 1) := by decide +kernel
theorem dX11_gapOf_26 : decode cX11_gapOf 26 = .ok (.iadd, 1) := by decide +kernel
theorem dX11_gapOf_27 : decode cX11_gapOf 27 = .ok (.ishl, 1) := by decide +kernel
theorem dX11_gapOf_28 : decode cX11_gapOf 28 = .ok (.iconst 1, 1) := by decide +kernel
theorem dX11_gapOf_29 : decode cX11_gapOf 29 = .ok (.isub, 1) := by decide +kernel
theorem dX11_gapOf_30 : decode cX11_gapOf 30 = .ok (.iload_n 1, 1) := by decide +kernel
theorem dX11_gapOf_31 : decode cX11_gapOf 31 = .ok (.iconst (-1), 1) := by decide +kernel
theorem dX11_gapOf_32 : decode cX11_gapOf 32 = .ok (.ixor, 1) := by decide +kernel
theorem dX11_gapOf_33 : decode cX11_gapOf 33 = .ok (.iand, 1) := by decide +kernel
theorem dX11_gapOf_34 : decode cX11_gapOf 34 = .ok (.invokevirtual 399, 3) := by decide +kernel
theorem dX11_gapOf_37 : decode cX11_gapOf 37 = .ok (.i2l, 1) := by decide +kernel
theorem dX11_gapOf_38 : decode cX11_gapOf 38 = .ok (.lstore 7, 2) := by decide +kernel
theorem dX11_gapOf_40 : decode cX11_gapOf 40 = .ok (.ldc2_w 402, 3) := by decide +kernel
theorem dX11_gapOf_43 : decode cX11_gapOf 43 = .ok (.lload 7, 2) := by decide +kernel
theorem dX11_gapOf_45 : decode cX11_gapOf 45 = .ok (.iload_n 2, 1) := by decide +kernel
theorem dX11_gapOf_46 : decode cX11_gapOf 46 = .ok (.i2l, 1) := by decide +kernel
theorem dX11_gapOf_47 : decode cX11_gapOf 47 = .ok (.lmul, 1) := by decide +kernel
theorem dX11_gapOf_48 : decode cX11_gapOf 48 = .ok (.lload 5, 2) := by decide +kernel
theorem dX11_gapOf_50 : decode cX11_gapOf 50 = .ok (.iload_n 3, 1) := by decide +kernel
theorem dX11_gapOf_51 : decode cX11_gapOf 51 = .ok (.i2l, 1) := by decide +kernel
theorem dX11_gapOf_52 : decode cX11_gapOf 52 = .ok (.lmul, 1) := by decide +kernel
theorem dX11_gapOf_53 : decode cX11_gapOf 53 = .ok (.lsub, 1) := by decide +kernel
theorem dX11_gapOf_54 : decode cX11_gapOf 54 = .ok (.lmul, 1) := by decide +kernel
theorem dX11_gapOf_55 : decode cX11_gapOf 55 = .ok (.iload 4, 2) := by decide +kernel
theorem dX11_gapOf_57 : decode cX11_gapOf 57 = .ok (.i2l, 1) := by decide +kernel
theorem dX11_gapOf_58 : decode cX11_gapOf 58 = .ok (.ldiv, 1) := by decide +kernel
theorem dX11_gapOf_59 : decode cX11_gapOf 59 = .ok (.l2i, 1) := by decide +kernel
theorem dX11_gapOf_60 : decode cX11_gapOf 60 = .ok (.ireturn, 1) := by decide +kernel
theorem dX11_doubtOf_0 : decode cX11_doubtOf 0 = .ok (.aload_n 0, 1) := by decide +kernel
theorem dX11_doubtOf_1 : decode cX11_doubtOf 1 = .ok (.iload_n 1, 1) := by decide +kernel
theorem dX11_doubtOf_2 : decode cX11_doubtOf 2 = .ok (.invokevirtual 399, 3) := by decide +kernel
theorem dX11_doubtOf_5 : decode cX11_doubtOf 5 = .ok (.istore 4, 2) := by decide +kernel
theorem dX11_doubtOf_7 : decode cX11_doubtOf 7 = .ok (.iconst 0, 1) := by decide +kernel
theorem dX11_doubtOf_8 : decode cX11_doubtOf 8 = .ok (.istore 5, 2) := by decide +kernel
theorem dX11_doubtOf_10 : decode cX11_doubtOf 10 = .ok (.iconst 0, 1) := by decide +kernel
theorem dX11_doubtOf_11 : decode cX11_doubtOf 11 = .ok (.istore 6, 2) := by decide +kernel
theorem dX11_doubtOf_13 : decode cX11_doubtOf 13 = .ok (.iconst 0, 1) := by decide +kernel
theorem dX11_doubtOf_14 : decode cX11_doubtOf 14 = .ok (.istore 7, 2) := by decide +kernel
theorem dX11_doubtOf_16 : decode cX11_doubtOf 16 = .ok (.iload 7, 2) := by decide +kernel
theorem dX11_doubtOf_18 : decode cX11_doubtOf 18 = .ok (.iconst 1, 1) := by decide +kernel
theorem dX11_doubtOf_19 : decode cX11_doubtOf 19 = .ok (.iload_n 3, 1) := by decide +kernel
theorem dX11_doubtOf_20 : decode cX11_doubtOf 20 = .ok (.ishl, 1) := by decide +kernel
theorem dX11_doubtOf_21 : decode cX11_doubtOf 21 = .ok (.if_icmp .ge 35, 3) := by decide +kernel
theorem dX11_doubtOf_24 : decode cX11_doubtOf 24 = .ok (.iload 7, 2) := by decide +kernel
theorem dX11_doubtOf_26 : decode cX11_doubtOf 26 = .ok (.invokestatic 404, 3) := by decide +kernel
theorem dX11_doubtOf_29 : decode cX11_doubtOf 29 = .ok (.iload_n 2, 1) := by decide +kernel
theorem dX11_doubtOf_30 : decode cX11_doubtOf 30 = .ok (.if_icmp .ne 20, 3) := by decide +kernel
theorem dX11_doubtOf_33 : decode cX11_doubtOf 33 = .ok (.iinc 5 1, 3) := by decide +kernel
theorem dX11_doubtOf_36 : decode cX11_doubtOf 36 = .ok (.aload_n 0, 1) := by decide +kernel
theorem dX11_doubtOf_37 : decode cX11_doubtOf 37 = .ok (.iload 7, 2) := by decide +kernel
theorem dX11_doubtOf_39 : decode cX11_doubtOf 39 = .ok (.invokevirtual 399, 3) := by decide +kernel
theorem dX11_doubtOf_42 : decode cX11_doubtOf 42 = .ok (.iload 4, 2) := by decide +kernel
theorem dX11_doubtOf_44 : decode cX11_doubtOf 44 = .ok (.if_icmp .gt 6, 3) := by decide +kernel
theorem dX11_doubtOf_47 : decode cX11_doubtOf 47 = .ok (.iinc 6 1, 3) := by decide +kernel
theorem dX11_doubtOf_50 : decode cX11_doubtOf 50 = .ok (.iinc 7 1, 3) := by decide +kernel
theorem dX11_doubtOf_53 : decode cX11_doubtOf 53 = .ok (.goto (-37), 3) := by decide +kernel
theorem dX11_doubtOf_56 : decode cX11_doubtOf 56 = .ok (.iload 5, 2) := by decide +kernel
theorem dX11_doubtOf_58 : decode cX11_doubtOf 58 = .ok (.ifCond .ne 9, 3) := by decide +kernel
theorem dX11_doubtOf_61 : decode cX11_doubtOf 61 = .ok (.ldc_w 306, 3) := by decide +kernel
theorem dX11_doubtOf_64 : decode cX11_doubtOf 64 = .ok (.goto 17, 3) := by decide +kernel
theorem dX11_doubtOf_67 : decode cX11_doubtOf 67 = .ok (.sipush 10000, 3) := by decide +kernel
theorem dX11_doubtOf_70 : decode cX11_doubtOf 70 = .ok (.iload 6, 2) := by decide +kernel
theorem dX11_doubtOf_72 : decode cX11_doubtOf 72 = .ok (.imul, 1) := by decide +kernel
theorem dX11_doubtOf_73 : decode cX11_doubtOf 73 = .ok (.iload 5, 2) := by decide +kernel
theorem dX11_doubtOf_75 : decode cX11_doubtOf 75 = .ok (.iadd, 1) := by decide +kernel
theorem dX11_doubtOf_76 : decode cX11_doubtOf 76 = .ok (.iconst 1, 1) := by decide +kernel
theorem dX11_doubtOf_77 : decode cX11_doubtOf 77 = .ok (.isub, 1) := by decide +kernel
theorem dX11_doubtOf_78 : decode cX11_doubtOf 78 = .ok (.iload 5, 2) := by decide +kernel
theorem dX11_doubtOf_80 : decode cX11_doubtOf 80 = .ok (.idiv, 1) := by decide +kernel
theorem dX11_doubtOf_81 : decode cX11_doubtOf 81 = .ok (.ireturn, 1) := by decide +kernel
theorem dJ6_bitCount_0f7a4_0 : decode cJ6_bitCount_0f7a4 0 = .ok (.iload_n 0, 1) := by decide +kernel
theorem dJ6_bitCount_0f7a4_1 : decode cJ6_bitCount_0f7a4 1 = .ok (.iload_n 0, 1) := by decide +kernel
theorem dJ6_bitCount_0f7a4_2 : decode cJ6_bitCount_0f7a4 2 = .ok (.iconst 1, 1) := by decide +kernel
theorem dJ6_bitCount_0f7a4_3 : decode cJ6_bitCount_0f7a4 3 = .ok (.iushr, 1) := by decide +kernel
theorem dJ6_bitCount_0f7a4_4 : decode cJ6_bitCount_0f7a4 4 = .ok (.ldc_w 265, 3) := by decide +kernel
theorem dJ6_bitCount_0f7a4_7 : decode cJ6_bitCount_0f7a4 7 = .ok (.iand, 1) := by decide +kernel
theorem dJ6_bitCount_0f7a4_8 : decode cJ6_bitCount_0f7a4 8 = .ok (.isub, 1) := by decide +kernel
theorem dJ6_bitCount_0f7a4_9 : decode cJ6_bitCount_0f7a4 9 = .ok (.istore_n 0, 1) := by decide +kernel
theorem dJ6_bitCount_0f7a4_10 : decode cJ6_bitCount_0f7a4 10 = .ok (.iload_n 0, 1) := by decide +kernel
theorem dJ6_bitCount_0f7a4_11 : decode cJ6_bitCount_0f7a4 11 = .ok (.ldc_w 266, 3) := by decide +kernel
theorem dJ6_bitCount_0f7a4_14 : decode cJ6_bitCount_0f7a4 14 = .ok (.iand, 1) := by decide +kernel
theorem dJ6_bitCount_0f7a4_15 : decode cJ6_bitCount_0f7a4 15 = .ok (.iload_n 0, 1) := by decide +kernel
theorem dJ6_bitCount_0f7a4_16 : decode cJ6_bitCount_0f7a4 16 = .ok (.iconst 2, 1) := by decide +kernel
theorem dJ6_bitCount_0f7a4_17 : decode cJ6_bitCount_0f7a4 17 = .ok (.iushr, 1) := by decide +kernel
theorem dJ6_bitCount_0f7a4_18 : decode cJ6_bitCount_0f7a4 18 = .ok (.ldc_w 266, 3) := by decide +kernel
theorem dJ6_bitCount_0f7a4_21 : decode cJ6_bitCount_0f7a4 21 = .ok (.iand, 1) := by decide +kernel
theorem dJ6_bitCount_0f7a4_22 : decode cJ6_bitCount_0f7a4 22 = .ok (.iadd, 1) := by decide +kernel
theorem dJ6_bitCount_0f7a4_23 : decode cJ6_bitCount_0f7a4 23 = .ok (.istore_n 0, 1) := by decide +kernel
theorem dJ6_bitCount_0f7a4_24 : decode cJ6_bitCount_0f7a4 24 = .ok (.iload_n 0, 1) := by decide +kernel
theorem dJ6_bitCount_0f7a4_25 : decode cJ6_bitCount_0f7a4 25 = .ok (.iload_n 0, 1) := by decide +kernel
theorem dJ6_bitCount_0f7a4_26 : decode cJ6_bitCount_0f7a4 26 = .ok (.iconst 4, 1) := by decide +kernel
theorem dJ6_bitCount_0f7a4_27 : decode cJ6_bitCount_0f7a4 27 = .ok (.iushr, 1) := by decide +kernel
theorem dJ6_bitCount_0f7a4_28 : decode cJ6_bitCount_0f7a4 28 = .ok (.iadd, 1) := by decide +kernel
theorem dJ6_bitCount_0f7a4_29 : decode cJ6_bitCount_0f7a4 29 = .ok (.ldc_w 267, 3) := by decide +kernel
theorem dJ6_bitCount_0f7a4_32 : decode cJ6_bitCount_0f7a4 32 = .ok (.iand, 1) := by decide +kernel
theorem dJ6_bitCount_0f7a4_33 : decode cJ6_bitCount_0f7a4 33 = .ok (.istore_n 0, 1) := by decide +kernel
theorem dJ6_bitCount_0f7a4_34 : decode cJ6_bitCount_0f7a4 34 = .ok (.iload_n 0, 1) := by decide +kernel
theorem dJ6_bitCount_0f7a4_35 : decode cJ6_bitCount_0f7a4 35 = .ok (.iload_n 0, 1) := by decide +kernel
theorem dJ6_bitCount_0f7a4_36 : decode cJ6_bitCount_0f7a4 36 = .ok (.bipush 8, 2) := by decide +kernel
theorem dJ6_bitCount_0f7a4_38 : decode cJ6_bitCount_0f7a4 38 = .ok (.iushr, 1) := by decide +kernel
theorem dJ6_bitCount_0f7a4_39 : decode cJ6_bitCount_0f7a4 39 = .ok (.iadd, 1) := by decide +kernel
theorem dJ6_bitCount_0f7a4_40 : decode cJ6_bitCount_0f7a4 40 = .ok (.istore_n 0, 1) := by decide +kernel
theorem dJ6_bitCount_0f7a4_41 : decode cJ6_bitCount_0f7a4 41 = .ok (.iload_n 0, 1) := by decide +kernel
theorem dJ6_bitCount_0f7a4_42 : decode cJ6_bitCount_0f7a4 42 = .ok (.iload_n 0, 1) := by decide +kernel
theorem dJ6_bitCount_0f7a4_43 : decode cJ6_bitCount_0f7a4 43 = .ok (.bipush 16, 2) := by decide +kernel
theorem dJ6_bitCount_0f7a4_45 : decode cJ6_bitCount_0f7a4 45 = .ok (.iushr, 1) := by decide +kernel
theorem dJ6_bitCount_0f7a4_46 : decode cJ6_bitCount_0f7a4 46 = .ok (.iadd, 1) := by decide +kernel
theorem dJ6_bitCount_0f7a4_47 : decode cJ6_bitCount_0f7a4 47 = .ok (.istore_n 0, 1) := by decide +kernel
theorem dJ6_bitCount_0f7a4_48 : decode cJ6_bitCount_0f7a4 48 = .ok (.iload_n 0, 1) := by decide +kernel
theorem dJ6_bitCount_0f7a4_49 : decode cJ6_bitCount_0f7a4 49 = .ok (.bipush 63, 2) := by decide +kernel
theorem dJ6_bitCount_0f7a4_51 : decode cJ6_bitCount_0f7a4 51 = .ok (.iand, 1) := by decide +kernel
theorem dJ6_bitCount_0f7a4_52 : decode cJ6_bitCount_0f7a4 52 = .ok (.ireturn, 1) := by decide +kernel
theorem dJ9_abs_0f7a4_0 : decode cJ9_abs_0f7a4 0 = .ok (.iload_n 0, 1) := by decide +kernel
theorem dJ9_abs_0f7a4_1 : decode cJ9_abs_0f7a4 1 = .ok (.ifCond .ge 8, 3) := by decide +kernel
theorem dJ9_abs_0f7a4_4 : decode cJ9_abs_0f7a4 4 = .ok (.iload_n 0, 1) := by decide +kernel
theorem dJ9_abs_0f7a4_5 : decode cJ9_abs_0f7a4 5 = .ok (.ineg, 1) := by decide +kernel
theorem dJ9_abs_0f7a4_6 : decode cJ9_abs_0f7a4 6 = .ok (.goto 4, 3) := by decide +kernel
theorem dJ9_abs_0f7a4_9 : decode cJ9_abs_0f7a4 9 = .ok (.iload_n 0, 1) := by decide +kernel
theorem dJ9_abs_0f7a4_10 : decode cJ9_abs_0f7a4 10 = .ok (.ireturn, 1) := by decide +kernel
theorem dJ9_max_7cf53_0 : decode cJ9_max_7cf53 0 = .ok (.iload_n 0, 1) := by decide +kernel
theorem dJ9_max_7cf53_1 : decode cJ9_max_7cf53 1 = .ok (.iload_n 1, 1) := by decide +kernel
theorem dJ9_max_7cf53_2 : decode cJ9_max_7cf53 2 = .ok (.if_icmp .lt 7, 3) := by decide +kernel
theorem dJ9_max_7cf53_5 : decode cJ9_max_7cf53 5 = .ok (.iload_n 0, 1) := by decide +kernel
theorem dJ9_max_7cf53_6 : decode cJ9_max_7cf53 6 = .ok (.goto 4, 3) := by decide +kernel
theorem dJ9_max_7cf53_9 : decode cJ9_max_7cf53 9 = .ok (.iload_n 1, 1) := by decide +kernel
theorem dJ9_max_7cf53_10 : decode cJ9_max_7cf53 10 = .ok (.ireturn, 1) := by decide +kernel
theorem dJ9_min_7cf53_0 : decode cJ9_min_7cf53 0 = .ok (.iload_n 0, 1) := by decide +kernel
theorem dJ9_min_7cf53_1 : decode cJ9_min_7cf53 1 = .ok (.iload_n 1, 1) := by decide +kernel
theorem dJ9_min_7cf53_2 : decode cJ9_min_7cf53 2 = .ok (.if_icmp .gt 7, 3) := by decide +kernel
theorem dJ9_min_7cf53_5 : decode cJ9_min_7cf53 5 = .ok (.iload_n 0, 1) := by decide +kernel
theorem dJ9_min_7cf53_6 : decode cJ9_min_7cf53 6 = .ok (.goto 4, 3) := by decide +kernel
theorem dJ9_min_7cf53_9 : decode cJ9_min_7cf53 9 = .ok (.iload_n 1, 1) := by decide +kernel
theorem dJ9_min_7cf53_10 : decode cJ9_min_7cf53 10 = .ok (.ireturn, 1) := by decide +kernel
theorem dJ9_min_f86c9_0 : decode cJ9_min_f86c9 0 = .ok (.lload_n 0, 1) := by decide +kernel
theorem dJ9_min_f86c9_1 : decode cJ9_min_f86c9 1 = .ok (.lload_n 2, 1) := by decide +kernel
theorem dJ9_min_f86c9_2 : decode cJ9_min_f86c9 2 = .ok (.lcmp, 1) := by decide +kernel
theorem dJ9_min_f86c9_3 : decode cJ9_min_f86c9 3 = .ok (.ifCond .gt 7, 3) := by decide +kernel
theorem dJ9_min_f86c9_6 : decode cJ9_min_f86c9 6 = .ok (.lload_n 0, 1) := by decide +kernel
theorem dJ9_min_f86c9_7 : decode cJ9_min_f86c9 7 = .ok (.goto 4, 3) := by decide +kernel
theorem dJ9_min_f86c9_10 : decode cJ9_min_f86c9 10 = .ok (.lload_n 2, 1) := by decide +kernel
theorem dJ9_min_f86c9_11 : decode cJ9_min_f86c9 11 = .ok (.lreturn, 1) := by decide +kernel
theorem dJ7_fill_d0a16_0 : decode cJ7_fill_d0a16 0 = .ok (.iconst 0, 1) := by decide +kernel
theorem dJ7_fill_d0a16_1 : decode cJ7_fill_d0a16 1 = .ok (.istore_n 3, 1) := by decide +kernel
theorem dJ7_fill_d0a16_2 : decode cJ7_fill_d0a16 2 = .ok (.aload_n 0, 1) := by decide +kernel
theorem dJ7_fill_d0a16_3 : decode cJ7_fill_d0a16 3 = .ok (.arraylength, 1) := by decide +kernel
theorem dJ7_fill_d0a16_4 : decode cJ7_fill_d0a16 4 = .ok (.istore 4, 2) := by decide +kernel
theorem dJ7_fill_d0a16_6 : decode cJ7_fill_d0a16 6 = .ok (.iload_n 3, 1) := by decide +kernel
theorem dJ7_fill_d0a16_7 : decode cJ7_fill_d0a16 7 = .ok (.iload 4, 2) := by decide +kernel
theorem dJ7_fill_d0a16_9 : decode cJ7_fill_d0a16 9 = .ok (.if_icmp .ge 13, 3) := by decide +kernel
theorem dJ7_fill_d0a16_12 : decode cJ7_fill_d0a16 12 = .ok (.aload_n 0, 1) := by decide +kernel
theorem dJ7_fill_d0a16_13 : decode cJ7_fill_d0a16 13 = .ok (.iload_n 3, 1) := by decide +kernel
theorem dJ7_fill_d0a16_14 : decode cJ7_fill_d0a16 14 = .ok (.lload_n 1, 1) := by decide +kernel
theorem dJ7_fill_d0a16_15 : decode cJ7_fill_d0a16 15 = .ok (.lastore, 1) := by decide +kernel
theorem dJ7_fill_d0a16_16 : decode cJ7_fill_d0a16 16 = .ok (.iinc 3 1, 3) := by decide +kernel
theorem dJ7_fill_d0a16_19 : decode cJ7_fill_d0a16 19 = .ok (.goto (-13), 3) := by decide +kernel
theorem dJ7_fill_d0a16_22 : decode cJ7_fill_d0a16 22 = .ok (.return_, 1) := by decide +kernel
theorem dJ7_fill_53178_0 : decode cJ7_fill_53178 0 = .ok (.iconst 0, 1) := by decide +kernel
theorem dJ7_fill_53178_1 : decode cJ7_fill_53178 1 = .ok (.istore_n 2, 1) := by decide +kernel
theorem dJ7_fill_53178_2 : decode cJ7_fill_53178 2 = .ok (.aload_n 0, 1) := by decide +kernel
theorem dJ7_fill_53178_3 : decode cJ7_fill_53178 3 = .ok (.arraylength, 1) := by decide +kernel
theorem dJ7_fill_53178_4 : decode cJ7_fill_53178 4 = .ok (.istore_n 3, 1) := by decide +kernel
theorem dJ7_fill_53178_5 : decode cJ7_fill_53178 5 = .ok (.iload_n 2, 1) := by decide +kernel
theorem dJ7_fill_53178_6 : decode cJ7_fill_53178 6 = .ok (.iload_n 3, 1) := by decide +kernel
theorem dJ7_fill_53178_7 : decode cJ7_fill_53178 7 = .ok (.if_icmp .ge 13, 3) := by decide +kernel
theorem dJ7_fill_53178_10 : decode cJ7_fill_53178 10 = .ok (.aload_n 0, 1) := by decide +kernel
theorem dJ7_fill_53178_11 : decode cJ7_fill_53178 11 = .ok (.iload_n 2, 1) := by decide +kernel
theorem dJ7_fill_53178_12 : decode cJ7_fill_53178 12 = .ok (.iload_n 1, 1) := by decide +kernel
theorem dJ7_fill_53178_13 : decode cJ7_fill_53178 13 = .ok (.iastore, 1) := by decide +kernel
theorem dJ7_fill_53178_14 : decode cJ7_fill_53178 14 = .ok (.iinc 2 1, 3) := by decide +kernel
theorem dJ7_fill_53178_17 : decode cJ7_fill_53178 17 = .ok (.goto (-12), 3) := by decide +kernel
theorem dJ7_fill_53178_20 : decode cJ7_fill_53178 20 = .ok (.return_, 1) := by decide +kernel
end
section
theorem dX12_init_0 : decode cX12_init 0 = .ok (.aload_n 0, 1) := by decide +kernel
theorem dX12_init_1 : decode cX12_init 1 = .ok (.invokespecial 1, 3) := by decide +kernel
theorem dX12_init_4 : decode cX12_init 4 = .ok (.aload_n 0, 1) := by decide +kernel
theorem dX12_init_5 : decode cX12_init 5 = .ok (.bipush 12, 2) := by decide +kernel
theorem dX12_init_7 : decode cX12_init 7 = .ok (.newarray .int, 2) := by decide +kernel
theorem dX12_init_9 : decode cX12_init 9 = .ok (.putfield 7, 3) := by decide +kernel
theorem dX12_init_12 : decode cX12_init 12 = .ok (.aload_n 0, 1) := by decide +kernel
theorem dX12_init_13 : decode cX12_init 13 = .ok (.bipush 12, 2) := by decide +kernel
theorem dX12_init_15 : decode cX12_init 15 = .ok (.newarray .int, 2) := by decide +kernel
theorem dX12_init_17 : decode cX12_init 17 = .ok (.putfield 13, 3) := by decide +kernel
theorem dX12_init_20 : decode cX12_init 20 = .ok (.aload_n 0, 1) := by decide +kernel
theorem dX12_init_21 : decode cX12_init 21 = .ok (.bipush 12, 2) := by decide +kernel
theorem dX12_init_23 : decode cX12_init 23 = .ok (.newarray .int, 2) := by decide +kernel
theorem dX12_init_25 : decode cX12_init 25 = .ok (.putfield 16, 3) := by decide +kernel
theorem dX12_init_28 : decode cX12_init 28 = .ok (.aload_n 0, 1) := by decide +kernel
theorem dX12_init_29 : decode cX12_init 29 = .ok (.bipush 10, 2) := by decide +kernel
theorem dX12_init_31 : decode cX12_init 31 = .ok (.newarray .int, 2) := by decide +kernel
theorem dX12_init_33 : decode cX12_init 33 = .ok (.putfield 19, 3) := by decide +kernel
theorem dX12_init_36 : decode cX12_init 36 = .ok (.aload_n 0, 1) := by decide +kernel
theorem dX12_init_37 : decode cX12_init 37 = .ok (.bipush 10, 2) := by decide +kernel
theorem dX12_init_39 : decode cX12_init 39 = .ok (.newarray .int, 2) := by decide +kernel
theorem dX12_init_41 : decode cX12_init 41 = .ok (.putfield 22, 3) := by decide +kernel
theorem dX12_init_44 : decode cX12_init 44 = .ok (.aload_n 0, 1) := by decide +kernel
theorem dX12_init_45 : decode cX12_init 45 = .ok (.bipush 10, 2) := by decide +kernel
theorem dX12_init_47 : decode cX12_init 47 = .ok (.newarray .int, 2) := by decide +kernel
theorem dX12_init_49 : decode cX12_init 49 = .ok (.putfield 25, 3) := by decide +kernel
theorem dX12_init_52 : decode cX12_init 52 = .ok (.aload_n 0, 1) := by decide +kernel
theorem dX12_init_53 : decode cX12_init 53 = .ok (.bipush 10, 2) := by decide +kernel
theorem dX12_init_55 : decode cX12_init 55 = .ok (.newarray .int, 2) := by decide +kernel
theorem dX12_init_57 : decode cX12_init 57 = .ok (.putfield 28, 3) := by decide +kernel
theorem dX12_init_60 : decode cX12_init 60 = .ok (.aload_n 0, 1) := by decide +kernel
theorem dX12_init_61 : decode cX12_init 61 = .ok (.bipush 10, 2) := by decide +kernel
theorem dX12_init_63 : decode cX12_init 63 = .ok (.newarray .int, 2) := by decide +kernel
theorem dX12_init_65 : decode cX12_init 65 = .ok (.putfield 31, 3) := by decide +kernel
theorem dX12_init_68 : decode cX12_init 68 = .ok (.aload_n 0, 1) := by decide +kernel
theorem dX12_init_69 : decode cX12_init 69 = .ok (.sipush 1500, 3) := by decide +kernel
theorem dX12_init_72 : decode cX12_init 72 = .ok (.newarray .int, 2) := by decide +kernel
theorem dX12_init_74 : decode cX12_init 74 = .ok (.putfield 34, 3) := by decide +kernel
theorem dX12_init_77 : decode cX12_init 77 = .ok (.aload_n 0, 1) := by decide +kernel
theorem dX12_init_78 : decode cX12_init 78 = .ok (.bipush 120, 2) := by decide +kernel
theorem dX12_init_80 : decode cX12_init 80 = .ok (.newarray .int, 2) := by decide +kernel
theorem dX12_init_82 : decode cX12_init 82 = .ok (.putfield 37, 3) := by decide +kernel
theorem dX12_init_85 : decode cX12_init 85 = .ok (.aload_n 0, 1) := by decide +kernel
theorem dX12_init_86 : decode cX12_init 86 = .ok (.bipush 120, 2) := by decide +kernel
theorem dX12_init_88 : decode cX12_init 88 = .ok (.newarray .int, 2) := by decide +kernel
theorem dX12_init_90 : decode cX12_init 90 = .ok (.putfield 40, 3) := by decide +kernel
theorem dX12_init_93 : decode cX12_init 93 = .ok (.aload_n 0, 1) := by decide +kernel
theorem dX12_init_94 : decode cX12_init 94 = .ok (.sipush 200, 3) := by decide +kernel
theorem dX12_init_97 : decode cX12_init 97 = .ok (.newarray .int, 2) := by decide +kernel
theorem dX12_init_99 : decode cX12_init 99 = .ok (.putfield 43, 3) := by decide +kernel
theorem dX12_init_102 : decode cX12_init 102 = .ok (.aload_n 0, 1) := by decide +kernel
theorem dX12_init_103 : decode cX12_init 103 = .ok (.sipush 200, 3) := by decide +kernel
theorem dX12_init_106 : decode cX12_init 106 = .ok (.newarray .int, 2) := by decide +kernel
theorem dX12_init_108 : decode cX12_init 108 = .ok (.putfield 46, 3) := by decide +kernel
theorem dX12_init_111 : decode cX12_init 111 = .ok (.aload_n 0, 1) := by decide +kernel
theorem dX12_init_112 : decode cX12_init 112 = .ok (.sipush 200, 3) := by decide +kernel
theorem dX12_init_115 : decode cX12_init 115 = .ok (.newarray .int, 2) := by decide +kernel
theorem dX12_init_117 : decode cX12_init 117 = .ok (.putfield 49, 3) := by decide +kernel
theorem dX12_init_120 : decode cX12_init 120 = .ok (.aload_n 0, 1) := by decide +kernel
theorem dX12_init_121 : decode cX12_init 121 = .ok (.sipush 200, 3) := by decide +kernel
theorem dX12_init_124 : decode cX12_init 124 = .ok (.newarray .int, 2) := by decide +kernel
theorem dX12_init_126 : decode cX12_init 126 = .ok (.putfield 52, 3) := by decide +kernel
theorem dX12_init_129 : decode cX12_init 129 = .ok (.aload_n 0, 1) := by decide +kernel
theorem dX12_init_130 : decode cX12_init 130 = .ok (.sipush 200, 3) := by decide +kernel
theorem dX12_init_133 : decode cX12_init 133 = .ok (.newarray .int, 2) := by decide +kernel
theorem dX12_init_135 : decode cX12_init 135 = .ok (.putfield 55, 3) := by decide +kernel
theorem dX12_init_138 : decode cX12_init 138 = .ok (.aload_n 0, 1) := by decide +kernel
theorem dX12_init_139 : decode cX12_init 139 = .ok (.sipush 200, 3) := by decide +kernel
theorem dX12_init_142 : decode cX12_init 142 = .ok (.newarray .int, 2) := by decide +kernel
theorem dX12_init_144 : decode cX12_init 144 = .ok (.putfield 58, 3) := by decide +kernel
theorem dX12_init_147 : decode cX12_init 147 = .ok (.aload_n 0, 1) := by decide +kernel
theorem dX12_init_148 : decode cX12_init 148 = .ok (.sipush 200, 3) := by decide +kernel
theorem dX12_init_151 : decode cX12_init 151 = .ok (.newarray .int, 2) := by decide +kernel
theorem dX12_init_153 : decode cX12_init 153 = .ok (.putfield 61, 3) := by decide +kernel
theorem dX12_init_156 : decode cX12_init 156 = .ok (.aload_n 0, 1) := by decide +kernel
theorem dX12_init_157 : decode cX12_init 157 = .ok (.sipush 200, 3) := by decide +kernel
theorem dX12_init_160 : decode cX12_init 160 = .ok (.newarray .int, 2) := by decide +kernel
theorem dX12_init_162 : decode cX12_init 162 = .ok (.putfield 64, 3) := by decide +kernel
theorem dX12_init_165 : decode cX12_init 165 = .ok (.aload_n 0, 1) := by decide +kernel
theorem dX12_init_166 : decode cX12_init 166 = .ok (.sipush 200, 3) := by decide +kernel
theorem dX12_init_169 : decode cX12_init 169 = .ok (.newarray .int, 2) := by decide +kernel
theorem dX12_init_171 : decode cX12_init 171 = .ok (.putfield 67, 3) := by decide +kernel
theorem dX12_init_174 : decode cX12_init 174 = .ok (.aload_n 0, 1) := by decide +kernel
theorem dX12_init_175 : decode cX12_init 175 = .ok (.sipush 200, 3) := by decide +kernel
theorem dX12_init_178 : decode cX12_init 178 = .ok (.newarray .int, 2) := by decide +kernel
theorem dX12_init_180 : decode cX12_init 180 = .ok (.putfield 70, 3) := by decide +kernel
theorem dX12_init_183 : decode cX12_init 183 = .ok (.aload_n 0, 1) := by decide +kernel
theorem dX12_init_184 : decode cX12_init 184 = .ok (.sipush 200, 3) := by decide +kernel
theorem dX12_init_187 : decode cX12_init 187 = .ok (.newarray .int, 2) := by decide +kernel
theorem dX12_init_189 : decode cX12_init 189 = .ok (.putfield 73, 3) := by decide +kernel
theorem dX12_init_192 : decode cX12_init 192 = .ok (.aload_n 0, 1) := by decide +kernel
theorem dX12_init_193 : decode cX12_init 193 = .ok (.sipush 200, 3) := by decide +kernel
theorem dX12_init_196 : decode cX12_init 196 = .ok (.newarray .int, 2) := by decide +kernel
theorem dX12_init_198 : decode cX12_init 198 = .ok (.putfield 76, 3) := by decide +kernel
theorem dX12_init_201 : decode cX12_init 201 = .ok (.aload_n 0, 1) := by decide +kernel
theorem dX12_init_202 : decode cX12_init 202 = .ok (.sipush 1500, 3) := by decide +kernel
theorem dX12_init_205 : decode cX12_init 205 = .ok (.newarray .int, 2) := by decide +kernel
theorem dX12_init_207 : decode cX12_init 207 = .ok (.putfield 79, 3) := by decide +kernel
theorem dX12_init_210 : decode cX12_init 210 = .ok (.aload_n 0, 1) := by decide +kernel
theorem dX12_init_211 : decode cX12_init 211 = .ok (.sipush 160, 3) := by decide +kernel
theorem dX12_init_214 : decode cX12_init 214 = .ok (.newarray .byte, 2) := by decide +kernel
theorem dX12_init_216 : decode cX12_init 216 = .ok (.putfield 82, 3) := by decide +kernel
theorem dX12_init_219 : decode cX12_init 219 = .ok (.aload_n 0, 1) := by decide +kernel
theorem dX12_init_220 : decode cX12_init 220 = .ok (.bipush 16, 2) := by decide +kernel
theorem dX12_init_222 : decode cX12_init 222 = .ok (.newarray .int, 2) := by decide +kernel
theorem dX12_init_224 : decode cX12_init 224 = .ok (.putfield 86, 3) := by decide +kernel
theorem dX12_init_227 : decode cX12_init 227 = .ok (.aload_n 0, 1) := by decide +kernel
theorem dX12_init_228 : decode cX12_init 228 = .ok (.bipush 16, 2) := by decide +kernel
theorem dX12_init_230 : decode cX12_init 230 = .ok (.newarray .int, 2) := by decide +kernel
theorem dX12_init_232 : decode cX12_init 232 = .ok (.putfield 89, 3) := by decide +kernel
theorem dX12_init_235 : decode cX12_init 235 = .ok (.aload_n 0, 1) := by decide +kernel
theorem dX12_init_236 : decode cX12_init 236 = .ok (.bipush 16, 2) := by decide +kernel
theorem dX12_init_238 : decode cX12_init 238 = .ok (.newarray .int, 2) := by decide +kernel
theorem dX12_init_240 : decode cX12_init 240 = .ok (.putfield 92, 3) := by decide +kernel
theorem dX12_init_243 : decode cX12_init 243 = .ok (.aload_n 0, 1) := by decide +kernel
theorem dX12_init_244 : decode cX12_init 244 = .ok (.bipush 17, 2) := by decide +kernel
theorem dX12_init_246 : decode cX12_init 246 = .ok (.newarray .int, 2) := by decide +kernel
theorem dX12_init_248 : decode cX12_init 248 = .ok (.putfield 95, 3) := by decide +kernel
theorem dX12_init_251 : decode cX12_init 251 = .ok (.aload_n 0, 1) := by decide +kernel
theorem dX12_init_252 : decode cX12_init 252 = .ok (.sipush 2890, 3) := by decide +kernel
theorem dX12_init_255 : decode cX12_init 255 = .ok (.newarray .int, 2) := by decide +kernel
theorem dX12_init_257 : decode cX12_init 257 = .ok (.putfield 98, 3) := by decide +kernel
theorem dX12_init_260 : decode cX12_init 260 = .ok (.aload_n 0, 1) := by decide +kernel
theorem dX12_init_261 : decode cX12_init 261 = .ok (.sipush 2890, 3) := by decide +kernel
theorem dX12_init_264 : decode cX12_init 264 = .ok (.newarray .int, 2) := by decide +kernel
theorem dX12_init_266 : decode cX12_init 266 = .ok (.putfield 101, 3) := by decide +kernel
theorem dX12_init_269 : decode cX12_init 269 = .ok (.aload_n 0, 1) := by decide +kernel
theorem dX12_init_270 : decode cX12_init 270 = .ok (.sipush 180, 3) := by decide +kernel
theorem dX12_init_273 : decode cX12_init 273 = .ok (.newarray .int, 2) := by decide +kernel
theorem dX12_init_275 : decode cX12_init 275 = .ok (.putfield 104, 3) := by decide +kernel
theorem dX12_init_278 : decode cX12_init 278 = .ok (.aload_n 0, 1) := by decide +kernel
theorem dX12_init_279 : decode cX12_init 279 = .ok (.sipush 600, 3) := by decide +kernel
theorem dX12_init_282 : decode cX12_init 282 = .ok (.newarray .int, 2) := by decide +kernel
theorem dX12_init_284 : decode cX12_init 284 = .ok (.putfield 107, 3) := by decide +kernel
theorem dX12_init_287 : decode cX12_init 287 = .ok (.aload_n 0, 1) := by decide +kernel
theorem dX12_init_288 : decode cX12_init 288 = .ok (.sipush 600, 3) := by decide +kernel
theorem dX12_init_291 : decode cX12_init 291 = .ok (.newarray .int, 2) := by decide +kernel
theorem dX12_init_293 : decode cX12_init 293 = .ok (.putfield 110, 3) := by decide +kernel
theorem dX12_init_296 : decode cX12_init 296 = .ok (.aload_n 0, 1) := by decide +kernel
theorem dX12_init_297 : decode cX12_init 297 = .ok (.sipush 600, 3) := by decide +kernel
theorem dX12_init_300 : decode cX12_init 300 = .ok (.newarray .int, 2) := by decide +kernel
theorem dX12_init_302 : decode cX12_init 302 = .ok (.putfield 113, 3) := by decide +kernel
theorem dX12_init_305 : decode cX12_init 305 = .ok (.aload_n 0, 1) := by decide +kernel
theorem dX12_init_306 : decode cX12_init 306 = .ok (.sipush 600, 3) := by decide +kernel
theorem dX12_init_309 : decode cX12_init 309 = .ok (.newarray .int, 2) := by decide +kernel
theorem dX12_init_311 : decode cX12_init 311 = .ok (.putfield 116, 3) := by decide +kernel
theorem dX12_init_314 : decode cX12_init 314 = .ok (.aload_n 0, 1) := by decide +kernel
theorem dX12_init_315 : decode cX12_init 315 = .ok (.sipush 600, 3) := by decide +kernel
theorem dX12_init_318 : decode cX12_init 318 = .ok (.newarray .int, 2) := by decide +kernel
theorem dX12_init_320 : decode cX12_init 320 = .ok (.putfield 119, 3) := by decide +kernel
theorem dX12_init_323 : decode cX12_init 323 = .ok (.aload_n 0, 1) := by decide +kernel
theorem dX12_init_324 : decode cX12_init 324 = .ok (.sipush 600, 3) := by decide +kernel
theorem dX12_init_327 : decode cX12_init 327 = .ok (.newarray .int, 2) := by decide +kernel
theorem dX12_init_329 : decode cX12_init 329 = .ok (.putfield 122, 3) := by decide +kernel
theorem dX12_init_332 : decode cX12_init 332 = .ok (.aload_n 0, 1) := by decide +kernel
theorem dX12_init_333 : decode cX12_init 333 = .ok (.sipush 600, 3) := by decide +kernel
theorem dX12_init_336 : decode cX12_init 336 = .ok (.newarray .int, 2) := by decide +kernel
theorem dX12_init_338 : decode cX12_init 338 = .ok (.putfield 125, 3) := by decide +kernel
theorem dX12_init_341 : decode cX12_init 341 = .ok (.aload_n 0, 1) := by decide +kernel
theorem dX12_init_342 : decode cX12_init 342 = .ok (.bipush 20, 2) := by decide +kernel
theorem dX12_init_344 : decode cX12_init 344 = .ok (.newarray .int, 2) := by decide +kernel
theorem dX12_init_346 : decode cX12_init 346 = .ok (.putfield 128, 3) := by decide +kernel
theorem dX12_init_349 : decode cX12_init 349 = .ok (.aload_n 0, 1) := by decide +kernel
theorem dX12_init_350 : decode cX12_init 350 = .ok (.bipush 20, 2) := by decide +kernel
theorem dX12_init_352 : decode cX12_init 352 = .ok (.newarray .int, 2) := by decide +kernel
theorem dX12_init_354 : decode cX12_init 354 = .ok (.putfield 131, 3) := by decide +kernel
theorem dX12_init_357 : decode cX12_init 357 = .ok (.aload_n 0, 1) := by decide +kernel
theorem dX12_init_358 : decode cX12_init 358 = .ok (.bipush 80, 2) := by decide +kernel
theorem dX12_init_360 : decode cX12_init 360 = .ok (.newarray .int, 2) := by decide +kernel
theorem dX12_init_362 : decode cX12_init 362 = .ok (.putfield 134, 3) := by decide +kernel
theorem dX12_init_365 : decode cX12_init 365 = .ok (.aload_n 0, 1) := by decide +kernel
theorem dX12_init_366 : decode cX12_init 366 = .ok (.bipush 24, 2) := by decide +kernel
theorem dX12_init_368 : decode cX12_init 368 = .ok (.putfield 137, 3) := by decide +kernel
theorem dX12_init_371 : decode cX12_init 371 = .ok (.aload_n 0, 1) := by decide +kernel
theorem dX12_init_372 : decode cX12_init 372 = .ok (.sipush 1500, 3) := by decide +kernel
theorem dX12_init_375 : decode cX12_init 375 = .ok (.newarray .int, 2) := by decide +kernel
theorem dX12_init_377 : decode cX12_init 377 = .ok (.putfield 141, 3) := by decide +kernel
theorem dX12_init_380 : decode cX12_init 380 = .ok (.aload_n 0, 1) := by decide +kernel
theorem dX12_init_381 : decode cX12_init 381 = .ok (.sipush 1500, 3) := by decide +kernel
theorem dX12_init_384 : decode cX12_init 384 = .ok (.newarray .boolean, 2) := by decide +kernel
theorem dX12_init_386 : decode cX12_init 386 = .ok (.putfield 144, 3) := by decide +kernel
theorem dX12_init_389 : decode cX12_init 389 = .ok (.aload_n 0, 1) := by decide +kernel
theorem dX12_init_390 : decode cX12_init 390 = .ok (.bipush 12, 2) := by decide +kernel
theorem dX12_init_392 : decode cX12_init 392 = .ok (.newarray .int, 2) := by decide +kernel
theorem dX12_init_394 : decode cX12_init 394 = .ok (.putfield 148, 3) := by decide +kernel
theorem dX12_init_397 : decode cX12_init 397 = .ok (.aload_n 0, 1) := by decide +kernel
theorem dX12_init_398 : decode cX12_init 398 = .ok (.bipush 12, 2) := by decide +kernel
theorem dX12_init_400 : decode cX12_init 400 = .ok (.newarray .int, 2) := by decide +kernel
theorem dX12_init_402 : decode cX12_init 402 = .ok (.putfield 151, 3) := by decide +kernel
theorem dX12_init_405 : decode cX12_init 405 = .ok (.aload_n 0, 1) := by decide +kernel
theorem dX12_init_406 : decode cX12_init 406 = .ok (.bipush 36, 2) := by decide +kernel
theorem dX12_init_408 : decode cX12_init 408 = .ok (.newarray .int, 2) := by decide +kernel
theorem dX12_init_410 : decode cX12_init 410 = .ok (.putfield 154, 3) := by decide +kernel
theorem dX12_init_413 : decode cX12_init 413 = .ok (.aload_n 0, 1) := by decide +kernel
theorem dX12_init_414 : decode cX12_init 414 = .ok (.bipush 6, 2) := by decide +kernel
theorem dX12_init_416 : decode cX12_init 416 = .ok (.newarray .int, 2) := by decide +kernel
theorem dX12_init_418 : decode cX12_init 418 = .ok (.putfield 157, 3) := by decide +kernel
theorem dX12_init_421 : decode cX12_init 421 = .ok (.aload_n 0, 1) := by decide +kernel
theorem dX12_init_422 : decode cX12_init 422 = .ok (.bipush 6, 2) := by decide +kernel
theorem dX12_init_424 : decode cX12_init 424 = .ok (.newarray .int, 2) := by decide +kernel
theorem dX12_init_426 : decode cX12_init 426 = .ok (.putfield 160, 3) := by decide +kernel
theorem dX12_init_429 : decode cX12_init 429 = .ok (.aload_n 0, 1) := by decide +kernel
theorem dX12_init_430 : decode cX12_init 430 = .ok (.iconst (-1), 1) := by decide +kernel
theorem dX12_init_431 : decode cX12_init 431 = .ok (.putfield 163, 3) := by decide +kernel
theorem dX12_init_434 : decode cX12_init 434 = .ok (.aload_n 0, 1) := by decide +kernel
theorem dX12_init_435 : decode cX12_init 435 = .ok (.sipush 200, 3) := by decide +kernel
theorem dX12_init_438 : decode cX12_init 438 = .ok (.newarray .boolean, 2) := by decide +kernel
theorem dX12_init_440 : decode cX12_init 440 = .ok (.putfield 166, 3) := by decide +kernel
theorem dX12_init_443 : decode cX12_init 443 = .ok (.aload_n 0, 1) := by decide +kernel
theorem dX12_init_444 : decode cX12_init 444 = .ok (.bipush 12, 2) := by decide +kernel
theorem dX12_init_446 : decode cX12_init 446 = .ok (.newarray .int, 2) := by decide +kernel
theorem dX12_init_448 : decode cX12_init 448 = .ok (.putfield 169, 3) := by decide +kernel
theorem dX12_init_451 : decode cX12_init 451 = .ok (.aload_n 0, 1) := by decide +kernel
theorem dX12_init_452 : decode cX12_init 452 = .ok (.bipush 12, 2) := by decide +kernel
theorem dX12_init_454 : decode cX12_init 454 = .ok (.newarray .int, 2) := by decide +kernel
theorem dX12_init_456 : decode cX12_init 456 = .ok (.putfield 172, 3) := by decide +kernel
theorem dX12_init_459 : decode cX12_init 459 = .ok (.aload_n 0, 1) := by decide +kernel
theorem dX12_init_460 : decode cX12_init 460 = .ok (.bipush 10, 2) := by decide +kernel
theorem dX12_init_462 : decode cX12_init 462 = .ok (.newarray .int, 2) := by decide +kernel
theorem dX12_init_464 : decode cX12_init 464 = .ok (.putfield 175, 3) := by decide +kernel
theorem dX12_init_467 : decode cX12_init 467 = .ok (.aload_n 0, 1) := by decide +kernel
theorem dX12_init_468 : decode cX12_init 468 = .ok (.bipush 10, 2) := by decide +kernel
theorem dX12_init_470 : decode cX12_init 470 = .ok (.newarray .int, 2) := by decide +kernel
theorem dX12_init_472 : decode cX12_init 472 = .ok (.putfield 178, 3) := by decide +kernel
theorem dX12_init_475 : decode cX12_init 475 = .ok (.aload_n 0, 1) := by decide +kernel
theorem dX12_init_476 : decode cX12_init 476 = .ok (.bipush 10, 2) := by decide +kernel
theorem dX12_init_478 : decode cX12_init 478 = .ok (.newarray .int, 2) := by decide +kernel
theorem dX12_init_480 : decode cX12_init 480 = .ok (.putfield 181, 3) := by decide +kernel
theorem dX12_init_483 : decode cX12_init 483 = .ok (.aload_n 0, 1) := by decide +kernel
theorem dX12_init_484 : decode cX12_init 484 = .ok (.sipush 400, 3) := by decide +kernel
theorem dX12_init_487 : decode cX12_init 487 = .ok (.newarray .int, 2) := by decide +kernel
theorem dX12_init_489 : decode cX12_init 489 = .ok (.putfield 184, 3) := by decide +kernel
theorem dX12_init_492 : decode cX12_init 492 = .ok (.aload_n 0, 1) := by decide +kernel
theorem dX12_init_493 : decode cX12_init 493 = .ok (.sipush 400, 3) := by decide +kernel
theorem dX12_init_496 : decode cX12_init 496 = .ok (.newarray .int, 2) := by decide +kernel
theorem dX12_init_498 : decode cX12_init 498 = .ok (.putfield 187, 3) := by decide +kernel
theorem dX12_init_501 : decode cX12_init 501 = .ok (.aload_n 0, 1) := by decide +kernel
theorem dX12_init_502 : decode cX12_init 502 = .ok (.sipush 400, 3) := by decide +kernel
theorem dX12_init_505 : decode cX12_init 505 = .ok (.newarray .int, 2) := by decide +kernel
theorem dX12_init_507 : decode cX12_init 507 = .ok (.putfield 190, 3) := by decide +kernel
theorem dX12_init_510 : decode cX12_init 510 = .ok (.return_, 1) := by decide +kernel
theorem dX12_in_0 : decode cX12_in 0 = .ok (.iload_n 0, 1) := by decide +kernel
theorem dX12_in_1 : decode cX12_in 1 = .ok (.iload_n 1, 1) := by decide +kernel
theorem dX12_in_2 : decode cX12_in 2 = .ok (.if_icmp .lt 12, 3) := by decide +kernel
theorem dX12_in_5 : decode cX12_in 5 = .ok (.iload_n 0, 1) := by decide +kernel
theorem dX12_in_6 : decode cX12_in 6 = .ok (.iload_n 2, 1) := by decide +kernel
theorem dX12_in_7 : decode cX12_in 7 = .ok (.if_icmp .gt 7, 3) := by decide +kernel
theorem dX12_in_10 : decode cX12_in 10 = .ok (.iconst 1, 1) := by decide +kernel
theorem dX12_in_11 : decode cX12_in 11 = .ok (.goto 4, 3) := by decide +kernel
theorem dX12_in_14 : decode cX12_in 14 = .ok (.iconst 0, 1) := by decide +kernel
theorem dX12_in_15 : decode cX12_in 15 = .ok (.ireturn, 1) := by decide +kernel
theorem dX12_isDay_0 : decode cX12_isDay 0 = .ok (.iload_n 0, 1) := by decide +kernel
theorem dX12_isDay_1 : decode cX12_isDay 1 = .ok (.iconst 0, 1) := by decide +kernel
theorem dX12_isDay_2 : decode cX12_isDay 2 = .ok (.sipush 1499, 3) := by decide +kernel
theorem dX12_isDay_5 : decode cX12_isDay 5 = .ok (.invokestatic 196, 3) := by decide +kernel
theorem dX12_isDay_8 : decode cX12_isDay 8 = .ok (.ireturn, 1) := by decide +kernel
theorem dX12_today_0 : decode cX12_today 0 = .ok (.aload_n 0, 1) := by decide +kernel
theorem dX12_today_1 : decode cX12_today 1 = .ok (.getfield 200, 3) := by decide +kernel
theorem dX12_today_4 : decode cX12_today 4 = .ok (.bipush 24, 2) := by decide +kernel
theorem dX12_today_6 : decode cX12_today 6 = .ok (.idiv, 1) := by decide +kernel
theorem dX12_today_7 : decode cX12_today 7 = .ok (.ireturn, 1) := by decide +kernel
theorem dX12_hourNow_0 : decode cX12_hourNow 0 = .ok (.aload_n 0, 1) := by decide +kernel
theorem dX12_hourNow_1 : decode cX12_hourNow 1 = .ok (.getfield 200, 3) := by decide +kernel
theorem dX12_hourNow_4 : decode cX12_hourNow 4 = .ok (.bipush 24, 2) := by decide +kernel
theorem dX12_hourNow_6 : decode cX12_hourNow 6 = .ok (.irem, 1) := by decide +kernel
theorem dX12_hourNow_7 : decode cX12_hourNow 7 = .ok (.ireturn, 1) := by decide +kernel
theorem dX12_isShop_0 : decode cX12_isShop 0 = .ok (.iload_n 1, 1) := by decide +kernel
theorem dX12_isShop_1 : decode cX12_isShop 1 = .ok (.iconst 0, 1) := by decide +kernel
theorem dX12_isShop_2 : decode cX12_isShop 2 = .ok (.aload_n 0, 1) := by decide +kernel
theorem dX12_isShop_3 : decode cX12_isShop 3 = .ok (.getfield 203, 3) := by decide +kernel
theorem dX12_isShop_6 : decode cX12_isShop 6 = .ok (.iconst 1, 1) := by decide +kernel
theorem dX12_isShop_7 : decode cX12_isShop 7 = .ok (.isub, 1) := by decide +kernel
theorem dX12_isShop_8 : decode cX12_isShop 8 = .ok (.invokestatic 196, 3) := by decide +kernel
theorem dX12_isShop_11 : decode cX12_isShop 11 = .ok (.ireturn, 1) := by decide +kernel
theorem dX12_isKind_0 : decode cX12_isKind 0 = .ok (.iload_n 1, 1) := by decide +kernel
theorem dX12_isKind_1 : decode cX12_isKind 1 = .ok (.iconst 0, 1) := by decide +kernel
theorem dX12_isKind_2 : decode cX12_isKind 2 = .ok (.aload_n 0, 1) := by decide +kernel
theorem dX12_isKind_3 : decode cX12_isKind 3 = .ok (.getfield 206, 3) := by decide +kernel
theorem dX12_isKind_6 : decode cX12_isKind 6 = .ok (.iconst 1, 1) := by decide +kernel
theorem dX12_isKind_7 : decode cX12_isKind 7 = .ok (.isub, 1) := by decide +kernel
theorem dX12_isKind_8 : decode cX12_isKind 8 = .ok (.invokestatic 196, 3) := by decide +kernel
theorem dX12_isKind_11 : decode cX12_isKind 11 = .ok (.ireturn, 1) := by decide +kernel
theorem dX12_areBoth_0 : decode cX12_areBoth 0 = .ok (.aload_n 0, 1) := by decide +kernel
theorem dX12_areBoth_1 : decode cX12_areBoth 1 = .ok (.iload_n 1, 1) := by decide +kernel
theorem dX12_areBoth_2 : decode cX12_areBoth 2 = .ok (.invokevirtual 209, 3) := by decide +kernel
theorem dX12_areBoth_5 : decode cX12_areBoth 5 = .ok (.ifCond .eq 15, 3) := by decide +kernel
theorem dX12_areBoth_8 : decode cX12_areBoth 8 = .ok (.aload_n 0, 1) := by decide +kernel
theorem dX12_areBoth_9 : decode cX12_areBoth 9 = .ok (.iload_n 2, 1) := by decide +kernel
theorem dX12_areBoth_10 : decode cX12_areBoth 10 = .ok (.invokevirtual 213, 3) := by decide +kernel
theorem dX12_areBoth_13 : decode cX12_areBoth 13 = .ok (.ifCond .eq 7, 3) := by decide +kernel
theorem dX12_areBoth_16 : decode cX12_areBoth 16 = .ok (.iconst 1, 1) := by decide +kernel
theorem dX12_areBoth_17 : decode cX12_areBoth 17 = .ok (.goto 4, 3) := by decide +kernel
theorem dX12_areBoth_20 : decode cX12_areBoth 20 = .ok (.iconst 0, 1) := by decide +kernel
theorem dX12_areBoth_21 : decode cX12_areBoth 21 = .ok (.ireturn, 1) := by decide +kernel
theorem dX12_shop_0 : decode cX12_shop 0 = .ok (.iload_n 1, 1) := by decide +kernel
theorem dX12_shop_1 : decode cX12_shop 1 = .ok (.iconst 0, 1) := by decide +kernel
theorem dX12_shop_2 : decode cX12_shop 2 = .ok (.sipush 9999, 3) := by decide +kernel
theorem dX12_shop_5 : decode cX12_shop 5 = .ok (.invokestatic 196, 3) := by decide +kernel
theorem dX12_shop_8 : decode cX12_shop 8 = .ok (.ifCond .ne 5, 3) := by decide +kernel
theorem dX12_shop_11 : decode cX12_shop 11 = .ok (.iconst (-1), 1) := by decide +kernel
theorem dX12_shop_12 : decode cX12_shop 12 = .ok (.ireturn, 1) := by decide +kernel
theorem dX12_shop_13 : decode cX12_shop 13 = .ok (.aload_n 0, 1) := by decide +kernel
theorem dX12_shop_14 : decode cX12_shop 14 = .ok (.getfield 203, 3) := by decide +kernel
theorem dX12_shop_17 : decode cX12_shop 17 = .ok (.bipush 12, 2) := by decide +kernel
theorem dX12_shop_19 : decode cX12_shop 19 = .ok (.if_icmp .ne 6, 3) := by decide +kernel
theorem dX12_shop_22 : decode cX12_shop 22 = .ok (.bipush (-3), 2) := by decide +kernel
theorem dX12_shop_24 : decode cX12_shop 24 = .ok (.ireturn, 1) := by decide +kernel
theorem dX12_shop_25 : decode cX12_shop 25 = .ok (.aload_n 0, 1) := by decide +kernel
theorem dX12_shop_26 : decode cX12_shop 26 = .ok (.getfield 7, 3) := by decide +kernel
theorem dX12_shop_29 : decode cX12_shop 29 = .ok (.aload_n 0, 1) := by decide +kernel
theorem dX12_shop_30 : decode cX12_shop 30 = .ok (.getfield 203, 3) := by decide +kernel
theorem dX12_shop_33 : decode cX12_shop 33 = .ok (.iload_n 1, 1) := by decide +kernel
theorem dX12_shop_34 : decode cX12_shop 34 = .ok (.bipush 100, 2) := by decide +kernel
theorem dX12_shop_36 : decode cX12_shop 36 = .ok (.idiv, 1) := by decide +kernel
theorem dX12_shop_37 : decode cX12_shop 37 = .ok (.iastore, 1) := by decide +kernel
theorem dX12_shop_38 : decode cX12_shop 38 = .ok (.aload_n 0, 1) := by decide +kernel
theorem dX12_shop_39 : decode cX12_shop 39 = .ok (.getfield 13, 3) := by decide +kernel
theorem dX12_shop_42 : decode cX12_shop 42 = .ok (.aload_n 0, 1) := by decide +kernel
theorem dX12_shop_43 : decode cX12_shop 43 = .ok (.getfield 203, 3) := by decide +kernel
theorem dX12_shop_46 : decode cX12_shop 46 = .ok (.iload_n 1, 1) := by decide +kernel
theorem dX12_shop_47 : decode cX12_shop 47 = .ok (.bipush 100, 2) := by decide +kernel
theorem dX12_shop_49 : decode cX12_shop 49 = .ok (.irem, 1) := by decide +kernel
theorem dX12_shop_50 : decode cX12_shop 50 = .ok (.iastore, 1) := by decide +kernel
theorem dX12_shop_51 : decode cX12_shop 51 = .ok (.aload_n 0, 1) := by decide +kernel
theorem dX12_shop_52 : decode cX12_shop 52 = .ok (.getfield 169, 3) := by decide +kernel
theorem dX12_shop_55 : decode cX12_shop 55 = .ok (.aload_n 0, 1) := by decide +kernel
theorem dX12_shop_56 : decode cX12_shop 56 = .ok (.getfield 203, 3) := by decide +kernel
theorem dX12_shop_59 : decode cX12_shop 59 = .ok (.iconst (-1), 1) := by decide +kernel
theorem dX12_shop_60 : decode cX12_shop 60 = .ok (.iastore, 1) := by decide +kernel
theorem dX12_shop_61 : decode cX12_shop 61 = .ok (.aload_n 0, 1) := by decide +kernel
theorem dX12_shop_62 : decode cX12_shop 62 = .ok (.dup, 1) := by decide +kernel
theorem dX12_shop_63 : decode cX12_shop 63 = .ok (.getfield 203, 3) := by decide +kernel
theorem dX12_shop_66 : decode cX12_shop 66 = .ok (.iconst 1, 1) := by decide +kernel
theorem dX12_shop_67 : decode cX12_shop 67 = .ok (.iadd, 1) := by decide +kernel
theorem dX12_shop_68 : decode cX12_shop 68 = .ok (.putfield 203, 3) := by decide +kernel
theorem dX12_shop_71 : decode cX12_shop 71 = .ok (.aload_n 0, 1) := by decide +kernel
theorem dX12_shop_72 : decode cX12_shop 72 = .ok (.getfield 203, 3) := by decide +kernel
theorem dX12_shop_75 : decode cX12_shop 75 = .ok (.iconst 1, 1) := by decide +kernel
theorem dX12_shop_76 : decode cX12_shop 76 = .ok (.isub, 1) := by decide +kernel
theorem dX12_shop_77 : decode cX12_shop 77 = .ok (.ireturn, 1) := by decide +kernel
theorem dX12_kind_0 : decode cX12_kind 0 = .ok (.iload_n 1, 1) := by decide +kernel
theorem dX12_kind_1 : decode cX12_kind 1 = .ok (.iconst 1, 1) := by decide +kernel
theorem dX12_kind_2 : decode cX12_kind 2 = .ok (.sipush 9999, 3) := by decide +kernel
theorem dX12_kind_5 : decode cX12_kind 5 = .ok (.invokestatic 196, 3) := by decide +kernel
theorem dX12_kind_8 : decode cX12_kind 8 = .ok (.ifCond .eq 35, 3) := by decide +kernel
theorem dX12_kind_11 : decode cX12_kind 11 = .ok (.iload_n 2, 1) := by decide +kernel
theorem dX12_kind_12 : decode cX12_kind 12 = .ok (.iconst 0, 1) := by decide +kernel
theorem dX12_kind_13 : decode cX12_kind 13 = .ok (.sipush 9999, 3) := by decide +kernel
theorem dX12_kind_16 : decode cX12_kind 16 = .ok (.invokestatic 196, 3) := by decide +kernel
theorem dX12_kind_19 : decode cX12_kind 19 = .ok (.ifCond .eq 24, 3) := by decide +kernel
theorem dX12_kind_22 : decode cX12_kind 22 = .ok (.iload_n 3, 1) := by decide +kernel
theorem dX12_kind_23 : decode cX12_kind 23 = .ok (.iconst 1, 1) := by decide +kernel
theorem dX12_kind_24 : decode cX12_kind 24 = .ok (.sipush 9999, 3) := by decide +kernel
theorem dX12_kind_27 : decode cX12_kind 27 = .ok (.invokestatic 196, 3) := by decide +kernel
theorem dX12_kind_30 : decode cX12_kind 30 = .ok (.ifCond .eq 13, 3) := by decide +kernel
theorem dX12_kind_33 : decode cX12_kind 33 = .ok (.iload 4, 2) := by decide +kernel
theorem dX12_kind_35 : decode cX12_kind 35 = .ok (.iconst 0, 1) := by decide +kernel
theorem dX12_kind_36 : decode cX12_kind 36 = .ok (.iconst 1, 1) := by decide +kernel
theorem dX12_kind_37 : decode cX12_kind 37 = .ok (.invokestatic 196, 3) := by decide +kernel
theorem dX12_kind_40 : decode cX12_kind 40 = .ok (.ifCond .ne 5, 3) := by decide +kernel
theorem dX12_kind_43 : decode cX12_kind 43 = .ok (.iconst (-1), 1) := by decide +kernel
theorem dX12_kind_44 : decode cX12_kind 44 = .ok (.ireturn, 1) := by decide +kernel
theorem dX12_kind_45 : decode cX12_kind 45 = .ok (.aload_n 0, 1) := by decide +kernel
theorem dX12_kind_46 : decode cX12_kind 46 = .ok (.getfield 206, 3) := by decide +kernel
theorem dX12_kind_49 : decode cX12_kind 49 = .ok (.bipush 10, 2) := by decide +kernel
theorem dX12_kind_51 : decode cX12_kind 51 = .ok (.if_icmp .ne 6, 3) := by decide +kernel
theorem dX12_kind_54 : decode cX12_kind 54 = .ok (.bipush (-3), 2) := by decide +kernel
theorem dX12_kind_56 : decode cX12_kind 56 = .ok (.ireturn, 1) := by decide +kernel
theorem dX12_kind_57 : decode cX12_kind 57 = .ok (.aload_n 0, 1) := by decide +kernel
theorem dX12_kind_58 : decode cX12_kind 58 = .ok (.getfield 19, 3) := by decide +kernel
theorem dX12_kind_61 : decode cX12_kind 61 = .ok (.aload_n 0, 1) := by decide +kernel
theorem dX12_kind_62 : decode cX12_kind 62 = .ok (.getfield 206, 3) := by decide +kernel
theorem dX12_kind_65 : decode cX12_kind 65 = .ok (.iload_n 1, 1) := by decide +kernel
theorem dX12_kind_66 : decode cX12_kind 66 = .ok (.iastore, 1) := by decide +kernel
theorem dX12_kind_67 : decode cX12_kind 67 = .ok (.aload_n 0, 1) := by decide +kernel
theorem dX12_kind_68 : decode cX12_kind 68 = .ok (.getfield 22, 3) := by decide +kernel
theorem dX12_kind_71 : decode cX12_kind 71 = .ok (.aload_n 0, 1) := by decide +kernel
theorem dX12_kind_72 : decode cX12_kind 72 = .ok (.getfield 206, 3) := by decide +kernel
theorem dX12_kind_75 : decode cX12_kind 75 = .ok (.iload_n 2, 1) := by decide +kernel
theorem dX12_kind_76 : decode cX12_kind 76 = .ok (.iastore, 1) := by decide +kernel
theorem dX12_kind_77 : decode cX12_kind 77 = .ok (.aload_n 0, 1) := by decide +kernel
theorem dX12_kind_78 : decode cX12_kind 78 = .ok (.getfield 25, 3) := by decide +kernel
theorem dX12_kind_81 : decode cX12_kind 81 = .ok (.aload_n 0, 1) := by decide +kernel
theorem dX12_kind_82 : decode cX12_kind 82 = .ok (.getfield 206, 3) := by decide +kernel
theorem dX12_kind_85 : decode cX12_kind 85 = .ok (.iload_n 3, 1) := by decide +kernel
theorem dX12_kind_86 : decode cX12_kind 86 = .ok (.iastore, 1) := by decide +kernel
theorem dX12_kind_87 : decode cX12_kind 87 = .ok (.aload_n 0, 1) := by decide +kernel
theorem dX12_kind_88 : decode cX12_kind 88 = .ok (.getfield 28, 3) := by decide +kernel
theorem dX12_kind_91 : decode cX12_kind 91 = .ok (.aload_n 0, 1) := by decide +kernel
theorem dX12_kind_92 : decode cX12_kind 92 = .ok (.getfield 206, 3) := by decide +kernel
theorem dX12_kind_95 : decode cX12_kind 95 = .ok (.iload 4, 2) := by decide +kernel
theorem dX12_kind_97 : decode cX12_kind 97 = .ok (.iastore, 1) := by decide +kernel
theorem dX12_kind_98 : decode cX12_kind 98 = .ok (.aload_n 0, 1) := by decide +kernel
theorem dX12_kind_99 : decode cX12_kind 99 = .ok (.dup, 1) := by decide +kernel
theorem dX12_kind_100 : decode cX12_kind 100 = .ok (.getfield 206, 3) := by decide +kernel
theorem dX12_kind_103 : decode cX12_kind 103 = .ok (.iconst 1, 1) := by decide +kernel
theorem dX12_kind_104 : decode cX12_kind 104 = .ok (.iadd, 1) := by decide +kernel
theorem dX12_kind_105 : decode cX12_kind 105 = .ok (.putfield 206, 3) := by decide +kernel
theorem dX12_kind_108 : decode cX12_kind 108 = .ok (.aload_n 0, 1) := by decide +kernel
theorem dX12_kind_109 : decode cX12_kind 109 = .ok (.getfield 206, 3) := by decide +kernel
theorem dX12_kind_112 : decode cX12_kind 112 = .ok (.iconst 1, 1) := by decide +kernel
theorem dX12_kind_113 : decode cX12_kind 113 = .ok (.isub, 1) := by decide +kernel
theorem dX12_kind_114 : decode cX12_kind 114 = .ok (.ireturn, 1) := by decide +kernel
theorem dX12_priceBy_0 : decode cX12_priceBy 0 = .ok (.aload_n 0, 1) := by decide +kernel
theorem dX12_priceBy_1 : decode cX12_priceBy 1 = .ok (.getfield 19, 3) := by decide +kernel
theorem dX12_priceBy_4 : decode cX12_priceBy 4 = .ok (.iload_n 1, 1) := by decide +kernel
theorem dX12_priceBy_5 : decode cX12_priceBy 5 = .ok (.iaload, 1) := by decide +kernel
theorem dX12_priceBy_6 : decode cX12_priceBy 6 = .ok (.bipush 100, 2) := by decide +kernel
theorem dX12_priceBy_8 : decode cX12_priceBy 8 = .ok (.bipush 25, 2) := by decide +kernel
theorem dX12_priceBy_10 : decode cX12_priceBy 10 = .ok (.iload_n 2, 1) := by decide +kernel
theorem dX12_priceBy_11 : decode cX12_priceBy 11 = .ok (.imul, 1) := by decide +kernel
theorem dX12_priceBy_12 : decode cX12_priceBy 12 = .ok (.isub, 1) := by decide +kernel
theorem dX12_priceBy_13 : decode cX12_priceBy 13 = .ok (.imul, 1) := by decide +kernel
theorem dX12_priceBy_14 : decode cX12_priceBy 14 = .ok (.bipush 100, 2) := by decide +kernel
theorem dX12_priceBy_16 : decode cX12_priceBy 16 = .ok (.idiv, 1) := by decide +kernel
theorem dX12_priceBy_17 : decode cX12_priceBy 17 = .ok (.ireturn, 1) := by decide +kernel
theorem dX12_priceAt_0 : decode cX12_priceAt 0 = .ok (.aload_n 0, 1) := by decide +kernel
theorem dX12_priceAt_1 : decode cX12_priceAt 1 = .ok (.iload_n 1, 1) := by decide +kernel
theorem dX12_priceAt_2 : decode cX12_priceAt 2 = .ok (.invokevirtual 213, 3) := by decide +kernel
theorem dX12_priceAt_5 : decode cX12_priceAt 5 = .ok (.ifCond .eq 21, 3) := by decide +kernel
theorem dX12_priceAt_8 : decode cX12_priceAt 8 = .ok (.iload_n 2, 1) := by decide +kernel
theorem dX12_priceAt_9 : decode cX12_priceAt 9 = .ok (.iconst 0, 1) := by decide +kernel
theorem dX12_priceAt_10 : decode cX12_priceAt 10 = .ok (.iconst 3, 1) := by decide +kernel
theorem dX12_priceAt_11 : decode cX12_priceAt 11 = .ok (.invokestatic 196, 3) := by decide +kernel
theorem dX12_priceAt_14 : decode cX12_priceAt 14 = .ok (.ifCond .eq 12, 3) := by decide +kernel
theorem dX12_priceAt_17 : decode cX12_priceAt 17 = .ok (.aload_n 0, 1) := by decide +kernel
theorem dX12_priceAt_18 : decode cX12_priceAt 18 = .ok (.iload_n 1, 1) := by decide +kernel
theorem dX12_priceAt_19 : decode cX12_priceAt 19 = .ok (.iload_n 2, 1) := by decide +kernel
theorem dX12_priceAt_20 : decode cX12_priceAt 20 = .ok (.invokevirtual 216, 3) := by decide +kernel
theorem dX12_priceAt_23 : decode cX12_priceAt 23 = .ok (.goto 4, 3) := by decide +kernel
theorem dX12_priceAt_26 : decode cX12_priceAt 26 = .ok (.iconst (-1), 1) := by decide +kernel
theorem dX12_priceAt_27 : decode cX12_priceAt 27 = .ok (.ireturn, 1) := by decide +kernel
theorem dX12_throwing_0 : decode cX12_throwing 0 = .ok (.aload_n 0, 1) := by decide +kernel
theorem dX12_throwing_1 : decode cX12_throwing 1 = .ok (.iload_n 1, 1) := by decide +kernel
theorem dX12_throwing_2 : decode cX12_throwing 2 = .ok (.invokevirtual 213, 3) := by decide +kernel
theorem dX12_throwing_5 : decode cX12_throwing 5 = .ok (.ifCond .eq 14, 3) := by decide +kernel
theorem dX12_throwing_8 : decode cX12_throwing 8 = .ok (.iload_n 2, 1) := by decide +kernel
theorem dX12_throwing_9 : decode cX12_throwing 9 = .ok (.iconst 0, 1) := by decide +kernel
theorem dX12_throwing_10 : decode cX12_throwing 10 = .ok (.sipush 9999, 3) := by decide +kernel
theorem dX12_throwing_13 : decode cX12_throwing 13 = .ok (.invokestatic 196, 3) := by decide +kernel
theorem dX12_throwing_16 : decode cX12_throwing 16 = .ok (.ifCond .ne 5, 3) := by decide +kernel
theorem dX12_throwing_19 : decode cX12_throwing 19 = .ok (.iconst (-1), 1) := by decide +kernel
theorem dX12_throwing_20 : decode cX12_throwing 20 = .ok (.ireturn, 1) := by decide +kernel
theorem dX12_throwing_21 : decode cX12_throwing 21 = .ok (.aload_n 0, 1) := by decide +kernel
theorem dX12_throwing_22 : decode cX12_throwing 22 = .ok (.getfield 31, 3) := by decide +kernel
theorem dX12_throwing_25 : decode cX12_throwing 25 = .ok (.iload_n 1, 1) := by decide +kernel
theorem dX12_throwing_26 : decode cX12_throwing 26 = .ok (.iaload, 1) := by decide +kernel
theorem dX12_throwing_27 : decode cX12_throwing 27 = .ok (.istore_n 3, 1) := by decide +kernel
theorem dX12_throwing_28 : decode cX12_throwing 28 = .ok (.aload_n 0, 1) := by decide +kernel
theorem dX12_throwing_29 : decode cX12_throwing 29 = .ok (.getfield 31, 3) := by decide +kernel
theorem dX12_throwing_32 : decode cX12_throwing 32 = .ok (.iload_n 1, 1) := by decide +kernel
theorem dX12_throwing_33 : decode cX12_throwing 33 = .ok (.iload_n 2, 1) := by decide +kernel
theorem dX12_throwing_34 : decode cX12_throwing 34 = .ok (.iastore, 1) := by decide +kernel
theorem dX12_throwing_35 : decode cX12_throwing 35 = .ok (.iload_n 3, 1) := by decide +kernel
theorem dX12_throwing_36 : decode cX12_throwing 36 = .ok (.ireturn, 1) := by decide +kernel
theorem dX12_weather_0 : decode cX12_weather 0 = .ok (.iload_n 1, 1) := by decide +kernel
theorem dX12_weather_1 : decode cX12_weather 1 = .ok (.invokestatic 220, 3) := by decide +kernel
theorem dX12_weather_4 : decode cX12_weather 4 = .ok (.ifCond .eq 12, 3) := by decide +kernel
theorem dX12_weather_7 : decode cX12_weather 7 = .ok (.iload_n 2, 1) := by decide +kernel
theorem dX12_weather_8 : decode cX12_weather 8 = .ok (.iconst 0, 1) := by decide +kernel
theorem dX12_weather_9 : decode cX12_weather 9 = .ok (.iconst 2, 1) := by decide +kernel
theorem dX12_weather_10 : decode cX12_weather 10 = .ok (.invokestatic 196, 3) := by decide +kernel
theorem dX12_weather_13 : decode cX12_weather 13 = .ok (.ifCond .ne 5, 3) := by decide +kernel
theorem dX12_weather_16 : decode cX12_weather 16 = .ok (.iconst (-1), 1) := by decide +kernel
theorem dX12_weather_17 : decode cX12_weather 17 = .ok (.ireturn, 1) := by decide +kernel
theorem dX12_weather_18 : decode cX12_weather 18 = .ok (.aload_n 0, 1) := by decide +kernel
theorem dX12_weather_19 : decode cX12_weather 19 = .ok (.getfield 34, 3) := by decide +kernel
theorem dX12_weather_22 : decode cX12_weather 22 = .ok (.iload_n 1, 1) := by decide +kernel
theorem dX12_weather_23 : decode cX12_weather 23 = .ok (.iaload, 1) := by decide +kernel
theorem dX12_weather_24 : decode cX12_weather 24 = .ok (.istore_n 3, 1) := by decide +kernel
theorem dX12_weather_25 : decode cX12_weather 25 = .ok (.aload_n 0, 1) := by decide +kernel
theorem dX12_weather_26 : decode cX12_weather 26 = .ok (.getfield 34, 3) := by decide +kernel
theorem dX12_weather_29 : decode cX12_weather 29 = .ok (.iload_n 1, 1) := by decide +kernel
theorem dX12_weather_30 : decode cX12_weather 30 = .ok (.iload_n 2, 1) := by decide +kernel
theorem dX12_weather_31 : decode cX12_weather 31 = .ok (.iastore, 1) := by decide +kernel
theorem dX12_weather_32 : decode cX12_weather 32 = .ok (.iload_n 3, 1) := by decide +kernel
theorem dX12_weather_33 : decode cX12_weather 33 = .ok (.ireturn, 1) := by decide +kernel
theorem dX12_cut_0 : decode cX12_cut 0 = .ok (.aload_n 0, 1) := by decide +kernel
theorem dX12_cut_1 : decode cX12_cut 1 = .ok (.iload_n 1, 1) := by decide +kernel
theorem dX12_cut_2 : decode cX12_cut 2 = .ok (.iload_n 2, 1) := by decide +kernel
theorem dX12_cut_3 : decode cX12_cut 3 = .ok (.invokevirtual 223, 3) := by decide +kernel
theorem dX12_cut_6 : decode cX12_cut 6 = .ok (.ifCond .eq 12, 3) := by decide +kernel
theorem dX12_cut_9 : decode cX12_cut 9 = .ok (.iload_n 3, 1) := by decide +kernel
theorem dX12_cut_10 : decode cX12_cut 10 = .ok (.iconst 0, 1) := by decide +kernel
theorem dX12_cut_11 : decode cX12_cut 11 = .ok (.iconst 3, 1) := by decide +kernel
theorem dX12_cut_12 : decode cX12_cut 12 = .ok (.invokestatic 196, 3) := by decide +kernel
theorem dX12_cut_15 : decode cX12_cut 15 = .ok (.ifCond .ne 5, 3) := by decide +kernel
theorem dX12_cut_18 : decode cX12_cut 18 = .ok (.iconst (-1), 1) := by decide +kernel
theorem dX12_cut_19 : decode cX12_cut 19 = .ok (.ireturn, 1) := by decide +kernel
theorem dX12_cut_20 : decode cX12_cut 20 = .ok (.aload_n 0, 1) := by decide +kernel
theorem dX12_cut_21 : decode cX12_cut 21 = .ok (.getfield 37, 3) := by decide +kernel
theorem dX12_cut_24 : decode cX12_cut 24 = .ok (.bipush 10, 2) := by decide +kernel
theorem dX12_cut_26 : decode cX12_cut 26 = .ok (.iload_n 1, 1) := by decide +kernel
theorem dX12_cut_27 : decode cX12_cut 27 = .ok (.imul, 1) := by decide +kernel
theorem dX12_cut_28 : decode cX12_cut 28 = .ok (.iload_n 2, 1) := by decide +kernel
theorem dX12_cut_29 : decode cX12_cut 29 = .ok (.iadd, 1) := by decide +kernel
theorem dX12_cut_30 : decode cX12_cut 30 = .ok (.iaload, 1) := by decide +kernel
theorem dX12_cut_31 : decode cX12_cut 31 = .ok (.istore 4, 2) := by decide +kernel
theorem dX12_cut_33 : decode cX12_cut 33 = .ok (.iload_n 3, 1) := by decide +kernel
theorem dX12_cut_34 : decode cX12_cut 34 = .ok (.iload 4, 2) := by decide +kernel
theorem dX12_cut_36 : decode cX12_cut 36 = .ok (.if_icmp .gt 6, 3) := by decide +kernel
theorem dX12_cut_39 : decode cX12_cut 39 = .ok (.bipush (-2), 2) := by decide +kernel
theorem dX12_cut_41 : decode cX12_cut 41 = .ok (.ireturn, 1) := by decide +kernel
theorem dX12_cut_42 : decode cX12_cut 42 = .ok (.aload_n 0, 1) := by decide +kernel
theorem dX12_cut_43 : decode cX12_cut 43 = .ok (.getfield 37, 3) := by decide +kernel
theorem dX12_cut_46 : decode cX12_cut 46 = .ok (.bipush 10, 2) := by decide +kernel
theorem dX12_cut_48 : decode cX12_cut 48 = .ok (.iload_n 1, 1) := by decide +kernel
theorem dX12_cut_49 : decode cX12_cut 49 = .ok (.imul, 1) := by decide +kernel
theorem dX12_cut_50 : decode cX12_cut 50 = .ok (.iload_n 2, 1) := by decide +kernel
theorem dX12_cut_51 : decode cX12_cut 51 = .ok (.iadd, 1) := by decide +kernel
theorem dX12_cut_52 : decode cX12_cut 52 = .ok (.iload_n 3, 1) := by decide +kernel
theorem dX12_cut_53 : decode cX12_cut 53 = .ok (.iastore, 1) := by decide +kernel
theorem dX12_cut_54 : decode cX12_cut 54 = .ok (.iload 4, 2) := by decide +kernel
theorem dX12_cut_56 : decode cX12_cut 56 = .ok (.ireturn, 1) := by decide +kernel
theorem dX12_step_0 : decode cX12_step 0 = .ok (.aload_n 0, 1) := by decide +kernel
theorem dX12_step_1 : decode cX12_step 1 = .ok (.iload_n 1, 1) := by decide +kernel
theorem dX12_step_2 : decode cX12_step 2 = .ok (.iload_n 2, 1) := by decide +kernel
theorem dX12_step_3 : decode cX12_step 3 = .ok (.invokevirtual 223, 3) := by decide +kernel
theorem dX12_step_6 : decode cX12_step 6 = .ok (.ifCond .eq 17, 3) := by decide +kernel
theorem dX12_step_9 : decode cX12_step 9 = .ok (.aload_n 0, 1) := by decide +kernel
theorem dX12_step_10 : decode cX12_step 10 = .ok (.getfield 37, 3) := by decide +kernel
theorem dX12_step_13 : decode cX12_step 13 = .ok (.bipush 10, 2) := by decide +kernel
theorem dX12_step_15 : decode cX12_step 15 = .ok (.iload_n 1, 1) := by decide +kernel
theorem dX12_step_16 : decode cX12_step 16 = .ok (.imul, 1) := by decide +kernel
theorem dX12_step_17 : decode cX12_step 17 = .ok (.iload_n 2, 1) := by decide +kernel
theorem dX12_step_18 : decode cX12_step 18 = .ok (.iadd, 1) := by decide +kernel
theorem dX12_step_19 : decode cX12_step 19 = .ok (.iaload, 1) := by decide +kernel
theorem dX12_step_20 : decode cX12_step 20 = .ok (.goto 4, 3) := by decide +kernel
theorem dX12_step_23 : decode cX12_step 23 = .ok (.iconst (-1), 1) := by decide +kernel
theorem dX12_step_24 : decode cX12_step 24 = .ok (.ireturn, 1) := by decide +kernel
theorem dX12_warm_0 : decode cX12_warm 0 = .ok (.aload_n 0, 1) := by decide +kernel
theorem dX12_warm_1 : decode cX12_warm 1 = .ok (.iload_n 1, 1) := by decide +kernel
theorem dX12_warm_2 : decode cX12_warm 2 = .ok (.iload_n 2, 1) := by decide +kernel
theorem dX12_warm_3 : decode cX12_warm 3 = .ok (.invokevirtual 223, 3) := by decide +kernel
theorem dX12_warm_6 : decode cX12_warm 6 = .ok (.ifCond .eq 13, 3) := by decide +kernel
theorem dX12_warm_9 : decode cX12_warm 9 = .ok (.iload_n 3, 1) := by decide +kernel
theorem dX12_warm_10 : decode cX12_warm 10 = .ok (.iconst 0, 1) := by decide +kernel
theorem dX12_warm_11 : decode cX12_warm 11 = .ok (.bipush 24, 2) := by decide +kernel
theorem dX12_warm_13 : decode cX12_warm 13 = .ok (.invokestatic 196, 3) := by decide +kernel
theorem dX12_warm_16 : decode cX12_warm 16 = .ok (.ifCond .ne 5, 3) := by decide +kernel
theorem dX12_warm_19 : decode cX12_warm 19 = .ok (.iconst (-1), 1) := by decide +kernel
theorem dX12_warm_20 : decode cX12_warm 20 = .ok (.ireturn, 1) := by decide +kernel
theorem dX12_warm_21 : decode cX12_warm 21 = .ok (.aload_n 0, 1) := by decide +kernel
theorem dX12_warm_22 : decode cX12_warm 22 = .ok (.getfield 40, 3) := by decide +kernel
theorem dX12_warm_25 : decode cX12_warm 25 = .ok (.bipush 10, 2) := by decide +kernel
theorem dX12_warm_27 : decode cX12_warm 27 = .ok (.iload_n 1, 1) := by decide +kernel
theorem dX12_warm_28 : decode cX12_warm 28 = .ok (.imul, 1) := by decide +kernel
theorem dX12_warm_29 : decode cX12_warm 29 = .ok (.iload_n 2, 1) := by decide +kernel
theorem dX12_warm_30 : decode cX12_warm 30 = .ok (.iadd, 1) := by decide +kernel
theorem dX12_warm_31 : decode cX12_warm 31 = .ok (.iaload, 1) := by decide +kernel
theorem dX12_warm_32 : decode cX12_warm 32 = .ok (.istore 4, 2) := by decide +kernel
theorem dX12_warm_34 : decode cX12_warm 34 = .ok (.aload_n 0, 1) := by decide +kernel
theorem dX12_warm_35 : decode cX12_warm 35 = .ok (.getfield 40, 3) := by decide +kernel
theorem dX12_warm_38 : decode cX12_warm 38 = .ok (.bipush 10, 2) := by decide +kernel
theorem dX12_warm_40 : decode cX12_warm 40 = .ok (.iload_n 1, 1) := by decide +kernel
theorem dX12_warm_41 : decode cX12_warm 41 = .ok (.imul, 1) := by decide +kernel
theorem dX12_warm_42 : decode cX12_warm 42 = .ok (.iload_n 2, 1) := by decide +kernel
theorem dX12_warm_43 : decode cX12_warm 43 = .ok (.iadd, 1) := by decide +kernel
theorem dX12_warm_44 : decode cX12_warm 44 = .ok (.iload_n 3, 1) := by decide +kernel
theorem dX12_warm_45 : decode cX12_warm 45 = .ok (.iastore, 1) := by decide +kernel
theorem dX12_warm_46 : decode cX12_warm 46 = .ok (.iload 4, 2) := by decide +kernel
theorem dX12_warm_48 : decode cX12_warm 48 = .ok (.ireturn, 1) := by decide +kernel
theorem dX12_isBatch_0 : decode cX12_isBatch 0 = .ok (.iload_n 1, 1) := by decide +kernel
theorem dX12_isBatch_1 : decode cX12_isBatch 1 = .ok (.iconst 0, 1) := by decide +kernel
theorem dX12_isBatch_2 : decode cX12_isBatch 2 = .ok (.aload_n 0, 1) := by decide +kernel
theorem dX12_isBatch_3 : decode cX12_isBatch 3 = .ok (.getfield 227, 3) := by decide +kernel
theorem dX12_isBatch_6 : decode cX12_isBatch 6 = .ok (.iconst 1, 1) := by decide +kernel
theorem dX12_isBatch_7 : decode cX12_isBatch 7 = .ok (.isub, 1) := by decide +kernel
theorem dX12_isBatch_8 : decode cX12_isBatch 8 = .ok (.invokestatic 196, 3) := by decide +kernel
theorem dX12_isBatch_11 : decode cX12_isBatch 11 = .ok (.ireturn, 1) := by decide +kernel
theorem dX12_onShelf_0 : decode cX12_onShelf 0 = .ok (.aload_n 0, 1) := by decide +kernel
theorem dX12_onShelf_1 : decode cX12_onShelf 1 = .ok (.getfield 58, 3) := by decide +kernel
theorem dX12_onShelf_4 : decode cX12_onShelf 4 = .ok (.iload_n 1, 1) := by decide +kernel
theorem dX12_onShelf_5 : decode cX12_onShelf 5 = .ok (.iaload, 1) := by decide +kernel
theorem dX12_onShelf_6 : decode cX12_onShelf 6 = .ok (.aload_n 0, 1) := by decide +kernel
theorem dX12_onShelf_7 : decode cX12_onShelf 7 = .ok (.getfield 61, 3) := by decide +kernel
theorem dX12_onShelf_10 : decode cX12_onShelf 10 = .ok (.iload_n 1, 1) := by decide +kernel
theorem dX12_onShelf_11 : decode cX12_onShelf 11 = .ok (.iaload, 1) := by decide +kernel
theorem dX12_onShelf_12 : decode cX12_onShelf 12 = .ok (.isub, 1) := by decide +kernel
theorem dX12_onShelf_13 : decode cX12_onShelf 13 = .ok (.aload_n 0, 1) := by decide +kernel
theorem dX12_onShelf_14 : decode cX12_onShelf 14 = .ok (.getfield 64, 3) := by decide +kernel
theorem dX12_onShelf_17 : decode cX12_onShelf 17 = .ok (.iload_n 1, 1) := by decide +kernel
theorem dX12_onShelf_18 : decode cX12_onShelf 18 = .ok (.iaload, 1) := by decide +kernel
theorem dX12_onShelf_19 : decode cX12_onShelf 19 = .ok (.isub, 1) := by decide +kernel
theorem dX12_onShelf_20 : decode cX12_onShelf 20 = .ok (.aload_n 0, 1) := by decide +kernel
theorem dX12_onShelf_21 : decode cX12_onShelf 21 = .ok (.getfield 67, 3) := by decide +kernel
theorem dX12_onShelf_24 : decode cX12_onShelf 24 = .ok (.iload_n 1, 1) := by decide +kernel
theorem dX12_onShelf_25 : decode cX12_onShelf 25 = .ok (.iaload, 1) := by decide +kernel
theorem dX12_onShelf_26 : decode cX12_onShelf 26 = .ok (.isub, 1) := by decide +kernel
theorem dX12_onShelf_27 : decode cX12_onShelf 27 = .ok (.aload_n 0, 1) := by decide +kernel
theorem dX12_onShelf_28 : decode cX12_onShelf 28 = .ok (.getfield 70, 3) := by decide +kernel
theorem dX12_onShelf_31 : decode cX12_onShelf 31 = .ok (.iload_n 1, 1) := by decide +kernel
theorem dX12_onShelf_32 : decode cX12_onShelf 32 = .ok (.iaload, 1) := by decide +kernel
theorem dX12_onShelf_33 : decode cX12_onShelf 33 = .ok (.isub, 1) := by decide +kernel
theorem dX12_onShelf_34 : decode cX12_onShelf 34 = .ok (.ireturn, 1) := by decide +kernel
theorem dX12_addBatch_0 : decode cX12_addBatch 0 = .ok (.aload_n 0, 1) := by decide +kernel
theorem dX12_addBatch_1 : decode cX12_addBatch 1 = .ok (.getfield 43, 3) := by decide +kernel
theorem dX12_addBatch_4 : decode cX12_addBatch 4 = .ok (.aload_n 0, 1) := by decide +kernel
theorem dX12_addBatch_5 : decode cX12_addBatch 5 = .ok (.getfield 227, 3) := by decide +kernel
theorem dX12_addBatch_8 : decode cX12_addBatch 8 = .ok (.iload_n 1, 1) := by decide +kernel
theorem dX12_addBatch_9 : decode cX12_addBatch 9 = .ok (.iastore, 1) := by decide +kernel
theorem dX12_addBatch_10 : decode cX12_addBatch 10 = .ok (.aload_n 0, 1) := by decide +kernel
theorem dX12_addBatch_11 : decode cX12_addBatch 11 = .ok (.getfield 46, 3) := by decide +kernel
theorem dX12_addBatch_14 : decode cX12_addBatch 14 = .ok (.aload_n 0, 1) := by decide +kernel
theorem dX12_addBatch_15 : decode cX12_addBatch 15 = .ok (.getfield 227, 3) := by decide +kernel
theorem dX12_addBatch_18 : decode cX12_addBatch 18 = .ok (.iload_n 2, 1) := by decide +kernel
theorem dX12_addBatch_19 : decode cX12_addBatch 19 = .ok (.iastore, 1) := by decide +kernel
theorem dX12_addBatch_20 : decode cX12_addBatch 20 = .ok (.aload_n 0, 1) := by decide +kernel
theorem dX12_addBatch_21 : decode cX12_addBatch 21 = .ok (.getfield 49, 3) := by decide +kernel
theorem dX12_addBatch_24 : decode cX12_addBatch 24 = .ok (.aload_n 0, 1) := by decide +kernel
theorem dX12_addBatch_25 : decode cX12_addBatch 25 = .ok (.getfield 227, 3) := by decide +kernel
theorem dX12_addBatch_28 : decode cX12_addBatch 28 = .ok (.iload_n 3, 1) := by decide +kernel
theorem dX12_addBatch_29 : decode cX12_addBatch 29 = .ok (.iastore, 1) := by decide +kernel
theorem dX12_addBatch_30 : decode cX12_addBatch 30 = .ok (.aload_n 0, 1) := by decide +kernel
theorem dX12_addBatch_31 : decode cX12_addBatch 31 = .ok (.getfield 52, 3) := by decide +kernel
theorem dX12_addBatch_34 : decode cX12_addBatch 34 = .ok (.aload_n 0, 1) := by decide +kernel
theorem dX12_addBatch_35 : decode cX12_addBatch 35 = .ok (.getfield 227, 3) := by decide +kernel
theorem dX12_addBatch_38 : decode cX12_addBatch 38 = .ok (.iload 4, 2) := by decide +kernel
theorem dX12_addBatch_40 : decode cX12_addBatch 40 = .ok (.iastore, 1) := by decide +kernel
theorem dX12_addBatch_41 : decode cX12_addBatch 41 = .ok (.aload_n 0, 1) := by decide +kernel
theorem dX12_addBatch_42 : decode cX12_addBatch 42 = .ok (.getfield 55, 3) := by decide +kernel
theorem dX12_addBatch_45 : decode cX12_addBatch 45 = .ok (.aload_n 0, 1) := by decide +kernel
theorem dX12_addBatch_46 : decode cX12_addBatch 46 = .ok (.getfield 227, 3) := by decide +kernel
theorem dX12_addBatch_49 : decode cX12_addBatch 49 = .ok (.aload_n 0, 1) := by decide +kernel
theorem dX12_addBatch_50 : decode cX12_addBatch 50 = .ok (.invokevirtual 230, 3) := by decide +kernel
theorem dX12_addBatch_53 : decode cX12_addBatch 53 = .ok (.iastore, 1) := by decide +kernel
theorem dX12_addBatch_54 : decode cX12_addBatch 54 = .ok (.aload_n 0, 1) := by decide +kernel
theorem dX12_addBatch_55 : decode cX12_addBatch 55 = .ok (.getfield 58, 3) := by decide +kernel
theorem dX12_addBatch_58 : decode cX12_addBatch 58 = .ok (.aload_n 0, 1) := by decide +kernel
theorem dX12_addBatch_59 : decode cX12_addBatch 59 = .ok (.getfield 227, 3) := by decide +kernel
theorem dX12_addBatch_62 : decode cX12_addBatch 62 = .ok (.iload 5, 2) := by decide +kernel
theorem dX12_addBatch_64 : decode cX12_addBatch 64 = .ok (.iastore, 1) := by decide +kernel
theorem dX12_addBatch_65 : decode cX12_addBatch 65 = .ok (.aload_n 0, 1) := by decide +kernel
theorem dX12_addBatch_66 : decode cX12_addBatch 66 = .ok (.getfield 76, 3) := by decide +kernel
theorem dX12_addBatch_69 : decode cX12_addBatch 69 = .ok (.aload_n 0, 1) := by decide +kernel
theorem dX12_addBatch_70 : decode cX12_addBatch 70 = .ok (.getfield 227, 3) := by decide +kernel
theorem dX12_addBatch_73 : decode cX12_addBatch 73 = .ok (.iload 6, 2) := by decide +kernel
theorem dX12_addBatch_75 : decode cX12_addBatch 75 = .ok (.iastore, 1) := by decide +kernel
theorem dX12_addBatch_76 : decode cX12_addBatch 76 = .ok (.aload_n 0, 1) := by decide +kernel
theorem dX12_addBatch_77 : decode cX12_addBatch 77 = .ok (.dup, 1) := by decide +kernel
theorem dX12_addBatch_78 : decode cX12_addBatch 78 = .ok (.getfield 227, 3) := by decide +kernel
theorem dX12_addBatch_81 : decode cX12_addBatch 81 = .ok (.iconst 1, 1) := by decide +kernel
theorem dX12_addBatch_82 : decode cX12_addBatch 82 = .ok (.iadd, 1) := by decide +kernel
theorem dX12_addBatch_83 : decode cX12_addBatch 83 = .ok (.putfield 227, 3) := by decide +kernel
theorem dX12_addBatch_86 : decode cX12_addBatch 86 = .ok (.return_, 1) := by decide +kernel
theorem dX12_batch_0 : decode cX12_batch 0 = .ok (.aload_n 0, 1) := by decide +kernel
theorem dX12_batch_1 : decode cX12_batch 1 = .ok (.iload_n 1, 1) := by decide +kernel
theorem dX12_batch_2 : decode cX12_batch 2 = .ok (.invokevirtual 209, 3) := by decide +kernel
theorem dX12_batch_5 : decode cX12_batch 5 = .ok (.ifCond .eq 49, 3) := by decide +kernel
theorem dX12_batch_8 : decode cX12_batch 8 = .ok (.iload_n 2, 1) := by decide +kernel
theorem dX12_batch_9 : decode cX12_batch 9 = .ok (.ifCond .lt 45, 3) := by decide +kernel
theorem dX12_batch_12 : decode cX12_batch 12 = .ok (.aload_n 0, 1) := by decide +kernel
theorem dX12_batch_13 : decode cX12_batch 13 = .ok (.iload_n 2, 1) := by decide +kernel
theorem dX12_batch_14 : decode cX12_batch 14 = .ok (.bipush 100, 2) := by decide +kernel
theorem dX12_batch_16 : decode cX12_batch 16 = .ok (.idiv, 1) := by decide +kernel
theorem dX12_batch_17 : decode cX12_batch 17 = .ok (.invokevirtual 213, 3) := by decide +kernel
theorem dX12_batch_20 : decode cX12_batch 20 = .ok (.ifCond .eq 34, 3) := by decide +kernel
theorem dX12_batch_23 : decode cX12_batch 23 = .ok (.iload_n 3, 1) := by decide +kernel
theorem dX12_batch_24 : decode cX12_batch 24 = .ok (.iconst 0, 1) := by decide +kernel
theorem dX12_batch_25 : decode cX12_batch 25 = .ok (.bipush 9, 2) := by decide +kernel
theorem dX12_batch_27 : decode cX12_batch 27 = .ok (.invokestatic 196, 3) := by decide +kernel
theorem dX12_batch_30 : decode cX12_batch 30 = .ok (.ifCond .eq 24, 3) := by decide +kernel
theorem dX12_batch_33 : decode cX12_batch 33 = .ok (.aload_n 0, 1) := by decide +kernel
theorem dX12_batch_34 : decode cX12_batch 34 = .ok (.invokevirtual 230, 3) := by decide +kernel
theorem dX12_batch_37 : decode cX12_batch 37 = .ok (.iload_n 3, 1) := by decide +kernel
theorem dX12_batch_38 : decode cX12_batch 38 = .ok (.isub, 1) := by decide +kernel
theorem dX12_batch_39 : decode cX12_batch 39 = .ok (.ifCond .lt 15, 3) := by decide +kernel
theorem dX12_batch_42 : decode cX12_batch 42 = .ok (.iload 4, 2) := by decide +kernel
theorem dX12_batch_44 : decode cX12_batch 44 = .ok (.iconst 1, 1) := by decide +kernel
theorem dX12_batch_45 : decode cX12_batch 45 = .ok (.sipush 999, 3) := by decide +kernel
theorem dX12_batch_48 : decode cX12_batch 48 = .ok (.invokestatic 196, 3) := by decide +kernel
theorem dX12_batch_51 : decode cX12_batch 51 = .ok (.ifCond .ne 5, 3) := by decide +kernel
theorem dX12_batch_54 : decode cX12_batch 54 = .ok (.iconst (-1), 1) := by decide +kernel
theorem dX12_batch_55 : decode cX12_batch 55 = .ok (.ireturn, 1) := by decide +kernel
theorem dX12_batch_56 : decode cX12_batch 56 = .ok (.aload_n 0, 1) := by decide +kernel
theorem dX12_batch_57 : decode cX12_batch 57 = .ok (.getfield 227, 3) := by decide +kernel
theorem dX12_batch_60 : decode cX12_batch 60 = .ok (.sipush 200, 3) := by decide +kernel
theorem dX12_batch_63 : decode cX12_batch 63 = .ok (.if_icmp .ne 6, 3) := by decide +kernel
theorem dX12_batch_66 : decode cX12_batch 66 = .ok (.bipush (-3), 2) := by decide +kernel
theorem dX12_batch_68 : decode cX12_batch 68 = .ok (.ireturn, 1) := by decide +kernel
theorem dX12_batch_69 : decode cX12_batch 69 = .ok (.aload_n 0, 1) := by decide +kernel
theorem dX12_batch_70 : decode cX12_batch 70 = .ok (.iload_n 1, 1) := by decide +kernel
theorem dX12_batch_71 : decode cX12_batch 71 = .ok (.iload_n 2, 1) := by decide +kernel
theorem dX12_batch_72 : decode cX12_batch 72 = .ok (.bipush 100, 2) := by decide +kernel
theorem dX12_batch_74 : decode cX12_batch 74 = .ok (.idiv, 1) := by decide +kernel
theorem dX12_batch_75 : decode cX12_batch 75 = .ok (.iload_n 2, 1) := by decide +kernel
theorem dX12_batch_76 : decode cX12_batch 76 = .ok (.bipush 100, 2) := by decide +kernel
theorem dX12_batch_78 : decode cX12_batch 78 = .ok (.irem, 1) := by decide +kernel
theorem dX12_batch_79 : decode cX12_batch 79 = .ok (.aload_n 0, 1) := by decide +kernel
theorem dX12_batch_80 : decode cX12_batch 80 = .ok (.invokevirtual 230, 3) := by decide +kernel
theorem dX12_batch_83 : decode cX12_batch 83 = .ok (.iload_n 3, 1) := by decide +kernel
theorem dX12_batch_84 : decode cX12_batch 84 = .ok (.isub, 1) := by decide +kernel
theorem dX12_batch_85 : decode cX12_batch 85 = .ok (.iload 4, 2) := by decide +kernel
theorem dX12_batch_87 : decode cX12_batch 87 = .ok (.iconst (-1), 1) := by decide +kernel
theorem dX12_batch_88 : decode cX12_batch 88 = .ok (.invokevirtual 234, 3) := by decide +kernel
theorem dX12_batch_91 : decode cX12_batch 91 = .ok (.aload_n 0, 1) := by decide +kernel
theorem dX12_batch_92 : decode cX12_batch 92 = .ok (.dup, 1) := by decide +kernel
theorem dX12_batch_93 : decode cX12_batch 93 = .ok (.getfield 238, 3) := by decide +kernel
theorem dX12_batch_96 : decode cX12_batch 96 = .ok (.iload 4, 2) := by decide +kernel
theorem dX12_batch_98 : decode cX12_batch 98 = .ok (.aload_n 0, 1) := by decide +kernel
theorem dX12_batch_99 : decode cX12_batch 99 = .ok (.getfield 22, 3) := by decide +kernel
theorem dX12_batch_102 : decode cX12_batch 102 = .ok (.iload_n 2, 1) := by decide +kernel
theorem dX12_batch_103 : decode cX12_batch 103 = .ok (.bipush 100, 2) := by decide +kernel
theorem dX12_batch_105 : decode cX12_batch 105 = .ok (.idiv, 1) := by decide +kernel
theorem dX12_batch_106 : decode cX12_batch 106 = .ok (.iaload, 1) := by decide +kernel
theorem dX12_batch_107 : decode cX12_batch 107 = .ok (.imul, 1) := by decide +kernel
theorem dX12_batch_108 : decode cX12_batch 108 = .ok (.iadd, 1) := by decide +kernel
theorem dX12_batch_109 : decode cX12_batch 109 = .ok (.putfield 238, 3) := by decide +kernel
theorem dX12_batch_112 : decode cX12_batch 112 = .ok (.aload_n 0, 1) := by decide +kernel
theorem dX12_batch_113 : decode cX12_batch 113 = .ok (.getfield 227, 3) := by decide +kernel
theorem dX12_batch_116 : decode cX12_batch 116 = .ok (.iconst 1, 1) := by decide +kernel
theorem dX12_batch_117 : decode cX12_batch 117 = .ok (.isub, 1) := by decide +kernel
theorem dX12_batch_118 : decode cX12_batch 118 = .ok (.ireturn, 1) := by decide +kernel
theorem dX12_firstOf_0 : decode cX12_firstOf 0 = .ok (.iload_n 1, 1) := by decide +kernel
theorem dX12_firstOf_1 : decode cX12_firstOf 1 = .ok (.istore_n 2, 1) := by decide +kernel
theorem dX12_firstOf_2 : decode cX12_firstOf 2 = .ok (.aload_n 0, 1) := by decide +kernel
theorem dX12_firstOf_3 : decode cX12_firstOf 3 = .ok (.getfield 76, 3) := by decide +kernel
theorem dX12_firstOf_6 : decode cX12_firstOf 6 = .ok (.iload_n 2, 1) := by decide +kernel
theorem dX12_firstOf_7 : decode cX12_firstOf 7 = .ok (.iaload, 1) := by decide +kernel
theorem dX12_firstOf_8 : decode cX12_firstOf 8 = .ok (.ifCond .lt 13, 3) := by decide +kernel
theorem dX12_firstOf_11 : decode cX12_firstOf 11 = .ok (.aload_n 0, 1) := by decide +kernel
theorem dX12_firstOf_12 : decode cX12_firstOf 12 = .ok (.getfield 76, 3) := by decide +kernel
theorem dX12_firstOf_15 : decode cX12_firstOf 15 = .ok (.iload_n 2, 1) := by decide +kernel
theorem dX12_firstOf_16 : decode cX12_firstOf 16 = .ok (.iaload, 1) := by decide +kernel
theorem dX12_firstOf_17 : decode cX12_firstOf 17 = .ok (.istore_n 2, 1) := by decide +kernel
theorem dX12_firstOf_18 : decode cX12_firstOf 18 = .ok (.goto (-16), 3) := by decide +kernel
theorem dX12_firstOf_21 : decode cX12_firstOf 21 = .ok (.iload_n 2, 1) := by decide +kernel
theorem dX12_firstOf_22 : decode cX12_firstOf 22 = .ok (.ireturn, 1) := by decide +kernel
theorem dX12_ofBatch_0 : decode cX12_ofBatch 0 = .ok (.aload_n 0, 1) := by decide +kernel
theorem dX12_ofBatch_1 : decode cX12_ofBatch 1 = .ok (.iload_n 1, 1) := by decide +kernel
theorem dX12_ofBatch_2 : decode cX12_ofBatch 2 = .ok (.invokevirtual 241, 3) := by decide +kernel
theorem dX12_ofBatch_5 : decode cX12_ofBatch 5 = .ok (.ifCond .ne 6, 3) := by decide +kernel
theorem dX12_ofBatch_8 : decode cX12_ofBatch 8 = .ok (.ldc 244, 2) := by decide +kernel
theorem dX12_ofBatch_10 : decode cX12_ofBatch 10 = .ok (.ireturn, 1) := by decide +kernel
theorem dX12_ofBatch_11 : decode cX12_ofBatch 11 = .ok (.iload_n 2, 1) := by decide +kernel
theorem dX12_ofBatch_12 : decode cX12_ofBatch 12 = .ok (.tableswitch 157 0 12 #[68, 75, 82, 89, 96, 103, 109, 116, 123, 130, 137, 144, 151], 68) := by decide +kernel
theorem dX12_ofBatch_80 : decode cX12_ofBatch 80 = .ok (.aload_n 0, 1) := by decide +kernel
theorem dX12_ofBatch_81 : decode cX12_ofBatch 81 = .ok (.getfield 43, 3) := by decide +kernel
theorem dX12_ofBatch_84 : decode cX12_ofBatch 84 = .ok (.iload_n 1, 1) := by decide +kernel
theorem dX12_ofBatch_85 : decode cX12_ofBatch 85 = .ok (.iaload, 1) := by decide +kernel
theorem dX12_ofBatch_86 : decode cX12_ofBatch 86 = .ok (.ireturn, 1) := by decide +kernel
theorem dX12_ofBatch_87 : decode cX12_ofBatch 87 = .ok (.aload_n 0, 1) := by decide +kernel
theorem dX12_ofBatch_88 : decode cX12_ofBatch 88 = .ok (.getfield 46, 3) := by decide +kernel
theorem dX12_ofBatch_91 : decode cX12_ofBatch 91 = .ok (.iload_n 1, 1) := by decide +kernel
theorem dX12_ofBatch_92 : decode cX12_ofBatch 92 = .ok (.iaload, 1) := by decide +kernel
theorem dX12_ofBatch_93 : decode cX12_ofBatch 93 = .ok (.ireturn, 1) := by decide +kernel
theorem dX12_ofBatch_94 : decode cX12_ofBatch 94 = .ok (.aload_n 0, 1) := by decide +kernel
theorem dX12_ofBatch_95 : decode cX12_ofBatch 95 = .ok (.getfield 49, 3) := by decide +kernel
theorem dX12_ofBatch_98 : decode cX12_ofBatch 98 = .ok (.iload_n 1, 1) := by decide +kernel
theorem dX12_ofBatch_99 : decode cX12_ofBatch 99 = .ok (.iaload, 1) := by decide +kernel
theorem dX12_ofBatch_100 : decode cX12_ofBatch 100 = .ok (.ireturn, 1) := by decide +kernel
theorem dX12_ofBatch_101 : decode cX12_ofBatch 101 = .ok (.aload_n 0, 1) := by decide +kernel
theorem dX12_ofBatch_102 : decode cX12_ofBatch 102 = .ok (.getfield 52, 3) := by decide +kernel
theorem dX12_ofBatch_105 : decode cX12_ofBatch 105 = .ok (.iload_n 1, 1) := by decide +kernel
theorem dX12_ofBatch_106 : decode cX12_ofBatch 106 = .ok (.iaload, 1) := by decide +kernel
theorem dX12_ofBatch_107 : decode cX12_ofBatch 107 = .ok (.ireturn, 1) := by decide +kernel
theorem dX12_ofBatch_108 : decode cX12_ofBatch 108 = .ok (.aload_n 0, 1) := by decide +kernel
theorem dX12_ofBatch_109 : decode cX12_ofBatch 109 = .ok (.getfield 58, 3) := by decide +kernel
theorem dX12_ofBatch_112 : decode cX12_ofBatch 112 = .ok (.iload_n 1, 1) := by decide +kernel
theorem dX12_ofBatch_113 : decode cX12_ofBatch 113 = .ok (.iaload, 1) := by decide +kernel
theorem dX12_ofBatch_114 : decode cX12_ofBatch 114 = .ok (.ireturn, 1) := by decide +kernel
theorem dX12_ofBatch_115 : decode cX12_ofBatch 115 = .ok (.aload_n 0, 1) := by decide +kernel
theorem dX12_ofBatch_116 : decode cX12_ofBatch 116 = .ok (.iload_n 1, 1) := by decide +kernel
theorem dX12_ofBatch_117 : decode cX12_ofBatch 117 = .ok (.invokevirtual 245, 3) := by decide +kernel
theorem dX12_ofBatch_120 : decode cX12_ofBatch 120 = .ok (.ireturn, 1) := by decide +kernel
theorem dX12_ofBatch_121 : decode cX12_ofBatch 121 = .ok (.aload_n 0, 1) := by decide +kernel
theorem dX12_ofBatch_122 : decode cX12_ofBatch 122 = .ok (.getfield 61, 3) := by decide +kernel
theorem dX12_ofBatch_125 : decode cX12_ofBatch 125 = .ok (.iload_n 1, 1) := by decide +kernel
theorem dX12_ofBatch_126 : decode cX12_ofBatch 126 = .ok (.iaload, 1) := by decide +kernel
theorem dX12_ofBatch_127 : decode cX12_ofBatch 127 = .ok (.ireturn, 1) := by decide +kernel
theorem dX12_ofBatch_128 : decode cX12_ofBatch 128 = .ok (.aload_n 0, 1) := by decide +kernel
theorem dX12_ofBatch_129 : decode cX12_ofBatch 129 = .ok (.getfield 64, 3) := by decide +kernel
theorem dX12_ofBatch_132 : decode cX12_ofBatch 132 = .ok (.iload_n 1, 1) := by decide +kernel
theorem dX12_ofBatch_133 : decode cX12_ofBatch 133 = .ok (.iaload, 1) := by decide +kernel
theorem dX12_ofBatch_134 : decode cX12_ofBatch 134 = .ok (.ireturn, 1) := by decide +kernel
theorem dX12_ofBatch_135 : decode cX12_ofBatch 135 = .ok (.aload_n 0, 1) := by decide +kernel
theorem dX12_ofBatch_136 : decode cX12_ofBatch 136 = .ok (.getfield 67, 3) := by decide +kernel
theorem dX12_ofBatch_139 : decode cX12_ofBatch 139 = .ok (.iload_n 1, 1) := by decide +kernel
theorem dX12_ofBatch_140 : decode cX12_ofBatch 140 = .ok (.iaload, 1) := by decide +kernel
theorem dX12_ofBatch_141 : decode cX12_ofBatch 141 = .ok (.ireturn, 1) := by decide +kernel
theorem dX12_ofBatch_142 : decode cX12_ofBatch 142 = .ok (.aload_n 0, 1) := by decide +kernel
theorem dX12_ofBatch_143 : decode cX12_ofBatch 143 = .ok (.getfield 70, 3) := by decide +kernel
theorem dX12_ofBatch_146 : decode cX12_ofBatch 146 = .ok (.iload_n 1, 1) := by decide +kernel
theorem dX12_ofBatch_147 : decode cX12_ofBatch 147 = .ok (.iaload, 1) := by decide +kernel
theorem dX12_ofBatch_148 : decode cX12_ofBatch 148 = .ok (.ireturn, 1) := by decide +kernel
theorem dX12_ofBatch_149 : decode cX12_ofBatch 149 = .ok (.aload_n 0, 1) := by decide +kernel
theorem dX12_ofBatch_150 : decode cX12_ofBatch 150 = .ok (.getfield 73, 3) := by decide +kernel
theorem dX12_ofBatch_153 : decode cX12_ofBatch 153 = .ok (.iload_n 1, 1) := by decide +kernel
theorem dX12_ofBatch_154 : decode cX12_ofBatch 154 = .ok (.iaload, 1) := by decide +kernel
theorem dX12_ofBatch_155 : decode cX12_ofBatch 155 = .ok (.ireturn, 1) := by decide +kernel
theorem dX12_ofBatch_156 : decode cX12_ofBatch 156 = .ok (.aload_n 0, 1) := by decide +kernel
theorem dX12_ofBatch_157 : decode cX12_ofBatch 157 = .ok (.getfield 76, 3) := by decide +kernel
theorem dX12_ofBatch_160 : decode cX12_ofBatch 160 = .ok (.iload_n 1, 1) := by decide +kernel
theorem dX12_ofBatch_161 : decode cX12_ofBatch 161 = .ok (.iaload, 1) := by decide +kernel
theorem dX12_ofBatch_162 : decode cX12_ofBatch 162 = .ok (.ireturn, 1) := by decide +kernel
theorem dX12_ofBatch_163 : decode cX12_ofBatch 163 = .ok (.aload_n 0, 1) := by decide +kernel
theorem dX12_ofBatch_164 : decode cX12_ofBatch 164 = .ok (.iload_n 1, 1) := by decide +kernel
theorem dX12_ofBatch_165 : decode cX12_ofBatch 165 = .ok (.invokevirtual 249, 3) := by decide +kernel
theorem dX12_ofBatch_168 : decode cX12_ofBatch 168 = .ok (.ireturn, 1) := by decide +kernel
theorem dX12_ofBatch_169 : decode cX12_ofBatch 169 = .ok (.ldc 244, 2) := by decide +kernel
theorem dX12_ofBatch_171 : decode cX12_ofBatch 171 = .ok (.ireturn, 1) := by decide +kernel
theorem dX12_feed_0 : decode cX12_feed 0 = .ok (.aload_n 0, 1) := by decide +kernel
theorem dX12_feed_1 : decode cX12_feed 1 = .ok (.getfield 252, 3) := by decide +kernel
theorem dX12_feed_4 : decode cX12_feed 4 = .ok (.bipush 20, 2) := by decide +kernel
theorem dX12_feed_6 : decode cX12_feed 6 = .ok (.iadd, 1) := by decide +kernel
theorem dX12_feed_7 : decode cX12_feed 7 = .ok (.sipush 160, 3) := by decide +kernel
theorem dX12_feed_10 : decode cX12_feed 10 = .ok (.if_icmp .le 6, 3) := by decide +kernel
theorem dX12_feed_13 : decode cX12_feed 13 = .ok (.bipush (-3), 2) := by decide +kernel
theorem dX12_feed_15 : decode cX12_feed 15 = .ok (.ireturn, 1) := by decide +kernel
theorem dX12_feed_16 : decode cX12_feed 16 = .ok (.aload_n 0, 1) := by decide +kernel
theorem dX12_feed_17 : decode cX12_feed 17 = .ok (.iload_n 1, 1) := by decide +kernel
theorem dX12_feed_18 : decode cX12_feed 18 = .ok (.invokevirtual 255, 3) := by decide +kernel
theorem dX12_feed_21 : decode cX12_feed 21 = .ok (.aload_n 0, 1) := by decide +kernel
theorem dX12_feed_22 : decode cX12_feed 22 = .ok (.iload_n 2, 1) := by decide +kernel
theorem dX12_feed_23 : decode cX12_feed 23 = .ok (.invokevirtual 255, 3) := by decide +kernel
theorem dX12_feed_26 : decode cX12_feed 26 = .ok (.aload_n 0, 1) := by decide +kernel
theorem dX12_feed_27 : decode cX12_feed 27 = .ok (.iload_n 3, 1) := by decide +kernel
theorem dX12_feed_28 : decode cX12_feed 28 = .ok (.invokevirtual 255, 3) := by decide +kernel
theorem dX12_feed_31 : decode cX12_feed 31 = .ok (.aload_n 0, 1) := by decide +kernel
theorem dX12_feed_32 : decode cX12_feed 32 = .ok (.iload 4, 2) := by decide +kernel
theorem dX12_feed_34 : decode cX12_feed 34 = .ok (.invokevirtual 255, 3) := by decide +kernel
theorem dX12_feed_37 : decode cX12_feed 37 = .ok (.aload_n 0, 1) := by decide +kernel
theorem dX12_feed_38 : decode cX12_feed 38 = .ok (.iload 5, 2) := by decide +kernel
theorem dX12_feed_40 : decode cX12_feed 40 = .ok (.invokevirtual 255, 3) := by decide +kernel
theorem dX12_feed_43 : decode cX12_feed 43 = .ok (.aload_n 0, 1) := by decide +kernel
theorem dX12_feed_44 : decode cX12_feed 44 = .ok (.getfield 252, 3) := by decide +kernel
theorem dX12_feed_47 : decode cX12_feed 47 = .ok (.ireturn, 1) := by decide +kernel
theorem dX12_feedOne_0 : decode cX12_feedOne 0 = .ok (.iconst 3, 1) := by decide +kernel
theorem dX12_feedOne_1 : decode cX12_feedOne 1 = .ok (.istore_n 2, 1) := by decide +kernel
theorem dX12_feedOne_2 : decode cX12_feedOne 2 = .ok (.iload_n 2, 1) := by decide +kernel
theorem dX12_feedOne_3 : decode cX12_feedOne 3 = .ok (.ifCond .lt 35, 3) := by decide +kernel
theorem dX12_feedOne_6 : decode cX12_feedOne 6 = .ok (.aload_n 0, 1) := by decide +kernel
theorem dX12_feedOne_7 : decode cX12_feedOne 7 = .ok (.getfield 82, 3) := by decide +kernel
theorem dX12_feedOne_10 : decode cX12_feedOne 10 = .ok (.aload_n 0, 1) := by decide +kernel
theorem dX12_feedOne_11 : decode cX12_feedOne 11 = .ok (.getfield 252, 3) := by decide +kernel
theorem dX12_feedOne_14 : decode cX12_feedOne 14 = .ok (.iload_n 1, 1) := by decide +kernel
theorem dX12_feedOne_15 : decode cX12_feedOne 15 = .ok (.bipush 8, 2) := by decide +kernel
theorem dX12_feedOne_17 : decode cX12_feedOne 17 = .ok (.iload_n 2, 1) := by decide +kernel
theorem dX12_feedOne_18 : decode cX12_feedOne 18 = .ok (.imul, 1) := by decide +kernel
theorem dX12_feedOne_19 : decode cX12_feedOne 19 = .ok (.ishr, 1) := by decide +kernel
theorem dX12_feedOne_20 : decode cX12_feedOne 20 = .ok (.i2b, 1) := by decide +kernel
theorem dX12_feedOne_21 : decode cX12_feedOne 21 = .ok (.bastore, 1) := by decide +kernel
theorem dX12_feedOne_22 : decode cX12_feedOne 22 = .ok (.aload_n 0, 1) := by decide +kernel
theorem dX12_feedOne_23 : decode cX12_feedOne 23 = .ok (.dup, 1) := by decide +kernel
theorem dX12_feedOne_24 : decode cX12_feedOne 24 = .ok (.getfield 252, 3) := by decide +kernel
theorem dX12_feedOne_27 : decode cX12_feedOne 27 = .ok (.iconst 1, 1) := by decide +kernel
theorem dX12_feedOne_28 : decode cX12_feedOne 28 = .ok (.iadd, 1) := by decide +kernel
theorem dX12_feedOne_29 : decode cX12_feedOne 29 = .ok (.putfield 252, 3) := by decide +kernel
theorem dX12_feedOne_32 : decode cX12_feedOne 32 = .ok (.iinc 2 (-1), 3) := by decide +kernel
theorem dX12_feedOne_35 : decode cX12_feedOne 35 = .ok (.goto (-33), 3) := by decide +kernel
theorem dX12_feedOne_38 : decode cX12_feedOne 38 = .ok (.return_, 1) := by decide +kernel
theorem dX12_end_0 : decode cX12_end 0 = .ok (.iload_n 1, 1) := by decide +kernel
theorem dX12_end_1 : decode cX12_end 1 = .ok (.iconst 0, 1) := by decide +kernel
theorem dX12_end_2 : decode cX12_end 2 = .ok (.aload_n 0, 1) := by decide +kernel
theorem dX12_end_3 : decode cX12_end 3 = .ok (.getfield 252, 3) := by decide +kernel
theorem dX12_end_6 : decode cX12_end 6 = .ok (.invokestatic 196, 3) := by decide +kernel
theorem dX12_end_9 : decode cX12_end 9 = .ok (.ifCond .ne 5, 3) := by decide +kernel
theorem dX12_end_12 : decode cX12_end 12 = .ok (.iconst (-1), 1) := by decide +kernel
theorem dX12_end_13 : decode cX12_end 13 = .ok (.ireturn, 1) := by decide +kernel
theorem dX12_end_14 : decode cX12_end 14 = .ok (.aload_n 0, 1) := by decide +kernel
theorem dX12_end_15 : decode cX12_end 15 = .ok (.iload_n 1, 1) := by decide +kernel
theorem dX12_end_16 : decode cX12_end 16 = .ok (.putfield 252, 3) := by decide +kernel
theorem dX12_end_19 : decode cX12_end 19 = .ok (.iload_n 1, 1) := by decide +kernel
theorem dX12_end_20 : decode cX12_end 20 = .ok (.ireturn, 1) := by decide +kernel
theorem dX12_look_0 : decode cX12_look 0 = .ok (.aload_n 0, 1) := by decide +kernel
theorem dX12_look_1 : decode cX12_look 1 = .ok (.getfield 259, 3) := by decide +kernel
theorem dX12_look_4 : decode cX12_look 4 = .ok (.aload_n 0, 1) := by decide +kernel
theorem dX12_look_5 : decode cX12_look 5 = .ok (.getfield 252, 3) := by decide +kernel
theorem dX12_look_8 : decode cX12_look 8 = .ok (.if_icmp .ge 15, 3) := by decide +kernel
theorem dX12_look_11 : decode cX12_look 11 = .ok (.aload_n 0, 1) := by decide +kernel
theorem dX12_look_12 : decode cX12_look 12 = .ok (.getfield 82, 3) := by decide +kernel
theorem dX12_look_15 : decode cX12_look 15 = .ok (.aload_n 0, 1) := by decide +kernel
theorem dX12_look_16 : decode cX12_look 16 = .ok (.getfield 259, 3) := by decide +kernel
theorem dX12_look_19 : decode cX12_look 19 = .ok (.baload, 1) := by decide +kernel
theorem dX12_look_20 : decode cX12_look 20 = .ok (.goto 4, 3) := by decide +kernel
theorem dX12_look_23 : decode cX12_look 23 = .ok (.iconst (-1), 1) := by decide +kernel
theorem dX12_look_24 : decode cX12_look 24 = .ok (.ireturn, 1) := by decide +kernel
theorem dX12_wrong_0 : decode cX12_wrong 0 = .ok (.aload_n 0, 1) := by decide +kernel
theorem dX12_wrong_1 : decode cX12_wrong 1 = .ok (.getfield 262, 3) := by decide +kernel
theorem dX12_wrong_4 : decode cX12_wrong 4 = .ok (.ifCond .ge 11, 3) := by decide +kernel
theorem dX12_wrong_7 : decode cX12_wrong 7 = .ok (.aload_n 0, 1) := by decide +kernel
theorem dX12_wrong_8 : decode cX12_wrong 8 = .ok (.aload_n 0, 1) := by decide +kernel
theorem dX12_wrong_9 : decode cX12_wrong 9 = .ok (.getfield 259, 3) := by decide +kernel
theorem dX12_wrong_12 : decode cX12_wrong 12 = .ok (.putfield 262, 3) := by decide +kernel
theorem dX12_wrong_15 : decode cX12_wrong 15 = .ok (.return_, 1) := by decide +kernel
theorem dX12_lay_0 : decode cX12_lay 0 = .ok (.aload_n 0, 1) := by decide +kernel
theorem dX12_lay_1 : decode cX12_lay 1 = .ok (.getfield 98, 3) := by decide +kernel
theorem dX12_lay_4 : decode cX12_lay 4 = .ok (.sipush 170, 3) := by decide +kernel
theorem dX12_lay_7 : decode cX12_lay 7 = .ok (.aload_n 0, 1) := by decide +kernel
theorem dX12_lay_8 : decode cX12_lay 8 = .ok (.getfield 265, 3) := by decide +kernel
theorem dX12_lay_11 : decode cX12_lay 11 = .ok (.imul, 1) := by decide +kernel
theorem dX12_lay_12 : decode cX12_lay 12 = .ok (.aload_n 0, 1) := by decide +kernel
theorem dX12_lay_13 : decode cX12_lay 13 = .ok (.getfield 268, 3) := by decide +kernel
theorem dX12_lay_16 : decode cX12_lay 16 = .ok (.iadd, 1) := by decide +kernel
theorem dX12_lay_17 : decode cX12_lay 17 = .ok (.iload_n 1, 1) := by decide +kernel
theorem dX12_lay_18 : decode cX12_lay 18 = .ok (.iastore, 1) := by decide +kernel
theorem dX12_lay_19 : decode cX12_lay 19 = .ok (.aload_n 0, 1) := by decide +kernel
theorem dX12_lay_20 : decode cX12_lay 20 = .ok (.getfield 101, 3) := by decide +kernel
theorem dX12_lay_23 : decode cX12_lay 23 = .ok (.sipush 170, 3) := by decide +kernel
theorem dX12_lay_26 : decode cX12_lay 26 = .ok (.aload_n 0, 1) := by decide +kernel
theorem dX12_lay_27 : decode cX12_lay 27 = .ok (.getfield 265, 3) := by decide +kernel
theorem dX12_lay_30 : decode cX12_lay 30 = .ok (.imul, 1) := by decide +kernel
theorem dX12_lay_31 : decode cX12_lay 31 = .ok (.aload_n 0, 1) := by decide +kernel
theorem dX12_lay_32 : decode cX12_lay 32 = .ok (.getfield 268, 3) := by decide +kernel
theorem dX12_lay_35 : decode cX12_lay 35 = .ok (.iadd, 1) := by decide +kernel
theorem dX12_lay_36 : decode cX12_lay 36 = .ok (.iload_n 2, 1) := by decide +kernel
theorem dX12_lay_37 : decode cX12_lay 37 = .ok (.iastore, 1) := by decide +kernel
theorem dX12_lay_38 : decode cX12_lay 38 = .ok (.aload_n 0, 1) := by decide +kernel
theorem dX12_lay_39 : decode cX12_lay 39 = .ok (.dup, 1) := by decide +kernel
theorem dX12_lay_40 : decode cX12_lay 40 = .ok (.getfield 268, 3) := by decide +kernel
theorem dX12_lay_43 : decode cX12_lay 43 = .ok (.iconst 1, 1) := by decide +kernel
theorem dX12_lay_44 : decode cX12_lay 44 = .ok (.iadd, 1) := by decide +kernel
theorem dX12_lay_45 : decode cX12_lay 45 = .ok (.putfield 268, 3) := by decide +kernel
theorem dX12_lay_48 : decode cX12_lay 48 = .ok (.return_, 1) := by decide +kernel
theorem dX12_nameOf_0 : decode cX12_nameOf 0 = .ok (.iload_n 0, 1) := by decide +kernel
theorem dX12_nameOf_1 : decode cX12_nameOf 1 = .ok (.tableswitch 125 97 119 #[107, 125, 111, 125, 125, 125, 125, 115, 125, 125, 109, 125, 125, 119, 125, 117, 125, 125, 122, 125, 125, 125, 113], 107) := by decide +kernel
theorem dX12_nameOf_108 : decode cX12_nameOf 108 = .ok (.iconst 0, 1) := by decide +kernel
theorem dX12_nameOf_109 : decode cX12_nameOf 109 = .ok (.ireturn, 1) := by decide +kernel
theorem dX12_nameOf_110 : decode cX12_nameOf 110 = .ok (.iconst 1, 1) := by decide +kernel
theorem dX12_nameOf_111 : decode cX12_nameOf 111 = .ok (.ireturn, 1) := by decide +kernel
theorem dX12_nameOf_112 : decode cX12_nameOf 112 = .ok (.iconst 2, 1) := by decide +kernel
theorem dX12_nameOf_113 : decode cX12_nameOf 113 = .ok (.ireturn, 1) := by decide +kernel
theorem dX12_nameOf_114 : decode cX12_nameOf 114 = .ok (.iconst 3, 1) := by decide +kernel
theorem dX12_nameOf_115 : decode cX12_nameOf 115 = .ok (.ireturn, 1) := by decide +kernel
theorem dX12_nameOf_116 : decode cX12_nameOf 116 = .ok (.iconst 4, 1) := by decide +kernel
theorem dX12_nameOf_117 : decode cX12_nameOf 117 = .ok (.ireturn, 1) := by decide +kernel
theorem dX12_nameOf_118 : decode cX12_nameOf 118 = .ok (.iconst 5, 1) := by decide +kernel
theorem dX12_nameOf_119 : decode cX12_nameOf 119 = .ok (.ireturn, 1) := by decide +kernel
theorem dX12_nameOf_120 : decode cX12_nameOf 120 = .ok (.bipush 6, 2) := by decide +kernel
theorem dX12_nameOf_122 : decode cX12_nameOf 122 = .ok (.ireturn, 1) := by decide +kernel
theorem dX12_nameOf_123 : decode cX12_nameOf 123 = .ok (.bipush 7, 2) := by decide +kernel
theorem dX12_nameOf_125 : decode cX12_nameOf 125 = .ok (.ireturn, 1) := by decide +kernel
theorem dX12_nameOf_126 : decode cX12_nameOf 126 = .ok (.iconst (-1), 1) := by decide +kernel
theorem dX12_nameOf_127 : decode cX12_nameOf 127 = .ok (.ireturn, 1) := by decide +kernel
theorem dX12_operand_0 : decode cX12_operand 0 = .ok (.aload_n 0, 1) := by decide +kernel
theorem dX12_operand_1 : decode cX12_operand 1 = .ok (.invokevirtual 271, 3) := by decide +kernel
theorem dX12_operand_4 : decode cX12_operand 4 = .ok (.istore_n 1, 1) := by decide +kernel
theorem dX12_operand_5 : decode cX12_operand 5 = .ok (.iload_n 1, 1) := by decide +kernel
theorem dX12_operand_6 : decode cX12_operand 6 = .ok (.invokestatic 274, 3) := by decide +kernel
theorem dX12_operand_9 : decode cX12_operand 9 = .ok (.ifCond .lt 23, 3) := by decide +kernel
theorem dX12_operand_12 : decode cX12_operand 12 = .ok (.aload_n 0, 1) := by decide +kernel
theorem dX12_operand_13 : decode cX12_operand 13 = .ok (.iconst 2, 1) := by decide +kernel
theorem dX12_operand_14 : decode cX12_operand 14 = .ok (.iload_n 1, 1) := by decide +kernel
theorem dX12_operand_15 : decode cX12_operand 15 = .ok (.invokestatic 274, 3) := by decide +kernel
theorem dX12_operand_18 : decode cX12_operand 18 = .ok (.invokevirtual 277, 3) := by decide +kernel
theorem dX12_operand_21 : decode cX12_operand 21 = .ok (.aload_n 0, 1) := by decide +kernel
theorem dX12_operand_22 : decode cX12_operand 22 = .ok (.dup, 1) := by decide +kernel
theorem dX12_operand_23 : decode cX12_operand 23 = .ok (.getfield 259, 3) := by decide +kernel
theorem dX12_operand_26 : decode cX12_operand 26 = .ok (.iconst 1, 1) := by decide +kernel
theorem dX12_operand_27 : decode cX12_operand 27 = .ok (.iadd, 1) := by decide +kernel
theorem dX12_operand_28 : decode cX12_operand 28 = .ok (.putfield 259, 3) := by decide +kernel
theorem dX12_operand_31 : decode cX12_operand 31 = .ok (.return_, 1) := by decide +kernel
theorem dX12_operand_32 : decode cX12_operand 32 = .ok (.iload_n 1, 1) := by decide +kernel
theorem dX12_operand_33 : decode cX12_operand 33 = .ok (.bipush 33, 2) := by decide +kernel
theorem dX12_operand_35 : decode cX12_operand 35 = .ok (.if_icmp .eq 9, 3) := by decide +kernel
theorem dX12_operand_38 : decode cX12_operand 38 = .ok (.iload_n 1, 1) := by decide +kernel
theorem dX12_operand_39 : decode cX12_operand 39 = .ok (.bipush 40, 2) := by decide +kernel
theorem dX12_operand_41 : decode cX12_operand 41 = .ok (.if_icmp .ne 103, 3) := by decide +kernel
theorem dX12_operand_44 : decode cX12_operand 44 = .ok (.aload_n 0, 1) := by decide +kernel
theorem dX12_operand_45 : decode cX12_operand 45 = .ok (.getfield 281, 3) := by decide +kernel
theorem dX12_operand_48 : decode cX12_operand 48 = .ok (.bipush 9, 2) := by decide +kernel
theorem dX12_operand_50 : decode cX12_operand 50 = .ok (.if_icmp .ne 8, 3) := by decide +kernel
theorem dX12_operand_53 : decode cX12_operand 53 = .ok (.aload_n 0, 1) := by decide +kernel
theorem dX12_operand_54 : decode cX12_operand 54 = .ok (.invokevirtual 284, 3) := by decide +kernel
theorem dX12_operand_57 : decode cX12_operand 57 = .ok (.return_, 1) := by decide +kernel
theorem dX12_operand_58 : decode cX12_operand 58 = .ok (.aload_n 0, 1) := by decide +kernel
theorem dX12_operand_59 : decode cX12_operand 59 = .ok (.dup, 1) := by decide +kernel
theorem dX12_operand_60 : decode cX12_operand 60 = .ok (.getfield 281, 3) := by decide +kernel
theorem dX12_operand_63 : decode cX12_operand 63 = .ok (.iconst 1, 1) := by decide +kernel
theorem dX12_operand_64 : decode cX12_operand 64 = .ok (.iadd, 1) := by decide +kernel
theorem dX12_operand_65 : decode cX12_operand 65 = .ok (.putfield 281, 3) := by decide +kernel
theorem dX12_operand_68 : decode cX12_operand 68 = .ok (.aload_n 0, 1) := by decide +kernel
theorem dX12_operand_69 : decode cX12_operand 69 = .ok (.dup, 1) := by decide +kernel
theorem dX12_operand_70 : decode cX12_operand 70 = .ok (.getfield 259, 3) := by decide +kernel
theorem dX12_operand_73 : decode cX12_operand 73 = .ok (.iconst 1, 1) := by decide +kernel
theorem dX12_operand_74 : decode cX12_operand 74 = .ok (.iadd, 1) := by decide +kernel
theorem dX12_operand_75 : decode cX12_operand 75 = .ok (.putfield 259, 3) := by decide +kernel
theorem dX12_operand_78 : decode cX12_operand 78 = .ok (.iload_n 1, 1) := by decide +kernel
theorem dX12_operand_79 : decode cX12_operand 79 = .ok (.bipush 33, 2) := by decide +kernel
theorem dX12_operand_81 : decode cX12_operand 81 = .ok (.if_icmp .ne 16, 3) := by decide +kernel
theorem dX12_operand_84 : decode cX12_operand 84 = .ok (.aload_n 0, 1) := by decide +kernel
theorem dX12_operand_85 : decode cX12_operand 85 = .ok (.invokevirtual 287, 3) := by decide +kernel
theorem dX12_operand_88 : decode cX12_operand 88 = .ok (.aload_n 0, 1) := by decide +kernel
theorem dX12_operand_89 : decode cX12_operand 89 = .ok (.iconst 5, 1) := by decide +kernel
theorem dX12_operand_90 : decode cX12_operand 90 = .ok (.iconst 0, 1) := by decide +kernel
theorem dX12_operand_91 : decode cX12_operand 91 = .ok (.invokevirtual 277, 3) := by decide +kernel
theorem dX12_operand_94 : decode cX12_operand 94 = .ok (.goto 39, 3) := by decide +kernel
theorem dX12_operand_97 : decode cX12_operand 97 = .ok (.aload_n 0, 1) := by decide +kernel
theorem dX12_operand_98 : decode cX12_operand 98 = .ok (.invokevirtual 290, 3) := by decide +kernel
theorem dX12_operand_101 : decode cX12_operand 101 = .ok (.aload_n 0, 1) := by decide +kernel
theorem dX12_operand_102 : decode cX12_operand 102 = .ok (.getfield 262, 3) := by decide +kernel
theorem dX12_operand_105 : decode cX12_operand 105 = .ok (.ifCond .lt 4, 3) := by decide +kernel
theorem dX12_operand_108 : decode cX12_operand 108 = .ok (.return_, 1) := by decide +kernel
theorem dX12_operand_109 : decode cX12_operand 109 = .ok (.aload_n 0, 1) := by decide +kernel
theorem dX12_operand_110 : decode cX12_operand 110 = .ok (.invokevirtual 271, 3) := by decide +kernel
theorem dX12_operand_113 : decode cX12_operand 113 = .ok (.bipush 41, 2) := by decide +kernel
theorem dX12_operand_115 : decode cX12_operand 115 = .ok (.if_icmp .eq 8, 3) := by decide +kernel
theorem dX12_operand_118 : decode cX12_operand 118 = .ok (.aload_n 0, 1) := by decide +kernel
theorem dX12_operand_119 : decode cX12_operand 119 = .ok (.invokevirtual 284, 3) := by decide +kernel
theorem dX12_operand_122 : decode cX12_operand 122 = .ok (.return_, 1) := by decide +kernel
theorem dX12_operand_123 : decode cX12_operand 123 = .ok (.aload_n 0, 1) := by decide +kernel
theorem dX12_operand_124 : decode cX12_operand 124 = .ok (.dup, 1) := by decide +kernel
theorem dX12_operand_125 : decode cX12_operand 125 = .ok (.getfield 259, 3) := by decide +kernel
theorem dX12_operand_128 : decode cX12_operand 128 = .ok (.iconst 1, 1) := by decide +kernel
theorem dX12_operand_129 : decode cX12_operand 129 = .ok (.iadd, 1) := by decide +kernel
theorem dX12_operand_130 : decode cX12_operand 130 = .ok (.putfield 259, 3) := by decide +kernel
theorem dX12_operand_133 : decode cX12_operand 133 = .ok (.aload_n 0, 1) := by decide +kernel
theorem dX12_operand_134 : decode cX12_operand 134 = .ok (.dup, 1) := by decide +kernel
theorem dX12_operand_135 : decode cX12_operand 135 = .ok (.getfield 281, 3) := by decide +kernel
theorem dX12_operand_138 : decode cX12_operand 138 = .ok (.iconst 1, 1) := by decide +kernel
theorem dX12_operand_139 : decode cX12_operand 139 = .ok (.isub, 1) := by decide +kernel
theorem dX12_operand_140 : decode cX12_operand 140 = .ok (.putfield 281, 3) := by decide +kernel
theorem dX12_operand_143 : decode cX12_operand 143 = .ok (.return_, 1) := by decide +kernel
theorem dX12_operand_144 : decode cX12_operand 144 = .ok (.iconst 0, 1) := by decide +kernel
theorem dX12_operand_145 : decode cX12_operand 145 = .ok (.istore_n 2, 1) := by decide +kernel
theorem dX12_operand_146 : decode cX12_operand 146 = .ok (.iconst 0, 1) := by decide +kernel
theorem dX12_operand_147 : decode cX12_operand 147 = .ok (.istore_n 3, 1) := by decide +kernel
theorem dX12_operand_148 : decode cX12_operand 148 = .ok (.iload_n 2, 1) := by decide +kernel
theorem dX12_operand_149 : decode cX12_operand 149 = .ok (.iconst 4, 1) := by decide +kernel
theorem dX12_operand_150 : decode cX12_operand 150 = .ok (.if_icmp .ge 46, 3) := by decide +kernel
theorem dX12_operand_153 : decode cX12_operand 153 = .ok (.aload_n 0, 1) := by decide +kernel
theorem dX12_operand_154 : decode cX12_operand 154 = .ok (.invokevirtual 271, 3) := by decide +kernel
theorem dX12_operand_157 : decode cX12_operand 157 = .ok (.bipush 48, 2) := by decide +kernel
theorem dX12_operand_159 : decode cX12_operand 159 = .ok (.bipush 57, 2) := by decide +kernel
theorem dX12_operand_161 : decode cX12_operand 161 = .ok (.invokestatic 196, 3) := by decide +kernel
theorem dX12_operand_164 : decode cX12_operand 164 = .ok (.ifCond .eq 32, 3) := by decide +kernel
theorem dX12_operand_167 : decode cX12_operand 167 = .ok (.bipush 10, 2) := by decide +kernel
theorem dX12_operand_169 : decode cX12_operand 169 = .ok (.iload_n 3, 1) := by decide +kernel
theorem dX12_operand_170 : decode cX12_operand 170 = .ok (.imul, 1) := by decide +kernel
theorem dX12_operand_171 : decode cX12_operand 171 = .ok (.aload_n 0, 1) := by decide +kernel
theorem dX12_operand_172 : decode cX12_operand 172 = .ok (.invokevirtual 271, 3) := by decide +kernel
theorem dX12_operand_175 : decode cX12_operand 175 = .ok (.iadd, 1) := by decide +kernel
theorem dX12_operand_176 : decode cX12_operand 176 = .ok (.bipush 48, 2) := by decide +kernel
theorem dX12_operand_178 : decode cX12_operand 178 = .ok (.isub, 1) := by decide +kernel
theorem dX12_operand_179 : decode cX12_operand 179 = .ok (.istore_n 3, 1) := by decide +kernel
theorem dX12_operand_180 : decode cX12_operand 180 = .ok (.iinc 2 1, 3) := by decide +kernel
theorem dX12_operand_183 : decode cX12_operand 183 = .ok (.aload_n 0, 1) := by decide +kernel
theorem dX12_operand_184 : decode cX12_operand 184 = .ok (.dup, 1) := by decide +kernel
theorem dX12_operand_185 : decode cX12_operand 185 = .ok (.getfield 259, 3) := by decide +kernel
theorem dX12_operand_188 : decode cX12_operand 188 = .ok (.iconst 1, 1) := by decide +kernel
theorem dX12_operand_189 : decode cX12_operand 189 = .ok (.iadd, 1) := by decide +kernel
theorem dX12_operand_190 : decode cX12_operand 190 = .ok (.putfield 259, 3) := by decide +kernel
theorem dX12_operand_193 : decode cX12_operand 193 = .ok (.goto (-45), 3) := by decide +kernel
theorem dX12_operand_196 : decode cX12_operand 196 = .ok (.iload_n 2, 1) := by decide +kernel
theorem dX12_operand_197 : decode cX12_operand 197 = .ok (.ifCond .eq 17, 3) := by decide +kernel
theorem dX12_operand_200 : decode cX12_operand 200 = .ok (.aload_n 0, 1) := by decide +kernel
theorem dX12_operand_201 : decode cX12_operand 201 = .ok (.invokevirtual 271, 3) := by decide +kernel
theorem dX12_operand_204 : decode cX12_operand 204 = .ok (.bipush 48, 2) := by decide +kernel
theorem dX12_operand_206 : decode cX12_operand 206 = .ok (.bipush 57, 2) := by decide +kernel
theorem dX12_operand_208 : decode cX12_operand 208 = .ok (.invokestatic 196, 3) := by decide +kernel
theorem dX12_operand_211 : decode cX12_operand 211 = .ok (.ifCond .eq 8, 3) := by decide +kernel
theorem dX12_operand_214 : decode cX12_operand 214 = .ok (.aload_n 0, 1) := by decide +kernel
theorem dX12_operand_215 : decode cX12_operand 215 = .ok (.invokevirtual 284, 3) := by decide +kernel
theorem dX12_operand_218 : decode cX12_operand 218 = .ok (.return_, 1) := by decide +kernel
theorem dX12_operand_219 : decode cX12_operand 219 = .ok (.aload_n 0, 1) := by decide +kernel
theorem dX12_operand_220 : decode cX12_operand 220 = .ok (.iconst 1, 1) := by decide +kernel
theorem dX12_operand_221 : decode cX12_operand 221 = .ok (.iload_n 3, 1) := by decide +kernel
theorem dX12_operand_222 : decode cX12_operand 222 = .ok (.invokevirtual 277, 3) := by decide +kernel
theorem dX12_operand_225 : decode cX12_operand 225 = .ok (.return_, 1) := by decide +kernel
theorem dX12_product_0 : decode cX12_product 0 = .ok (.aload_n 0, 1) := by decide +kernel
theorem dX12_product_1 : decode cX12_product 1 = .ok (.invokevirtual 287, 3) := by decide +kernel
theorem dX12_product_4 : decode cX12_product 4 = .ok (.aload_n 0, 1) := by decide +kernel
theorem dX12_product_5 : decode cX12_product 5 = .ok (.getfield 262, 3) := by decide +kernel
theorem dX12_product_8 : decode cX12_product 8 = .ok (.ifCond .ge 49, 3) := by decide +kernel
theorem dX12_product_11 : decode cX12_product 11 = .ok (.aload_n 0, 1) := by decide +kernel
theorem dX12_product_12 : decode cX12_product 12 = .ok (.invokevirtual 271, 3) := by decide +kernel
theorem dX12_product_15 : decode cX12_product 15 = .ok (.bipush 42, 2) := by decide +kernel
theorem dX12_product_17 : decode cX12_product 17 = .ok (.if_icmp .eq 12, 3) := by decide +kernel
theorem dX12_product_20 : decode cX12_product 20 = .ok (.aload_n 0, 1) := by decide +kernel
theorem dX12_product_21 : decode cX12_product 21 = .ok (.invokevirtual 271, 3) := by decide +kernel
theorem dX12_product_24 : decode cX12_product 24 = .ok (.bipush 47, 2) := by decide +kernel
theorem dX12_product_26 : decode cX12_product 26 = .ok (.if_icmp .ne 31, 3) := by decide +kernel
theorem dX12_product_29 : decode cX12_product 29 = .ok (.aload_n 0, 1) := by decide +kernel
theorem dX12_product_30 : decode cX12_product 30 = .ok (.invokevirtual 271, 3) := by decide +kernel
theorem dX12_product_33 : decode cX12_product 33 = .ok (.istore_n 1, 1) := by decide +kernel
theorem dX12_product_34 : decode cX12_product 34 = .ok (.aload_n 0, 1) := by decide +kernel
theorem dX12_product_35 : decode cX12_product 35 = .ok (.dup, 1) := by decide +kernel
theorem dX12_product_36 : decode cX12_product 36 = .ok (.getfield 259, 3) := by decide +kernel
theorem dX12_product_39 : decode cX12_product 39 = .ok (.iconst 1, 1) := by decide +kernel
theorem dX12_product_40 : decode cX12_product 40 = .ok (.iadd, 1) := by decide +kernel
theorem dX12_product_41 : decode cX12_product 41 = .ok (.putfield 259, 3) := by decide +kernel
theorem dX12_product_44 : decode cX12_product 44 = .ok (.aload_n 0, 1) := by decide +kernel
theorem dX12_product_45 : decode cX12_product 45 = .ok (.invokevirtual 287, 3) := by decide +kernel
theorem dX12_product_48 : decode cX12_product 48 = .ok (.aload_n 0, 1) := by decide +kernel
theorem dX12_product_49 : decode cX12_product 49 = .ok (.iload_n 1, 1) := by decide +kernel
theorem dX12_product_50 : decode cX12_product 50 = .ok (.iconst 0, 1) := by decide +kernel
theorem dX12_product_51 : decode cX12_product 51 = .ok (.invokevirtual 277, 3) := by decide +kernel
theorem dX12_product_54 : decode cX12_product 54 = .ok (.goto (-50), 3) := by decide +kernel
theorem dX12_product_57 : decode cX12_product 57 = .ok (.return_, 1) := by decide +kernel
theorem dX12_sum_0 : decode cX12_sum 0 = .ok (.aload_n 0, 1) := by decide +kernel
theorem dX12_sum_1 : decode cX12_sum 1 = .ok (.invokevirtual 293, 3) := by decide +kernel
theorem dX12_sum_4 : decode cX12_sum 4 = .ok (.aload_n 0, 1) := by decide +kernel
theorem dX12_sum_5 : decode cX12_sum 5 = .ok (.getfield 262, 3) := by decide +kernel
theorem dX12_sum_8 : decode cX12_sum 8 = .ok (.ifCond .ge 49, 3) := by decide +kernel
theorem dX12_sum_11 : decode cX12_sum 11 = .ok (.aload_n 0, 1) := by decide +kernel
theorem dX12_sum_12 : decode cX12_sum 12 = .ok (.invokevirtual 271, 3) := by decide +kernel
theorem dX12_sum_15 : decode cX12_sum 15 = .ok (.bipush 43, 2) := by decide +kernel
theorem dX12_sum_17 : decode cX12_sum 17 = .ok (.if_icmp .eq 12, 3) := by decide +kernel
theorem dX12_sum_20 : decode cX12_sum 20 = .ok (.aload_n 0, 1) := by decide +kernel
theorem dX12_sum_21 : decode cX12_sum 21 = .ok (.invokevirtual 271, 3) := by decide +kernel
theorem dX12_sum_24 : decode cX12_sum 24 = .ok (.bipush 45, 2) := by decide +kernel
theorem dX12_sum_26 : decode cX12_sum 26 = .ok (.if_icmp .ne 31, 3) := by decide +kernel
theorem dX12_sum_29 : decode cX12_sum 29 = .ok (.aload_n 0, 1) := by decide +kernel
theorem dX12_sum_30 : decode cX12_sum 30 = .ok (.invokevirtual 271, 3) := by decide +kernel
theorem dX12_sum_33 : decode cX12_sum 33 = .ok (.istore_n 1, 1) := by decide +kernel
theorem dX12_sum_34 : decode cX12_sum 34 = .ok (.aload_n 0, 1) := by decide +kernel
theorem dX12_sum_35 : decode cX12_sum 35 = .ok (.dup, 1) := by decide +kernel
theorem dX12_sum_36 : decode cX12_sum 36 = .ok (.getfield 259, 3) := by decide +kernel
theorem dX12_sum_39 : decode cX12_sum 39 = .ok (.iconst 1, 1) := by decide +kernel
theorem dX12_sum_40 : decode cX12_sum 40 = .ok (.iadd, 1) := by decide +kernel
theorem dX12_sum_41 : decode cX12_sum 41 = .ok (.putfield 259, 3) := by decide +kernel
theorem dX12_sum_44 : decode cX12_sum 44 = .ok (.aload_n 0, 1) := by decide +kernel
theorem dX12_sum_45 : decode cX12_sum 45 = .ok (.invokevirtual 293, 3) := by decide +kernel
theorem dX12_sum_48 : decode cX12_sum 48 = .ok (.aload_n 0, 1) := by decide +kernel
theorem dX12_sum_49 : decode cX12_sum 49 = .ok (.iload_n 1, 1) := by decide +kernel
theorem dX12_sum_50 : decode cX12_sum 50 = .ok (.iconst 0, 1) := by decide +kernel
theorem dX12_sum_51 : decode cX12_sum 51 = .ok (.invokevirtual 277, 3) := by decide +kernel
theorem dX12_sum_54 : decode cX12_sum 54 = .ok (.goto (-50), 3) := by decide +kernel
theorem dX12_sum_57 : decode cX12_sum 57 = .ok (.return_, 1) := by decide +kernel
theorem dX12_compared_0 : decode cX12_compared 0 = .ok (.aload_n 0, 1) := by decide +kernel
theorem dX12_compared_1 : decode cX12_compared 1 = .ok (.invokevirtual 296, 3) := by decide +kernel
theorem dX12_compared_4 : decode cX12_compared 4 = .ok (.aload_n 0, 1) := by decide +kernel
theorem dX12_compared_5 : decode cX12_compared 5 = .ok (.invokevirtual 271, 3) := by decide +kernel
theorem dX12_compared_8 : decode cX12_compared 8 = .ok (.istore_n 1, 1) := by decide +kernel
theorem dX12_compared_9 : decode cX12_compared 9 = .ok (.aload_n 0, 1) := by decide +kernel
theorem dX12_compared_10 : decode cX12_compared 10 = .ok (.getfield 262, 3) := by decide +kernel
theorem dX12_compared_13 : decode cX12_compared 13 = .ok (.ifCond .ge 21, 3) := by decide +kernel
theorem dX12_compared_16 : decode cX12_compared 16 = .ok (.iload_n 1, 1) := by decide +kernel
theorem dX12_compared_17 : decode cX12_compared 17 = .ok (.bipush 60, 2) := by decide +kernel
theorem dX12_compared_19 : decode cX12_compared 19 = .ok (.if_icmp .eq 16, 3) := by decide +kernel
theorem dX12_compared_22 : decode cX12_compared 22 = .ok (.iload_n 1, 1) := by decide +kernel
theorem dX12_compared_23 : decode cX12_compared 23 = .ok (.bipush 61, 2) := by decide +kernel
theorem dX12_compared_25 : decode cX12_compared 25 = .ok (.if_icmp .eq 10, 3) := by decide +kernel
theorem dX12_compared_28 : decode cX12_compared 28 = .ok (.iload_n 1, 1) := by decide +kernel
theorem dX12_compared_29 : decode cX12_compared 29 = .ok (.bipush 62, 2) := by decide +kernel
theorem dX12_compared_31 : decode cX12_compared 31 = .ok (.if_icmp .eq 4, 3) := by decide +kernel
theorem dX12_compared_34 : decode cX12_compared 34 = .ok (.return_, 1) := by decide +kernel
theorem dX12_compared_35 : decode cX12_compared 35 = .ok (.aload_n 0, 1) := by decide +kernel
theorem dX12_compared_36 : decode cX12_compared 36 = .ok (.dup, 1) := by decide +kernel
theorem dX12_compared_37 : decode cX12_compared 37 = .ok (.getfield 259, 3) := by decide +kernel
theorem dX12_compared_40 : decode cX12_compared 40 = .ok (.iconst 1, 1) := by decide +kernel
theorem dX12_compared_41 : decode cX12_compared 41 = .ok (.iadd, 1) := by decide +kernel
theorem dX12_compared_42 : decode cX12_compared 42 = .ok (.putfield 259, 3) := by decide +kernel
theorem dX12_compared_45 : decode cX12_compared 45 = .ok (.aload_n 0, 1) := by decide +kernel
theorem dX12_compared_46 : decode cX12_compared 46 = .ok (.invokevirtual 296, 3) := by decide +kernel
theorem dX12_compared_49 : decode cX12_compared 49 = .ok (.aload_n 0, 1) := by decide +kernel
theorem dX12_compared_50 : decode cX12_compared 50 = .ok (.iload_n 1, 1) := by decide +kernel
theorem dX12_compared_51 : decode cX12_compared 51 = .ok (.iconst 0, 1) := by decide +kernel
theorem dX12_compared_52 : decode cX12_compared 52 = .ok (.invokevirtual 277, 3) := by decide +kernel
theorem dX12_compared_55 : decode cX12_compared 55 = .ok (.return_, 1) := by decide +kernel
theorem dX12_all_0 : decode cX12_all 0 = .ok (.aload_n 0, 1) := by decide +kernel
theorem dX12_all_1 : decode cX12_all 1 = .ok (.invokevirtual 299, 3) := by decide +kernel
theorem dX12_all_4 : decode cX12_all 4 = .ok (.aload_n 0, 1) := by decide +kernel
theorem dX12_all_5 : decode cX12_all 5 = .ok (.getfield 262, 3) := by decide +kernel
theorem dX12_all_8 : decode cX12_all 8 = .ok (.ifCond .ge 36, 3) := by decide +kernel
theorem dX12_all_11 : decode cX12_all 11 = .ok (.aload_n 0, 1) := by decide +kernel
theorem dX12_all_12 : decode cX12_all 12 = .ok (.invokevirtual 271, 3) := by decide +kernel
theorem dX12_all_15 : decode cX12_all 15 = .ok (.bipush 38, 2) := by decide +kernel
theorem dX12_all_17 : decode cX12_all 17 = .ok (.if_icmp .ne 27, 3) := by decide +kernel
theorem dX12_all_20 : decode cX12_all 20 = .ok (.aload_n 0, 1) := by decide +kernel
theorem dX12_all_21 : decode cX12_all 21 = .ok (.dup, 1) := by decide +kernel
theorem dX12_all_22 : decode cX12_all 22 = .ok (.getfield 259, 3) := by decide +kernel
theorem dX12_all_25 : decode cX12_all 25 = .ok (.iconst 1, 1) := by decide +kernel
theorem dX12_all_26 : decode cX12_all 26 = .ok (.iadd, 1) := by decide +kernel
theorem dX12_all_27 : decode cX12_all 27 = .ok (.putfield 259, 3) := by decide +kernel
theorem dX12_all_30 : decode cX12_all 30 = .ok (.aload_n 0, 1) := by decide +kernel
theorem dX12_all_31 : decode cX12_all 31 = .ok (.invokevirtual 299, 3) := by decide +kernel
theorem dX12_all_34 : decode cX12_all 34 = .ok (.aload_n 0, 1) := by decide +kernel
theorem dX12_all_35 : decode cX12_all 35 = .ok (.bipush 38, 2) := by decide +kernel
theorem dX12_all_37 : decode cX12_all 37 = .ok (.iconst 0, 1) := by decide +kernel
theorem dX12_all_38 : decode cX12_all 38 = .ok (.invokevirtual 277, 3) := by decide +kernel
theorem dX12_all_41 : decode cX12_all 41 = .ok (.goto (-37), 3) := by decide +kernel
theorem dX12_all_44 : decode cX12_all 44 = .ok (.return_, 1) := by decide +kernel
theorem dX12_whole_0 : decode cX12_whole 0 = .ok (.aload_n 0, 1) := by decide +kernel
theorem dX12_whole_1 : decode cX12_whole 1 = .ok (.invokevirtual 302, 3) := by decide +kernel
theorem dX12_whole_4 : decode cX12_whole 4 = .ok (.aload_n 0, 1) := by decide +kernel
theorem dX12_whole_5 : decode cX12_whole 5 = .ok (.getfield 262, 3) := by decide +kernel
theorem dX12_whole_8 : decode cX12_whole 8 = .ok (.ifCond .ge 36, 3) := by decide +kernel
theorem dX12_whole_11 : decode cX12_whole 11 = .ok (.aload_n 0, 1) := by decide +kernel
theorem dX12_whole_12 : decode cX12_whole 12 = .ok (.invokevirtual 271, 3) := by decide +kernel
theorem dX12_whole_15 : decode cX12_whole 15 = .ok (.bipush 124, 2) := by decide +kernel
theorem dX12_whole_17 : decode cX12_whole 17 = .ok (.if_icmp .ne 27, 3) := by decide +kernel
theorem dX12_whole_20 : decode cX12_whole 20 = .ok (.aload_n 0, 1) := by decide +kernel
theorem dX12_whole_21 : decode cX12_whole 21 = .ok (.dup, 1) := by decide +kernel
theorem dX12_whole_22 : decode cX12_whole 22 = .ok (.getfield 259, 3) := by decide +kernel
theorem dX12_whole_25 : decode cX12_whole 25 = .ok (.iconst 1, 1) := by decide +kernel
theorem dX12_whole_26 : decode cX12_whole 26 = .ok (.iadd, 1) := by decide +kernel
theorem dX12_whole_27 : decode cX12_whole 27 = .ok (.putfield 259, 3) := by decide +kernel
theorem dX12_whole_30 : decode cX12_whole 30 = .ok (.aload_n 0, 1) := by decide +kernel
theorem dX12_whole_31 : decode cX12_whole 31 = .ok (.invokevirtual 302, 3) := by decide +kernel
theorem dX12_whole_34 : decode cX12_whole 34 = .ok (.aload_n 0, 1) := by decide +kernel
theorem dX12_whole_35 : decode cX12_whole 35 = .ok (.bipush 124, 2) := by decide +kernel
theorem dX12_whole_37 : decode cX12_whole 37 = .ok (.iconst 0, 1) := by decide +kernel
theorem dX12_whole_38 : decode cX12_whole 38 = .ok (.invokevirtual 277, 3) := by decide +kernel
theorem dX12_whole_41 : decode cX12_whole 41 = .ok (.goto (-37), 3) := by decide +kernel
theorem dX12_whole_44 : decode cX12_whole 44 = .ok (.return_, 1) := by decide +kernel
theorem dX12_clause_0 : decode cX12_clause 0 = .ok (.aload_n 0, 1) := by decide +kernel
theorem dX12_clause_1 : decode cX12_clause 1 = .ok (.invokevirtual 290, 3) := by decide +kernel
theorem dX12_clause_4 : decode cX12_clause 4 = .ok (.aload_n 0, 1) := by decide +kernel
theorem dX12_clause_5 : decode cX12_clause 5 = .ok (.getfield 262, 3) := by decide +kernel
theorem dX12_clause_8 : decode cX12_clause 8 = .ok (.ifCond .ge 32, 3) := by decide +kernel
theorem dX12_clause_11 : decode cX12_clause 11 = .ok (.aload_n 0, 1) := by decide +kernel
theorem dX12_clause_12 : decode cX12_clause 12 = .ok (.invokevirtual 271, 3) := by decide +kernel
theorem dX12_clause_15 : decode cX12_clause 15 = .ok (.bipush 44, 2) := by decide +kernel
theorem dX12_clause_17 : decode cX12_clause 17 = .ok (.if_icmp .ne 23, 3) := by decide +kernel
theorem dX12_clause_20 : decode cX12_clause 20 = .ok (.aload_n 0, 1) := by decide +kernel
theorem dX12_clause_21 : decode cX12_clause 21 = .ok (.iconst 3, 1) := by decide +kernel
theorem dX12_clause_22 : decode cX12_clause 22 = .ok (.iconst 0, 1) := by decide +kernel
theorem dX12_clause_23 : decode cX12_clause 23 = .ok (.invokevirtual 277, 3) := by decide +kernel
theorem dX12_clause_26 : decode cX12_clause 26 = .ok (.aload_n 0, 1) := by decide +kernel
theorem dX12_clause_27 : decode cX12_clause 27 = .ok (.dup, 1) := by decide +kernel
theorem dX12_clause_28 : decode cX12_clause 28 = .ok (.getfield 259, 3) := by decide +kernel
theorem dX12_clause_31 : decode cX12_clause 31 = .ok (.iconst 1, 1) := by decide +kernel
theorem dX12_clause_32 : decode cX12_clause 32 = .ok (.iadd, 1) := by decide +kernel
theorem dX12_clause_33 : decode cX12_clause 33 = .ok (.putfield 259, 3) := by decide +kernel
theorem dX12_clause_36 : decode cX12_clause 36 = .ok (.aload_n 0, 1) := by decide +kernel
theorem dX12_clause_37 : decode cX12_clause 37 = .ok (.invokevirtual 290, 3) := by decide +kernel
theorem dX12_clause_40 : decode cX12_clause 40 = .ok (.aload_n 0, 1) := by decide +kernel
theorem dX12_clause_41 : decode cX12_clause 41 = .ok (.iconst 4, 1) := by decide +kernel
theorem dX12_clause_42 : decode cX12_clause 42 = .ok (.iconst 0, 1) := by decide +kernel
theorem dX12_clause_43 : decode cX12_clause 43 = .ok (.invokevirtual 277, 3) := by decide +kernel
theorem dX12_clause_46 : decode cX12_clause 46 = .ok (.return_, 1) := by decide +kernel
theorem dX12_law_0 : decode cX12_law 0 = .ok (.iload_n 1, 1) := by decide +kernel
theorem dX12_law_1 : decode cX12_law 1 = .ok (.iconst 0, 1) := by decide +kernel
theorem dX12_law_2 : decode cX12_law 2 = .ok (.iconst 1, 1) := by decide +kernel
theorem dX12_law_3 : decode cX12_law 3 = .ok (.invokestatic 196, 3) := by decide +kernel
theorem dX12_law_6 : decode cX12_law 6 = .ok (.ifCond .eq 10, 3) := by decide +kernel
theorem dX12_law_9 : decode cX12_law 9 = .ok (.iload_n 2, 1) := by decide +kernel
theorem dX12_law_10 : decode cX12_law 10 = .ok (.invokestatic 220, 3) := by decide +kernel
theorem dX12_law_13 : decode cX12_law 13 = .ok (.ifCond .ne 5, 3) := by decide +kernel
theorem dX12_law_16 : decode cX12_law 16 = .ok (.iconst (-1), 1) := by decide +kernel
theorem dX12_law_17 : decode cX12_law 17 = .ok (.ireturn, 1) := by decide +kernel
theorem dX12_law_18 : decode cX12_law 18 = .ok (.aload_n 0, 1) := by decide +kernel
theorem dX12_law_19 : decode cX12_law 19 = .ok (.getfield 305, 3) := by decide +kernel
theorem dX12_law_22 : decode cX12_law 22 = .ok (.bipush 16, 2) := by decide +kernel
theorem dX12_law_24 : decode cX12_law 24 = .ok (.if_icmp .ne 6, 3) := by decide +kernel
theorem dX12_law_27 : decode cX12_law 27 = .ok (.bipush (-3), 2) := by decide +kernel
theorem dX12_law_29 : decode cX12_law 29 = .ok (.ireturn, 1) := by decide +kernel
theorem dX12_law_30 : decode cX12_law 30 = .ok (.aload_n 0, 1) := by decide +kernel
theorem dX12_law_31 : decode cX12_law 31 = .ok (.aload_n 0, 1) := by decide +kernel
theorem dX12_law_32 : decode cX12_law 32 = .ok (.getfield 305, 3) := by decide +kernel
theorem dX12_law_35 : decode cX12_law 35 = .ok (.putfield 265, 3) := by decide +kernel
theorem dX12_law_38 : decode cX12_law 38 = .ok (.aload_n 0, 1) := by decide +kernel
theorem dX12_law_39 : decode cX12_law 39 = .ok (.iconst 0, 1) := by decide +kernel
theorem dX12_law_40 : decode cX12_law 40 = .ok (.putfield 268, 3) := by decide +kernel
theorem dX12_law_43 : decode cX12_law 43 = .ok (.aload_n 0, 1) := by decide +kernel
theorem dX12_law_44 : decode cX12_law 44 = .ok (.iconst 0, 1) := by decide +kernel
theorem dX12_law_45 : decode cX12_law 45 = .ok (.putfield 259, 3) := by decide +kernel
theorem dX12_law_48 : decode cX12_law 48 = .ok (.aload_n 0, 1) := by decide +kernel
theorem dX12_law_49 : decode cX12_law 49 = .ok (.iconst (-1), 1) := by decide +kernel
theorem dX12_law_50 : decode cX12_law 50 = .ok (.putfield 262, 3) := by decide +kernel
theorem dX12_law_53 : decode cX12_law 53 = .ok (.aload_n 0, 1) := by decide +kernel
theorem dX12_law_54 : decode cX12_law 54 = .ok (.iconst 0, 1) := by decide +kernel
theorem dX12_law_55 : decode cX12_law 55 = .ok (.putfield 281, 3) := by decide +kernel
theorem dX12_law_58 : decode cX12_law 58 = .ok (.aload_n 0, 1) := by decide +kernel
theorem dX12_law_59 : decode cX12_law 59 = .ok (.invokevirtual 308, 3) := by decide +kernel
theorem dX12_law_62 : decode cX12_law 62 = .ok (.aload_n 0, 1) := by decide +kernel
theorem dX12_law_63 : decode cX12_law 63 = .ok (.getfield 262, 3) := by decide +kernel
theorem dX12_law_66 : decode cX12_law 66 = .ok (.ifCond .ge 29, 3) := by decide +kernel
theorem dX12_law_69 : decode cX12_law 69 = .ok (.aload_n 0, 1) := by decide +kernel
theorem dX12_law_70 : decode cX12_law 70 = .ok (.invokevirtual 271, 3) := by decide +kernel
theorem dX12_law_73 : decode cX12_law 73 = .ok (.bipush 59, 2) := by decide +kernel
theorem dX12_law_75 : decode cX12_law 75 = .ok (.if_icmp .ne 20, 3) := by decide +kernel
theorem dX12_law_78 : decode cX12_law 78 = .ok (.aload_n 0, 1) := by decide +kernel
theorem dX12_law_79 : decode cX12_law 79 = .ok (.dup, 1) := by decide +kernel
theorem dX12_law_80 : decode cX12_law 80 = .ok (.getfield 259, 3) := by decide +kernel
theorem dX12_law_83 : decode cX12_law 83 = .ok (.iconst 1, 1) := by decide +kernel
theorem dX12_law_84 : decode cX12_law 84 = .ok (.iadd, 1) := by decide +kernel
theorem dX12_law_85 : decode cX12_law 85 = .ok (.putfield 259, 3) := by decide +kernel
theorem dX12_law_88 : decode cX12_law 88 = .ok (.aload_n 0, 1) := by decide +kernel
theorem dX12_law_89 : decode cX12_law 89 = .ok (.invokevirtual 308, 3) := by decide +kernel
theorem dX12_law_92 : decode cX12_law 92 = .ok (.goto (-30), 3) := by decide +kernel
theorem dX12_law_95 : decode cX12_law 95 = .ok (.aload_n 0, 1) := by decide +kernel
theorem dX12_law_96 : decode cX12_law 96 = .ok (.getfield 259, 3) := by decide +kernel
theorem dX12_law_99 : decode cX12_law 99 = .ok (.aload_n 0, 1) := by decide +kernel
theorem dX12_law_100 : decode cX12_law 100 = .ok (.getfield 252, 3) := by decide +kernel
theorem dX12_law_103 : decode cX12_law 103 = .ok (.if_icmp .ge 7, 3) := by decide +kernel
theorem dX12_law_106 : decode cX12_law 106 = .ok (.aload_n 0, 1) := by decide +kernel
theorem dX12_law_107 : decode cX12_law 107 = .ok (.invokevirtual 284, 3) := by decide +kernel
theorem dX12_law_110 : decode cX12_law 110 = .ok (.aload_n 0, 1) := by decide +kernel
theorem dX12_law_111 : decode cX12_law 111 = .ok (.iconst 0, 1) := by decide +kernel
theorem dX12_law_112 : decode cX12_law 112 = .ok (.putfield 252, 3) := by decide +kernel
theorem dX12_law_115 : decode cX12_law 115 = .ok (.aload_n 0, 1) := by decide +kernel
theorem dX12_law_116 : decode cX12_law 116 = .ok (.getfield 262, 3) := by decide +kernel
theorem dX12_law_119 : decode cX12_law 119 = .ok (.ifCond .lt 11, 3) := by decide +kernel
theorem dX12_law_122 : decode cX12_law 122 = .ok (.bipush (-100), 2) := by decide +kernel
theorem dX12_law_124 : decode cX12_law 124 = .ok (.aload_n 0, 1) := by decide +kernel
theorem dX12_law_125 : decode cX12_law 125 = .ok (.getfield 262, 3) := by decide +kernel
theorem dX12_law_128 : decode cX12_law 128 = .ok (.isub, 1) := by decide +kernel
theorem dX12_law_129 : decode cX12_law 129 = .ok (.ireturn, 1) := by decide +kernel
theorem dX12_law_130 : decode cX12_law 130 = .ok (.aload_n 0, 1) := by decide +kernel
theorem dX12_law_131 : decode cX12_law 131 = .ok (.getfield 86, 3) := by decide +kernel
theorem dX12_law_134 : decode cX12_law 134 = .ok (.aload_n 0, 1) := by decide +kernel
theorem dX12_law_135 : decode cX12_law 135 = .ok (.getfield 305, 3) := by decide +kernel
theorem dX12_law_138 : decode cX12_law 138 = .ok (.iload_n 1, 1) := by decide +kernel
theorem dX12_law_139 : decode cX12_law 139 = .ok (.iastore, 1) := by decide +kernel
theorem dX12_law_140 : decode cX12_law 140 = .ok (.aload_n 0, 1) := by decide +kernel
theorem dX12_law_141 : decode cX12_law 141 = .ok (.getfield 89, 3) := by decide +kernel
theorem dX12_law_144 : decode cX12_law 144 = .ok (.aload_n 0, 1) := by decide +kernel
theorem dX12_law_145 : decode cX12_law 145 = .ok (.getfield 305, 3) := by decide +kernel
theorem dX12_law_148 : decode cX12_law 148 = .ok (.aload_n 0, 1) := by decide +kernel
theorem dX12_law_149 : decode cX12_law 149 = .ok (.invokevirtual 230, 3) := by decide +kernel
theorem dX12_law_152 : decode cX12_law 152 = .ok (.iastore, 1) := by decide +kernel
theorem dX12_law_153 : decode cX12_law 153 = .ok (.aload_n 0, 1) := by decide +kernel
theorem dX12_law_154 : decode cX12_law 154 = .ok (.getfield 92, 3) := by decide +kernel
theorem dX12_law_157 : decode cX12_law 157 = .ok (.aload_n 0, 1) := by decide +kernel
theorem dX12_law_158 : decode cX12_law 158 = .ok (.getfield 305, 3) := by decide +kernel
theorem dX12_law_161 : decode cX12_law 161 = .ok (.iload_n 2, 1) := by decide +kernel
theorem dX12_law_162 : decode cX12_law 162 = .ok (.iastore, 1) := by decide +kernel
theorem dX12_law_163 : decode cX12_law 163 = .ok (.aload_n 0, 1) := by decide +kernel
theorem dX12_law_164 : decode cX12_law 164 = .ok (.getfield 95, 3) := by decide +kernel
theorem dX12_law_167 : decode cX12_law 167 = .ok (.aload_n 0, 1) := by decide +kernel
theorem dX12_law_168 : decode cX12_law 168 = .ok (.getfield 305, 3) := by decide +kernel
theorem dX12_law_171 : decode cX12_law 171 = .ok (.aload_n 0, 1) := by decide +kernel
theorem dX12_law_172 : decode cX12_law 172 = .ok (.getfield 268, 3) := by decide +kernel
theorem dX12_law_175 : decode cX12_law 175 = .ok (.iastore, 1) := by decide +kernel
theorem dX12_law_176 : decode cX12_law 176 = .ok (.aload_n 0, 1) := by decide +kernel
theorem dX12_law_177 : decode cX12_law 177 = .ok (.dup, 1) := by decide +kernel
theorem dX12_law_178 : decode cX12_law 178 = .ok (.getfield 305, 3) := by decide +kernel
theorem dX12_law_181 : decode cX12_law 181 = .ok (.iconst 1, 1) := by decide +kernel
theorem dX12_law_182 : decode cX12_law 182 = .ok (.iadd, 1) := by decide +kernel
theorem dX12_law_183 : decode cX12_law 183 = .ok (.putfield 305, 3) := by decide +kernel
theorem dX12_law_186 : decode cX12_law 186 = .ok (.aload_n 0, 1) := by decide +kernel
theorem dX12_law_187 : decode cX12_law 187 = .ok (.getfield 305, 3) := by decide +kernel
theorem dX12_law_190 : decode cX12_law 190 = .ok (.iconst 1, 1) := by decide +kernel
theorem dX12_law_191 : decode cX12_law 191 = .ok (.isub, 1) := by decide +kernel
theorem dX12_law_192 : decode cX12_law 192 = .ok (.ireturn, 1) := by decide +kernel
theorem dX12_forceOn_0 : decode cX12_forceOn 0 = .ok (.aload_n 0, 1) := by decide +kernel
theorem dX12_forceOn_1 : decode cX12_forceOn 1 = .ok (.getfield 305, 3) := by decide +kernel
theorem dX12_forceOn_4 : decode cX12_forceOn 4 = .ok (.iconst 1, 1) := by decide +kernel
theorem dX12_forceOn_5 : decode cX12_forceOn 5 = .ok (.isub, 1) := by decide +kernel
theorem dX12_forceOn_6 : decode cX12_forceOn 6 = .ok (.istore 4, 2) := by decide +kernel
theorem dX12_forceOn_8 : decode cX12_forceOn 8 = .ok (.iload 4, 2) := by decide +kernel
theorem dX12_forceOn_10 : decode cX12_forceOn 10 = .ok (.ifCond .lt 45, 3) := by decide +kernel
theorem dX12_forceOn_13 : decode cX12_forceOn 13 = .ok (.aload_n 0, 1) := by decide +kernel
theorem dX12_forceOn_14 : decode cX12_forceOn 14 = .ok (.getfield 86, 3) := by decide +kernel
theorem dX12_forceOn_17 : decode cX12_forceOn 17 = .ok (.iload 4, 2) := by decide +kernel
theorem dX12_forceOn_19 : decode cX12_forceOn 19 = .ok (.iaload, 1) := by decide +kernel
theorem dX12_forceOn_20 : decode cX12_forceOn 20 = .ok (.iload_n 1, 1) := by decide +kernel
theorem dX12_forceOn_21 : decode cX12_forceOn 21 = .ok (.if_icmp .ne 28, 3) := by decide +kernel
theorem dX12_forceOn_24 : decode cX12_forceOn 24 = .ok (.aload_n 0, 1) := by decide +kernel
theorem dX12_forceOn_25 : decode cX12_forceOn 25 = .ok (.getfield 89, 3) := by decide +kernel
theorem dX12_forceOn_28 : decode cX12_forceOn 28 = .ok (.iload 4, 2) := by decide +kernel
theorem dX12_forceOn_30 : decode cX12_forceOn 30 = .ok (.iaload, 1) := by decide +kernel
theorem dX12_forceOn_31 : decode cX12_forceOn 31 = .ok (.iload_n 3, 1) := by decide +kernel
theorem dX12_forceOn_32 : decode cX12_forceOn 32 = .ok (.if_icmp .gt 17, 3) := by decide +kernel
theorem dX12_forceOn_35 : decode cX12_forceOn 35 = .ok (.aload_n 0, 1) := by decide +kernel
theorem dX12_forceOn_36 : decode cX12_forceOn 36 = .ok (.getfield 92, 3) := by decide +kernel
theorem dX12_forceOn_39 : decode cX12_forceOn 39 = .ok (.iload 4, 2) := by decide +kernel
theorem dX12_forceOn_41 : decode cX12_forceOn 41 = .ok (.iaload, 1) := by decide +kernel
theorem dX12_forceOn_42 : decode cX12_forceOn 42 = .ok (.iload_n 2, 1) := by decide +kernel
theorem dX12_forceOn_43 : decode cX12_forceOn 43 = .ok (.if_icmp .gt 6, 3) := by decide +kernel
theorem dX12_forceOn_46 : decode cX12_forceOn 46 = .ok (.iload 4, 2) := by decide +kernel
theorem dX12_forceOn_48 : decode cX12_forceOn 48 = .ok (.ireturn, 1) := by decide +kernel
theorem dX12_forceOn_49 : decode cX12_forceOn 49 = .ok (.iinc 4 (-1), 3) := by decide +kernel
theorem dX12_forceOn_52 : decode cX12_forceOn 52 = .ok (.goto (-44), 3) := by decide +kernel
theorem dX12_forceOn_55 : decode cX12_forceOn 55 = .ok (.bipush (-2), 2) := by decide +kernel
theorem dX12_forceOn_57 : decode cX12_forceOn 57 = .ok (.ireturn, 1) := by decide +kernel
theorem dX12_inForce_0 : decode cX12_inForce 0 = .ok (.iload_n 1, 1) := by decide +kernel
theorem dX12_inForce_1 : decode cX12_inForce 1 = .ok (.iconst 0, 1) := by decide +kernel
theorem dX12_inForce_2 : decode cX12_inForce 2 = .ok (.iconst 1, 1) := by decide +kernel
theorem dX12_inForce_3 : decode cX12_inForce 3 = .ok (.invokestatic 196, 3) := by decide +kernel
theorem dX12_inForce_6 : decode cX12_inForce 6 = .ok (.ifCond .eq 27, 3) := by decide +kernel
theorem dX12_inForce_9 : decode cX12_inForce 9 = .ok (.iload_n 2, 1) := by decide +kernel
theorem dX12_inForce_10 : decode cX12_inForce 10 = .ok (.invokestatic 220, 3) := by decide +kernel
theorem dX12_inForce_13 : decode cX12_inForce 13 = .ok (.ifCond .eq 20, 3) := by decide +kernel
theorem dX12_inForce_16 : decode cX12_inForce 16 = .ok (.iload_n 3, 1) := by decide +kernel
theorem dX12_inForce_17 : decode cX12_inForce 17 = .ok (.invokestatic 220, 3) := by decide +kernel
theorem dX12_inForce_20 : decode cX12_inForce 20 = .ok (.ifCond .eq 13, 3) := by decide +kernel
theorem dX12_inForce_23 : decode cX12_inForce 23 = .ok (.aload_n 0, 1) := by decide +kernel
theorem dX12_inForce_24 : decode cX12_inForce 24 = .ok (.iload_n 1, 1) := by decide +kernel
theorem dX12_inForce_25 : decode cX12_inForce 25 = .ok (.iload_n 2, 1) := by decide +kernel
theorem dX12_inForce_26 : decode cX12_inForce 26 = .ok (.iload_n 3, 1) := by decide +kernel
theorem dX12_inForce_27 : decode cX12_inForce 27 = .ok (.invokevirtual 311, 3) := by decide +kernel
theorem dX12_inForce_30 : decode cX12_inForce 30 = .ok (.goto 4, 3) := by decide +kernel
theorem dX12_inForce_33 : decode cX12_inForce 33 = .ok (.iconst (-1), 1) := by decide +kernel
theorem dX12_inForce_34 : decode cX12_inForce 34 = .ok (.ireturn, 1) := by decide +kernel
theorem dX12_named_0 : decode cX12_named 0 = .ok (.aload_n 0, 1) := by decide +kernel
theorem dX12_named_1 : decode cX12_named 1 = .ok (.getfield 43, 3) := by decide +kernel
theorem dX12_named_4 : decode cX12_named 4 = .ok (.iload_n 2, 1) := by decide +kernel
theorem dX12_named_5 : decode cX12_named 5 = .ok (.iaload, 1) := by decide +kernel
theorem dX12_named_6 : decode cX12_named 6 = .ok (.istore_n 3, 1) := by decide +kernel
theorem dX12_named_7 : decode cX12_named 7 = .ok (.aload_n 0, 1) := by decide +kernel
theorem dX12_named_8 : decode cX12_named 8 = .ok (.getfield 46, 3) := by decide +kernel
theorem dX12_named_11 : decode cX12_named 11 = .ok (.iload_n 2, 1) := by decide +kernel
theorem dX12_named_12 : decode cX12_named 12 = .ok (.iaload, 1) := by decide +kernel
theorem dX12_named_13 : decode cX12_named 13 = .ok (.istore 4, 2) := by decide +kernel
theorem dX12_named_15 : decode cX12_named 15 = .ok (.iload_n 1, 1) := by decide +kernel
theorem dX12_named_16 : decode cX12_named 16 = .ok (.tableswitch 108 0 6 #[44, 56, 59, 67, 77, 82, 95], 44) := by decide +kernel
theorem dX12_named_60 : decode cX12_named 60 = .ok (.aload_n 0, 1) := by decide +kernel
theorem dX12_named_61 : decode cX12_named 61 = .ok (.invokevirtual 230, 3) := by decide +kernel
theorem dX12_named_64 : decode cX12_named 64 = .ok (.aload_n 0, 1) := by decide +kernel
theorem dX12_named_65 : decode cX12_named 65 = .ok (.getfield 52, 3) := by decide +kernel
theorem dX12_named_68 : decode cX12_named 68 = .ok (.iload_n 2, 1) := by decide +kernel
theorem dX12_named_69 : decode cX12_named 69 = .ok (.iaload, 1) := by decide +kernel
theorem dX12_named_70 : decode cX12_named 70 = .ok (.isub, 1) := by decide +kernel
theorem dX12_named_71 : decode cX12_named 71 = .ok (.ireturn, 1) := by decide +kernel
theorem dX12_named_72 : decode cX12_named 72 = .ok (.iload 4, 2) := by decide +kernel
theorem dX12_named_74 : decode cX12_named 74 = .ok (.ireturn, 1) := by decide +kernel
theorem dX12_named_75 : decode cX12_named 75 = .ok (.aload_n 0, 1) := by decide +kernel
theorem dX12_named_76 : decode cX12_named 76 = .ok (.getfield 28, 3) := by decide +kernel
theorem dX12_named_79 : decode cX12_named 79 = .ok (.iload 4, 2) := by decide +kernel
theorem dX12_named_81 : decode cX12_named 81 = .ok (.iaload, 1) := by decide +kernel
theorem dX12_named_82 : decode cX12_named 82 = .ok (.ireturn, 1) := by decide +kernel
theorem dX12_named_83 : decode cX12_named 83 = .ok (.aload_n 0, 1) := by decide +kernel
theorem dX12_named_84 : decode cX12_named 84 = .ok (.getfield 34, 3) := by decide +kernel
theorem dX12_named_87 : decode cX12_named 87 = .ok (.aload_n 0, 1) := by decide +kernel
theorem dX12_named_88 : decode cX12_named 88 = .ok (.invokevirtual 230, 3) := by decide +kernel
theorem dX12_named_91 : decode cX12_named 91 = .ok (.iaload, 1) := by decide +kernel
theorem dX12_named_92 : decode cX12_named 92 = .ok (.ireturn, 1) := by decide +kernel
theorem dX12_named_93 : decode cX12_named 93 = .ok (.aload_n 0, 1) := by decide +kernel
theorem dX12_named_94 : decode cX12_named 94 = .ok (.invokevirtual 315, 3) := by decide +kernel
theorem dX12_named_97 : decode cX12_named 97 = .ok (.ireturn, 1) := by decide +kernel
theorem dX12_named_98 : decode cX12_named 98 = .ok (.aload_n 0, 1) := by decide +kernel
theorem dX12_named_99 : decode cX12_named 99 = .ok (.getfield 37, 3) := by decide +kernel
theorem dX12_named_102 : decode cX12_named 102 = .ok (.bipush 10, 2) := by decide +kernel
theorem dX12_named_104 : decode cX12_named 104 = .ok (.iload_n 3, 1) := by decide +kernel
theorem dX12_named_105 : decode cX12_named 105 = .ok (.imul, 1) := by decide +kernel
theorem dX12_named_106 : decode cX12_named 106 = .ok (.iload 4, 2) := by decide +kernel
theorem dX12_named_108 : decode cX12_named 108 = .ok (.iadd, 1) := by decide +kernel
theorem dX12_named_109 : decode cX12_named 109 = .ok (.iaload, 1) := by decide +kernel
theorem dX12_named_110 : decode cX12_named 110 = .ok (.ireturn, 1) := by decide +kernel
theorem dX12_named_111 : decode cX12_named 111 = .ok (.aload_n 0, 1) := by decide +kernel
theorem dX12_named_112 : decode cX12_named 112 = .ok (.getfield 40, 3) := by decide +kernel
theorem dX12_named_115 : decode cX12_named 115 = .ok (.bipush 10, 2) := by decide +kernel
theorem dX12_named_117 : decode cX12_named 117 = .ok (.iload_n 3, 1) := by decide +kernel
theorem dX12_named_118 : decode cX12_named 118 = .ok (.imul, 1) := by decide +kernel
theorem dX12_named_119 : decode cX12_named 119 = .ok (.iload 4, 2) := by decide +kernel
theorem dX12_named_121 : decode cX12_named 121 = .ok (.iadd, 1) := by decide +kernel
theorem dX12_named_122 : decode cX12_named 122 = .ok (.iaload, 1) := by decide +kernel
theorem dX12_named_123 : decode cX12_named 123 = .ok (.ireturn, 1) := by decide +kernel
theorem dX12_named_124 : decode cX12_named 124 = .ok (.iload_n 3, 1) := by decide +kernel
theorem dX12_named_125 : decode cX12_named 125 = .ok (.ireturn, 1) := by decide +kernel
theorem dX12_both_0 : decode cX12_both 0 = .ok (.iload_n 0, 1) := by decide +kernel
theorem dX12_both_1 : decode cX12_both 1 = .ok (.tableswitch 196 38 62 #[182, 196, 196, 196, 123, 115, 196, 119, 196, 127, 196, 196, 196, 196, 196, 196, 196, 196, 196, 196, 196, 196, 149, 160, 171], 115) := by decide +kernel
theorem dX12_both_116 : decode cX12_both 116 = .ok (.iload_n 1, 1) := by decide +kernel
theorem dX12_both_117 : decode cX12_both 117 = .ok (.iload_n 2, 1) := by decide +kernel
theorem dX12_both_118 : decode cX12_both 118 = .ok (.iadd, 1) := by decide +kernel
theorem dX12_both_119 : decode cX12_both 119 = .ok (.ireturn, 1) := by decide +kernel
theorem dX12_both_120 : decode cX12_both 120 = .ok (.iload_n 1, 1) := by decide +kernel
theorem dX12_both_121 : decode cX12_both 121 = .ok (.iload_n 2, 1) := by decide +kernel
theorem dX12_both_122 : decode cX12_both 122 = .ok (.isub, 1) := by decide +kernel
theorem dX12_both_123 : decode cX12_both 123 = .ok (.ireturn, 1) := by decide +kernel
theorem dX12_both_124 : decode cX12_both 124 = .ok (.iload_n 1, 1) := by decide +kernel
theorem dX12_both_125 : decode cX12_both 125 = .ok (.iload_n 2, 1) := by decide +kernel
theorem dX12_both_126 : decode cX12_both 126 = .ok (.imul, 1) := by decide +kernel
theorem dX12_both_127 : decode cX12_both 127 = .ok (.ireturn, 1) := by decide +kernel
theorem dX12_both_128 : decode cX12_both 128 = .ok (.iload_n 2, 1) := by decide +kernel
theorem dX12_both_129 : decode cX12_both 129 = .ok (.ifCond .ne 7, 3) := by decide +kernel
theorem dX12_both_132 : decode cX12_both 132 = .ok (.iconst 0, 1) := by decide +kernel
theorem dX12_both_133 : decode cX12_both 133 = .ok (.goto 16, 3) := by decide +kernel
theorem dX12_both_136 : decode cX12_both 136 = .ok (.iload_n 2, 1) := by decide +kernel
theorem dX12_both_137 : decode cX12_both 137 = .ok (.iconst (-1), 1) := by decide +kernel
theorem dX12_both_138 : decode cX12_both 138 = .ok (.if_icmp .ne 8, 3) := by decide +kernel
theorem dX12_both_141 : decode cX12_both 141 = .ok (.iload_n 1, 1) := by decide +kernel
theorem dX12_both_142 : decode cX12_both 142 = .ok (.ineg, 1) := by decide +kernel
theorem dX12_both_143 : decode cX12_both 143 = .ok (.goto 6, 3) := by decide +kernel
theorem dX12_both_146 : decode cX12_both 146 = .ok (.iload_n 1, 1) := by decide +kernel
theorem dX12_both_147 : decode cX12_both 147 = .ok (.iload_n 2, 1) := by decide +kernel
theorem dX12_both_148 : decode cX12_both 148 = .ok (.idiv, 1) := by decide +kernel
theorem dX12_both_149 : decode cX12_both 149 = .ok (.ireturn, 1) := by decide +kernel
theorem dX12_both_150 : decode cX12_both 150 = .ok (.iload_n 1, 1) := by decide +kernel
theorem dX12_both_151 : decode cX12_both 151 = .ok (.iload_n 2, 1) := by decide +kernel
theorem dX12_both_152 : decode cX12_both 152 = .ok (.if_icmp .ge 7, 3) := by decide +kernel
theorem dX12_both_155 : decode cX12_both 155 = .ok (.iconst 1, 1) := by decide +kernel
theorem dX12_both_156 : decode cX12_both 156 = .ok (.goto 4, 3) := by decide +kernel
theorem dX12_both_159 : decode cX12_both 159 = .ok (.iconst 0, 1) := by decide +kernel
theorem dX12_both_160 : decode cX12_both 160 = .ok (.ireturn, 1) := by decide +kernel
theorem dX12_both_161 : decode cX12_both 161 = .ok (.iload_n 1, 1) := by decide +kernel
theorem dX12_both_162 : decode cX12_both 162 = .ok (.iload_n 2, 1) := by decide +kernel
theorem dX12_both_163 : decode cX12_both 163 = .ok (.if_icmp .ne 7, 3) := by decide +kernel
theorem dX12_both_166 : decode cX12_both 166 = .ok (.iconst 1, 1) := by decide +kernel
theorem dX12_both_167 : decode cX12_both 167 = .ok (.goto 4, 3) := by decide +kernel
theorem dX12_both_170 : decode cX12_both 170 = .ok (.iconst 0, 1) := by decide +kernel
theorem dX12_both_171 : decode cX12_both 171 = .ok (.ireturn, 1) := by decide +kernel
theorem dX12_both_172 : decode cX12_both 172 = .ok (.iload_n 1, 1) := by decide +kernel
theorem dX12_both_173 : decode cX12_both 173 = .ok (.iload_n 2, 1) := by decide +kernel
theorem dX12_both_174 : decode cX12_both 174 = .ok (.if_icmp .le 7, 3) := by decide +kernel
theorem dX12_both_177 : decode cX12_both 177 = .ok (.iconst 1, 1) := by decide +kernel
theorem dX12_both_178 : decode cX12_both 178 = .ok (.goto 4, 3) := by decide +kernel
theorem dX12_both_181 : decode cX12_both 181 = .ok (.iconst 0, 1) := by decide +kernel
theorem dX12_both_182 : decode cX12_both 182 = .ok (.ireturn, 1) := by decide +kernel
theorem dX12_both_183 : decode cX12_both 183 = .ok (.iload_n 1, 1) := by decide +kernel
theorem dX12_both_184 : decode cX12_both 184 = .ok (.ifCond .eq 11, 3) := by decide +kernel
theorem dX12_both_187 : decode cX12_both 187 = .ok (.iload_n 2, 1) := by decide +kernel
theorem dX12_both_188 : decode cX12_both 188 = .ok (.ifCond .eq 7, 3) := by decide +kernel
theorem dX12_both_191 : decode cX12_both 191 = .ok (.iconst 1, 1) := by decide +kernel
theorem dX12_both_192 : decode cX12_both 192 = .ok (.goto 4, 3) := by decide +kernel
theorem dX12_both_195 : decode cX12_both 195 = .ok (.iconst 0, 1) := by decide +kernel
theorem dX12_both_196 : decode cX12_both 196 = .ok (.ireturn, 1) := by decide +kernel
theorem dX12_both_197 : decode cX12_both 197 = .ok (.iload_n 1, 1) := by decide +kernel
theorem dX12_both_198 : decode cX12_both 198 = .ok (.ifCond .ne 7, 3) := by decide +kernel
theorem dX12_both_201 : decode cX12_both 201 = .ok (.iload_n 2, 1) := by decide +kernel
theorem dX12_both_202 : decode cX12_both 202 = .ok (.ifCond .eq 7, 3) := by decide +kernel
theorem dX12_both_205 : decode cX12_both 205 = .ok (.iconst 1, 1) := by decide +kernel
theorem dX12_both_206 : decode cX12_both 206 = .ok (.goto 4, 3) := by decide +kernel
theorem dX12_both_209 : decode cX12_both 209 = .ok (.iconst 0, 1) := by decide +kernel
theorem dX12_both_210 : decode cX12_both 210 = .ok (.ireturn, 1) := by decide +kernel
theorem dX12_gives_0 : decode cX12_gives 0 = .ok (.iconst 0, 1) := by decide +kernel
theorem dX12_gives_1 : decode cX12_gives 1 = .ok (.istore_n 3, 1) := by decide +kernel
theorem dX12_gives_2 : decode cX12_gives 2 = .ok (.iconst 0, 1) := by decide +kernel
theorem dX12_gives_3 : decode cX12_gives 3 = .ok (.istore 4, 2) := by decide +kernel
theorem dX12_gives_5 : decode cX12_gives 5 = .ok (.sipush 170, 3) := by decide +kernel
theorem dX12_gives_8 : decode cX12_gives 8 = .ok (.iload_n 1, 1) := by decide +kernel
theorem dX12_gives_9 : decode cX12_gives 9 = .ok (.imul, 1) := by decide +kernel
theorem dX12_gives_10 : decode cX12_gives 10 = .ok (.istore 5, 2) := by decide +kernel
theorem dX12_gives_12 : decode cX12_gives 12 = .ok (.iload 5, 2) := by decide +kernel
theorem dX12_gives_14 : decode cX12_gives 14 = .ok (.sipush 170, 3) := by decide +kernel
theorem dX12_gives_17 : decode cX12_gives 17 = .ok (.iload_n 1, 1) := by decide +kernel
theorem dX12_gives_18 : decode cX12_gives 18 = .ok (.imul, 1) := by decide +kernel
theorem dX12_gives_19 : decode cX12_gives 19 = .ok (.aload_n 0, 1) := by decide +kernel
theorem dX12_gives_20 : decode cX12_gives 20 = .ok (.getfield 95, 3) := by decide +kernel
theorem dX12_gives_23 : decode cX12_gives 23 = .ok (.iload_n 1, 1) := by decide +kernel
theorem dX12_gives_24 : decode cX12_gives 24 = .ok (.iaload, 1) := by decide +kernel
theorem dX12_gives_25 : decode cX12_gives 25 = .ok (.iadd, 1) := by decide +kernel
theorem dX12_gives_26 : decode cX12_gives 26 = .ok (.if_icmp .ge 186, 3) := by decide +kernel
theorem dX12_gives_29 : decode cX12_gives 29 = .ok (.aload_n 0, 1) := by decide +kernel
theorem dX12_gives_30 : decode cX12_gives 30 = .ok (.getfield 98, 3) := by decide +kernel
theorem dX12_gives_33 : decode cX12_gives 33 = .ok (.iload 5, 2) := by decide +kernel
theorem dX12_gives_35 : decode cX12_gives 35 = .ok (.iaload, 1) := by decide +kernel
theorem dX12_gives_36 : decode cX12_gives 36 = .ok (.istore 6, 2) := by decide +kernel
theorem dX12_gives_38 : decode cX12_gives 38 = .ok (.iload 6, 2) := by decide +kernel
theorem dX12_gives_40 : decode cX12_gives 40 = .ok (.iconst 1, 1) := by decide +kernel
theorem dX12_gives_41 : decode cX12_gives 41 = .ok (.if_icmp .eq 9, 3) := by decide +kernel
theorem dX12_gives_44 : decode cX12_gives 44 = .ok (.iload 6, 2) := by decide +kernel
theorem dX12_gives_46 : decode cX12_gives 46 = .ok (.iconst 2, 1) := by decide +kernel
theorem dX12_gives_47 : decode cX12_gives 47 = .ok (.if_icmp .ne 43, 3) := by decide +kernel
theorem dX12_gives_50 : decode cX12_gives 50 = .ok (.aload_n 0, 1) := by decide +kernel
theorem dX12_gives_51 : decode cX12_gives 51 = .ok (.getfield 104, 3) := by decide +kernel
theorem dX12_gives_54 : decode cX12_gives 54 = .ok (.iload_n 3, 1) := by decide +kernel
theorem dX12_gives_55 : decode cX12_gives 55 = .ok (.iload 6, 2) := by decide +kernel
theorem dX12_gives_57 : decode cX12_gives 57 = .ok (.iconst 1, 1) := by decide +kernel
theorem dX12_gives_58 : decode cX12_gives 58 = .ok (.if_icmp .ne 13, 3) := by decide +kernel
theorem dX12_gives_61 : decode cX12_gives 61 = .ok (.aload_n 0, 1) := by decide +kernel
theorem dX12_gives_62 : decode cX12_gives 62 = .ok (.getfield 101, 3) := by decide +kernel
theorem dX12_gives_65 : decode cX12_gives 65 = .ok (.iload 5, 2) := by decide +kernel
theorem dX12_gives_67 : decode cX12_gives 67 = .ok (.iaload, 1) := by decide +kernel
theorem dX12_gives_68 : decode cX12_gives 68 = .ok (.goto 15, 3) := by decide +kernel
theorem dX12_gives_71 : decode cX12_gives 71 = .ok (.aload_n 0, 1) := by decide +kernel
theorem dX12_gives_72 : decode cX12_gives 72 = .ok (.aload_n 0, 1) := by decide +kernel
theorem dX12_gives_73 : decode cX12_gives 73 = .ok (.getfield 101, 3) := by decide +kernel
theorem dX12_gives_76 : decode cX12_gives 76 = .ok (.iload 5, 2) := by decide +kernel
theorem dX12_gives_78 : decode cX12_gives 78 = .ok (.iaload, 1) := by decide +kernel
theorem dX12_gives_79 : decode cX12_gives 79 = .ok (.iload_n 2, 1) := by decide +kernel
theorem dX12_gives_80 : decode cX12_gives 80 = .ok (.invokevirtual 318, 3) := by decide +kernel
theorem dX12_gives_83 : decode cX12_gives 83 = .ok (.iastore, 1) := by decide +kernel
theorem dX12_gives_84 : decode cX12_gives 84 = .ok (.iinc 3 1, 3) := by decide +kernel
theorem dX12_gives_87 : decode cX12_gives 87 = .ok (.goto 119, 3) := by decide +kernel
theorem dX12_gives_90 : decode cX12_gives 90 = .ok (.iload 6, 2) := by decide +kernel
theorem dX12_gives_92 : decode cX12_gives 92 = .ok (.iconst 3, 1) := by decide +kernel
theorem dX12_gives_93 : decode cX12_gives 93 = .ok (.if_icmp .ne 24, 3) := by decide +kernel
theorem dX12_gives_96 : decode cX12_gives 96 = .ok (.aload_n 0, 1) := by decide +kernel
theorem dX12_gives_97 : decode cX12_gives 97 = .ok (.getfield 104, 3) := by decide +kernel
theorem dX12_gives_100 : decode cX12_gives 100 = .ok (.iconst 0, 1) := by decide +kernel
theorem dX12_gives_101 : decode cX12_gives 101 = .ok (.iaload, 1) := by decide +kernel
theorem dX12_gives_102 : decode cX12_gives 102 = .ok (.ifCond .ne 7, 3) := by decide +kernel
theorem dX12_gives_105 : decode cX12_gives 105 = .ok (.iconst 1, 1) := by decide +kernel
theorem dX12_gives_106 : decode cX12_gives 106 = .ok (.goto 4, 3) := by decide +kernel
theorem dX12_gives_109 : decode cX12_gives 109 = .ok (.iconst 0, 1) := by decide +kernel
theorem dX12_gives_110 : decode cX12_gives 110 = .ok (.istore 4, 2) := by decide +kernel
theorem dX12_gives_112 : decode cX12_gives 112 = .ok (.iconst 0, 1) := by decide +kernel
theorem dX12_gives_113 : decode cX12_gives 113 = .ok (.istore_n 3, 1) := by decide +kernel
theorem dX12_gives_114 : decode cX12_gives 114 = .ok (.goto 92, 3) := by decide +kernel
theorem dX12_gives_117 : decode cX12_gives 117 = .ok (.iload 6, 2) := by decide +kernel
theorem dX12_gives_119 : decode cX12_gives 119 = .ok (.iconst 4, 1) := by decide +kernel
theorem dX12_gives_120 : decode cX12_gives 120 = .ok (.if_icmp .ne 23, 3) := by decide +kernel
theorem dX12_gives_123 : decode cX12_gives 123 = .ok (.iload 4, 2) := by decide +kernel
theorem dX12_gives_125 : decode cX12_gives 125 = .ok (.ifCond .ne 10, 3) := by decide +kernel
theorem dX12_gives_128 : decode cX12_gives 128 = .ok (.aload_n 0, 1) := by decide +kernel
theorem dX12_gives_129 : decode cX12_gives 129 = .ok (.getfield 104, 3) := by decide +kernel
theorem dX12_gives_132 : decode cX12_gives 132 = .ok (.iconst 0, 1) := by decide +kernel
theorem dX12_gives_133 : decode cX12_gives 133 = .ok (.iaload, 1) := by decide +kernel
theorem dX12_gives_134 : decode cX12_gives 134 = .ok (.ireturn, 1) := by decide +kernel
theorem dX12_gives_135 : decode cX12_gives 135 = .ok (.iconst 0, 1) := by decide +kernel
theorem dX12_gives_136 : decode cX12_gives 136 = .ok (.istore 4, 2) := by decide +kernel
theorem dX12_gives_138 : decode cX12_gives 138 = .ok (.iconst 0, 1) := by decide +kernel
theorem dX12_gives_139 : decode cX12_gives 139 = .ok (.istore_n 3, 1) := by decide +kernel
theorem dX12_gives_140 : decode cX12_gives 140 = .ok (.goto 66, 3) := by decide +kernel
theorem dX12_gives_143 : decode cX12_gives 143 = .ok (.iload 6, 2) := by decide +kernel
theorem dX12_gives_145 : decode cX12_gives 145 = .ok (.iconst 5, 1) := by decide +kernel
theorem dX12_gives_146 : decode cX12_gives 146 = .ok (.if_icmp .ne 30, 3) := by decide +kernel
theorem dX12_gives_149 : decode cX12_gives 149 = .ok (.aload_n 0, 1) := by decide +kernel
theorem dX12_gives_150 : decode cX12_gives 150 = .ok (.getfield 104, 3) := by decide +kernel
theorem dX12_gives_153 : decode cX12_gives 153 = .ok (.iload_n 3, 1) := by decide +kernel
theorem dX12_gives_154 : decode cX12_gives 154 = .ok (.iconst 1, 1) := by decide +kernel
theorem dX12_gives_155 : decode cX12_gives 155 = .ok (.isub, 1) := by decide +kernel
theorem dX12_gives_156 : decode cX12_gives 156 = .ok (.aload_n 0, 1) := by decide +kernel
theorem dX12_gives_157 : decode cX12_gives 157 = .ok (.getfield 104, 3) := by decide +kernel
theorem dX12_gives_160 : decode cX12_gives 160 = .ok (.iload_n 3, 1) := by decide +kernel
theorem dX12_gives_161 : decode cX12_gives 161 = .ok (.iconst 1, 1) := by decide +kernel
theorem dX12_gives_162 : decode cX12_gives 162 = .ok (.isub, 1) := by decide +kernel
theorem dX12_gives_163 : decode cX12_gives 163 = .ok (.iaload, 1) := by decide +kernel
theorem dX12_gives_164 : decode cX12_gives 164 = .ok (.ifCond .ne 7, 3) := by decide +kernel
theorem dX12_gives_167 : decode cX12_gives 167 = .ok (.iconst 1, 1) := by decide +kernel
theorem dX12_gives_168 : decode cX12_gives 168 = .ok (.goto 4, 3) := by decide +kernel
theorem dX12_gives_171 : decode cX12_gives 171 = .ok (.iconst 0, 1) := by decide +kernel
theorem dX12_gives_172 : decode cX12_gives 172 = .ok (.iastore, 1) := by decide +kernel
theorem dX12_gives_173 : decode cX12_gives 173 = .ok (.goto 33, 3) := by decide +kernel
theorem dX12_gives_176 : decode cX12_gives 176 = .ok (.iinc 3 (-1), 3) := by decide +kernel
theorem dX12_gives_179 : decode cX12_gives 179 = .ok (.aload_n 0, 1) := by decide +kernel
theorem dX12_gives_180 : decode cX12_gives 180 = .ok (.getfield 104, 3) := by decide +kernel
theorem dX12_gives_183 : decode cX12_gives 183 = .ok (.iload_n 3, 1) := by decide +kernel
theorem dX12_gives_184 : decode cX12_gives 184 = .ok (.iconst 1, 1) := by decide +kernel
theorem dX12_gives_185 : decode cX12_gives 185 = .ok (.isub, 1) := by decide +kernel
theorem dX12_gives_186 : decode cX12_gives 186 = .ok (.iload 6, 2) := by decide +kernel
theorem dX12_gives_188 : decode cX12_gives 188 = .ok (.aload_n 0, 1) := by decide +kernel
theorem dX12_gives_189 : decode cX12_gives 189 = .ok (.getfield 104, 3) := by decide +kernel
theorem dX12_gives_192 : decode cX12_gives 192 = .ok (.iload_n 3, 1) := by decide +kernel
theorem dX12_gives_193 : decode cX12_gives 193 = .ok (.iconst 1, 1) := by decide +kernel
theorem dX12_gives_194 : decode cX12_gives 194 = .ok (.isub, 1) := by decide +kernel
theorem dX12_gives_195 : decode cX12_gives 195 = .ok (.iaload, 1) := by decide +kernel
theorem dX12_gives_196 : decode cX12_gives 196 = .ok (.aload_n 0, 1) := by decide +kernel
theorem dX12_gives_197 : decode cX12_gives 197 = .ok (.getfield 104, 3) := by decide +kernel
theorem dX12_gives_200 : decode cX12_gives 200 = .ok (.iload_n 3, 1) := by decide +kernel
theorem dX12_gives_201 : decode cX12_gives 201 = .ok (.iaload, 1) := by decide +kernel
theorem dX12_gives_202 : decode cX12_gives 202 = .ok (.invokestatic 321, 3) := by decide +kernel
theorem dX12_gives_205 : decode cX12_gives 205 = .ok (.iastore, 1) := by decide +kernel
theorem dX12_gives_206 : decode cX12_gives 206 = .ok (.iinc 5 1, 3) := by decide +kernel
theorem dX12_gives_209 : decode cX12_gives 209 = .ok (.goto (-197), 3) := by decide +kernel
theorem dX12_gives_212 : decode cX12_gives 212 = .ok (.iconst 0, 1) := by decide +kernel
theorem dX12_gives_213 : decode cX12_gives 213 = .ok (.ireturn, 1) := by decide +kernel
theorem dX12_says_0 : decode cX12_says 0 = .ok (.iload_n 1, 1) := by decide +kernel
theorem dX12_says_1 : decode cX12_says 1 = .ok (.iconst 0, 1) := by decide +kernel
theorem dX12_says_2 : decode cX12_says 2 = .ok (.aload_n 0, 1) := by decide +kernel
theorem dX12_says_3 : decode cX12_says 3 = .ok (.getfield 305, 3) := by decide +kernel
theorem dX12_says_6 : decode cX12_says 6 = .ok (.iconst 1, 1) := by decide +kernel
theorem dX12_says_7 : decode cX12_says 7 = .ok (.isub, 1) := by decide +kernel
theorem dX12_says_8 : decode cX12_says 8 = .ok (.invokestatic 196, 3) := by decide +kernel
theorem dX12_says_11 : decode cX12_says 11 = .ok (.ifCond .eq 20, 3) := by decide +kernel
theorem dX12_says_14 : decode cX12_says 14 = .ok (.aload_n 0, 1) := by decide +kernel
theorem dX12_says_15 : decode cX12_says 15 = .ok (.iload_n 2, 1) := by decide +kernel
theorem dX12_says_16 : decode cX12_says 16 = .ok (.invokevirtual 241, 3) := by decide +kernel
theorem dX12_says_19 : decode cX12_says 19 = .ok (.ifCond .eq 12, 3) := by decide +kernel
theorem dX12_says_22 : decode cX12_says 22 = .ok (.aload_n 0, 1) := by decide +kernel
theorem dX12_says_23 : decode cX12_says 23 = .ok (.iload_n 1, 1) := by decide +kernel
theorem dX12_says_24 : decode cX12_says 24 = .ok (.iload_n 2, 1) := by decide +kernel
theorem dX12_says_25 : decode cX12_says 25 = .ok (.invokevirtual 324, 3) := by decide +kernel
theorem dX12_says_28 : decode cX12_says 28 = .ok (.goto 5, 3) := by decide +kernel
theorem dX12_says_31 : decode cX12_says 31 = .ok (.ldc 244, 2) := by decide +kernel
theorem dX12_says_33 : decode cX12_says 33 = .ok (.ireturn, 1) := by decide +kernel
theorem dX12_may_0 : decode cX12_may 0 = .ok (.aload_n 0, 1) := by decide +kernel
theorem dX12_may_1 : decode cX12_may 1 = .ok (.iload_n 1, 1) := by decide +kernel
theorem dX12_may_2 : decode cX12_may 2 = .ok (.aload_n 0, 1) := by decide +kernel
theorem dX12_may_3 : decode cX12_may 3 = .ok (.invokevirtual 230, 3) := by decide +kernel
theorem dX12_may_6 : decode cX12_may 6 = .ok (.aload_n 0, 1) := by decide +kernel
theorem dX12_may_7 : decode cX12_may 7 = .ok (.invokevirtual 230, 3) := by decide +kernel
theorem dX12_may_10 : decode cX12_may 10 = .ok (.invokevirtual 311, 3) := by decide +kernel
theorem dX12_may_13 : decode cX12_may 13 = .ok (.istore_n 3, 1) := by decide +kernel
theorem dX12_may_14 : decode cX12_may 14 = .ok (.iload_n 3, 1) := by decide +kernel
theorem dX12_may_15 : decode cX12_may 15 = .ok (.ifCond .lt 12, 3) := by decide +kernel
theorem dX12_may_18 : decode cX12_may 18 = .ok (.aload_n 0, 1) := by decide +kernel
theorem dX12_may_19 : decode cX12_may 19 = .ok (.iload_n 3, 1) := by decide +kernel
theorem dX12_may_20 : decode cX12_may 20 = .ok (.iload_n 2, 1) := by decide +kernel
theorem dX12_may_21 : decode cX12_may 21 = .ok (.invokevirtual 324, 3) := by decide +kernel
theorem dX12_may_24 : decode cX12_may 24 = .ok (.ifCond .eq 7, 3) := by decide +kernel
theorem dX12_may_27 : decode cX12_may 27 = .ok (.iconst 1, 1) := by decide +kernel
theorem dX12_may_28 : decode cX12_may 28 = .ok (.goto 4, 3) := by decide +kernel
theorem dX12_may_31 : decode cX12_may 31 = .ok (.iconst 0, 1) := by decide +kernel
theorem dX12_may_32 : decode cX12_may 32 = .ok (.ireturn, 1) := by decide +kernel
theorem dX12_shelfOf_0 : decode cX12_shelfOf 0 = .ok (.iconst 0, 1) := by decide +kernel
theorem dX12_shelfOf_1 : decode cX12_shelfOf 1 = .ok (.istore 4, 2) := by decide +kernel
theorem dX12_shelfOf_3 : decode cX12_shelfOf 3 = .ok (.iconst 0, 1) := by decide +kernel
theorem dX12_shelfOf_4 : decode cX12_shelfOf 4 = .ok (.istore 5, 2) := by decide +kernel
theorem dX12_shelfOf_6 : decode cX12_shelfOf 6 = .ok (.iload 5, 2) := by decide +kernel
theorem dX12_shelfOf_8 : decode cX12_shelfOf 8 = .ok (.aload_n 0, 1) := by decide +kernel
theorem dX12_shelfOf_9 : decode cX12_shelfOf 9 = .ok (.getfield 227, 3) := by decide +kernel
theorem dX12_shelfOf_12 : decode cX12_shelfOf 12 = .ok (.if_icmp .ge 58, 3) := by decide +kernel
theorem dX12_shelfOf_15 : decode cX12_shelfOf 15 = .ok (.aload_n 0, 1) := by decide +kernel
theorem dX12_shelfOf_16 : decode cX12_shelfOf 16 = .ok (.getfield 43, 3) := by decide +kernel
theorem dX12_shelfOf_19 : decode cX12_shelfOf 19 = .ok (.iload 5, 2) := by decide +kernel
theorem dX12_shelfOf_21 : decode cX12_shelfOf 21 = .ok (.iaload, 1) := by decide +kernel
theorem dX12_shelfOf_22 : decode cX12_shelfOf 22 = .ok (.iload_n 1, 1) := by decide +kernel
theorem dX12_shelfOf_23 : decode cX12_shelfOf 23 = .ok (.if_icmp .ne 41, 3) := by decide +kernel
theorem dX12_shelfOf_26 : decode cX12_shelfOf 26 = .ok (.aload_n 0, 1) := by decide +kernel
theorem dX12_shelfOf_27 : decode cX12_shelfOf 27 = .ok (.getfield 46, 3) := by decide +kernel
theorem dX12_shelfOf_30 : decode cX12_shelfOf 30 = .ok (.iload 5, 2) := by decide +kernel
theorem dX12_shelfOf_32 : decode cX12_shelfOf 32 = .ok (.iaload, 1) := by decide +kernel
theorem dX12_shelfOf_33 : decode cX12_shelfOf 33 = .ok (.iload_n 2, 1) := by decide +kernel
theorem dX12_shelfOf_34 : decode cX12_shelfOf 34 = .ok (.if_icmp .ne 30, 3) := by decide +kernel
theorem dX12_shelfOf_37 : decode cX12_shelfOf 37 = .ok (.iload_n 3, 1) := by decide +kernel
theorem dX12_shelfOf_38 : decode cX12_shelfOf 38 = .ok (.ifCond .eq 15, 3) := by decide +kernel
theorem dX12_shelfOf_41 : decode cX12_shelfOf 41 = .ok (.aload_n 0, 1) := by decide +kernel
theorem dX12_shelfOf_42 : decode cX12_shelfOf 42 = .ok (.iload_n 3, 1) := by decide +kernel
theorem dX12_shelfOf_43 : decode cX12_shelfOf 43 = .ok (.iconst 1, 1) := by decide +kernel
theorem dX12_shelfOf_44 : decode cX12_shelfOf 44 = .ok (.isub, 1) := by decide +kernel
theorem dX12_shelfOf_45 : decode cX12_shelfOf 45 = .ok (.iload 5, 2) := by decide +kernel
theorem dX12_shelfOf_47 : decode cX12_shelfOf 47 = .ok (.invokevirtual 327, 3) := by decide +kernel
theorem dX12_shelfOf_50 : decode cX12_shelfOf 50 = .ok (.ifCond .eq 14, 3) := by decide +kernel
theorem dX12_shelfOf_53 : decode cX12_shelfOf 53 = .ok (.iload 4, 2) := by decide +kernel
theorem dX12_shelfOf_55 : decode cX12_shelfOf 55 = .ok (.aload_n 0, 1) := by decide +kernel
theorem dX12_shelfOf_56 : decode cX12_shelfOf 56 = .ok (.iload 5, 2) := by decide +kernel
theorem dX12_shelfOf_58 : decode cX12_shelfOf 58 = .ok (.invokevirtual 245, 3) := by decide +kernel
theorem dX12_shelfOf_61 : decode cX12_shelfOf 61 = .ok (.iadd, 1) := by decide +kernel
theorem dX12_shelfOf_62 : decode cX12_shelfOf 62 = .ok (.istore 4, 2) := by decide +kernel
theorem dX12_shelfOf_64 : decode cX12_shelfOf 64 = .ok (.iinc 5 1, 3) := by decide +kernel
theorem dX12_shelfOf_67 : decode cX12_shelfOf 67 = .ok (.goto (-61), 3) := by decide +kernel
theorem dX12_shelfOf_70 : decode cX12_shelfOf 70 = .ok (.iload 4, 2) := by decide +kernel
theorem dX12_shelfOf_72 : decode cX12_shelfOf 72 = .ok (.ireturn, 1) := by decide +kernel
theorem dX12_shelf_0 : decode cX12_shelf 0 = .ok (.aload_n 0, 1) := by decide +kernel
theorem dX12_shelf_1 : decode cX12_shelf 1 = .ok (.iload_n 1, 1) := by decide +kernel
theorem dX12_shelf_2 : decode cX12_shelf 2 = .ok (.iload_n 2, 1) := by decide +kernel
theorem dX12_shelf_3 : decode cX12_shelf 3 = .ok (.invokevirtual 223, 3) := by decide +kernel
theorem dX12_shelf_6 : decode cX12_shelf 6 = .ok (.ifCond .eq 22, 3) := by decide +kernel
theorem dX12_shelf_9 : decode cX12_shelf 9 = .ok (.iload_n 3, 1) := by decide +kernel
theorem dX12_shelf_10 : decode cX12_shelf 10 = .ok (.iconst 0, 1) := by decide +kernel
theorem dX12_shelf_11 : decode cX12_shelf 11 = .ok (.iconst 2, 1) := by decide +kernel
theorem dX12_shelf_12 : decode cX12_shelf 12 = .ok (.invokestatic 196, 3) := by decide +kernel
theorem dX12_shelf_15 : decode cX12_shelf 15 = .ok (.ifCond .eq 13, 3) := by decide +kernel
theorem dX12_shelf_18 : decode cX12_shelf 18 = .ok (.aload_n 0, 1) := by decide +kernel
theorem dX12_shelf_19 : decode cX12_shelf 19 = .ok (.iload_n 1, 1) := by decide +kernel
theorem dX12_shelf_20 : decode cX12_shelf 20 = .ok (.iload_n 2, 1) := by decide +kernel
theorem dX12_shelf_21 : decode cX12_shelf 21 = .ok (.iload_n 3, 1) := by decide +kernel
theorem dX12_shelf_22 : decode cX12_shelf 22 = .ok (.invokevirtual 330, 3) := by decide +kernel
theorem dX12_shelf_25 : decode cX12_shelf 25 = .ok (.goto 4, 3) := by decide +kernel
theorem dX12_shelf_28 : decode cX12_shelf 28 = .ok (.iconst (-1), 1) := by decide +kernel
theorem dX12_shelf_29 : decode cX12_shelf 29 = .ok (.ireturn, 1) := by decide +kernel
theorem dX12_eldest_0 : decode cX12_eldest 0 = .ok (.iconst (-1), 1) := by decide +kernel
theorem dX12_eldest_1 : decode cX12_eldest 1 = .ok (.istore 4, 2) := by decide +kernel
theorem dX12_eldest_3 : decode cX12_eldest 3 = .ok (.iconst 0, 1) := by decide +kernel
theorem dX12_eldest_4 : decode cX12_eldest 4 = .ok (.istore 5, 2) := by decide +kernel
theorem dX12_eldest_6 : decode cX12_eldest 6 = .ok (.iload 5, 2) := by decide +kernel
theorem dX12_eldest_8 : decode cX12_eldest 8 = .ok (.aload_n 0, 1) := by decide +kernel
theorem dX12_eldest_9 : decode cX12_eldest 9 = .ok (.getfield 227, 3) := by decide +kernel
theorem dX12_eldest_12 : decode cX12_eldest 12 = .ok (.if_icmp .ge 76, 3) := by decide +kernel
theorem dX12_eldest_15 : decode cX12_eldest 15 = .ok (.aload_n 0, 1) := by decide +kernel
theorem dX12_eldest_16 : decode cX12_eldest 16 = .ok (.getfield 43, 3) := by decide +kernel
theorem dX12_eldest_19 : decode cX12_eldest 19 = .ok (.iload 5, 2) := by decide +kernel
theorem dX12_eldest_21 : decode cX12_eldest 21 = .ok (.iaload, 1) := by decide +kernel
theorem dX12_eldest_22 : decode cX12_eldest 22 = .ok (.iload_n 1, 1) := by decide +kernel
theorem dX12_eldest_23 : decode cX12_eldest 23 = .ok (.if_icmp .ne 59, 3) := by decide +kernel
theorem dX12_eldest_26 : decode cX12_eldest 26 = .ok (.aload_n 0, 1) := by decide +kernel
theorem dX12_eldest_27 : decode cX12_eldest 27 = .ok (.getfield 46, 3) := by decide +kernel
theorem dX12_eldest_30 : decode cX12_eldest 30 = .ok (.iload 5, 2) := by decide +kernel
theorem dX12_eldest_32 : decode cX12_eldest 32 = .ok (.iaload, 1) := by decide +kernel
theorem dX12_eldest_33 : decode cX12_eldest 33 = .ok (.iload_n 2, 1) := by decide +kernel
theorem dX12_eldest_34 : decode cX12_eldest 34 = .ok (.if_icmp .ne 48, 3) := by decide +kernel
theorem dX12_eldest_37 : decode cX12_eldest 37 = .ok (.aload_n 0, 1) := by decide +kernel
theorem dX12_eldest_38 : decode cX12_eldest 38 = .ok (.iload 5, 2) := by decide +kernel
theorem dX12_eldest_40 : decode cX12_eldest 40 = .ok (.invokevirtual 245, 3) := by decide +kernel
theorem dX12_eldest_43 : decode cX12_eldest 43 = .ok (.ifCond .le 39, 3) := by decide +kernel
theorem dX12_eldest_46 : decode cX12_eldest 46 = .ok (.aload_n 0, 1) := by decide +kernel
theorem dX12_eldest_47 : decode cX12_eldest 47 = .ok (.iload_n 3, 1) := by decide +kernel
theorem dX12_eldest_48 : decode cX12_eldest 48 = .ok (.iload 5, 2) := by decide +kernel
theorem dX12_eldest_50 : decode cX12_eldest 50 = .ok (.invokevirtual 327, 3) := by decide +kernel
theorem dX12_eldest_53 : decode cX12_eldest 53 = .ok (.ifCond .eq 29, 3) := by decide +kernel
theorem dX12_eldest_56 : decode cX12_eldest 56 = .ok (.iload 4, 2) := by decide +kernel
theorem dX12_eldest_58 : decode cX12_eldest 58 = .ok (.ifCond .lt 20, 3) := by decide +kernel
theorem dX12_eldest_61 : decode cX12_eldest 61 = .ok (.aload_n 0, 1) := by decide +kernel
theorem dX12_eldest_62 : decode cX12_eldest 62 = .ok (.getfield 52, 3) := by decide +kernel
theorem dX12_eldest_65 : decode cX12_eldest 65 = .ok (.iload 5, 2) := by decide +kernel
theorem dX12_eldest_67 : decode cX12_eldest 67 = .ok (.iaload, 1) := by decide +kernel
theorem dX12_eldest_68 : decode cX12_eldest 68 = .ok (.aload_n 0, 1) := by decide +kernel
theorem dX12_eldest_69 : decode cX12_eldest 69 = .ok (.getfield 52, 3) := by decide +kernel
theorem dX12_eldest_72 : decode cX12_eldest 72 = .ok (.iload 4, 2) := by decide +kernel
theorem dX12_eldest_74 : decode cX12_eldest 74 = .ok (.iaload, 1) := by decide +kernel
theorem dX12_eldest_75 : decode cX12_eldest 75 = .ok (.if_icmp .ge 7, 3) := by decide +kernel
theorem dX12_eldest_78 : decode cX12_eldest 78 = .ok (.iload 5, 2) := by decide +kernel
theorem dX12_eldest_80 : decode cX12_eldest 80 = .ok (.istore 4, 2) := by decide +kernel
theorem dX12_eldest_82 : decode cX12_eldest 82 = .ok (.iinc 5 1, 3) := by decide +kernel
theorem dX12_eldest_85 : decode cX12_eldest 85 = .ok (.goto (-79), 3) := by decide +kernel
theorem dX12_eldest_88 : decode cX12_eldest 88 = .ok (.iload 4, 2) := by decide +kernel
theorem dX12_eldest_90 : decode cX12_eldest 90 = .ok (.ireturn, 1) := by decide +kernel
theorem dX12_toss_0 : decode cX12_toss 0 = .ok (.aload_n 0, 1) := by decide +kernel
theorem dX12_toss_1 : decode cX12_toss 1 = .ok (.getfield 70, 3) := by decide +kernel
theorem dX12_toss_4 : decode cX12_toss 4 = .ok (.iload_n 1, 1) := by decide +kernel
theorem dX12_toss_5 : decode cX12_toss 5 = .ok (.dup2, 1) := by decide +kernel
theorem dX12_toss_6 : decode cX12_toss 6 = .ok (.iaload, 1) := by decide +kernel
theorem dX12_toss_7 : decode cX12_toss 7 = .ok (.iload_n 2, 1) := by decide +kernel
theorem dX12_toss_8 : decode cX12_toss 8 = .ok (.iadd, 1) := by decide +kernel
theorem dX12_toss_9 : decode cX12_toss 9 = .ok (.iastore, 1) := by decide +kernel
theorem dX12_toss_10 : decode cX12_toss 10 = .ok (.aload_n 0, 1) := by decide +kernel
theorem dX12_toss_11 : decode cX12_toss 11 = .ok (.getfield 79, 3) := by decide +kernel
theorem dX12_toss_14 : decode cX12_toss 14 = .ok (.aload_n 0, 1) := by decide +kernel
theorem dX12_toss_15 : decode cX12_toss 15 = .ok (.invokevirtual 230, 3) := by decide +kernel
theorem dX12_toss_18 : decode cX12_toss 18 = .ok (.dup2, 1) := by decide +kernel
theorem dX12_toss_19 : decode cX12_toss 19 = .ok (.iaload, 1) := by decide +kernel
theorem dX12_toss_20 : decode cX12_toss 20 = .ok (.iload_n 2, 1) := by decide +kernel
theorem dX12_toss_21 : decode cX12_toss 21 = .ok (.aload_n 0, 1) := by decide +kernel
theorem dX12_toss_22 : decode cX12_toss 22 = .ok (.getfield 25, 3) := by decide +kernel
theorem dX12_toss_25 : decode cX12_toss 25 = .ok (.aload_n 0, 1) := by decide +kernel
theorem dX12_toss_26 : decode cX12_toss 26 = .ok (.getfield 46, 3) := by decide +kernel
theorem dX12_toss_29 : decode cX12_toss 29 = .ok (.iload_n 1, 1) := by decide +kernel
theorem dX12_toss_30 : decode cX12_toss 30 = .ok (.iaload, 1) := by decide +kernel
theorem dX12_toss_31 : decode cX12_toss 31 = .ok (.iaload, 1) := by decide +kernel
theorem dX12_toss_32 : decode cX12_toss 32 = .ok (.imul, 1) := by decide +kernel
theorem dX12_toss_33 : decode cX12_toss 33 = .ok (.iadd, 1) := by decide +kernel
theorem dX12_toss_34 : decode cX12_toss 34 = .ok (.iastore, 1) := by decide +kernel
theorem dX12_toss_35 : decode cX12_toss 35 = .ok (.return_, 1) := by decide +kernel
theorem dX12_hours_0 : decode cX12_hours 0 = .ok (.iload_n 1, 1) := by decide +kernel
theorem dX12_hours_1 : decode cX12_hours 1 = .ok (.iconst 1, 1) := by decide +kernel
theorem dX12_hours_2 : decode cX12_hours 2 = .ok (.sipush 240, 3) := by decide +kernel
theorem dX12_hours_5 : decode cX12_hours 5 = .ok (.invokestatic 196, 3) := by decide +kernel
theorem dX12_hours_8 : decode cX12_hours 8 = .ok (.ifCond .eq 15, 3) := by decide +kernel
theorem dX12_hours_11 : decode cX12_hours 11 = .ok (.aload_n 0, 1) := by decide +kernel
theorem dX12_hours_12 : decode cX12_hours 12 = .ok (.getfield 200, 3) := by decide +kernel
theorem dX12_hours_15 : decode cX12_hours 15 = .ok (.iload_n 1, 1) := by decide +kernel
theorem dX12_hours_16 : decode cX12_hours 16 = .ok (.iadd, 1) := by decide +kernel
theorem dX12_hours_17 : decode cX12_hours 17 = .ok (.ldc_w 333, 3) := by decide +kernel
theorem dX12_hours_20 : decode cX12_hours 20 = .ok (.if_icmp .le 5, 3) := by decide +kernel
theorem dX12_hours_23 : decode cX12_hours 23 = .ok (.iconst (-1), 1) := by decide +kernel
theorem dX12_hours_24 : decode cX12_hours 24 = .ok (.ireturn, 1) := by decide +kernel
theorem dX12_hours_25 : decode cX12_hours 25 = .ok (.iconst 0, 1) := by decide +kernel
theorem dX12_hours_26 : decode cX12_hours 26 = .ok (.istore_n 2, 1) := by decide +kernel
theorem dX12_hours_27 : decode cX12_hours 27 = .ok (.iload_n 2, 1) := by decide +kernel
theorem dX12_hours_28 : decode cX12_hours 28 = .ok (.iload_n 1, 1) := by decide +kernel
theorem dX12_hours_29 : decode cX12_hours 29 = .ok (.if_icmp .ge 103, 3) := by decide +kernel
theorem dX12_hours_32 : decode cX12_hours 32 = .ok (.aload_n 0, 1) := by decide +kernel
theorem dX12_hours_33 : decode cX12_hours 33 = .ok (.dup, 1) := by decide +kernel
theorem dX12_hours_34 : decode cX12_hours 34 = .ok (.getfield 200, 3) := by decide +kernel
theorem dX12_hours_37 : decode cX12_hours 37 = .ok (.iconst 1, 1) := by decide +kernel
theorem dX12_hours_38 : decode cX12_hours 38 = .ok (.iadd, 1) := by decide +kernel
theorem dX12_hours_39 : decode cX12_hours 39 = .ok (.putfield 200, 3) := by decide +kernel
theorem dX12_hours_42 : decode cX12_hours 42 = .ok (.aload_n 0, 1) := by decide +kernel
theorem dX12_hours_43 : decode cX12_hours 43 = .ok (.getfield 200, 3) := by decide +kernel
theorem dX12_hours_46 : decode cX12_hours 46 = .ok (.bipush 24, 2) := by decide +kernel
theorem dX12_hours_48 : decode cX12_hours 48 = .ok (.irem, 1) := by decide +kernel
theorem dX12_hours_49 : decode cX12_hours 49 = .ok (.ifCond .eq 6, 3) := by decide +kernel
theorem dX12_hours_52 : decode cX12_hours 52 = .ok (.goto 74, 3) := by decide +kernel
theorem dX12_hours_55 : decode cX12_hours 55 = .ok (.iconst 0, 1) := by decide +kernel
theorem dX12_hours_56 : decode cX12_hours 56 = .ok (.istore_n 3, 1) := by decide +kernel
theorem dX12_hours_57 : decode cX12_hours 57 = .ok (.iload_n 3, 1) := by decide +kernel
theorem dX12_hours_58 : decode cX12_hours 58 = .ok (.bipush 120, 2) := by decide +kernel
theorem dX12_hours_60 : decode cX12_hours 60 = .ok (.if_icmp .ge 23, 3) := by decide +kernel
theorem dX12_hours_63 : decode cX12_hours 63 = .ok (.aload_n 0, 1) := by decide +kernel
theorem dX12_hours_64 : decode cX12_hours 64 = .ok (.getfield 37, 3) := by decide +kernel
theorem dX12_hours_67 : decode cX12_hours 67 = .ok (.iload_n 3, 1) := by decide +kernel
theorem dX12_hours_68 : decode cX12_hours 68 = .ok (.iconst 0, 1) := by decide +kernel
theorem dX12_hours_69 : decode cX12_hours 69 = .ok (.iastore, 1) := by decide +kernel
theorem dX12_hours_70 : decode cX12_hours 70 = .ok (.aload_n 0, 1) := by decide +kernel
theorem dX12_hours_71 : decode cX12_hours 71 = .ok (.getfield 40, 3) := by decide +kernel
theorem dX12_hours_74 : decode cX12_hours 74 = .ok (.iload_n 3, 1) := by decide +kernel
theorem dX12_hours_75 : decode cX12_hours 75 = .ok (.iconst 0, 1) := by decide +kernel
theorem dX12_hours_76 : decode cX12_hours 76 = .ok (.iastore, 1) := by decide +kernel
theorem dX12_hours_77 : decode cX12_hours 77 = .ok (.iinc 3 1, 3) := by decide +kernel
theorem dX12_hours_80 : decode cX12_hours 80 = .ok (.goto (-23), 3) := by decide +kernel
theorem dX12_hours_83 : decode cX12_hours 83 = .ok (.iconst 0, 1) := by decide +kernel
theorem dX12_hours_84 : decode cX12_hours 84 = .ok (.istore_n 3, 1) := by decide +kernel
theorem dX12_hours_85 : decode cX12_hours 85 = .ok (.iload_n 3, 1) := by decide +kernel
theorem dX12_hours_86 : decode cX12_hours 86 = .ok (.aload_n 0, 1) := by decide +kernel
theorem dX12_hours_87 : decode cX12_hours 87 = .ok (.getfield 227, 3) := by decide +kernel
theorem dX12_hours_90 : decode cX12_hours 90 = .ok (.if_icmp .ge 36, 3) := by decide +kernel
theorem dX12_hours_93 : decode cX12_hours 93 = .ok (.aload_n 0, 1) := by decide +kernel
theorem dX12_hours_94 : decode cX12_hours 94 = .ok (.iload_n 3, 1) := by decide +kernel
theorem dX12_hours_95 : decode cX12_hours 95 = .ok (.invokevirtual 245, 3) := by decide +kernel
theorem dX12_hours_98 : decode cX12_hours 98 = .ok (.ifCond .le 22, 3) := by decide +kernel
theorem dX12_hours_101 : decode cX12_hours 101 = .ok (.aload_n 0, 1) := by decide +kernel
theorem dX12_hours_102 : decode cX12_hours 102 = .ok (.iconst 0, 1) := by decide +kernel
theorem dX12_hours_103 : decode cX12_hours 103 = .ok (.iload_n 3, 1) := by decide +kernel
theorem dX12_hours_104 : decode cX12_hours 104 = .ok (.invokevirtual 327, 3) := by decide +kernel
theorem dX12_hours_107 : decode cX12_hours 107 = .ok (.ifCond .ne 13, 3) := by decide +kernel
theorem dX12_hours_110 : decode cX12_hours 110 = .ok (.aload_n 0, 1) := by decide +kernel
theorem dX12_hours_111 : decode cX12_hours 111 = .ok (.iload_n 3, 1) := by decide +kernel
theorem dX12_hours_112 : decode cX12_hours 112 = .ok (.aload_n 0, 1) := by decide +kernel
theorem dX12_hours_113 : decode cX12_hours 113 = .ok (.iload_n 3, 1) := by decide +kernel
theorem dX12_hours_114 : decode cX12_hours 114 = .ok (.invokevirtual 245, 3) := by decide +kernel
theorem dX12_hours_117 : decode cX12_hours 117 = .ok (.invokevirtual 334, 3) := by decide +kernel
theorem dX12_hours_120 : decode cX12_hours 120 = .ok (.iinc 3 1, 3) := by decide +kernel
theorem dX12_hours_123 : decode cX12_hours 123 = .ok (.goto (-38), 3) := by decide +kernel
theorem dX12_hours_126 : decode cX12_hours 126 = .ok (.iinc 2 1, 3) := by decide +kernel
theorem dX12_hours_129 : decode cX12_hours 129 = .ok (.goto (-102), 3) := by decide +kernel
theorem dX12_hours_132 : decode cX12_hours 132 = .ok (.aload_n 0, 1) := by decide +kernel
theorem dX12_hours_133 : decode cX12_hours 133 = .ok (.getfield 200, 3) := by decide +kernel
theorem dX12_hours_136 : decode cX12_hours 136 = .ok (.ireturn, 1) := by decide +kernel
theorem dX12_isOpen_0 : decode cX12_isOpen 0 = .ok (.aload_n 0, 1) := by decide +kernel
theorem dX12_isOpen_1 : decode cX12_isOpen 1 = .ok (.invokevirtual 315, 3) := by decide +kernel
theorem dX12_isOpen_4 : decode cX12_isOpen 4 = .ok (.bipush 6, 2) := by decide +kernel
theorem dX12_isOpen_6 : decode cX12_isOpen 6 = .ok (.bipush 19, 2) := by decide +kernel
theorem dX12_isOpen_8 : decode cX12_isOpen 8 = .ok (.invokestatic 196, 3) := by decide +kernel
theorem dX12_isOpen_11 : decode cX12_isOpen 11 = .ok (.ireturn, 1) := by decide +kernel
theorem dX12_hasRow_0 : decode cX12_hasRow 0 = .ok (.iconst 0, 1) := by decide +kernel
theorem dX12_hasRow_1 : decode cX12_hasRow 1 = .ok (.istore_n 3, 1) := by decide +kernel
theorem dX12_hasRow_2 : decode cX12_hasRow 2 = .ok (.iload_n 3, 1) := by decide +kernel
theorem dX12_hasRow_3 : decode cX12_hasRow 3 = .ok (.aload_n 0, 1) := by decide +kernel
theorem dX12_hasRow_4 : decode cX12_hasRow 4 = .ok (.getfield 337, 3) := by decide +kernel
theorem dX12_hasRow_7 : decode cX12_hasRow 7 = .ok (.if_icmp .ge 44, 3) := by decide +kernel
theorem dX12_hasRow_10 : decode cX12_hasRow 10 = .ok (.aload_n 0, 1) := by decide +kernel
theorem dX12_hasRow_11 : decode cX12_hasRow 11 = .ok (.getfield 107, 3) := by decide +kernel
theorem dX12_hasRow_14 : decode cX12_hasRow 14 = .ok (.iload_n 3, 1) := by decide +kernel
theorem dX12_hasRow_15 : decode cX12_hasRow 15 = .ok (.iaload, 1) := by decide +kernel
theorem dX12_hasRow_16 : decode cX12_hasRow 16 = .ok (.iload_n 1, 1) := by decide +kernel
theorem dX12_hasRow_17 : decode cX12_hasRow 17 = .ok (.if_icmp .ne 28, 3) := by decide +kernel
theorem dX12_hasRow_20 : decode cX12_hasRow 20 = .ok (.aload_n 0, 1) := by decide +kernel
theorem dX12_hasRow_21 : decode cX12_hasRow 21 = .ok (.getfield 110, 3) := by decide +kernel
theorem dX12_hasRow_24 : decode cX12_hasRow 24 = .ok (.iload_n 3, 1) := by decide +kernel
theorem dX12_hasRow_25 : decode cX12_hasRow 25 = .ok (.iaload, 1) := by decide +kernel
theorem dX12_hasRow_26 : decode cX12_hasRow 26 = .ok (.iload_n 2, 1) := by decide +kernel
theorem dX12_hasRow_27 : decode cX12_hasRow 27 = .ok (.if_icmp .ne 18, 3) := by decide +kernel
theorem dX12_hasRow_30 : decode cX12_hasRow 30 = .ok (.aload_n 0, 1) := by decide +kernel
theorem dX12_hasRow_31 : decode cX12_hasRow 31 = .ok (.getfield 113, 3) := by decide +kernel
theorem dX12_hasRow_34 : decode cX12_hasRow 34 = .ok (.iload_n 3, 1) := by decide +kernel
theorem dX12_hasRow_35 : decode cX12_hasRow 35 = .ok (.iaload, 1) := by decide +kernel
theorem dX12_hasRow_36 : decode cX12_hasRow 36 = .ok (.aload_n 0, 1) := by decide +kernel
theorem dX12_hasRow_37 : decode cX12_hasRow 37 = .ok (.getfield 200, 3) := by decide +kernel
theorem dX12_hasRow_40 : decode cX12_hasRow 40 = .ok (.if_icmp .ne 5, 3) := by decide +kernel
theorem dX12_hasRow_43 : decode cX12_hasRow 43 = .ok (.iconst 1, 1) := by decide +kernel
theorem dX12_hasRow_44 : decode cX12_hasRow 44 = .ok (.ireturn, 1) := by decide +kernel
theorem dX12_hasRow_45 : decode cX12_hasRow 45 = .ok (.iinc 3 1, 3) := by decide +kernel
theorem dX12_hasRow_48 : decode cX12_hasRow 48 = .ok (.goto (-46), 3) := by decide +kernel
theorem dX12_hasRow_51 : decode cX12_hasRow 51 = .ok (.iconst 0, 1) := by decide +kernel
theorem dX12_hasRow_52 : decode cX12_hasRow 52 = .ok (.ireturn, 1) := by decide +kernel
theorem dX12_buy_0 : decode cX12_buy 0 = .ok (.aload_n 0, 1) := by decide +kernel
theorem dX12_buy_1 : decode cX12_buy 1 = .ok (.iload_n 1, 1) := by decide +kernel
theorem dX12_buy_2 : decode cX12_buy 2 = .ok (.iload_n 2, 1) := by decide +kernel
theorem dX12_buy_3 : decode cX12_buy 3 = .ok (.invokevirtual 223, 3) := by decide +kernel
theorem dX12_buy_6 : decode cX12_buy 6 = .ok (.ifCond .eq 14, 3) := by decide +kernel
theorem dX12_buy_9 : decode cX12_buy 9 = .ok (.iload_n 3, 1) := by decide +kernel
theorem dX12_buy_10 : decode cX12_buy 10 = .ok (.iconst 0, 1) := by decide +kernel
theorem dX12_buy_11 : decode cX12_buy 11 = .ok (.sipush 999, 3) := by decide +kernel
theorem dX12_buy_14 : decode cX12_buy 14 = .ok (.invokestatic 196, 3) := by decide +kernel
theorem dX12_buy_17 : decode cX12_buy 17 = .ok (.ifCond .ne 5, 3) := by decide +kernel
theorem dX12_buy_20 : decode cX12_buy 20 = .ok (.iconst (-1), 1) := by decide +kernel
theorem dX12_buy_21 : decode cX12_buy 21 = .ok (.ireturn, 1) := by decide +kernel
theorem dX12_buy_22 : decode cX12_buy 22 = .ok (.aload_n 0, 1) := by decide +kernel
theorem dX12_buy_23 : decode cX12_buy 23 = .ok (.invokevirtual 340, 3) := by decide +kernel
theorem dX12_buy_26 : decode cX12_buy 26 = .ok (.ifCond .eq 12, 3) := by decide +kernel
theorem dX12_buy_29 : decode cX12_buy 29 = .ok (.aload_n 0, 1) := by decide +kernel
theorem dX12_buy_30 : decode cX12_buy 30 = .ok (.iload_n 1, 1) := by decide +kernel
theorem dX12_buy_31 : decode cX12_buy 31 = .ok (.iload_n 2, 1) := by decide +kernel
theorem dX12_buy_32 : decode cX12_buy 32 = .ok (.invokevirtual 344, 3) := by decide +kernel
theorem dX12_buy_35 : decode cX12_buy 35 = .ok (.ifCond .eq 6, 3) := by decide +kernel
theorem dX12_buy_38 : decode cX12_buy 38 = .ok (.bipush (-2), 2) := by decide +kernel
theorem dX12_buy_40 : decode cX12_buy 40 = .ok (.ireturn, 1) := by decide +kernel
theorem dX12_buy_41 : decode cX12_buy 41 = .ok (.aload_n 0, 1) := by decide +kernel
theorem dX12_buy_42 : decode cX12_buy 42 = .ok (.getfield 337, 3) := by decide +kernel
theorem dX12_buy_45 : decode cX12_buy 45 = .ok (.sipush 600, 3) := by decide +kernel
theorem dX12_buy_48 : decode cX12_buy 48 = .ok (.if_icmp .ne 6, 3) := by decide +kernel
theorem dX12_buy_51 : decode cX12_buy 51 = .ok (.bipush (-3), 2) := by decide +kernel
theorem dX12_buy_53 : decode cX12_buy 53 = .ok (.ireturn, 1) := by decide +kernel
theorem dX12_buy_54 : decode cX12_buy 54 = .ok (.iload_n 3, 1) := by decide +kernel
theorem dX12_buy_55 : decode cX12_buy 55 = .ok (.istore 4, 2) := by decide +kernel
theorem dX12_buy_57 : decode cX12_buy 57 = .ok (.aload_n 0, 1) := by decide +kernel
theorem dX12_buy_58 : decode cX12_buy 58 = .ok (.iload_n 1, 1) := by decide +kernel
theorem dX12_buy_59 : decode cX12_buy 59 = .ok (.iload_n 2, 1) := by decide +kernel
theorem dX12_buy_60 : decode cX12_buy 60 = .ok (.iconst 0, 1) := by decide +kernel
theorem dX12_buy_61 : decode cX12_buy 61 = .ok (.invokevirtual 347, 3) := by decide +kernel
theorem dX12_buy_64 : decode cX12_buy 64 = .ok (.istore 5, 2) := by decide +kernel
theorem dX12_buy_66 : decode cX12_buy 66 = .ok (.iload 4, 2) := by decide +kernel
theorem dX12_buy_68 : decode cX12_buy 68 = .ok (.ifCond .le 63, 3) := by decide +kernel
theorem dX12_buy_71 : decode cX12_buy 71 = .ok (.iload 5, 2) := by decide +kernel
theorem dX12_buy_73 : decode cX12_buy 73 = .ok (.ifCond .lt 58, 3) := by decide +kernel
theorem dX12_buy_76 : decode cX12_buy 76 = .ok (.aload_n 0, 1) := by decide +kernel
theorem dX12_buy_77 : decode cX12_buy 77 = .ok (.iload 5, 2) := by decide +kernel
theorem dX12_buy_79 : decode cX12_buy 79 = .ok (.invokevirtual 245, 3) := by decide +kernel
theorem dX12_buy_82 : decode cX12_buy 82 = .ok (.iload 4, 2) := by decide +kernel
theorem dX12_buy_84 : decode cX12_buy 84 = .ok (.if_icmp .ge 12, 3) := by decide +kernel
theorem dX12_buy_87 : decode cX12_buy 87 = .ok (.aload_n 0, 1) := by decide +kernel
theorem dX12_buy_88 : decode cX12_buy 88 = .ok (.iload 5, 2) := by decide +kernel
theorem dX12_buy_90 : decode cX12_buy 90 = .ok (.invokevirtual 245, 3) := by decide +kernel
theorem dX12_buy_93 : decode cX12_buy 93 = .ok (.goto 5, 3) := by decide +kernel
theorem dX12_buy_96 : decode cX12_buy 96 = .ok (.iload 4, 2) := by decide +kernel
theorem dX12_buy_98 : decode cX12_buy 98 = .ok (.istore 6, 2) := by decide +kernel
theorem dX12_buy_100 : decode cX12_buy 100 = .ok (.aload_n 0, 1) := by decide +kernel
theorem dX12_buy_101 : decode cX12_buy 101 = .ok (.getfield 61, 3) := by decide +kernel
theorem dX12_buy_104 : decode cX12_buy 104 = .ok (.iload 5, 2) := by decide +kernel
theorem dX12_buy_106 : decode cX12_buy 106 = .ok (.dup2, 1) := by decide +kernel
theorem dX12_buy_107 : decode cX12_buy 107 = .ok (.iaload, 1) := by decide +kernel
theorem dX12_buy_108 : decode cX12_buy 108 = .ok (.iload 6, 2) := by decide +kernel
theorem dX12_buy_110 : decode cX12_buy 110 = .ok (.iadd, 1) := by decide +kernel
theorem dX12_buy_111 : decode cX12_buy 111 = .ok (.iastore, 1) := by decide +kernel
theorem dX12_buy_112 : decode cX12_buy 112 = .ok (.iload 4, 2) := by decide +kernel
theorem dX12_buy_114 : decode cX12_buy 114 = .ok (.iload 6, 2) := by decide +kernel
theorem dX12_buy_116 : decode cX12_buy 116 = .ok (.isub, 1) := by decide +kernel
theorem dX12_buy_117 : decode cX12_buy 117 = .ok (.istore 4, 2) := by decide +kernel
theorem dX12_buy_119 : decode cX12_buy 119 = .ok (.aload_n 0, 1) := by decide +kernel
theorem dX12_buy_120 : decode cX12_buy 120 = .ok (.iload_n 1, 1) := by decide +kernel
theorem dX12_buy_121 : decode cX12_buy 121 = .ok (.iload_n 2, 1) := by decide +kernel
theorem dX12_buy_122 : decode cX12_buy 122 = .ok (.iconst 0, 1) := by decide +kernel
theorem dX12_buy_123 : decode cX12_buy 123 = .ok (.invokevirtual 347, 3) := by decide +kernel
theorem dX12_buy_126 : decode cX12_buy 126 = .ok (.istore 5, 2) := by decide +kernel
theorem dX12_buy_128 : decode cX12_buy 128 = .ok (.goto (-62), 3) := by decide +kernel
theorem dX12_buy_131 : decode cX12_buy 131 = .ok (.aload_n 0, 1) := by decide +kernel
theorem dX12_buy_132 : decode cX12_buy 132 = .ok (.getfield 107, 3) := by decide +kernel
theorem dX12_buy_135 : decode cX12_buy 135 = .ok (.aload_n 0, 1) := by decide +kernel
theorem dX12_buy_136 : decode cX12_buy 136 = .ok (.getfield 337, 3) := by decide +kernel
theorem dX12_buy_139 : decode cX12_buy 139 = .ok (.iload_n 1, 1) := by decide +kernel
theorem dX12_buy_140 : decode cX12_buy 140 = .ok (.iastore, 1) := by decide +kernel
theorem dX12_buy_141 : decode cX12_buy 141 = .ok (.aload_n 0, 1) := by decide +kernel
theorem dX12_buy_142 : decode cX12_buy 142 = .ok (.getfield 110, 3) := by decide +kernel
theorem dX12_buy_145 : decode cX12_buy 145 = .ok (.aload_n 0, 1) := by decide +kernel
theorem dX12_buy_146 : decode cX12_buy 146 = .ok (.getfield 337, 3) := by decide +kernel
theorem dX12_buy_149 : decode cX12_buy 149 = .ok (.iload_n 2, 1) := by decide +kernel
theorem dX12_buy_150 : decode cX12_buy 150 = .ok (.iastore, 1) := by decide +kernel
theorem dX12_buy_151 : decode cX12_buy 151 = .ok (.aload_n 0, 1) := by decide +kernel
theorem dX12_buy_152 : decode cX12_buy 152 = .ok (.getfield 113, 3) := by decide +kernel
theorem dX12_buy_155 : decode cX12_buy 155 = .ok (.aload_n 0, 1) := by decide +kernel
theorem dX12_buy_156 : decode cX12_buy 156 = .ok (.getfield 337, 3) := by decide +kernel
theorem dX12_buy_159 : decode cX12_buy 159 = .ok (.aload_n 0, 1) := by decide +kernel
theorem dX12_buy_160 : decode cX12_buy 160 = .ok (.getfield 200, 3) := by decide +kernel
theorem dX12_buy_163 : decode cX12_buy 163 = .ok (.iastore, 1) := by decide +kernel
theorem dX12_buy_164 : decode cX12_buy 164 = .ok (.aload_n 0, 1) := by decide +kernel
theorem dX12_buy_165 : decode cX12_buy 165 = .ok (.getfield 116, 3) := by decide +kernel
theorem dX12_buy_168 : decode cX12_buy 168 = .ok (.aload_n 0, 1) := by decide +kernel
theorem dX12_buy_169 : decode cX12_buy 169 = .ok (.getfield 337, 3) := by decide +kernel
theorem dX12_buy_172 : decode cX12_buy 172 = .ok (.aload_n 0, 1) := by decide +kernel
theorem dX12_buy_173 : decode cX12_buy 173 = .ok (.getfield 37, 3) := by decide +kernel
theorem dX12_buy_176 : decode cX12_buy 176 = .ok (.bipush 10, 2) := by decide +kernel
theorem dX12_buy_178 : decode cX12_buy 178 = .ok (.iload_n 1, 1) := by decide +kernel
theorem dX12_buy_179 : decode cX12_buy 179 = .ok (.imul, 1) := by decide +kernel
theorem dX12_buy_180 : decode cX12_buy 180 = .ok (.iload_n 2, 1) := by decide +kernel
theorem dX12_buy_181 : decode cX12_buy 181 = .ok (.iadd, 1) := by decide +kernel
theorem dX12_buy_182 : decode cX12_buy 182 = .ok (.iaload, 1) := by decide +kernel
theorem dX12_buy_183 : decode cX12_buy 183 = .ok (.iastore, 1) := by decide +kernel
theorem dX12_buy_184 : decode cX12_buy 184 = .ok (.aload_n 0, 1) := by decide +kernel
theorem dX12_buy_185 : decode cX12_buy 185 = .ok (.getfield 119, 3) := by decide +kernel
theorem dX12_buy_188 : decode cX12_buy 188 = .ok (.aload_n 0, 1) := by decide +kernel
theorem dX12_buy_189 : decode cX12_buy 189 = .ok (.getfield 337, 3) := by decide +kernel
theorem dX12_buy_192 : decode cX12_buy 192 = .ok (.aload_n 0, 1) := by decide +kernel
theorem dX12_buy_193 : decode cX12_buy 193 = .ok (.getfield 34, 3) := by decide +kernel
theorem dX12_buy_196 : decode cX12_buy 196 = .ok (.aload_n 0, 1) := by decide +kernel
theorem dX12_buy_197 : decode cX12_buy 197 = .ok (.invokevirtual 230, 3) := by decide +kernel
theorem dX12_buy_200 : decode cX12_buy 200 = .ok (.iaload, 1) := by decide +kernel
theorem dX12_buy_201 : decode cX12_buy 201 = .ok (.iastore, 1) := by decide +kernel
theorem dX12_buy_202 : decode cX12_buy 202 = .ok (.aload_n 0, 1) := by decide +kernel
theorem dX12_buy_203 : decode cX12_buy 203 = .ok (.getfield 122, 3) := by decide +kernel
theorem dX12_buy_206 : decode cX12_buy 206 = .ok (.aload_n 0, 1) := by decide +kernel
theorem dX12_buy_207 : decode cX12_buy 207 = .ok (.getfield 337, 3) := by decide +kernel
theorem dX12_buy_210 : decode cX12_buy 210 = .ok (.iload_n 3, 1) := by decide +kernel
theorem dX12_buy_211 : decode cX12_buy 211 = .ok (.iastore, 1) := by decide +kernel
theorem dX12_buy_212 : decode cX12_buy 212 = .ok (.aload_n 0, 1) := by decide +kernel
theorem dX12_buy_213 : decode cX12_buy 213 = .ok (.getfield 125, 3) := by decide +kernel
theorem dX12_buy_216 : decode cX12_buy 216 = .ok (.aload_n 0, 1) := by decide +kernel
theorem dX12_buy_217 : decode cX12_buy 217 = .ok (.getfield 337, 3) := by decide +kernel
theorem dX12_buy_220 : decode cX12_buy 220 = .ok (.iload_n 3, 1) := by decide +kernel
theorem dX12_buy_221 : decode cX12_buy 221 = .ok (.iload 4, 2) := by decide +kernel
theorem dX12_buy_223 : decode cX12_buy 223 = .ok (.isub, 1) := by decide +kernel
theorem dX12_buy_224 : decode cX12_buy 224 = .ok (.iastore, 1) := by decide +kernel
theorem dX12_buy_225 : decode cX12_buy 225 = .ok (.aload_n 0, 1) := by decide +kernel
theorem dX12_buy_226 : decode cX12_buy 226 = .ok (.dup, 1) := by decide +kernel
theorem dX12_buy_227 : decode cX12_buy 227 = .ok (.getfield 337, 3) := by decide +kernel
theorem dX12_buy_230 : decode cX12_buy 230 = .ok (.iconst 1, 1) := by decide +kernel
theorem dX12_buy_231 : decode cX12_buy 231 = .ok (.iadd, 1) := by decide +kernel
theorem dX12_buy_232 : decode cX12_buy 232 = .ok (.putfield 337, 3) := by decide +kernel
theorem dX12_buy_235 : decode cX12_buy 235 = .ok (.aload_n 0, 1) := by decide +kernel
theorem dX12_buy_236 : decode cX12_buy 236 = .ok (.getfield 16, 3) := by decide +kernel
theorem dX12_buy_239 : decode cX12_buy 239 = .ok (.iload_n 1, 1) := by decide +kernel
theorem dX12_buy_240 : decode cX12_buy 240 = .ok (.dup2, 1) := by decide +kernel
theorem dX12_buy_241 : decode cX12_buy 241 = .ok (.iaload, 1) := by decide +kernel
theorem dX12_buy_242 : decode cX12_buy 242 = .ok (.iload_n 3, 1) := by decide +kernel
theorem dX12_buy_243 : decode cX12_buy 243 = .ok (.iload 4, 2) := by decide +kernel
theorem dX12_buy_245 : decode cX12_buy 245 = .ok (.isub, 1) := by decide +kernel
theorem dX12_buy_246 : decode cX12_buy 246 = .ok (.aload_n 0, 1) := by decide +kernel
theorem dX12_buy_247 : decode cX12_buy 247 = .ok (.iload_n 2, 1) := by decide +kernel
theorem dX12_buy_248 : decode cX12_buy 248 = .ok (.aload_n 0, 1) := by decide +kernel
theorem dX12_buy_249 : decode cX12_buy 249 = .ok (.getfield 37, 3) := by decide +kernel
theorem dX12_buy_252 : decode cX12_buy 252 = .ok (.bipush 10, 2) := by decide +kernel
theorem dX12_buy_254 : decode cX12_buy 254 = .ok (.iload_n 1, 1) := by decide +kernel
theorem dX12_buy_255 : decode cX12_buy 255 = .ok (.imul, 1) := by decide +kernel
theorem dX12_buy_256 : decode cX12_buy 256 = .ok (.iload_n 2, 1) := by decide +kernel
theorem dX12_buy_257 : decode cX12_buy 257 = .ok (.iadd, 1) := by decide +kernel
theorem dX12_buy_258 : decode cX12_buy 258 = .ok (.iaload, 1) := by decide +kernel
theorem dX12_buy_259 : decode cX12_buy 259 = .ok (.invokevirtual 216, 3) := by decide +kernel
theorem dX12_buy_262 : decode cX12_buy 262 = .ok (.imul, 1) := by decide +kernel
theorem dX12_buy_263 : decode cX12_buy 263 = .ok (.iadd, 1) := by decide +kernel
theorem dX12_buy_264 : decode cX12_buy 264 = .ok (.iastore, 1) := by decide +kernel
theorem dX12_buy_265 : decode cX12_buy 265 = .ok (.iload_n 3, 1) := by decide +kernel
theorem dX12_buy_266 : decode cX12_buy 266 = .ok (.iload 4, 2) := by decide +kernel
theorem dX12_buy_268 : decode cX12_buy 268 = .ok (.isub, 1) := by decide +kernel
theorem dX12_buy_269 : decode cX12_buy 269 = .ok (.ireturn, 1) := by decide +kernel
theorem dX12_foretoldFor_0 : decode cX12_foretoldFor 0 = .ok (.iconst 0, 1) := by decide +kernel
theorem dX12_foretoldFor_1 : decode cX12_foretoldFor 1 = .ok (.istore 7, 2) := by decide +kernel
theorem dX12_foretoldFor_3 : decode cX12_foretoldFor 3 = .ok (.iload 7, 2) := by decide +kernel
theorem dX12_foretoldFor_5 : decode cX12_foretoldFor 5 = .ok (.iconst 3, 1) := by decide +kernel
theorem dX12_foretoldFor_6 : decode cX12_foretoldFor 6 = .ok (.if_icmp .ge 170, 3) := by decide +kernel
theorem dX12_foretoldFor_9 : decode cX12_foretoldFor 9 = .ok (.iconst 0, 1) := by decide +kernel
theorem dX12_foretoldFor_10 : decode cX12_foretoldFor 10 = .ok (.istore 8, 2) := by decide +kernel
theorem dX12_foretoldFor_12 : decode cX12_foretoldFor 12 = .ok (.iconst 0, 1) := by decide +kernel
theorem dX12_foretoldFor_13 : decode cX12_foretoldFor 13 = .ok (.istore 9, 2) := by decide +kernel
theorem dX12_foretoldFor_15 : decode cX12_foretoldFor 15 = .ok (.iconst 0, 1) := by decide +kernel
theorem dX12_foretoldFor_16 : decode cX12_foretoldFor 16 = .ok (.istore 10, 2) := by decide +kernel
theorem dX12_foretoldFor_18 : decode cX12_foretoldFor 18 = .ok (.iload 10, 2) := by decide +kernel
theorem dX12_foretoldFor_20 : decode cX12_foretoldFor 20 = .ok (.aload_n 0, 1) := by decide +kernel
theorem dX12_foretoldFor_21 : decode cX12_foretoldFor 21 = .ok (.getfield 337, 3) := by decide +kernel
theorem dX12_foretoldFor_24 : decode cX12_foretoldFor 24 = .ok (.if_icmp .ge 116, 3) := by decide +kernel
theorem dX12_foretoldFor_27 : decode cX12_foretoldFor 27 = .ok (.aload_n 0, 1) := by decide +kernel
theorem dX12_foretoldFor_28 : decode cX12_foretoldFor 28 = .ok (.getfield 110, 3) := by decide +kernel
theorem dX12_foretoldFor_31 : decode cX12_foretoldFor 31 = .ok (.iload 10, 2) := by decide +kernel
theorem dX12_foretoldFor_33 : decode cX12_foretoldFor 33 = .ok (.iaload, 1) := by decide +kernel
theorem dX12_foretoldFor_34 : decode cX12_foretoldFor 34 = .ok (.iload_n 2, 1) := by decide +kernel
theorem dX12_foretoldFor_35 : decode cX12_foretoldFor 35 = .ok (.if_icmp .ne 99, 3) := by decide +kernel
theorem dX12_foretoldFor_38 : decode cX12_foretoldFor 38 = .ok (.aload_n 0, 1) := by decide +kernel
theorem dX12_foretoldFor_39 : decode cX12_foretoldFor 39 = .ok (.getfield 113, 3) := by decide +kernel
theorem dX12_foretoldFor_42 : decode cX12_foretoldFor 42 = .ok (.iload 10, 2) := by decide +kernel
theorem dX12_foretoldFor_44 : decode cX12_foretoldFor 44 = .ok (.iaload, 1) := by decide +kernel
theorem dX12_foretoldFor_45 : decode cX12_foretoldFor 45 = .ok (.bipush 24, 2) := by decide +kernel
theorem dX12_foretoldFor_47 : decode cX12_foretoldFor 47 = .ok (.irem, 1) := by decide +kernel
theorem dX12_foretoldFor_48 : decode cX12_foretoldFor 48 = .ok (.iload_n 3, 1) := by decide +kernel
theorem dX12_foretoldFor_49 : decode cX12_foretoldFor 49 = .ok (.if_icmp .ne 85, 3) := by decide +kernel
theorem dX12_foretoldFor_52 : decode cX12_foretoldFor 52 = .ok (.aload_n 0, 1) := by decide +kernel
theorem dX12_foretoldFor_53 : decode cX12_foretoldFor 53 = .ok (.getfield 116, 3) := by decide +kernel
theorem dX12_foretoldFor_56 : decode cX12_foretoldFor 56 = .ok (.iload 10, 2) := by decide +kernel
theorem dX12_foretoldFor_58 : decode cX12_foretoldFor 58 = .ok (.iaload, 1) := by decide +kernel
theorem dX12_foretoldFor_59 : decode cX12_foretoldFor 59 = .ok (.iload 4, 2) := by decide +kernel
theorem dX12_foretoldFor_61 : decode cX12_foretoldFor 61 = .ok (.if_icmp .ne 73, 3) := by decide +kernel
theorem dX12_foretoldFor_64 : decode cX12_foretoldFor 64 = .ok (.aload_n 0, 1) := by decide +kernel
theorem dX12_foretoldFor_65 : decode cX12_foretoldFor 65 = .ok (.getfield 113, 3) := by decide +kernel
theorem dX12_foretoldFor_68 : decode cX12_foretoldFor 68 = .ok (.iload 10, 2) := by decide +kernel
theorem dX12_foretoldFor_70 : decode cX12_foretoldFor 70 = .ok (.iaload, 1) := by decide +kernel
theorem dX12_foretoldFor_71 : decode cX12_foretoldFor 71 = .ok (.bipush 24, 2) := by decide +kernel
theorem dX12_foretoldFor_73 : decode cX12_foretoldFor 73 = .ok (.idiv, 1) := by decide +kernel
theorem dX12_foretoldFor_74 : decode cX12_foretoldFor 74 = .ok (.iload 6, 2) := by decide +kernel
theorem dX12_foretoldFor_76 : decode cX12_foretoldFor 76 = .ok (.if_icmp .le 6, 3) := by decide +kernel
theorem dX12_foretoldFor_79 : decode cX12_foretoldFor 79 = .ok (.goto 55, 3) := by decide +kernel
theorem dX12_foretoldFor_82 : decode cX12_foretoldFor 82 = .ok (.iload 7, 2) := by decide +kernel
theorem dX12_foretoldFor_84 : decode cX12_foretoldFor 84 = .ok (.iconst 2, 1) := by decide +kernel
theorem dX12_foretoldFor_85 : decode cX12_foretoldFor 85 = .ok (.if_icmp .ge 14, 3) := by decide +kernel
theorem dX12_foretoldFor_88 : decode cX12_foretoldFor 88 = .ok (.aload_n 0, 1) := by decide +kernel
theorem dX12_foretoldFor_89 : decode cX12_foretoldFor 89 = .ok (.getfield 107, 3) := by decide +kernel
theorem dX12_foretoldFor_92 : decode cX12_foretoldFor 92 = .ok (.iload 10, 2) := by decide +kernel
theorem dX12_foretoldFor_94 : decode cX12_foretoldFor 94 = .ok (.iaload, 1) := by decide +kernel
theorem dX12_foretoldFor_95 : decode cX12_foretoldFor 95 = .ok (.iload_n 1, 1) := by decide +kernel
theorem dX12_foretoldFor_96 : decode cX12_foretoldFor 96 = .ok (.if_icmp .ne 38, 3) := by decide +kernel
theorem dX12_foretoldFor_99 : decode cX12_foretoldFor 99 = .ok (.iload 7, 2) := by decide +kernel
theorem dX12_foretoldFor_101 : decode cX12_foretoldFor 101 = .ok (.ifCond .ne 18, 3) := by decide +kernel
theorem dX12_foretoldFor_104 : decode cX12_foretoldFor 104 = .ok (.aload_n 0, 1) := by decide +kernel
theorem dX12_foretoldFor_105 : decode cX12_foretoldFor 105 = .ok (.getfield 119, 3) := by decide +kernel
theorem dX12_foretoldFor_108 : decode cX12_foretoldFor 108 = .ok (.iload 10, 2) := by decide +kernel
theorem dX12_foretoldFor_110 : decode cX12_foretoldFor 110 = .ok (.iaload, 1) := by decide +kernel
theorem dX12_foretoldFor_111 : decode cX12_foretoldFor 111 = .ok (.iload 5, 2) := by decide +kernel
theorem dX12_foretoldFor_113 : decode cX12_foretoldFor 113 = .ok (.if_icmp .eq 6, 3) := by decide +kernel
theorem dX12_foretoldFor_116 : decode cX12_foretoldFor 116 = .ok (.goto 18, 3) := by decide +kernel
theorem dX12_foretoldFor_119 : decode cX12_foretoldFor 119 = .ok (.iinc 8 1, 3) := by decide +kernel
theorem dX12_foretoldFor_122 : decode cX12_foretoldFor 122 = .ok (.iload 9, 2) := by decide +kernel
theorem dX12_foretoldFor_124 : decode cX12_foretoldFor 124 = .ok (.aload_n 0, 1) := by decide +kernel
theorem dX12_foretoldFor_125 : decode cX12_foretoldFor 125 = .ok (.getfield 122, 3) := by decide +kernel
theorem dX12_foretoldFor_128 : decode cX12_foretoldFor 128 = .ok (.iload 10, 2) := by decide +kernel
theorem dX12_foretoldFor_130 : decode cX12_foretoldFor 130 = .ok (.iaload, 1) := by decide +kernel
theorem dX12_foretoldFor_131 : decode cX12_foretoldFor 131 = .ok (.iadd, 1) := by decide +kernel
theorem dX12_foretoldFor_132 : decode cX12_foretoldFor 132 = .ok (.istore 9, 2) := by decide +kernel
theorem dX12_foretoldFor_134 : decode cX12_foretoldFor 134 = .ok (.iinc 10 1, 3) := by decide +kernel
theorem dX12_foretoldFor_137 : decode cX12_foretoldFor 137 = .ok (.goto (-119), 3) := by decide +kernel
theorem dX12_foretoldFor_140 : decode cX12_foretoldFor 140 = .ok (.iload 8, 2) := by decide +kernel
theorem dX12_foretoldFor_142 : decode cX12_foretoldFor 142 = .ok (.iconst 3, 1) := by decide +kernel
theorem dX12_foretoldFor_143 : decode cX12_foretoldFor 143 = .ok (.if_icmp .ge 14, 3) := by decide +kernel
theorem dX12_foretoldFor_146 : decode cX12_foretoldFor 146 = .ok (.iload 7, 2) := by decide +kernel
theorem dX12_foretoldFor_148 : decode cX12_foretoldFor 148 = .ok (.iconst 2, 1) := by decide +kernel
theorem dX12_foretoldFor_149 : decode cX12_foretoldFor 149 = .ok (.if_icmp .ne 21, 3) := by decide +kernel
theorem dX12_foretoldFor_152 : decode cX12_foretoldFor 152 = .ok (.iload 8, 2) := by decide +kernel
theorem dX12_foretoldFor_154 : decode cX12_foretoldFor 154 = .ok (.ifCond .le 16, 3) := by decide +kernel
theorem dX12_foretoldFor_157 : decode cX12_foretoldFor 157 = .ok (.iconst 2, 1) := by decide +kernel
theorem dX12_foretoldFor_158 : decode cX12_foretoldFor 158 = .ok (.iload 9, 2) := by decide +kernel
theorem dX12_foretoldFor_160 : decode cX12_foretoldFor 160 = .ok (.imul, 1) := by decide +kernel
theorem dX12_foretoldFor_161 : decode cX12_foretoldFor 161 = .ok (.iload 8, 2) := by decide +kernel
theorem dX12_foretoldFor_163 : decode cX12_foretoldFor 163 = .ok (.iadd, 1) := by decide +kernel
theorem dX12_foretoldFor_164 : decode cX12_foretoldFor 164 = .ok (.iconst 2, 1) := by decide +kernel
theorem dX12_foretoldFor_165 : decode cX12_foretoldFor 165 = .ok (.iload 8, 2) := by decide +kernel
theorem dX12_foretoldFor_167 : decode cX12_foretoldFor 167 = .ok (.imul, 1) := by decide +kernel
theorem dX12_foretoldFor_168 : decode cX12_foretoldFor 168 = .ok (.idiv, 1) := by decide +kernel
theorem dX12_foretoldFor_169 : decode cX12_foretoldFor 169 = .ok (.ireturn, 1) := by decide +kernel
theorem dX12_foretoldFor_170 : decode cX12_foretoldFor 170 = .ok (.iinc 7 1, 3) := by decide +kernel
theorem dX12_foretoldFor_173 : decode cX12_foretoldFor 173 = .ok (.goto (-170), 3) := by decide +kernel
theorem dX12_foretoldFor_176 : decode cX12_foretoldFor 176 = .ok (.iconst 0, 1) := by decide +kernel
theorem dX12_foretoldFor_177 : decode cX12_foretoldFor 177 = .ok (.ireturn, 1) := by decide +kernel
theorem dX12_foretold_0 : decode cX12_foretold 0 = .ok (.aload_n 0, 1) := by decide +kernel
theorem dX12_foretold_1 : decode cX12_foretold 1 = .ok (.iload_n 1, 1) := by decide +kernel
theorem dX12_foretold_2 : decode cX12_foretold 2 = .ok (.iload_n 2, 1) := by decide +kernel
theorem dX12_foretold_3 : decode cX12_foretold 3 = .ok (.invokevirtual 223, 3) := by decide +kernel
theorem dX12_foretold_6 : decode cX12_foretold 6 = .ok (.ifCond .eq 43, 3) := by decide +kernel
theorem dX12_foretold_9 : decode cX12_foretold 9 = .ok (.iload_n 3, 1) := by decide +kernel
theorem dX12_foretold_10 : decode cX12_foretold 10 = .ok (.sipush 600, 3) := by decide +kernel
theorem dX12_foretold_13 : decode cX12_foretold 13 = .ok (.sipush 1932, 3) := by decide +kernel
theorem dX12_foretold_16 : decode cX12_foretold 16 = .ok (.invokestatic 196, 3) := by decide +kernel
theorem dX12_foretold_19 : decode cX12_foretold 19 = .ok (.ifCond .eq 30, 3) := by decide +kernel
theorem dX12_foretold_22 : decode cX12_foretold 22 = .ok (.iload_n 3, 1) := by decide +kernel
theorem dX12_foretold_23 : decode cX12_foretold 23 = .ok (.bipush 10, 2) := by decide +kernel
theorem dX12_foretold_25 : decode cX12_foretold 25 = .ok (.idiv, 1) := by decide +kernel
theorem dX12_foretold_26 : decode cX12_foretold 26 = .ok (.bipush 10, 2) := by decide +kernel
theorem dX12_foretold_28 : decode cX12_foretold 28 = .ok (.irem, 1) := by decide +kernel
theorem dX12_foretold_29 : decode cX12_foretold 29 = .ok (.iconst 3, 1) := by decide +kernel
theorem dX12_foretold_30 : decode cX12_foretold 30 = .ok (.if_icmp .gt 19, 3) := by decide +kernel
theorem dX12_foretold_33 : decode cX12_foretold 33 = .ok (.iload_n 3, 1) := by decide +kernel
theorem dX12_foretold_34 : decode cX12_foretold 34 = .ok (.bipush 10, 2) := by decide +kernel
theorem dX12_foretold_36 : decode cX12_foretold 36 = .ok (.irem, 1) := by decide +kernel
theorem dX12_foretold_37 : decode cX12_foretold 37 = .ok (.iconst 2, 1) := by decide +kernel
theorem dX12_foretold_38 : decode cX12_foretold 38 = .ok (.if_icmp .gt 11, 3) := by decide +kernel
theorem dX12_foretold_41 : decode cX12_foretold 41 = .ok (.iload 4, 2) := by decide +kernel
theorem dX12_foretold_43 : decode cX12_foretold 43 = .ok (.invokestatic 220, 3) := by decide +kernel
theorem dX12_foretold_46 : decode cX12_foretold 46 = .ok (.ifCond .ne 5, 3) := by decide +kernel
theorem dX12_foretold_49 : decode cX12_foretold 49 = .ok (.iconst (-1), 1) := by decide +kernel
theorem dX12_foretold_50 : decode cX12_foretold 50 = .ok (.ireturn, 1) := by decide +kernel
theorem dX12_foretold_51 : decode cX12_foretold 51 = .ok (.aload_n 0, 1) := by decide +kernel
theorem dX12_foretold_52 : decode cX12_foretold 52 = .ok (.iload_n 1, 1) := by decide +kernel
theorem dX12_foretold_53 : decode cX12_foretold 53 = .ok (.iload_n 2, 1) := by decide +kernel
theorem dX12_foretold_54 : decode cX12_foretold 54 = .ok (.iload_n 3, 1) := by decide +kernel
theorem dX12_foretold_55 : decode cX12_foretold 55 = .ok (.bipush 100, 2) := by decide +kernel
theorem dX12_foretold_57 : decode cX12_foretold 57 = .ok (.idiv, 1) := by decide +kernel
theorem dX12_foretold_58 : decode cX12_foretold 58 = .ok (.iload_n 3, 1) := by decide +kernel
theorem dX12_foretold_59 : decode cX12_foretold 59 = .ok (.bipush 10, 2) := by decide +kernel
theorem dX12_foretold_61 : decode cX12_foretold 61 = .ok (.idiv, 1) := by decide +kernel
theorem dX12_foretold_62 : decode cX12_foretold 62 = .ok (.bipush 10, 2) := by decide +kernel
theorem dX12_foretold_64 : decode cX12_foretold 64 = .ok (.irem, 1) := by decide +kernel
theorem dX12_foretold_65 : decode cX12_foretold 65 = .ok (.iload_n 3, 1) := by decide +kernel
theorem dX12_foretold_66 : decode cX12_foretold 66 = .ok (.bipush 10, 2) := by decide +kernel
theorem dX12_foretold_68 : decode cX12_foretold 68 = .ok (.irem, 1) := by decide +kernel
theorem dX12_foretold_69 : decode cX12_foretold 69 = .ok (.iload 4, 2) := by decide +kernel
theorem dX12_foretold_71 : decode cX12_foretold 71 = .ok (.invokevirtual 350, 3) := by decide +kernel
theorem dX12_foretold_74 : decode cX12_foretold 74 = .ok (.ireturn, 1) := by decide +kernel
theorem dX12_plan_0 : decode cX12_plan 0 = .ok (.aload_n 0, 1) := by decide +kernel
theorem dX12_plan_1 : decode cX12_plan 1 = .ok (.iload_n 1, 1) := by decide +kernel
theorem dX12_plan_2 : decode cX12_plan 2 = .ok (.iload_n 2, 1) := by decide +kernel
theorem dX12_plan_3 : decode cX12_plan 3 = .ok (.invokevirtual 223, 3) := by decide +kernel
theorem dX12_plan_6 : decode cX12_plan 6 = .ok (.ifCond .eq 19, 3) := by decide +kernel
theorem dX12_plan_9 : decode cX12_plan 9 = .ok (.aload_n 0, 1) := by decide +kernel
theorem dX12_plan_10 : decode cX12_plan 10 = .ok (.invokevirtual 340, 3) := by decide +kernel
theorem dX12_plan_13 : decode cX12_plan 13 = .ok (.ifCond .eq 12, 3) := by decide +kernel
theorem dX12_plan_16 : decode cX12_plan 16 = .ok (.aload_n 0, 1) := by decide +kernel
theorem dX12_plan_17 : decode cX12_plan 17 = .ok (.iload_n 1, 1) := by decide +kernel
theorem dX12_plan_18 : decode cX12_plan 18 = .ok (.iload_n 2, 1) := by decide +kernel
theorem dX12_plan_19 : decode cX12_plan 19 = .ok (.invokevirtual 344, 3) := by decide +kernel
theorem dX12_plan_22 : decode cX12_plan 22 = .ok (.ifCond .eq 6, 3) := by decide +kernel
theorem dX12_plan_25 : decode cX12_plan 25 = .ok (.ldc 244, 2) := by decide +kernel
theorem dX12_plan_27 : decode cX12_plan 27 = .ok (.ireturn, 1) := by decide +kernel
theorem dX12_plan_28 : decode cX12_plan 28 = .ok (.aload_n 0, 1) := by decide +kernel
theorem dX12_plan_29 : decode cX12_plan 29 = .ok (.invokevirtual 315, 3) := by decide +kernel
theorem dX12_plan_32 : decode cX12_plan 32 = .ok (.istore_n 3, 1) := by decide +kernel
theorem dX12_plan_33 : decode cX12_plan 33 = .ok (.iload_n 3, 1) := by decide +kernel
theorem dX12_plan_34 : decode cX12_plan 34 = .ok (.istore 4, 2) := by decide +kernel
theorem dX12_plan_36 : decode cX12_plan 36 = .ok (.iload 4, 2) := by decide +kernel
theorem dX12_plan_38 : decode cX12_plan 38 = .ok (.bipush 19, 2) := by decide +kernel
theorem dX12_plan_40 : decode cX12_plan 40 = .ok (.if_icmp .gt 59, 3) := by decide +kernel
theorem dX12_plan_43 : decode cX12_plan 43 = .ok (.iconst 0, 1) := by decide +kernel
theorem dX12_plan_44 : decode cX12_plan 44 = .ok (.istore 5, 2) := by decide +kernel
theorem dX12_plan_46 : decode cX12_plan 46 = .ok (.iload 5, 2) := by decide +kernel
theorem dX12_plan_48 : decode cX12_plan 48 = .ok (.iconst 4, 1) := by decide +kernel
theorem dX12_plan_49 : decode cX12_plan 49 = .ok (.if_icmp .ge 44, 3) := by decide +kernel
theorem dX12_plan_52 : decode cX12_plan 52 = .ok (.aload_n 0, 1) := by decide +kernel
theorem dX12_plan_53 : decode cX12_plan 53 = .ok (.getfield 134, 3) := by decide +kernel
theorem dX12_plan_56 : decode cX12_plan 56 = .ok (.iconst 4, 1) := by decide +kernel
theorem dX12_plan_57 : decode cX12_plan 57 = .ok (.iload 4, 2) := by decide +kernel
theorem dX12_plan_59 : decode cX12_plan 59 = .ok (.imul, 1) := by decide +kernel
theorem dX12_plan_60 : decode cX12_plan 60 = .ok (.iload 5, 2) := by decide +kernel
theorem dX12_plan_62 : decode cX12_plan 62 = .ok (.iadd, 1) := by decide +kernel
theorem dX12_plan_63 : decode cX12_plan 63 = .ok (.aload_n 0, 1) := by decide +kernel
theorem dX12_plan_64 : decode cX12_plan 64 = .ok (.iload_n 1, 1) := by decide +kernel
theorem dX12_plan_65 : decode cX12_plan 65 = .ok (.iload_n 2, 1) := by decide +kernel
theorem dX12_plan_66 : decode cX12_plan 66 = .ok (.iload 4, 2) := by decide +kernel
theorem dX12_plan_68 : decode cX12_plan 68 = .ok (.iload 5, 2) := by decide +kernel
theorem dX12_plan_70 : decode cX12_plan 70 = .ok (.aload_n 0, 1) := by decide +kernel
theorem dX12_plan_71 : decode cX12_plan 71 = .ok (.getfield 34, 3) := by decide +kernel
theorem dX12_plan_74 : decode cX12_plan 74 = .ok (.aload_n 0, 1) := by decide +kernel
theorem dX12_plan_75 : decode cX12_plan 75 = .ok (.invokevirtual 230, 3) := by decide +kernel
theorem dX12_plan_78 : decode cX12_plan 78 = .ok (.iaload, 1) := by decide +kernel
theorem dX12_plan_79 : decode cX12_plan 79 = .ok (.aload_n 0, 1) := by decide +kernel
theorem dX12_plan_80 : decode cX12_plan 80 = .ok (.invokevirtual 230, 3) := by decide +kernel
theorem dX12_plan_83 : decode cX12_plan 83 = .ok (.invokevirtual 350, 3) := by decide +kernel
theorem dX12_plan_86 : decode cX12_plan 86 = .ok (.iastore, 1) := by decide +kernel
theorem dX12_plan_87 : decode cX12_plan 87 = .ok (.iinc 5 1, 3) := by decide +kernel
theorem dX12_plan_90 : decode cX12_plan 90 = .ok (.goto (-44), 3) := by decide +kernel
theorem dX12_plan_93 : decode cX12_plan 93 = .ok (.iinc 4 1, 3) := by decide +kernel
theorem dX12_plan_96 : decode cX12_plan 96 = .ok (.goto (-60), 3) := by decide +kernel
theorem dX12_plan_99 : decode cX12_plan 99 = .ok (.aload_n 0, 1) := by decide +kernel
theorem dX12_plan_100 : decode cX12_plan 100 = .ok (.iload_n 1, 1) := by decide +kernel
theorem dX12_plan_101 : decode cX12_plan 101 = .ok (.iload_n 2, 1) := by decide +kernel
theorem dX12_plan_102 : decode cX12_plan 102 = .ok (.iconst 1, 1) := by decide +kernel
theorem dX12_plan_103 : decode cX12_plan 103 = .ok (.invokevirtual 330, 3) := by decide +kernel
theorem dX12_plan_106 : decode cX12_plan 106 = .ok (.istore 4, 2) := by decide +kernel
theorem dX12_plan_108 : decode cX12_plan 108 = .ok (.aload_n 0, 1) := by decide +kernel
theorem dX12_plan_109 : decode cX12_plan 109 = .ok (.getfield 37, 3) := by decide +kernel
theorem dX12_plan_112 : decode cX12_plan 112 = .ok (.bipush 10, 2) := by decide +kernel
theorem dX12_plan_114 : decode cX12_plan 114 = .ok (.iload_n 1, 1) := by decide +kernel
theorem dX12_plan_115 : decode cX12_plan 115 = .ok (.imul, 1) := by decide +kernel
theorem dX12_plan_116 : decode cX12_plan 116 = .ok (.iload_n 2, 1) := by decide +kernel
theorem dX12_plan_117 : decode cX12_plan 117 = .ok (.iadd, 1) := by decide +kernel
theorem dX12_plan_118 : decode cX12_plan 118 = .ok (.iaload, 1) := by decide +kernel
theorem dX12_plan_119 : decode cX12_plan 119 = .ok (.istore 5, 2) := by decide +kernel
theorem dX12_plan_121 : decode cX12_plan 121 = .ok (.iload_n 3, 1) := by decide +kernel
theorem dX12_plan_122 : decode cX12_plan 122 = .ok (.istore 6, 2) := by decide +kernel
theorem dX12_plan_124 : decode cX12_plan 124 = .ok (.iload 6, 2) := by decide +kernel
theorem dX12_plan_126 : decode cX12_plan 126 = .ok (.bipush 19, 2) := by decide +kernel
theorem dX12_plan_128 : decode cX12_plan 128 = .ok (.if_icmp .gt 18, 3) := by decide +kernel
theorem dX12_plan_131 : decode cX12_plan 131 = .ok (.aload_n 0, 1) := by decide +kernel
theorem dX12_plan_132 : decode cX12_plan 132 = .ok (.getfield 128, 3) := by decide +kernel
theorem dX12_plan_135 : decode cX12_plan 135 = .ok (.iload 6, 2) := by decide +kernel
theorem dX12_plan_137 : decode cX12_plan 137 = .ok (.iload 5, 2) := by decide +kernel
theorem dX12_plan_139 : decode cX12_plan 139 = .ok (.iastore, 1) := by decide +kernel
theorem dX12_plan_140 : decode cX12_plan 140 = .ok (.iinc 6 1, 3) := by decide +kernel
theorem dX12_plan_143 : decode cX12_plan 143 = .ok (.goto (-19), 3) := by decide +kernel
theorem dX12_plan_146 : decode cX12_plan 146 = .ok (.lconst 0, 1) := by decide +kernel
theorem dX12_plan_147 : decode cX12_plan 147 = .ok (.lstore 6, 2) := by decide +kernel
theorem dX12_plan_149 : decode cX12_plan 149 = .ok (.iconst 1, 1) := by decide +kernel
theorem dX12_plan_150 : decode cX12_plan 150 = .ok (.istore 8, 2) := by decide +kernel
theorem dX12_plan_152 : decode cX12_plan 152 = .ok (.bipush 19, 2) := by decide +kernel
theorem dX12_plan_154 : decode cX12_plan 154 = .ok (.istore 9, 2) := by decide +kernel
theorem dX12_plan_156 : decode cX12_plan 156 = .ok (.iload 9, 2) := by decide +kernel
theorem dX12_plan_158 : decode cX12_plan 158 = .ok (.iload_n 3, 1) := by decide +kernel
theorem dX12_plan_159 : decode cX12_plan 159 = .ok (.if_icmp .lt 254, 3) := by decide +kernel
theorem dX12_plan_162 : decode cX12_plan 162 = .ok (.iload 4, 2) := by decide +kernel
theorem dX12_plan_164 : decode cX12_plan 164 = .ok (.istore 10, 2) := by decide +kernel
theorem dX12_plan_166 : decode cX12_plan 166 = .ok (.lconst 0, 1) := by decide +kernel
theorem dX12_plan_167 : decode cX12_plan 167 = .ok (.lstore 11, 2) := by decide +kernel
theorem dX12_plan_169 : decode cX12_plan 169 = .ok (.iload_n 3, 1) := by decide +kernel
theorem dX12_plan_170 : decode cX12_plan 170 = .ok (.istore 13, 2) := by decide +kernel
theorem dX12_plan_172 : decode cX12_plan 172 = .ok (.iload 13, 2) := by decide +kernel
theorem dX12_plan_174 : decode cX12_plan 174 = .ok (.bipush 19, 2) := by decide +kernel
theorem dX12_plan_176 : decode cX12_plan 176 = .ok (.if_icmp .gt 84, 3) := by decide +kernel
theorem dX12_plan_179 : decode cX12_plan 179 = .ok (.aload_n 0, 1) := by decide +kernel
theorem dX12_plan_180 : decode cX12_plan 180 = .ok (.getfield 134, 3) := by decide +kernel
theorem dX12_plan_183 : decode cX12_plan 183 = .ok (.iconst 4, 1) := by decide +kernel
theorem dX12_plan_184 : decode cX12_plan 184 = .ok (.iload 13, 2) := by decide +kernel
theorem dX12_plan_186 : decode cX12_plan 186 = .ok (.imul, 1) := by decide +kernel
theorem dX12_plan_187 : decode cX12_plan 187 = .ok (.aload_n 0, 1) := by decide +kernel
theorem dX12_plan_188 : decode cX12_plan 188 = .ok (.getfield 128, 3) := by decide +kernel
theorem dX12_plan_191 : decode cX12_plan 191 = .ok (.iload 13, 2) := by decide +kernel
theorem dX12_plan_193 : decode cX12_plan 193 = .ok (.iaload, 1) := by decide +kernel
theorem dX12_plan_194 : decode cX12_plan 194 = .ok (.iadd, 1) := by decide +kernel
theorem dX12_plan_195 : decode cX12_plan 195 = .ok (.iaload, 1) := by decide +kernel
theorem dX12_plan_196 : decode cX12_plan 196 = .ok (.iload 10, 2) := by decide +kernel
theorem dX12_plan_198 : decode cX12_plan 198 = .ok (.if_icmp .ge 23, 3) := by decide +kernel
theorem dX12_plan_201 : decode cX12_plan 201 = .ok (.aload_n 0, 1) := by decide +kernel
theorem dX12_plan_202 : decode cX12_plan 202 = .ok (.getfield 134, 3) := by decide +kernel
theorem dX12_plan_205 : decode cX12_plan 205 = .ok (.iconst 4, 1) := by decide +kernel
theorem dX12_plan_206 : decode cX12_plan 206 = .ok (.iload 13, 2) := by decide +kernel
theorem dX12_plan_208 : decode cX12_plan 208 = .ok (.imul, 1) := by decide +kernel
theorem dX12_plan_209 : decode cX12_plan 209 = .ok (.aload_n 0, 1) := by decide +kernel
theorem dX12_plan_210 : decode cX12_plan 210 = .ok (.getfield 128, 3) := by decide +kernel
theorem dX12_plan_213 : decode cX12_plan 213 = .ok (.iload 13, 2) := by decide +kernel
theorem dX12_plan_215 : decode cX12_plan 215 = .ok (.iaload, 1) := by decide +kernel
theorem dX12_plan_216 : decode cX12_plan 216 = .ok (.iadd, 1) := by decide +kernel
theorem dX12_plan_217 : decode cX12_plan 217 = .ok (.iaload, 1) := by decide +kernel
theorem dX12_plan_218 : decode cX12_plan 218 = .ok (.goto 5, 3) := by decide +kernel
theorem dX12_plan_221 : decode cX12_plan 221 = .ok (.iload 10, 2) := by decide +kernel
theorem dX12_plan_223 : decode cX12_plan 223 = .ok (.istore 14, 2) := by decide +kernel
theorem dX12_plan_225 : decode cX12_plan 225 = .ok (.iload 10, 2) := by decide +kernel
theorem dX12_plan_227 : decode cX12_plan 227 = .ok (.iload 14, 2) := by decide +kernel
theorem dX12_plan_229 : decode cX12_plan 229 = .ok (.isub, 1) := by decide +kernel
theorem dX12_plan_230 : decode cX12_plan 230 = .ok (.istore 10, 2) := by decide +kernel
theorem dX12_plan_232 : decode cX12_plan 232 = .ok (.lload 11, 2) := by decide +kernel
theorem dX12_plan_234 : decode cX12_plan 234 = .ok (.iload 14, 2) := by decide +kernel
theorem dX12_plan_236 : decode cX12_plan 236 = .ok (.i2l, 1) := by decide +kernel
theorem dX12_plan_237 : decode cX12_plan 237 = .ok (.aload_n 0, 1) := by decide +kernel
theorem dX12_plan_238 : decode cX12_plan 238 = .ok (.iload_n 2, 1) := by decide +kernel
theorem dX12_plan_239 : decode cX12_plan 239 = .ok (.aload_n 0, 1) := by decide +kernel
theorem dX12_plan_240 : decode cX12_plan 240 = .ok (.getfield 128, 3) := by decide +kernel
theorem dX12_plan_243 : decode cX12_plan 243 = .ok (.iload 13, 2) := by decide +kernel
theorem dX12_plan_245 : decode cX12_plan 245 = .ok (.iaload, 1) := by decide +kernel
theorem dX12_plan_246 : decode cX12_plan 246 = .ok (.invokevirtual 216, 3) := by decide +kernel
theorem dX12_plan_249 : decode cX12_plan 249 = .ok (.i2l, 1) := by decide +kernel
theorem dX12_plan_250 : decode cX12_plan 250 = .ok (.lmul, 1) := by decide +kernel
theorem dX12_plan_251 : decode cX12_plan 251 = .ok (.ladd, 1) := by decide +kernel
theorem dX12_plan_252 : decode cX12_plan 252 = .ok (.lstore 11, 2) := by decide +kernel
theorem dX12_plan_254 : decode cX12_plan 254 = .ok (.iinc 13 1, 3) := by decide +kernel
theorem dX12_plan_257 : decode cX12_plan 257 = .ok (.goto (-85), 3) := by decide +kernel
theorem dX12_plan_260 : decode cX12_plan 260 = .ok (.lload 11, 2) := by decide +kernel
theorem dX12_plan_262 : decode cX12_plan 262 = .ok (.iload 10, 2) := by decide +kernel
theorem dX12_plan_264 : decode cX12_plan 264 = .ok (.i2l, 1) := by decide +kernel
theorem dX12_plan_265 : decode cX12_plan 265 = .ok (.aload_n 0, 1) := by decide +kernel
theorem dX12_plan_266 : decode cX12_plan 266 = .ok (.getfield 31, 3) := by decide +kernel
theorem dX12_plan_269 : decode cX12_plan 269 = .ok (.iload_n 2, 1) := by decide +kernel
theorem dX12_plan_270 : decode cX12_plan 270 = .ok (.iaload, 1) := by decide +kernel
theorem dX12_plan_271 : decode cX12_plan 271 = .ok (.i2l, 1) := by decide +kernel
theorem dX12_plan_272 : decode cX12_plan 272 = .ok (.lmul, 1) := by decide +kernel
theorem dX12_plan_273 : decode cX12_plan 273 = .ok (.lsub, 1) := by decide +kernel
theorem dX12_plan_274 : decode cX12_plan 274 = .ok (.lstore 11, 2) := by decide +kernel
theorem dX12_plan_276 : decode cX12_plan 276 = .ok (.iload 8, 2) := by decide +kernel
theorem dX12_plan_278 : decode cX12_plan 278 = .ok (.ifCond .ne 11, 3) := by decide +kernel
theorem dX12_plan_281 : decode cX12_plan 281 = .ok (.lload 11, 2) := by decide +kernel
theorem dX12_plan_283 : decode cX12_plan 283 = .ok (.lload 6, 2) := by decide +kernel
theorem dX12_plan_285 : decode cX12_plan 285 = .ok (.lcmp, 1) := by decide +kernel
theorem dX12_plan_286 : decode cX12_plan 286 = .ok (.ifCond .le 51, 3) := by decide +kernel
theorem dX12_plan_289 : decode cX12_plan 289 = .ok (.iconst 0, 1) := by decide +kernel
theorem dX12_plan_290 : decode cX12_plan 290 = .ok (.istore 8, 2) := by decide +kernel
theorem dX12_plan_292 : decode cX12_plan 292 = .ok (.lload 11, 2) := by decide +kernel
theorem dX12_plan_294 : decode cX12_plan 294 = .ok (.lstore 6, 2) := by decide +kernel
theorem dX12_plan_296 : decode cX12_plan 296 = .ok (.aload_n 0, 1) := by decide +kernel
theorem dX12_plan_297 : decode cX12_plan 297 = .ok (.iload_n 3, 1) := by decide +kernel
theorem dX12_plan_298 : decode cX12_plan 298 = .ok (.putfield 137, 3) := by decide +kernel
theorem dX12_plan_301 : decode cX12_plan 301 = .ok (.aload_n 0, 1) := by decide +kernel
theorem dX12_plan_302 : decode cX12_plan 302 = .ok (.iload 10, 2) := by decide +kernel
theorem dX12_plan_304 : decode cX12_plan 304 = .ok (.putfield 354, 3) := by decide +kernel
theorem dX12_plan_307 : decode cX12_plan 307 = .ok (.iload_n 3, 1) := by decide +kernel
theorem dX12_plan_308 : decode cX12_plan 308 = .ok (.istore 13, 2) := by decide +kernel
theorem dX12_plan_310 : decode cX12_plan 310 = .ok (.iload 13, 2) := by decide +kernel
theorem dX12_plan_312 : decode cX12_plan 312 = .ok (.bipush 19, 2) := by decide +kernel
theorem dX12_plan_314 : decode cX12_plan 314 = .ok (.if_icmp .gt 23, 3) := by decide +kernel
theorem dX12_plan_317 : decode cX12_plan 317 = .ok (.aload_n 0, 1) := by decide +kernel
theorem dX12_plan_318 : decode cX12_plan 318 = .ok (.getfield 131, 3) := by decide +kernel
theorem dX12_plan_321 : decode cX12_plan 321 = .ok (.iload 13, 2) := by decide +kernel
theorem dX12_plan_323 : decode cX12_plan 323 = .ok (.aload_n 0, 1) := by decide +kernel
theorem dX12_plan_324 : decode cX12_plan 324 = .ok (.getfield 128, 3) := by decide +kernel
theorem dX12_plan_327 : decode cX12_plan 327 = .ok (.iload 13, 2) := by decide +kernel
theorem dX12_plan_329 : decode cX12_plan 329 = .ok (.iaload, 1) := by decide +kernel
theorem dX12_plan_330 : decode cX12_plan 330 = .ok (.iastore, 1) := by decide +kernel
theorem dX12_plan_331 : decode cX12_plan 331 = .ok (.iinc 13 1, 3) := by decide +kernel
theorem dX12_plan_334 : decode cX12_plan 334 = .ok (.goto (-24), 3) := by decide +kernel
theorem dX12_plan_337 : decode cX12_plan 337 = .ok (.bipush 19, 2) := by decide +kernel
theorem dX12_plan_339 : decode cX12_plan 339 = .ok (.istore 9, 2) := by decide +kernel
theorem dX12_plan_341 : decode cX12_plan 341 = .ok (.iload 9, 2) := by decide +kernel
theorem dX12_plan_343 : decode cX12_plan 343 = .ok (.iload_n 3, 1) := by decide +kernel
theorem dX12_plan_344 : decode cX12_plan 344 = .ok (.if_icmp .lt 20, 3) := by decide +kernel
theorem dX12_plan_347 : decode cX12_plan 347 = .ok (.aload_n 0, 1) := by decide +kernel
theorem dX12_plan_348 : decode cX12_plan 348 = .ok (.getfield 128, 3) := by decide +kernel
theorem dX12_plan_351 : decode cX12_plan 351 = .ok (.iload 9, 2) := by decide +kernel
theorem dX12_plan_353 : decode cX12_plan 353 = .ok (.iaload, 1) := by decide +kernel
theorem dX12_plan_354 : decode cX12_plan 354 = .ok (.iconst 3, 1) := by decide +kernel
theorem dX12_plan_355 : decode cX12_plan 355 = .ok (.if_icmp .ne 9, 3) := by decide +kernel
theorem dX12_plan_358 : decode cX12_plan 358 = .ok (.iinc 9 (-1), 3) := by decide +kernel
theorem dX12_plan_361 : decode cX12_plan 361 = .ok (.goto (-20), 3) := by decide +kernel
theorem dX12_plan_364 : decode cX12_plan 364 = .ok (.iload 9, 2) := by decide +kernel
theorem dX12_plan_366 : decode cX12_plan 366 = .ok (.iload_n 3, 1) := by decide +kernel
theorem dX12_plan_367 : decode cX12_plan 367 = .ok (.if_icmp .ge 6, 3) := by decide +kernel
theorem dX12_plan_370 : decode cX12_plan 370 = .ok (.goto (-214), 3) := by decide +kernel
theorem dX12_plan_373 : decode cX12_plan 373 = .ok (.aload_n 0, 1) := by decide +kernel
theorem dX12_plan_374 : decode cX12_plan 374 = .ok (.getfield 128, 3) := by decide +kernel
theorem dX12_plan_377 : decode cX12_plan 377 = .ok (.iload 9, 2) := by decide +kernel
theorem dX12_plan_379 : decode cX12_plan 379 = .ok (.iaload, 1) := by decide +kernel
theorem dX12_plan_380 : decode cX12_plan 380 = .ok (.iconst 1, 1) := by decide +kernel
theorem dX12_plan_381 : decode cX12_plan 381 = .ok (.iadd, 1) := by decide +kernel
theorem dX12_plan_382 : decode cX12_plan 382 = .ok (.istore 13, 2) := by decide +kernel
theorem dX12_plan_384 : decode cX12_plan 384 = .ok (.iload 9, 2) := by decide +kernel
theorem dX12_plan_386 : decode cX12_plan 386 = .ok (.istore 14, 2) := by decide +kernel
theorem dX12_plan_388 : decode cX12_plan 388 = .ok (.iload 14, 2) := by decide +kernel
theorem dX12_plan_390 : decode cX12_plan 390 = .ok (.bipush 19, 2) := by decide +kernel
theorem dX12_plan_392 : decode cX12_plan 392 = .ok (.if_icmp .gt 18, 3) := by decide +kernel
theorem dX12_plan_395 : decode cX12_plan 395 = .ok (.aload_n 0, 1) := by decide +kernel
theorem dX12_plan_396 : decode cX12_plan 396 = .ok (.getfield 128, 3) := by decide +kernel
theorem dX12_plan_399 : decode cX12_plan 399 = .ok (.iload 14, 2) := by decide +kernel
theorem dX12_plan_401 : decode cX12_plan 401 = .ok (.iload 13, 2) := by decide +kernel
theorem dX12_plan_403 : decode cX12_plan 403 = .ok (.iastore, 1) := by decide +kernel
theorem dX12_plan_404 : decode cX12_plan 404 = .ok (.iinc 14 1, 3) := by decide +kernel
theorem dX12_plan_407 : decode cX12_plan 407 = .ok (.goto (-19), 3) := by decide +kernel
theorem dX12_plan_410 : decode cX12_plan 410 = .ok (.goto (-254), 3) := by decide +kernel
theorem dX12_plan_413 : decode cX12_plan 413 = .ok (.lload 6, 2) := by decide +kernel
theorem dX12_plan_415 : decode cX12_plan 415 = .ok (.l2i, 1) := by decide +kernel
theorem dX12_plan_416 : decode cX12_plan 416 = .ok (.ireturn, 1) := by decide +kernel
theorem dX12_planned_0 : decode cX12_planned 0 = .ok (.iload_n 1, 1) := by decide +kernel
theorem dX12_planned_1 : decode cX12_planned 1 = .ok (.aload_n 0, 1) := by decide +kernel
theorem dX12_planned_2 : decode cX12_planned 2 = .ok (.getfield 137, 3) := by decide +kernel
theorem dX12_planned_5 : decode cX12_planned 5 = .ok (.bipush 19, 2) := by decide +kernel
theorem dX12_planned_7 : decode cX12_planned 7 = .ok (.invokestatic 196, 3) := by decide +kernel
theorem dX12_planned_10 : decode cX12_planned 10 = .ok (.ifCond .eq 12, 3) := by decide +kernel
theorem dX12_planned_13 : decode cX12_planned 13 = .ok (.aload_n 0, 1) := by decide +kernel
theorem dX12_planned_14 : decode cX12_planned 14 = .ok (.getfield 131, 3) := by decide +kernel
theorem dX12_planned_17 : decode cX12_planned 17 = .ok (.iload_n 1, 1) := by decide +kernel
theorem dX12_planned_18 : decode cX12_planned 18 = .ok (.iaload, 1) := by decide +kernel
theorem dX12_planned_19 : decode cX12_planned 19 = .ok (.goto 4, 3) := by decide +kernel
theorem dX12_planned_22 : decode cX12_planned 22 = .ok (.iconst (-1), 1) := by decide +kernel
theorem dX12_planned_23 : decode cX12_planned 23 = .ok (.ireturn, 1) := by decide +kernel
theorem dX12_left_0 : decode cX12_left 0 = .ok (.aload_n 0, 1) := by decide +kernel
theorem dX12_left_1 : decode cX12_left 1 = .ok (.getfield 137, 3) := by decide +kernel
theorem dX12_left_4 : decode cX12_left 4 = .ok (.bipush 19, 2) := by decide +kernel
theorem dX12_left_6 : decode cX12_left 6 = .ok (.if_icmp .le 7, 3) := by decide +kernel
theorem dX12_left_9 : decode cX12_left 9 = .ok (.iconst (-1), 1) := by decide +kernel
theorem dX12_left_10 : decode cX12_left 10 = .ok (.goto 7, 3) := by decide +kernel
theorem dX12_left_13 : decode cX12_left 13 = .ok (.aload_n 0, 1) := by decide +kernel
theorem dX12_left_14 : decode cX12_left 14 = .ok (.getfield 354, 3) := by decide +kernel
theorem dX12_left_17 : decode cX12_left 17 = .ok (.ireturn, 1) := by decide +kernel
theorem dX12_isOrder_0 : decode cX12_isOrder 0 = .ok (.aload_n 0, 1) := by decide +kernel
theorem dX12_isOrder_1 : decode cX12_isOrder 1 = .ok (.iload_n 1, 1) := by decide +kernel
theorem dX12_isOrder_2 : decode cX12_isOrder 2 = .ok (.iload_n 2, 1) := by decide +kernel
theorem dX12_isOrder_3 : decode cX12_isOrder 3 = .ok (.invokevirtual 223, 3) := by decide +kernel
theorem dX12_isOrder_6 : decode cX12_isOrder 6 = .ok (.ifCond .eq 33, 3) := by decide +kernel
theorem dX12_isOrder_9 : decode cX12_isOrder 9 = .ok (.iload_n 3, 1) := by decide +kernel
theorem dX12_isOrder_10 : decode cX12_isOrder 10 = .ok (.iconst 0, 1) := by decide +kernel
theorem dX12_isOrder_11 : decode cX12_isOrder 11 = .ok (.bipush 62, 2) := by decide +kernel
theorem dX12_isOrder_13 : decode cX12_isOrder 13 = .ok (.invokestatic 196, 3) := by decide +kernel
theorem dX12_isOrder_16 : decode cX12_isOrder 16 = .ok (.ifCond .eq 23, 3) := by decide +kernel
theorem dX12_isOrder_19 : decode cX12_isOrder 19 = .ok (.iload_n 3, 1) := by decide +kernel
theorem dX12_isOrder_20 : decode cX12_isOrder 20 = .ok (.bipush 10, 2) := by decide +kernel
theorem dX12_isOrder_22 : decode cX12_isOrder 22 = .ok (.irem, 1) := by decide +kernel
theorem dX12_isOrder_23 : decode cX12_isOrder 23 = .ok (.iconst 3, 1) := by decide +kernel
theorem dX12_isOrder_24 : decode cX12_isOrder 24 = .ok (.if_icmp .ge 15, 3) := by decide +kernel
theorem dX12_isOrder_27 : decode cX12_isOrder 27 = .ok (.iload 4, 2) := by decide +kernel
theorem dX12_isOrder_29 : decode cX12_isOrder 29 = .ok (.invokestatic 220, 3) := by decide +kernel
theorem dX12_isOrder_32 : decode cX12_isOrder 32 = .ok (.ifCond .eq 7, 3) := by decide +kernel
theorem dX12_isOrder_35 : decode cX12_isOrder 35 = .ok (.iconst 1, 1) := by decide +kernel
theorem dX12_isOrder_36 : decode cX12_isOrder 36 = .ok (.goto 4, 3) := by decide +kernel
theorem dX12_isOrder_39 : decode cX12_isOrder 39 = .ok (.iconst 0, 1) := by decide +kernel
theorem dX12_isOrder_40 : decode cX12_isOrder 40 = .ok (.ireturn, 1) := by decide +kernel
theorem dX12_findSums_0 : decode cX12_findSums 0 = .ok (.iconst 0, 1) := by decide +kernel
theorem dX12_findSums_1 : decode cX12_findSums 1 = .ok (.istore 5, 2) := by decide +kernel
theorem dX12_findSums_3 : decode cX12_findSums 3 = .ok (.iload 5, 2) := by decide +kernel
theorem dX12_findSums_5 : decode cX12_findSums 5 = .ok (.sipush 1499, 3) := by decide +kernel
theorem dX12_findSums_8 : decode cX12_findSums 8 = .ok (.if_icmp .gt 25, 3) := by decide +kernel
theorem dX12_findSums_11 : decode cX12_findSums 11 = .ok (.aload_n 0, 1) := by decide +kernel
theorem dX12_findSums_12 : decode cX12_findSums 12 = .ok (.getfield 141, 3) := by decide +kernel
theorem dX12_findSums_15 : decode cX12_findSums 15 = .ok (.iload 5, 2) := by decide +kernel
theorem dX12_findSums_17 : decode cX12_findSums 17 = .ok (.iconst 0, 1) := by decide +kernel
theorem dX12_findSums_18 : decode cX12_findSums 18 = .ok (.iastore, 1) := by decide +kernel
theorem dX12_findSums_19 : decode cX12_findSums 19 = .ok (.aload_n 0, 1) := by decide +kernel
theorem dX12_findSums_20 : decode cX12_findSums 20 = .ok (.getfield 144, 3) := by decide +kernel
theorem dX12_findSums_23 : decode cX12_findSums 23 = .ok (.iload 5, 2) := by decide +kernel
theorem dX12_findSums_25 : decode cX12_findSums 25 = .ok (.iconst 0, 1) := by decide +kernel
theorem dX12_findSums_26 : decode cX12_findSums 26 = .ok (.bastore, 1) := by decide +kernel
theorem dX12_findSums_27 : decode cX12_findSums 27 = .ok (.iinc 5 1, 3) := by decide +kernel
theorem dX12_findSums_30 : decode cX12_findSums 30 = .ok (.goto (-27), 3) := by decide +kernel
theorem dX12_findSums_33 : decode cX12_findSums 33 = .ok (.iconst 0, 1) := by decide +kernel
theorem dX12_findSums_34 : decode cX12_findSums 34 = .ok (.istore 5, 2) := by decide +kernel
theorem dX12_findSums_36 : decode cX12_findSums 36 = .ok (.iload 5, 2) := by decide +kernel
theorem dX12_findSums_38 : decode cX12_findSums 38 = .ok (.aload_n 0, 1) := by decide +kernel
theorem dX12_findSums_39 : decode cX12_findSums 39 = .ok (.getfield 337, 3) := by decide +kernel
theorem dX12_findSums_42 : decode cX12_findSums 42 = .ok (.if_icmp .ge 104, 3) := by decide +kernel
theorem dX12_findSums_45 : decode cX12_findSums 45 = .ok (.aload_n 0, 1) := by decide +kernel
theorem dX12_findSums_46 : decode cX12_findSums 46 = .ok (.getfield 113, 3) := by decide +kernel
theorem dX12_findSums_49 : decode cX12_findSums 49 = .ok (.iload 5, 2) := by decide +kernel
theorem dX12_findSums_51 : decode cX12_findSums 51 = .ok (.iaload, 1) := by decide +kernel
theorem dX12_findSums_52 : decode cX12_findSums 52 = .ok (.bipush 24, 2) := by decide +kernel
theorem dX12_findSums_54 : decode cX12_findSums 54 = .ok (.idiv, 1) := by decide +kernel
theorem dX12_findSums_55 : decode cX12_findSums 55 = .ok (.istore 6, 2) := by decide +kernel
theorem dX12_findSums_57 : decode cX12_findSums 57 = .ok (.aload_n 0, 1) := by decide +kernel
theorem dX12_findSums_58 : decode cX12_findSums 58 = .ok (.getfield 107, 3) := by decide +kernel
theorem dX12_findSums_61 : decode cX12_findSums 61 = .ok (.iload 5, 2) := by decide +kernel
theorem dX12_findSums_63 : decode cX12_findSums 63 = .ok (.iaload, 1) := by decide +kernel
theorem dX12_findSums_64 : decode cX12_findSums 64 = .ok (.iload_n 1, 1) := by decide +kernel
theorem dX12_findSums_65 : decode cX12_findSums 65 = .ok (.if_icmp .ne 75, 3) := by decide +kernel
theorem dX12_findSums_68 : decode cX12_findSums 68 = .ok (.aload_n 0, 1) := by decide +kernel
theorem dX12_findSums_69 : decode cX12_findSums 69 = .ok (.getfield 110, 3) := by decide +kernel
theorem dX12_findSums_72 : decode cX12_findSums 72 = .ok (.iload 5, 2) := by decide +kernel
theorem dX12_findSums_74 : decode cX12_findSums 74 = .ok (.iaload, 1) := by decide +kernel
theorem dX12_findSums_75 : decode cX12_findSums 75 = .ok (.iload_n 2, 1) := by decide +kernel
theorem dX12_findSums_76 : decode cX12_findSums 76 = .ok (.if_icmp .ne 64, 3) := by decide +kernel
theorem dX12_findSums_79 : decode cX12_findSums 79 = .ok (.aload_n 0, 1) := by decide +kernel
theorem dX12_findSums_80 : decode cX12_findSums 80 = .ok (.getfield 119, 3) := by decide +kernel
theorem dX12_findSums_83 : decode cX12_findSums 83 = .ok (.iload 5, 2) := by decide +kernel
theorem dX12_findSums_85 : decode cX12_findSums 85 = .ok (.iaload, 1) := by decide +kernel
theorem dX12_findSums_86 : decode cX12_findSums 86 = .ok (.iload_n 3, 1) := by decide +kernel
theorem dX12_findSums_87 : decode cX12_findSums 87 = .ok (.bipush 10, 2) := by decide +kernel
theorem dX12_findSums_89 : decode cX12_findSums 89 = .ok (.irem, 1) := by decide +kernel
theorem dX12_findSums_90 : decode cX12_findSums 90 = .ok (.if_icmp .ne 50, 3) := by decide +kernel
theorem dX12_findSums_93 : decode cX12_findSums 93 = .ok (.iload 6, 2) := by decide +kernel
theorem dX12_findSums_95 : decode cX12_findSums 95 = .ok (.iload 4, 2) := by decide +kernel
theorem dX12_findSums_97 : decode cX12_findSums 97 = .ok (.if_icmp .gt 43, 3) := by decide +kernel
theorem dX12_findSums_100 : decode cX12_findSums 100 = .ok (.iload 6, 2) := by decide +kernel
theorem dX12_findSums_102 : decode cX12_findSums 102 = .ok (.bipush 7, 2) := by decide +kernel
theorem dX12_findSums_104 : decode cX12_findSums 104 = .ok (.irem, 1) := by decide +kernel
theorem dX12_findSums_105 : decode cX12_findSums 105 = .ok (.iload_n 3, 1) := by decide +kernel
theorem dX12_findSums_106 : decode cX12_findSums 106 = .ok (.bipush 10, 2) := by decide +kernel
theorem dX12_findSums_108 : decode cX12_findSums 108 = .ok (.idiv, 1) := by decide +kernel
theorem dX12_findSums_109 : decode cX12_findSums 109 = .ok (.if_icmp .eq 6, 3) := by decide +kernel
theorem dX12_findSums_112 : decode cX12_findSums 112 = .ok (.goto 28, 3) := by decide +kernel
theorem dX12_findSums_115 : decode cX12_findSums 115 = .ok (.aload_n 0, 1) := by decide +kernel
theorem dX12_findSums_116 : decode cX12_findSums 116 = .ok (.getfield 141, 3) := by decide +kernel
theorem dX12_findSums_119 : decode cX12_findSums 119 = .ok (.iload 6, 2) := by decide +kernel
theorem dX12_findSums_121 : decode cX12_findSums 121 = .ok (.dup2, 1) := by decide +kernel
theorem dX12_findSums_122 : decode cX12_findSums 122 = .ok (.iaload, 1) := by decide +kernel
theorem dX12_findSums_123 : decode cX12_findSums 123 = .ok (.aload_n 0, 1) := by decide +kernel
theorem dX12_findSums_124 : decode cX12_findSums 124 = .ok (.getfield 122, 3) := by decide +kernel
theorem dX12_findSums_127 : decode cX12_findSums 127 = .ok (.iload 5, 2) := by decide +kernel
theorem dX12_findSums_129 : decode cX12_findSums 129 = .ok (.iaload, 1) := by decide +kernel
theorem dX12_findSums_130 : decode cX12_findSums 130 = .ok (.iadd, 1) := by decide +kernel
theorem dX12_findSums_131 : decode cX12_findSums 131 = .ok (.iastore, 1) := by decide +kernel
theorem dX12_findSums_132 : decode cX12_findSums 132 = .ok (.aload_n 0, 1) := by decide +kernel
theorem dX12_findSums_133 : decode cX12_findSums 133 = .ok (.getfield 144, 3) := by decide +kernel
theorem dX12_findSums_136 : decode cX12_findSums 136 = .ok (.iload 6, 2) := by decide +kernel
theorem dX12_findSums_138 : decode cX12_findSums 138 = .ok (.iconst 1, 1) := by decide +kernel
theorem dX12_findSums_139 : decode cX12_findSums 139 = .ok (.bastore, 1) := by decide +kernel
theorem dX12_findSums_140 : decode cX12_findSums 140 = .ok (.iinc 5 1, 3) := by decide +kernel
theorem dX12_findSums_143 : decode cX12_findSums 143 = .ok (.goto (-107), 3) := by decide +kernel
theorem dX12_findSums_146 : decode cX12_findSums 146 = .ok (.return_, 1) := by decide +kernel
theorem dX12_lossOf_0 : decode cX12_lossOf 0 = .ok (.aload_n 0, 1) := by decide +kernel
theorem dX12_lossOf_1 : decode cX12_lossOf 1 = .ok (.getfield 19, 3) := by decide +kernel
theorem dX12_lossOf_4 : decode cX12_lossOf 4 = .ok (.iload_n 1, 1) := by decide +kernel
theorem dX12_lossOf_5 : decode cX12_lossOf 5 = .ok (.iaload, 1) := by decide +kernel
theorem dX12_lossOf_6 : decode cX12_lossOf 6 = .ok (.aload_n 0, 1) := by decide +kernel
theorem dX12_lossOf_7 : decode cX12_lossOf 7 = .ok (.getfield 22, 3) := by decide +kernel
theorem dX12_lossOf_10 : decode cX12_lossOf 10 = .ok (.iload_n 1, 1) := by decide +kernel
theorem dX12_lossOf_11 : decode cX12_lossOf 11 = .ok (.iaload, 1) := by decide +kernel
theorem dX12_lossOf_12 : decode cX12_lossOf 12 = .ok (.isub, 1) := by decide +kernel
theorem dX12_lossOf_13 : decode cX12_lossOf 13 = .ok (.ifCond .ge 7, 3) := by decide +kernel
theorem dX12_lossOf_16 : decode cX12_lossOf 16 = .ok (.lconst 0, 1) := by decide +kernel
theorem dX12_lossOf_17 : decode cX12_lossOf 17 = .ok (.goto 17, 3) := by decide +kernel
theorem dX12_lossOf_20 : decode cX12_lossOf 20 = .ok (.aload_n 0, 1) := by decide +kernel
theorem dX12_lossOf_21 : decode cX12_lossOf 21 = .ok (.getfield 19, 3) := by decide +kernel
theorem dX12_lossOf_24 : decode cX12_lossOf 24 = .ok (.iload_n 1, 1) := by decide +kernel
theorem dX12_lossOf_25 : decode cX12_lossOf 25 = .ok (.iaload, 1) := by decide +kernel
theorem dX12_lossOf_26 : decode cX12_lossOf 26 = .ok (.aload_n 0, 1) := by decide +kernel
theorem dX12_lossOf_27 : decode cX12_lossOf 27 = .ok (.getfield 22, 3) := by decide +kernel
theorem dX12_lossOf_30 : decode cX12_lossOf 30 = .ok (.iload_n 1, 1) := by decide +kernel
theorem dX12_lossOf_31 : decode cX12_lossOf 31 = .ok (.iaload, 1) := by decide +kernel
theorem dX12_lossOf_32 : decode cX12_lossOf 32 = .ok (.isub, 1) := by decide +kernel
theorem dX12_lossOf_33 : decode cX12_lossOf 33 = .ok (.i2l, 1) := by decide +kernel
theorem dX12_lossOf_34 : decode cX12_lossOf 34 = .ok (.lstore_n 3, 1) := by decide +kernel
theorem dX12_lossOf_35 : decode cX12_lossOf 35 = .ok (.lconst 0, 1) := by decide +kernel
theorem dX12_lossOf_36 : decode cX12_lossOf 36 = .ok (.lstore 5, 2) := by decide +kernel
theorem dX12_lossOf_38 : decode cX12_lossOf 38 = .ok (.iconst 0, 1) := by decide +kernel
theorem dX12_lossOf_39 : decode cX12_lossOf 39 = .ok (.istore 7, 2) := by decide +kernel
theorem dX12_lossOf_41 : decode cX12_lossOf 41 = .ok (.iload 7, 2) := by decide +kernel
theorem dX12_lossOf_43 : decode cX12_lossOf 43 = .ok (.aload_n 0, 1) := by decide +kernel
theorem dX12_lossOf_44 : decode cX12_lossOf 44 = .ok (.invokevirtual 230, 3) := by decide +kernel
theorem dX12_lossOf_47 : decode cX12_lossOf 47 = .ok (.if_icmp .gt 75, 3) := by decide +kernel
theorem dX12_lossOf_50 : decode cX12_lossOf 50 = .ok (.aload_n 0, 1) := by decide +kernel
theorem dX12_lossOf_51 : decode cX12_lossOf 51 = .ok (.getfield 144, 3) := by decide +kernel
theorem dX12_lossOf_54 : decode cX12_lossOf 54 = .ok (.iload 7, 2) := by decide +kernel
theorem dX12_lossOf_56 : decode cX12_lossOf 56 = .ok (.baload, 1) := by decide +kernel
theorem dX12_lossOf_57 : decode cX12_lossOf 57 = .ok (.ifCond .eq 59, 3) := by decide +kernel
theorem dX12_lossOf_60 : decode cX12_lossOf 60 = .ok (.lload 5, 2) := by decide +kernel
theorem dX12_lossOf_62 : decode cX12_lossOf 62 = .ok (.aload_n 0, 1) := by decide +kernel
theorem dX12_lossOf_63 : decode cX12_lossOf 63 = .ok (.getfield 141, 3) := by decide +kernel
theorem dX12_lossOf_66 : decode cX12_lossOf 66 = .ok (.iload 7, 2) := by decide +kernel
theorem dX12_lossOf_68 : decode cX12_lossOf 68 = .ok (.iaload, 1) := by decide +kernel
theorem dX12_lossOf_69 : decode cX12_lossOf 69 = .ok (.iload_n 2, 1) := by decide +kernel
theorem dX12_lossOf_70 : decode cX12_lossOf 70 = .ok (.if_icmp .le 18, 3) := by decide +kernel
theorem dX12_lossOf_73 : decode cX12_lossOf 73 = .ok (.lload_n 3, 1) := by decide +kernel
theorem dX12_lossOf_74 : decode cX12_lossOf 74 = .ok (.aload_n 0, 1) := by decide +kernel
theorem dX12_lossOf_75 : decode cX12_lossOf 75 = .ok (.getfield 141, 3) := by decide +kernel
theorem dX12_lossOf_78 : decode cX12_lossOf 78 = .ok (.iload 7, 2) := by decide +kernel
theorem dX12_lossOf_80 : decode cX12_lossOf 80 = .ok (.iaload, 1) := by decide +kernel
theorem dX12_lossOf_81 : decode cX12_lossOf 81 = .ok (.iload_n 2, 1) := by decide +kernel
theorem dX12_lossOf_82 : decode cX12_lossOf 82 = .ok (.isub, 1) := by decide +kernel
theorem dX12_lossOf_83 : decode cX12_lossOf 83 = .ok (.i2l, 1) := by decide +kernel
theorem dX12_lossOf_84 : decode cX12_lossOf 84 = .ok (.lmul, 1) := by decide +kernel
theorem dX12_lossOf_85 : decode cX12_lossOf 85 = .ok (.goto 28, 3) := by decide +kernel
theorem dX12_lossOf_88 : decode cX12_lossOf 88 = .ok (.aload_n 0, 1) := by decide +kernel
theorem dX12_lossOf_89 : decode cX12_lossOf 89 = .ok (.getfield 22, 3) := by decide +kernel
theorem dX12_lossOf_92 : decode cX12_lossOf 92 = .ok (.iload_n 1, 1) := by decide +kernel
theorem dX12_lossOf_93 : decode cX12_lossOf 93 = .ok (.iaload, 1) := by decide +kernel
theorem dX12_lossOf_94 : decode cX12_lossOf 94 = .ok (.aload_n 0, 1) := by decide +kernel
theorem dX12_lossOf_95 : decode cX12_lossOf 95 = .ok (.getfield 31, 3) := by decide +kernel
theorem dX12_lossOf_98 : decode cX12_lossOf 98 = .ok (.iload_n 1, 1) := by decide +kernel
theorem dX12_lossOf_99 : decode cX12_lossOf 99 = .ok (.iaload, 1) := by decide +kernel
theorem dX12_lossOf_100 : decode cX12_lossOf 100 = .ok (.iadd, 1) := by decide +kernel
theorem dX12_lossOf_101 : decode cX12_lossOf 101 = .ok (.i2l, 1) := by decide +kernel
theorem dX12_lossOf_102 : decode cX12_lossOf 102 = .ok (.iload_n 2, 1) := by decide +kernel
theorem dX12_lossOf_103 : decode cX12_lossOf 103 = .ok (.aload_n 0, 1) := by decide +kernel
theorem dX12_lossOf_104 : decode cX12_lossOf 104 = .ok (.getfield 141, 3) := by decide +kernel
theorem dX12_lossOf_107 : decode cX12_lossOf 107 = .ok (.iload 7, 2) := by decide +kernel
theorem dX12_lossOf_109 : decode cX12_lossOf 109 = .ok (.iaload, 1) := by decide +kernel
theorem dX12_lossOf_110 : decode cX12_lossOf 110 = .ok (.isub, 1) := by decide +kernel
theorem dX12_lossOf_111 : decode cX12_lossOf 111 = .ok (.i2l, 1) := by decide +kernel
theorem dX12_lossOf_112 : decode cX12_lossOf 112 = .ok (.lmul, 1) := by decide +kernel
theorem dX12_lossOf_113 : decode cX12_lossOf 113 = .ok (.ladd, 1) := by decide +kernel
theorem dX12_lossOf_114 : decode cX12_lossOf 114 = .ok (.lstore 5, 2) := by decide +kernel
theorem dX12_lossOf_116 : decode cX12_lossOf 116 = .ok (.iinc 7 1, 3) := by decide +kernel
theorem dX12_lossOf_119 : decode cX12_lossOf 119 = .ok (.goto (-78), 3) := by decide +kernel
theorem dX12_lossOf_122 : decode cX12_lossOf 122 = .ok (.lload 5, 2) := by decide +kernel
theorem dX12_lossOf_124 : decode cX12_lossOf 124 = .ok (.lreturn, 1) := by decide +kernel
theorem dX12_order_0 : decode cX12_order 0 = .ok (.aload_n 0, 1) := by decide +kernel
theorem dX12_order_1 : decode cX12_order 1 = .ok (.iload_n 1, 1) := by decide +kernel
theorem dX12_order_2 : decode cX12_order 2 = .ok (.iload_n 2, 1) := by decide +kernel
theorem dX12_order_3 : decode cX12_order 3 = .ok (.iload_n 3, 1) := by decide +kernel
theorem dX12_order_4 : decode cX12_order 4 = .ok (.iload 4, 2) := by decide +kernel
theorem dX12_order_6 : decode cX12_order 6 = .ok (.invokevirtual 357, 3) := by decide +kernel
theorem dX12_order_9 : decode cX12_order 9 = .ok (.ifCond .ne 5, 3) := by decide +kernel
theorem dX12_order_12 : decode cX12_order 12 = .ok (.iconst (-1), 1) := by decide +kernel
theorem dX12_order_13 : decode cX12_order 13 = .ok (.ireturn, 1) := by decide +kernel
theorem dX12_order_14 : decode cX12_order 14 = .ok (.aload_n 0, 1) := by decide +kernel
theorem dX12_order_15 : decode cX12_order 15 = .ok (.iload_n 1, 1) := by decide +kernel
theorem dX12_order_16 : decode cX12_order 16 = .ok (.iload_n 2, 1) := by decide +kernel
theorem dX12_order_17 : decode cX12_order 17 = .ok (.iload_n 3, 1) := by decide +kernel
theorem dX12_order_18 : decode cX12_order 18 = .ok (.iload 4, 2) := by decide +kernel
theorem dX12_order_20 : decode cX12_order 20 = .ok (.invokevirtual 361, 3) := by decide +kernel
theorem dX12_order_23 : decode cX12_order 23 = .ok (.iconst 0, 1) := by decide +kernel
theorem dX12_order_24 : decode cX12_order 24 = .ok (.istore 5, 2) := by decide +kernel
theorem dX12_order_26 : decode cX12_order 26 = .ok (.aload_n 0, 1) := by decide +kernel
theorem dX12_order_27 : decode cX12_order 27 = .ok (.iload_n 2, 1) := by decide +kernel
theorem dX12_order_28 : decode cX12_order 28 = .ok (.iconst 0, 1) := by decide +kernel
theorem dX12_order_29 : decode cX12_order 29 = .ok (.invokevirtual 365, 3) := by decide +kernel
theorem dX12_order_32 : decode cX12_order 32 = .ok (.lstore 6, 2) := by decide +kernel
theorem dX12_order_34 : decode cX12_order 34 = .ok (.iconst 1, 1) := by decide +kernel
theorem dX12_order_35 : decode cX12_order 35 = .ok (.istore 8, 2) := by decide +kernel
theorem dX12_order_37 : decode cX12_order 37 = .ok (.iload 8, 2) := by decide +kernel
theorem dX12_order_39 : decode cX12_order 39 = .ok (.sipush 1000, 3) := by decide +kernel
theorem dX12_order_42 : decode cX12_order 42 = .ok (.if_icmp .ge 37, 3) := by decide +kernel
theorem dX12_order_45 : decode cX12_order 45 = .ok (.aload_n 0, 1) := by decide +kernel
theorem dX12_order_46 : decode cX12_order 46 = .ok (.iload_n 2, 1) := by decide +kernel
theorem dX12_order_47 : decode cX12_order 47 = .ok (.iload 8, 2) := by decide +kernel
theorem dX12_order_49 : decode cX12_order 49 = .ok (.invokevirtual 365, 3) := by decide +kernel
theorem dX12_order_52 : decode cX12_order 52 = .ok (.lstore 9, 2) := by decide +kernel
theorem dX12_order_54 : decode cX12_order 54 = .ok (.lload 9, 2) := by decide +kernel
theorem dX12_order_56 : decode cX12_order 56 = .ok (.lload 6, 2) := by decide +kernel
theorem dX12_order_58 : decode cX12_order 58 = .ok (.lcmp, 1) := by decide +kernel
theorem dX12_order_59 : decode cX12_order 59 = .ok (.ifCond .lt 6, 3) := by decide +kernel
theorem dX12_order_62 : decode cX12_order 62 = .ok (.goto 11, 3) := by decide +kernel
theorem dX12_order_65 : decode cX12_order 65 = .ok (.lload 9, 2) := by decide +kernel
theorem dX12_order_67 : decode cX12_order 67 = .ok (.lstore 6, 2) := by decide +kernel
theorem dX12_order_69 : decode cX12_order 69 = .ok (.iload 8, 2) := by decide +kernel
theorem dX12_order_71 : decode cX12_order 71 = .ok (.istore 5, 2) := by decide +kernel
theorem dX12_order_73 : decode cX12_order 73 = .ok (.iinc 8 1, 3) := by decide +kernel
theorem dX12_order_76 : decode cX12_order 76 = .ok (.goto (-39), 3) := by decide +kernel
theorem dX12_order_79 : decode cX12_order 79 = .ok (.iload 5, 2) := by decide +kernel
theorem dX12_order_81 : decode cX12_order 81 = .ok (.ireturn, 1) := by decide +kernel
theorem dX12_loss_0 : decode cX12_loss 0 = .ok (.aload_n 0, 1) := by decide +kernel
theorem dX12_loss_1 : decode cX12_loss 1 = .ok (.iload_n 1, 1) := by decide +kernel
theorem dX12_loss_2 : decode cX12_loss 2 = .ok (.iload_n 2, 1) := by decide +kernel
theorem dX12_loss_3 : decode cX12_loss 3 = .ok (.iload_n 3, 1) := by decide +kernel
theorem dX12_loss_4 : decode cX12_loss 4 = .ok (.iload 4, 2) := by decide +kernel
theorem dX12_loss_6 : decode cX12_loss 6 = .ok (.invokevirtual 357, 3) := by decide +kernel
theorem dX12_loss_9 : decode cX12_loss 9 = .ok (.ifCond .eq 15, 3) := by decide +kernel
theorem dX12_loss_12 : decode cX12_loss 12 = .ok (.iload 5, 2) := by decide +kernel
theorem dX12_loss_14 : decode cX12_loss 14 = .ok (.iconst 0, 1) := by decide +kernel
theorem dX12_loss_15 : decode cX12_loss 15 = .ok (.sipush 999, 3) := by decide +kernel
theorem dX12_loss_18 : decode cX12_loss 18 = .ok (.invokestatic 196, 3) := by decide +kernel
theorem dX12_loss_21 : decode cX12_loss 21 = .ok (.ifCond .ne 7, 3) := by decide +kernel
theorem dX12_loss_24 : decode cX12_loss 24 = .ok (.ldc2_w 369, 3) := by decide +kernel
theorem dX12_loss_27 : decode cX12_loss 27 = .ok (.lreturn, 1) := by decide +kernel
theorem dX12_loss_28 : decode cX12_loss 28 = .ok (.aload_n 0, 1) := by decide +kernel
theorem dX12_loss_29 : decode cX12_loss 29 = .ok (.iload_n 1, 1) := by decide +kernel
theorem dX12_loss_30 : decode cX12_loss 30 = .ok (.iload_n 2, 1) := by decide +kernel
theorem dX12_loss_31 : decode cX12_loss 31 = .ok (.iload_n 3, 1) := by decide +kernel
theorem dX12_loss_32 : decode cX12_loss 32 = .ok (.iload 4, 2) := by decide +kernel
theorem dX12_loss_34 : decode cX12_loss 34 = .ok (.invokevirtual 361, 3) := by decide +kernel
theorem dX12_loss_37 : decode cX12_loss 37 = .ok (.aload_n 0, 1) := by decide +kernel
theorem dX12_loss_38 : decode cX12_loss 38 = .ok (.iload_n 2, 1) := by decide +kernel
theorem dX12_loss_39 : decode cX12_loss 39 = .ok (.iload 5, 2) := by decide +kernel
theorem dX12_loss_41 : decode cX12_loss 41 = .ok (.invokevirtual 365, 3) := by decide +kernel
theorem dX12_loss_44 : decode cX12_loss 44 = .ok (.lreturn, 1) := by decide +kernel
theorem dX12_crates_0 : decode cX12_crates 0 = .ok (.aload_n 0, 1) := by decide +kernel
theorem dX12_crates_1 : decode cX12_crates 1 = .ok (.iload_n 1, 1) := by decide +kernel
theorem dX12_crates_2 : decode cX12_crates 2 = .ok (.invokevirtual 209, 3) := by decide +kernel
theorem dX12_crates_5 : decode cX12_crates 5 = .ok (.ifCond .eq 21, 3) := by decide +kernel
theorem dX12_crates_8 : decode cX12_crates 8 = .ok (.iload_n 2, 1) := by decide +kernel
theorem dX12_crates_9 : decode cX12_crates 9 = .ok (.iconst 0, 1) := by decide +kernel
theorem dX12_crates_10 : decode cX12_crates 10 = .ok (.iconst 1, 1) := by decide +kernel
theorem dX12_crates_11 : decode cX12_crates 11 = .ok (.invokestatic 196, 3) := by decide +kernel
theorem dX12_crates_14 : decode cX12_crates 14 = .ok (.ifCond .eq 12, 3) := by decide +kernel
theorem dX12_crates_17 : decode cX12_crates 17 = .ok (.iload_n 3, 1) := by decide +kernel
theorem dX12_crates_18 : decode cX12_crates 18 = .ok (.iconst 0, 1) := by decide +kernel
theorem dX12_crates_19 : decode cX12_crates 19 = .ok (.iconst 3, 1) := by decide +kernel
theorem dX12_crates_20 : decode cX12_crates 20 = .ok (.invokestatic 196, 3) := by decide +kernel
theorem dX12_crates_23 : decode cX12_crates 23 = .ok (.ifCond .ne 5, 3) := by decide +kernel
theorem dX12_crates_26 : decode cX12_crates 26 = .ok (.iconst (-1), 1) := by decide +kernel
theorem dX12_crates_27 : decode cX12_crates 27 = .ok (.ireturn, 1) := by decide +kernel
theorem dX12_crates_28 : decode cX12_crates 28 = .ok (.iload_n 2, 1) := by decide +kernel
theorem dX12_crates_29 : decode cX12_crates 29 = .ok (.ifCond .ne 12, 3) := by decide +kernel
theorem dX12_crates_32 : decode cX12_crates 32 = .ok (.aload_n 0, 1) := by decide +kernel
theorem dX12_crates_33 : decode cX12_crates 33 = .ok (.getfield 148, 3) := by decide +kernel
theorem dX12_crates_36 : decode cX12_crates 36 = .ok (.iload_n 1, 1) := by decide +kernel
theorem dX12_crates_37 : decode cX12_crates 37 = .ok (.iaload, 1) := by decide +kernel
theorem dX12_crates_38 : decode cX12_crates 38 = .ok (.goto 9, 3) := by decide +kernel
theorem dX12_crates_41 : decode cX12_crates 41 = .ok (.aload_n 0, 1) := by decide +kernel
theorem dX12_crates_42 : decode cX12_crates 42 = .ok (.getfield 151, 3) := by decide +kernel
theorem dX12_crates_45 : decode cX12_crates 45 = .ok (.iload_n 1, 1) := by decide +kernel
theorem dX12_crates_46 : decode cX12_crates 46 = .ok (.iaload, 1) := by decide +kernel
theorem dX12_crates_47 : decode cX12_crates 47 = .ok (.istore 4, 2) := by decide +kernel
theorem dX12_crates_49 : decode cX12_crates 49 = .ok (.iload_n 2, 1) := by decide +kernel
theorem dX12_crates_50 : decode cX12_crates 50 = .ok (.ifCond .ne 13, 3) := by decide +kernel
theorem dX12_crates_53 : decode cX12_crates 53 = .ok (.aload_n 0, 1) := by decide +kernel
theorem dX12_crates_54 : decode cX12_crates 54 = .ok (.getfield 148, 3) := by decide +kernel
theorem dX12_crates_57 : decode cX12_crates 57 = .ok (.iload_n 1, 1) := by decide +kernel
theorem dX12_crates_58 : decode cX12_crates 58 = .ok (.iload_n 3, 1) := by decide +kernel
theorem dX12_crates_59 : decode cX12_crates 59 = .ok (.iastore, 1) := by decide +kernel
theorem dX12_crates_60 : decode cX12_crates 60 = .ok (.goto 10, 3) := by decide +kernel
theorem dX12_crates_63 : decode cX12_crates 63 = .ok (.aload_n 0, 1) := by decide +kernel
theorem dX12_crates_64 : decode cX12_crates 64 = .ok (.getfield 151, 3) := by decide +kernel
theorem dX12_crates_67 : decode cX12_crates 67 = .ok (.iload_n 1, 1) := by decide +kernel
theorem dX12_crates_68 : decode cX12_crates 68 = .ok (.iload_n 3, 1) := by decide +kernel
theorem dX12_crates_69 : decode cX12_crates 69 = .ok (.iastore, 1) := by decide +kernel
theorem dX12_crates_70 : decode cX12_crates 70 = .ok (.iload 4, 2) := by decide +kernel
theorem dX12_crates_72 : decode cX12_crates 72 = .ok (.ireturn, 1) := by decide +kernel
theorem dX12_off_0 : decode cX12_off 0 = .ok (.iload_n 0, 1) := by decide +kernel
theorem dX12_off_1 : decode cX12_off 1 = .ok (.iload_n 1, 1) := by decide +kernel
theorem dX12_off_2 : decode cX12_off 2 = .ok (.if_icmp .ge 9, 3) := by decide +kernel
theorem dX12_off_5 : decode cX12_off 5 = .ok (.iload_n 1, 1) := by decide +kernel
theorem dX12_off_6 : decode cX12_off 6 = .ok (.iload_n 0, 1) := by decide +kernel
theorem dX12_off_7 : decode cX12_off 7 = .ok (.isub, 1) := by decide +kernel
theorem dX12_off_8 : decode cX12_off 8 = .ok (.goto 6, 3) := by decide +kernel
theorem dX12_off_11 : decode cX12_off 11 = .ok (.iload_n 0, 1) := by decide +kernel
theorem dX12_off_12 : decode cX12_off 12 = .ok (.iload_n 1, 1) := by decide +kernel
theorem dX12_off_13 : decode cX12_off 13 = .ok (.isub, 1) := by decide +kernel
theorem dX12_off_14 : decode cX12_off 14 = .ok (.ireturn, 1) := by decide +kernel
theorem dX12_miles_0 : decode cX12_miles 0 = .ok (.aload_n 0, 1) := by decide +kernel
theorem dX12_miles_1 : decode cX12_miles 1 = .ok (.getfield 7, 3) := by decide +kernel
theorem dX12_miles_4 : decode cX12_miles 4 = .ok (.iload_n 1, 1) := by decide +kernel
theorem dX12_miles_5 : decode cX12_miles 5 = .ok (.iaload, 1) := by decide +kernel
theorem dX12_miles_6 : decode cX12_miles 6 = .ok (.aload_n 0, 1) := by decide +kernel
theorem dX12_miles_7 : decode cX12_miles 7 = .ok (.getfield 7, 3) := by decide +kernel
theorem dX12_miles_10 : decode cX12_miles 10 = .ok (.iload_n 2, 1) := by decide +kernel
theorem dX12_miles_11 : decode cX12_miles 11 = .ok (.iaload, 1) := by decide +kernel
theorem dX12_miles_12 : decode cX12_miles 12 = .ok (.invokestatic 371, 3) := by decide +kernel
theorem dX12_miles_15 : decode cX12_miles 15 = .ok (.aload_n 0, 1) := by decide +kernel
theorem dX12_miles_16 : decode cX12_miles 16 = .ok (.getfield 13, 3) := by decide +kernel
theorem dX12_miles_19 : decode cX12_miles 19 = .ok (.iload_n 1, 1) := by decide +kernel
theorem dX12_miles_20 : decode cX12_miles 20 = .ok (.iaload, 1) := by decide +kernel
theorem dX12_miles_21 : decode cX12_miles 21 = .ok (.aload_n 0, 1) := by decide +kernel
theorem dX12_miles_22 : decode cX12_miles 22 = .ok (.getfield 13, 3) := by decide +kernel
theorem dX12_miles_25 : decode cX12_miles 25 = .ok (.iload_n 2, 1) := by decide +kernel
theorem dX12_miles_26 : decode cX12_miles 26 = .ok (.iaload, 1) := by decide +kernel
theorem dX12_miles_27 : decode cX12_miles 27 = .ok (.invokestatic 371, 3) := by decide +kernel
theorem dX12_miles_30 : decode cX12_miles 30 = .ok (.iadd, 1) := by decide +kernel
theorem dX12_miles_31 : decode cX12_miles 31 = .ok (.ireturn, 1) := by decide +kernel
theorem dX12_mayCome_0 : decode cX12_mayCome 0 = .ok (.aload_n 0, 1) := by decide +kernel
theorem dX12_mayCome_1 : decode cX12_mayCome 1 = .ok (.getfield 157, 3) := by decide +kernel
theorem dX12_mayCome_4 : decode cX12_mayCome 4 = .ok (.iload_n 1, 1) := by decide +kernel
theorem dX12_mayCome_5 : decode cX12_mayCome 5 = .ok (.iaload, 1) := by decide +kernel
theorem dX12_mayCome_6 : decode cX12_mayCome 6 = .ok (.istore_n 2, 1) := by decide +kernel
theorem dX12_mayCome_7 : decode cX12_mayCome 7 = .ok (.iload_n 2, 1) := by decide +kernel
theorem dX12_mayCome_8 : decode cX12_mayCome 8 = .ok (.aload_n 0, 1) := by decide +kernel
theorem dX12_mayCome_9 : decode cX12_mayCome 9 = .ok (.getfield 203, 3) := by decide +kernel
theorem dX12_mayCome_12 : decode cX12_mayCome 12 = .ok (.if_icmp .ne 5, 3) := by decide +kernel
theorem dX12_mayCome_15 : decode cX12_mayCome 15 = .ok (.iconst 1, 1) := by decide +kernel
theorem dX12_mayCome_16 : decode cX12_mayCome 16 = .ok (.ireturn, 1) := by decide +kernel
theorem dX12_mayCome_17 : decode cX12_mayCome 17 = .ok (.iload_n 2, 1) := by decide +kernel
theorem dX12_mayCome_18 : decode cX12_mayCome 18 = .ok (.aload_n 0, 1) := by decide +kernel
theorem dX12_mayCome_19 : decode cX12_mayCome 19 = .ok (.getfield 154, 3) := by decide +kernel
theorem dX12_mayCome_22 : decode cX12_mayCome 22 = .ok (.iload_n 1, 1) := by decide +kernel
theorem dX12_mayCome_23 : decode cX12_mayCome 23 = .ok (.iaload, 1) := by decide +kernel
theorem dX12_mayCome_24 : decode cX12_mayCome 24 = .ok (.if_icmp .ne 5, 3) := by decide +kernel
theorem dX12_mayCome_27 : decode cX12_mayCome 27 = .ok (.iconst 0, 1) := by decide +kernel
theorem dX12_mayCome_28 : decode cX12_mayCome 28 = .ok (.ireturn, 1) := by decide +kernel
theorem dX12_mayCome_29 : decode cX12_mayCome 29 = .ok (.iconst 0, 1) := by decide +kernel
theorem dX12_mayCome_30 : decode cX12_mayCome 30 = .ok (.istore_n 3, 1) := by decide +kernel
theorem dX12_mayCome_31 : decode cX12_mayCome 31 = .ok (.iconst 0, 1) := by decide +kernel
theorem dX12_mayCome_32 : decode cX12_mayCome 32 = .ok (.istore 4, 2) := by decide +kernel
theorem dX12_mayCome_34 : decode cX12_mayCome 34 = .ok (.iload 4, 2) := by decide +kernel
theorem dX12_mayCome_36 : decode cX12_mayCome 36 = .ok (.iload_n 1, 1) := by decide +kernel
theorem dX12_mayCome_37 : decode cX12_mayCome 37 = .ok (.if_icmp .gt 28, 3) := by decide +kernel
theorem dX12_mayCome_40 : decode cX12_mayCome 40 = .ok (.iload_n 3, 1) := by decide +kernel
theorem dX12_mayCome_41 : decode cX12_mayCome 41 = .ok (.aload_n 0, 1) := by decide +kernel
theorem dX12_mayCome_42 : decode cX12_mayCome 42 = .ok (.getfield 157, 3) := by decide +kernel
theorem dX12_mayCome_45 : decode cX12_mayCome 45 = .ok (.iload 4, 2) := by decide +kernel
theorem dX12_mayCome_47 : decode cX12_mayCome 47 = .ok (.iaload, 1) := by decide +kernel
theorem dX12_mayCome_48 : decode cX12_mayCome 48 = .ok (.iload_n 2, 1) := by decide +kernel
theorem dX12_mayCome_49 : decode cX12_mayCome 49 = .ok (.if_icmp .ne 7, 3) := by decide +kernel
theorem dX12_mayCome_52 : decode cX12_mayCome 52 = .ok (.iconst 1, 1) := by decide +kernel
theorem dX12_mayCome_53 : decode cX12_mayCome 53 = .ok (.goto 4, 3) := by decide +kernel
theorem dX12_mayCome_56 : decode cX12_mayCome 56 = .ok (.iconst 0, 1) := by decide +kernel
theorem dX12_mayCome_57 : decode cX12_mayCome 57 = .ok (.iadd, 1) := by decide +kernel
theorem dX12_mayCome_58 : decode cX12_mayCome 58 = .ok (.istore_n 3, 1) := by decide +kernel
theorem dX12_mayCome_59 : decode cX12_mayCome 59 = .ok (.iinc 4 1, 3) := by decide +kernel
theorem dX12_mayCome_62 : decode cX12_mayCome 62 = .ok (.goto (-28), 3) := by decide +kernel
theorem dX12_mayCome_65 : decode cX12_mayCome 65 = .ok (.iload_n 3, 1) := by decide +kernel
theorem dX12_mayCome_66 : decode cX12_mayCome 66 = .ok (.aload_n 0, 1) := by decide +kernel
theorem dX12_mayCome_67 : decode cX12_mayCome 67 = .ok (.getfield 148, 3) := by decide +kernel
theorem dX12_mayCome_70 : decode cX12_mayCome 70 = .ok (.iload_n 2, 1) := by decide +kernel
theorem dX12_mayCome_71 : decode cX12_mayCome 71 = .ok (.iaload, 1) := by decide +kernel
theorem dX12_mayCome_72 : decode cX12_mayCome 72 = .ok (.if_icmp .gt 7, 3) := by decide +kernel
theorem dX12_mayCome_75 : decode cX12_mayCome 75 = .ok (.iconst 1, 1) := by decide +kernel
theorem dX12_mayCome_76 : decode cX12_mayCome 76 = .ok (.goto 4, 3) := by decide +kernel
theorem dX12_mayCome_79 : decode cX12_mayCome 79 = .ok (.iconst 0, 1) := by decide +kernel
theorem dX12_mayCome_80 : decode cX12_mayCome 80 = .ok (.ireturn, 1) := by decide +kernel
theorem dX12_movedTo_0 : decode cX12_movedTo 0 = .ok (.iconst 0, 1) := by decide +kernel
theorem dX12_movedTo_1 : decode cX12_movedTo 1 = .ok (.istore_n 2, 1) := by decide +kernel
theorem dX12_movedTo_2 : decode cX12_movedTo 2 = .ok (.iconst 0, 1) := by decide +kernel
theorem dX12_movedTo_3 : decode cX12_movedTo 3 = .ok (.istore_n 3, 1) := by decide +kernel
theorem dX12_movedTo_4 : decode cX12_movedTo 4 = .ok (.iload_n 3, 1) := by decide +kernel
theorem dX12_movedTo_5 : decode cX12_movedTo 5 = .ok (.iload_n 1, 1) := by decide +kernel
theorem dX12_movedTo_6 : decode cX12_movedTo 6 = .ok (.if_icmp .ge 30, 3) := by decide +kernel
theorem dX12_movedTo_9 : decode cX12_movedTo 9 = .ok (.iload_n 2, 1) := by decide +kernel
theorem dX12_movedTo_10 : decode cX12_movedTo 10 = .ok (.aload_n 0, 1) := by decide +kernel
theorem dX12_movedTo_11 : decode cX12_movedTo 11 = .ok (.getfield 157, 3) := by decide +kernel
theorem dX12_movedTo_14 : decode cX12_movedTo 14 = .ok (.iload_n 3, 1) := by decide +kernel
theorem dX12_movedTo_15 : decode cX12_movedTo 15 = .ok (.iaload, 1) := by decide +kernel
theorem dX12_movedTo_16 : decode cX12_movedTo 16 = .ok (.aload_n 0, 1) := by decide +kernel
theorem dX12_movedTo_17 : decode cX12_movedTo 17 = .ok (.getfield 203, 3) := by decide +kernel
theorem dX12_movedTo_20 : decode cX12_movedTo 20 = .ok (.if_icmp .ge 7, 3) := by decide +kernel
theorem dX12_movedTo_23 : decode cX12_movedTo 23 = .ok (.iconst 1, 1) := by decide +kernel
theorem dX12_movedTo_24 : decode cX12_movedTo 24 = .ok (.goto 4, 3) := by decide +kernel
theorem dX12_movedTo_27 : decode cX12_movedTo 27 = .ok (.iconst 0, 1) := by decide +kernel
theorem dX12_movedTo_28 : decode cX12_movedTo 28 = .ok (.iadd, 1) := by decide +kernel
theorem dX12_movedTo_29 : decode cX12_movedTo 29 = .ok (.istore_n 2, 1) := by decide +kernel
theorem dX12_movedTo_30 : decode cX12_movedTo 30 = .ok (.iinc 3 1, 3) := by decide +kernel
theorem dX12_movedTo_33 : decode cX12_movedTo 33 = .ok (.goto (-29), 3) := by decide +kernel
theorem dX12_movedTo_36 : decode cX12_movedTo 36 = .ok (.iload_n 2, 1) := by decide +kernel
theorem dX12_movedTo_37 : decode cX12_movedTo 37 = .ok (.ireturn, 1) := by decide +kernel
theorem dX12_milesTo_0 : decode cX12_milesTo 0 = .ok (.iconst 0, 1) := by decide +kernel
theorem dX12_milesTo_1 : decode cX12_milesTo 1 = .ok (.istore_n 2, 1) := by decide +kernel
theorem dX12_milesTo_2 : decode cX12_milesTo 2 = .ok (.iconst 0, 1) := by decide +kernel
theorem dX12_milesTo_3 : decode cX12_milesTo 3 = .ok (.istore_n 3, 1) := by decide +kernel
theorem dX12_milesTo_4 : decode cX12_milesTo 4 = .ok (.iload_n 3, 1) := by decide +kernel
theorem dX12_milesTo_5 : decode cX12_milesTo 5 = .ok (.iload_n 1, 1) := by decide +kernel
theorem dX12_milesTo_6 : decode cX12_milesTo 6 = .ok (.if_icmp .ge 45, 3) := by decide +kernel
theorem dX12_milesTo_9 : decode cX12_milesTo 9 = .ok (.iload_n 2, 1) := by decide +kernel
theorem dX12_milesTo_10 : decode cX12_milesTo 10 = .ok (.aload_n 0, 1) := by decide +kernel
theorem dX12_milesTo_11 : decode cX12_milesTo 11 = .ok (.getfield 157, 3) := by decide +kernel
theorem dX12_milesTo_14 : decode cX12_milesTo 14 = .ok (.iload_n 3, 1) := by decide +kernel
theorem dX12_milesTo_15 : decode cX12_milesTo 15 = .ok (.iaload, 1) := by decide +kernel
theorem dX12_milesTo_16 : decode cX12_milesTo 16 = .ok (.aload_n 0, 1) := by decide +kernel
theorem dX12_milesTo_17 : decode cX12_milesTo 17 = .ok (.getfield 203, 3) := by decide +kernel
theorem dX12_milesTo_20 : decode cX12_milesTo 20 = .ok (.if_icmp .ge 22, 3) := by decide +kernel
theorem dX12_milesTo_23 : decode cX12_milesTo 23 = .ok (.aload_n 0, 1) := by decide +kernel
theorem dX12_milesTo_24 : decode cX12_milesTo 24 = .ok (.aload_n 0, 1) := by decide +kernel
theorem dX12_milesTo_25 : decode cX12_milesTo 25 = .ok (.getfield 157, 3) := by decide +kernel
theorem dX12_milesTo_28 : decode cX12_milesTo 28 = .ok (.iload_n 3, 1) := by decide +kernel
theorem dX12_milesTo_29 : decode cX12_milesTo 29 = .ok (.iaload, 1) := by decide +kernel
theorem dX12_milesTo_30 : decode cX12_milesTo 30 = .ok (.aload_n 0, 1) := by decide +kernel
theorem dX12_milesTo_31 : decode cX12_milesTo 31 = .ok (.getfield 154, 3) := by decide +kernel
theorem dX12_milesTo_34 : decode cX12_milesTo 34 = .ok (.iload_n 3, 1) := by decide +kernel
theorem dX12_milesTo_35 : decode cX12_milesTo 35 = .ok (.iaload, 1) := by decide +kernel
theorem dX12_milesTo_36 : decode cX12_milesTo 36 = .ok (.invokevirtual 374, 3) := by decide +kernel
theorem dX12_milesTo_39 : decode cX12_milesTo 39 = .ok (.goto 4, 3) := by decide +kernel
theorem dX12_milesTo_42 : decode cX12_milesTo 42 = .ok (.iconst 0, 1) := by decide +kernel
theorem dX12_milesTo_43 : decode cX12_milesTo 43 = .ok (.iadd, 1) := by decide +kernel
theorem dX12_milesTo_44 : decode cX12_milesTo 44 = .ok (.istore_n 2, 1) := by decide +kernel
theorem dX12_milesTo_45 : decode cX12_milesTo 45 = .ok (.iinc 3 1, 3) := by decide +kernel
theorem dX12_milesTo_48 : decode cX12_milesTo 48 = .ok (.goto (-44), 3) := by decide +kernel
theorem dX12_milesTo_51 : decode cX12_milesTo 51 = .ok (.iload_n 2, 1) := by decide +kernel
theorem dX12_milesTo_52 : decode cX12_milesTo 52 = .ok (.ireturn, 1) := by decide +kernel
theorem dX12_ways_0 : decode cX12_ways 0 = .ok (.iconst 0, 1) := by decide +kernel
theorem dX12_ways_1 : decode cX12_ways 1 = .ok (.istore_n 1, 1) := by decide +kernel
theorem dX12_ways_2 : decode cX12_ways 2 = .ok (.iconst 0, 1) := by decide +kernel
theorem dX12_ways_3 : decode cX12_ways 3 = .ok (.istore_n 2, 1) := by decide +kernel
theorem dX12_ways_4 : decode cX12_ways 4 = .ok (.iload_n 2, 1) := by decide +kernel
theorem dX12_ways_5 : decode cX12_ways 5 = .ok (.aload_n 0, 1) := by decide +kernel
theorem dX12_ways_6 : decode cX12_ways 6 = .ok (.getfield 203, 3) := by decide +kernel
theorem dX12_ways_9 : decode cX12_ways 9 = .ok (.if_icmp .ge 37, 3) := by decide +kernel
theorem dX12_ways_12 : decode cX12_ways 12 = .ok (.iconst 0, 1) := by decide +kernel
theorem dX12_ways_13 : decode cX12_ways 13 = .ok (.istore_n 3, 1) := by decide +kernel
theorem dX12_ways_14 : decode cX12_ways 14 = .ok (.iload_n 3, 1) := by decide +kernel
theorem dX12_ways_15 : decode cX12_ways 15 = .ok (.aload_n 0, 1) := by decide +kernel
theorem dX12_ways_16 : decode cX12_ways 16 = .ok (.getfield 151, 3) := by decide +kernel
theorem dX12_ways_19 : decode cX12_ways 19 = .ok (.iload_n 2, 1) := by decide +kernel
theorem dX12_ways_20 : decode cX12_ways 20 = .ok (.iaload, 1) := by decide +kernel
theorem dX12_ways_21 : decode cX12_ways 21 = .ok (.if_icmp .ge 19, 3) := by decide +kernel
theorem dX12_ways_24 : decode cX12_ways 24 = .ok (.aload_n 0, 1) := by decide +kernel
theorem dX12_ways_25 : decode cX12_ways 25 = .ok (.getfield 154, 3) := by decide +kernel
theorem dX12_ways_28 : decode cX12_ways 28 = .ok (.iload_n 1, 1) := by decide +kernel
theorem dX12_ways_29 : decode cX12_ways 29 = .ok (.iload_n 2, 1) := by decide +kernel
theorem dX12_ways_30 : decode cX12_ways 30 = .ok (.iastore, 1) := by decide +kernel
theorem dX12_ways_31 : decode cX12_ways 31 = .ok (.iinc 1 1, 3) := by decide +kernel
theorem dX12_ways_34 : decode cX12_ways 34 = .ok (.iinc 3 1, 3) := by decide +kernel
theorem dX12_ways_37 : decode cX12_ways 37 = .ok (.goto (-23), 3) := by decide +kernel
theorem dX12_ways_40 : decode cX12_ways 40 = .ok (.iinc 2 1, 3) := by decide +kernel
theorem dX12_ways_43 : decode cX12_ways 43 = .ok (.goto (-39), 3) := by decide +kernel
theorem dX12_ways_46 : decode cX12_ways 46 = .ok (.iload_n 1, 1) := by decide +kernel
theorem dX12_ways_47 : decode cX12_ways 47 = .ok (.bipush 6, 2) := by decide +kernel
theorem dX12_ways_49 : decode cX12_ways 49 = .ok (.if_icmp .le 6, 3) := by decide +kernel
theorem dX12_ways_52 : decode cX12_ways 52 = .ok (.bipush (-4), 2) := by decide +kernel
theorem dX12_ways_54 : decode cX12_ways 54 = .ok (.ireturn, 1) := by decide +kernel
theorem dX12_ways_55 : decode cX12_ways 55 = .ok (.aload_n 0, 1) := by decide +kernel
theorem dX12_ways_56 : decode cX12_ways 56 = .ok (.iload_n 1, 1) := by decide +kernel
theorem dX12_ways_57 : decode cX12_ways 57 = .ok (.putfield 163, 3) := by decide +kernel
theorem dX12_ways_60 : decode cX12_ways 60 = .ok (.aload_n 0, 1) := by decide +kernel
theorem dX12_ways_61 : decode cX12_ways 61 = .ok (.aload_n 0, 1) := by decide +kernel
theorem dX12_ways_62 : decode cX12_ways 62 = .ok (.getfield 203, 3) := by decide +kernel
theorem dX12_ways_65 : decode cX12_ways 65 = .ok (.putfield 377, 3) := by decide +kernel
theorem dX12_ways_68 : decode cX12_ways 68 = .ok (.iconst (-1), 1) := by decide +kernel
theorem dX12_ways_69 : decode cX12_ways 69 = .ok (.istore_n 2, 1) := by decide +kernel
theorem dX12_ways_70 : decode cX12_ways 70 = .ok (.iconst 0, 1) := by decide +kernel
theorem dX12_ways_71 : decode cX12_ways 71 = .ok (.istore_n 3, 1) := by decide +kernel
theorem dX12_ways_72 : decode cX12_ways 72 = .ok (.iconst 0, 1) := by decide +kernel
theorem dX12_ways_73 : decode cX12_ways 73 = .ok (.istore 4, 2) := by decide +kernel
theorem dX12_ways_75 : decode cX12_ways 75 = .ok (.aload_n 0, 1) := by decide +kernel
theorem dX12_ways_76 : decode cX12_ways 76 = .ok (.getfield 157, 3) := by decide +kernel
theorem dX12_ways_79 : decode cX12_ways 79 = .ok (.iconst 0, 1) := by decide +kernel
theorem dX12_ways_80 : decode cX12_ways 80 = .ok (.iconst (-1), 1) := by decide +kernel
theorem dX12_ways_81 : decode cX12_ways 81 = .ok (.iastore, 1) := by decide +kernel
theorem dX12_ways_82 : decode cX12_ways 82 = .ok (.iload 4, 2) := by decide +kernel
theorem dX12_ways_84 : decode cX12_ways 84 = .ok (.ifCond .lt 164, 3) := by decide +kernel
theorem dX12_ways_87 : decode cX12_ways 87 = .ok (.iload_n 1, 1) := by decide +kernel
theorem dX12_ways_88 : decode cX12_ways 88 = .ok (.ifCond .le 160, 3) := by decide +kernel
theorem dX12_ways_91 : decode cX12_ways 91 = .ok (.aload_n 0, 1) := by decide +kernel
theorem dX12_ways_92 : decode cX12_ways 92 = .ok (.getfield 157, 3) := by decide +kernel
theorem dX12_ways_95 : decode cX12_ways 95 = .ok (.iload 4, 2) := by decide +kernel
theorem dX12_ways_97 : decode cX12_ways 97 = .ok (.dup2, 1) := by decide +kernel
theorem dX12_ways_98 : decode cX12_ways 98 = .ok (.iaload, 1) := by decide +kernel
theorem dX12_ways_99 : decode cX12_ways 99 = .ok (.iconst 1, 1) := by decide +kernel
theorem dX12_ways_100 : decode cX12_ways 100 = .ok (.iadd, 1) := by decide +kernel
theorem dX12_ways_101 : decode cX12_ways 101 = .ok (.iastore, 1) := by decide +kernel
theorem dX12_ways_102 : decode cX12_ways 102 = .ok (.aload_n 0, 1) := by decide +kernel
theorem dX12_ways_103 : decode cX12_ways 103 = .ok (.getfield 157, 3) := by decide +kernel
theorem dX12_ways_106 : decode cX12_ways 106 = .ok (.iload 4, 2) := by decide +kernel
theorem dX12_ways_108 : decode cX12_ways 108 = .ok (.iaload, 1) := by decide +kernel
theorem dX12_ways_109 : decode cX12_ways 109 = .ok (.aload_n 0, 1) := by decide +kernel
theorem dX12_ways_110 : decode cX12_ways 110 = .ok (.getfield 203, 3) := by decide +kernel
theorem dX12_ways_113 : decode cX12_ways 113 = .ok (.if_icmp .le 9, 3) := by decide +kernel
theorem dX12_ways_116 : decode cX12_ways 116 = .ok (.iinc 4 (-1), 3) := by decide +kernel
theorem dX12_ways_119 : decode cX12_ways 119 = .ok (.goto (-37), 3) := by decide +kernel
theorem dX12_ways_122 : decode cX12_ways 122 = .ok (.aload_n 0, 1) := by decide +kernel
theorem dX12_ways_123 : decode cX12_ways 123 = .ok (.iload 4, 2) := by decide +kernel
theorem dX12_ways_125 : decode cX12_ways 125 = .ok (.invokevirtual 380, 3) := by decide +kernel
theorem dX12_ways_128 : decode cX12_ways 128 = .ok (.ifCond .ne 6, 3) := by decide +kernel
theorem dX12_ways_131 : decode cX12_ways 131 = .ok (.goto (-49), 3) := by decide +kernel
theorem dX12_ways_134 : decode cX12_ways 134 = .ok (.aload_n 0, 1) := by decide +kernel
theorem dX12_ways_135 : decode cX12_ways 135 = .ok (.iload 4, 2) := by decide +kernel
theorem dX12_ways_137 : decode cX12_ways 137 = .ok (.iconst 1, 1) := by decide +kernel
theorem dX12_ways_138 : decode cX12_ways 138 = .ok (.iadd, 1) := by decide +kernel
theorem dX12_ways_139 : decode cX12_ways 139 = .ok (.invokevirtual 383, 3) := by decide +kernel
theorem dX12_ways_142 : decode cX12_ways 142 = .ok (.iload_n 1, 1) := by decide +kernel
theorem dX12_ways_143 : decode cX12_ways 143 = .ok (.iadd, 1) := by decide +kernel
theorem dX12_ways_144 : decode cX12_ways 144 = .ok (.iload 4, 2) := by decide +kernel
theorem dX12_ways_146 : decode cX12_ways 146 = .ok (.isub, 1) := by decide +kernel
theorem dX12_ways_147 : decode cX12_ways 147 = .ok (.iconst 1, 1) := by decide +kernel
theorem dX12_ways_148 : decode cX12_ways 148 = .ok (.isub, 1) := by decide +kernel
theorem dX12_ways_149 : decode cX12_ways 149 = .ok (.istore 5, 2) := by decide +kernel
theorem dX12_ways_151 : decode cX12_ways 151 = .ok (.iload_n 2, 1) := by decide +kernel
theorem dX12_ways_152 : decode cX12_ways 152 = .ok (.ifCond .lt 30, 3) := by decide +kernel
theorem dX12_ways_155 : decode cX12_ways 155 = .ok (.iload 5, 2) := by decide +kernel
theorem dX12_ways_157 : decode cX12_ways 157 = .ok (.iload_n 2, 1) := by decide +kernel
theorem dX12_ways_158 : decode cX12_ways 158 = .ok (.if_icmp .lt (-76), 3) := by decide +kernel
theorem dX12_ways_161 : decode cX12_ways 161 = .ok (.iload 5, 2) := by decide +kernel
theorem dX12_ways_163 : decode cX12_ways 163 = .ok (.iload_n 2, 1) := by decide +kernel
theorem dX12_ways_164 : decode cX12_ways 164 = .ok (.if_icmp .ne 18, 3) := by decide +kernel
theorem dX12_ways_167 : decode cX12_ways 167 = .ok (.aload_n 0, 1) := by decide +kernel
theorem dX12_ways_168 : decode cX12_ways 168 = .ok (.iload 4, 2) := by decide +kernel
theorem dX12_ways_170 : decode cX12_ways 170 = .ok (.iconst 1, 1) := by decide +kernel
theorem dX12_ways_171 : decode cX12_ways 171 = .ok (.iadd, 1) := by decide +kernel
theorem dX12_ways_172 : decode cX12_ways 172 = .ok (.invokevirtual 386, 3) := by decide +kernel
theorem dX12_ways_175 : decode cX12_ways 175 = .ok (.iload_n 3, 1) := by decide +kernel
theorem dX12_ways_176 : decode cX12_ways 176 = .ok (.if_icmp .lt 6, 3) := by decide +kernel
theorem dX12_ways_179 : decode cX12_ways 179 = .ok (.goto (-97), 3) := by decide +kernel
theorem dX12_ways_182 : decode cX12_ways 182 = .ok (.iload 4, 2) := by decide +kernel
theorem dX12_ways_184 : decode cX12_ways 184 = .ok (.iload_n 1, 1) := by decide +kernel
theorem dX12_ways_185 : decode cX12_ways 185 = .ok (.iconst 1, 1) := by decide +kernel
theorem dX12_ways_186 : decode cX12_ways 186 = .ok (.isub, 1) := by decide +kernel
theorem dX12_ways_187 : decode cX12_ways 187 = .ok (.if_icmp .ge 17, 3) := by decide +kernel
theorem dX12_ways_190 : decode cX12_ways 190 = .ok (.iinc 4 1, 3) := by decide +kernel
theorem dX12_ways_193 : decode cX12_ways 193 = .ok (.aload_n 0, 1) := by decide +kernel
theorem dX12_ways_194 : decode cX12_ways 194 = .ok (.getfield 157, 3) := by decide +kernel
theorem dX12_ways_197 : decode cX12_ways 197 = .ok (.iload 4, 2) := by decide +kernel
theorem dX12_ways_199 : decode cX12_ways 199 = .ok (.iconst (-1), 1) := by decide +kernel
theorem dX12_ways_200 : decode cX12_ways 200 = .ok (.iastore, 1) := by decide +kernel
theorem dX12_ways_201 : decode cX12_ways 201 = .ok (.goto (-119), 3) := by decide +kernel
theorem dX12_ways_204 : decode cX12_ways 204 = .ok (.aload_n 0, 1) := by decide +kernel
theorem dX12_ways_205 : decode cX12_ways 205 = .ok (.iload_n 1, 1) := by decide +kernel
theorem dX12_ways_206 : decode cX12_ways 206 = .ok (.invokevirtual 383, 3) := by decide +kernel
theorem dX12_ways_209 : decode cX12_ways 209 = .ok (.istore_n 2, 1) := by decide +kernel
theorem dX12_ways_210 : decode cX12_ways 210 = .ok (.aload_n 0, 1) := by decide +kernel
theorem dX12_ways_211 : decode cX12_ways 211 = .ok (.iload_n 1, 1) := by decide +kernel
theorem dX12_ways_212 : decode cX12_ways 212 = .ok (.invokevirtual 386, 3) := by decide +kernel
theorem dX12_ways_215 : decode cX12_ways 215 = .ok (.istore_n 3, 1) := by decide +kernel
theorem dX12_ways_216 : decode cX12_ways 216 = .ok (.iconst 0, 1) := by decide +kernel
theorem dX12_ways_217 : decode cX12_ways 217 = .ok (.istore 6, 2) := by decide +kernel
theorem dX12_ways_219 : decode cX12_ways 219 = .ok (.iload 6, 2) := by decide +kernel
theorem dX12_ways_221 : decode cX12_ways 221 = .ok (.iload_n 1, 1) := by decide +kernel
theorem dX12_ways_222 : decode cX12_ways 222 = .ok (.if_icmp .ge 23, 3) := by decide +kernel
theorem dX12_ways_225 : decode cX12_ways 225 = .ok (.aload_n 0, 1) := by decide +kernel
theorem dX12_ways_226 : decode cX12_ways 226 = .ok (.getfield 160, 3) := by decide +kernel
theorem dX12_ways_229 : decode cX12_ways 229 = .ok (.iload 6, 2) := by decide +kernel
theorem dX12_ways_231 : decode cX12_ways 231 = .ok (.aload_n 0, 1) := by decide +kernel
theorem dX12_ways_232 : decode cX12_ways 232 = .ok (.getfield 157, 3) := by decide +kernel
theorem dX12_ways_235 : decode cX12_ways 235 = .ok (.iload 6, 2) := by decide +kernel
theorem dX12_ways_237 : decode cX12_ways 237 = .ok (.iaload, 1) := by decide +kernel
theorem dX12_ways_238 : decode cX12_ways 238 = .ok (.iastore, 1) := by decide +kernel
theorem dX12_ways_239 : decode cX12_ways 239 = .ok (.iinc 6 1, 3) := by decide +kernel
theorem dX12_ways_242 : decode cX12_ways 242 = .ok (.goto (-23), 3) := by decide +kernel
theorem dX12_ways_245 : decode cX12_ways 245 = .ok (.goto (-163), 3) := by decide +kernel
theorem dX12_ways_248 : decode cX12_ways 248 = .ok (.iload_n 3, 1) := by decide +kernel
theorem dX12_ways_249 : decode cX12_ways 249 = .ok (.ireturn, 1) := by decide +kernel
theorem dX12_comes_0 : decode cX12_comes 0 = .ok (.iload_n 1, 1) := by decide +kernel
theorem dX12_comes_1 : decode cX12_comes 1 = .ok (.iconst 0, 1) := by decide +kernel
theorem dX12_comes_2 : decode cX12_comes 2 = .ok (.aload_n 0, 1) := by decide +kernel
theorem dX12_comes_3 : decode cX12_comes 3 = .ok (.getfield 163, 3) := by decide +kernel
theorem dX12_comes_6 : decode cX12_comes 6 = .ok (.iconst 1, 1) := by decide +kernel
theorem dX12_comes_7 : decode cX12_comes 7 = .ok (.isub, 1) := by decide +kernel
theorem dX12_comes_8 : decode cX12_comes 8 = .ok (.invokestatic 196, 3) := by decide +kernel
theorem dX12_comes_11 : decode cX12_comes 11 = .ok (.ifCond .ne 7, 3) := by decide +kernel
theorem dX12_comes_14 : decode cX12_comes 14 = .ok (.iconst (-1), 1) := by decide +kernel
theorem dX12_comes_15 : decode cX12_comes 15 = .ok (.goto 27, 3) := by decide +kernel
theorem dX12_comes_18 : decode cX12_comes 18 = .ok (.aload_n 0, 1) := by decide +kernel
theorem dX12_comes_19 : decode cX12_comes 19 = .ok (.getfield 160, 3) := by decide +kernel
theorem dX12_comes_22 : decode cX12_comes 22 = .ok (.iload_n 1, 1) := by decide +kernel
theorem dX12_comes_23 : decode cX12_comes 23 = .ok (.iaload, 1) := by decide +kernel
theorem dX12_comes_24 : decode cX12_comes 24 = .ok (.aload_n 0, 1) := by decide +kernel
theorem dX12_comes_25 : decode cX12_comes 25 = .ok (.getfield 377, 3) := by decide +kernel
theorem dX12_comes_28 : decode cX12_comes 28 = .ok (.if_icmp .ne 8, 3) := by decide +kernel
theorem dX12_comes_31 : decode cX12_comes 31 = .ok (.bipush (-2), 2) := by decide +kernel
theorem dX12_comes_33 : decode cX12_comes 33 = .ok (.goto 9, 3) := by decide +kernel
theorem dX12_comes_36 : decode cX12_comes 36 = .ok (.aload_n 0, 1) := by decide +kernel
theorem dX12_comes_37 : decode cX12_comes 37 = .ok (.getfield 160, 3) := by decide +kernel
theorem dX12_comes_40 : decode cX12_comes 40 = .ok (.iload_n 1, 1) := by decide +kernel
theorem dX12_comes_41 : decode cX12_comes 41 = .ok (.iaload, 1) := by decide +kernel
theorem dX12_comes_42 : decode cX12_comes 42 = .ok (.ireturn, 1) := by decide +kernel
theorem dX12_move_0 : decode cX12_move 0 = .ok (.aload_n 0, 1) := by decide +kernel
theorem dX12_move_1 : decode cX12_move 1 = .ok (.iload_n 1, 1) := by decide +kernel
theorem dX12_move_2 : decode cX12_move 2 = .ok (.iload_n 3, 1) := by decide +kernel
theorem dX12_move_3 : decode cX12_move 3 = .ok (.invokevirtual 223, 3) := by decide +kernel
theorem dX12_move_6 : decode cX12_move 6 = .ok (.ifCond .eq 28, 3) := by decide +kernel
theorem dX12_move_9 : decode cX12_move 9 = .ok (.aload_n 0, 1) := by decide +kernel
theorem dX12_move_10 : decode cX12_move 10 = .ok (.iload_n 2, 1) := by decide +kernel
theorem dX12_move_11 : decode cX12_move 11 = .ok (.invokevirtual 209, 3) := by decide +kernel
theorem dX12_move_14 : decode cX12_move 14 = .ok (.ifCond .eq 20, 3) := by decide +kernel
theorem dX12_move_17 : decode cX12_move 17 = .ok (.iload_n 1, 1) := by decide +kernel
theorem dX12_move_18 : decode cX12_move 18 = .ok (.iload_n 2, 1) := by decide +kernel
theorem dX12_move_19 : decode cX12_move 19 = .ok (.if_icmp .eq 15, 3) := by decide +kernel
theorem dX12_move_22 : decode cX12_move 22 = .ok (.iload 4, 2) := by decide +kernel
theorem dX12_move_24 : decode cX12_move 24 = .ok (.iconst 1, 1) := by decide +kernel
theorem dX12_move_25 : decode cX12_move 25 = .ok (.sipush 999, 3) := by decide +kernel
theorem dX12_move_28 : decode cX12_move 28 = .ok (.invokestatic 196, 3) := by decide +kernel
theorem dX12_move_31 : decode cX12_move 31 = .ok (.ifCond .ne 5, 3) := by decide +kernel
theorem dX12_move_34 : decode cX12_move 34 = .ok (.iconst (-1), 1) := by decide +kernel
theorem dX12_move_35 : decode cX12_move 35 = .ok (.ireturn, 1) := by decide +kernel
theorem dX12_move_36 : decode cX12_move 36 = .ok (.aload_n 0, 1) := by decide +kernel
theorem dX12_move_37 : decode cX12_move 37 = .ok (.iload_n 1, 1) := by decide +kernel
theorem dX12_move_38 : decode cX12_move 38 = .ok (.iload_n 3, 1) := by decide +kernel
theorem dX12_move_39 : decode cX12_move 39 = .ok (.iconst 0, 1) := by decide +kernel
theorem dX12_move_40 : decode cX12_move 40 = .ok (.invokevirtual 347, 3) := by decide +kernel
theorem dX12_move_43 : decode cX12_move 43 = .ok (.ifCond .ge 6, 3) := by decide +kernel
theorem dX12_move_46 : decode cX12_move 46 = .ok (.bipush (-2), 2) := by decide +kernel
theorem dX12_move_48 : decode cX12_move 48 = .ok (.ireturn, 1) := by decide +kernel
theorem dX12_move_49 : decode cX12_move 49 = .ok (.iload 4, 2) := by decide +kernel
theorem dX12_move_51 : decode cX12_move 51 = .ok (.istore 5, 2) := by decide +kernel
theorem dX12_move_53 : decode cX12_move 53 = .ok (.iconst 0, 1) := by decide +kernel
theorem dX12_move_54 : decode cX12_move 54 = .ok (.istore 6, 2) := by decide +kernel
theorem dX12_move_56 : decode cX12_move 56 = .ok (.iconst 0, 1) := by decide +kernel
theorem dX12_move_57 : decode cX12_move 57 = .ok (.istore 7, 2) := by decide +kernel
theorem dX12_move_59 : decode cX12_move 59 = .ok (.iload 7, 2) := by decide +kernel
theorem dX12_move_61 : decode cX12_move 61 = .ok (.aload_n 0, 1) := by decide +kernel
theorem dX12_move_62 : decode cX12_move 62 = .ok (.getfield 227, 3) := by decide +kernel
theorem dX12_move_65 : decode cX12_move 65 = .ok (.if_icmp .ge 17, 3) := by decide +kernel
theorem dX12_move_68 : decode cX12_move 68 = .ok (.aload_n 0, 1) := by decide +kernel
theorem dX12_move_69 : decode cX12_move 69 = .ok (.getfield 166, 3) := by decide +kernel
theorem dX12_move_72 : decode cX12_move 72 = .ok (.iload 7, 2) := by decide +kernel
theorem dX12_move_74 : decode cX12_move 74 = .ok (.iconst 0, 1) := by decide +kernel
theorem dX12_move_75 : decode cX12_move 75 = .ok (.bastore, 1) := by decide +kernel
theorem dX12_move_76 : decode cX12_move 76 = .ok (.iinc 7 1, 3) := by decide +kernel
theorem dX12_move_79 : decode cX12_move 79 = .ok (.goto (-20), 3) := by decide +kernel
theorem dX12_move_82 : decode cX12_move 82 = .ok (.aload_n 0, 1) := by decide +kernel
theorem dX12_move_83 : decode cX12_move 83 = .ok (.iload_n 1, 1) := by decide +kernel
theorem dX12_move_84 : decode cX12_move 84 = .ok (.iload_n 3, 1) := by decide +kernel
theorem dX12_move_85 : decode cX12_move 85 = .ok (.invokevirtual 389, 3) := by decide +kernel
theorem dX12_move_88 : decode cX12_move 88 = .ok (.istore 7, 2) := by decide +kernel
theorem dX12_move_90 : decode cX12_move 90 = .ok (.iload 5, 2) := by decide +kernel
theorem dX12_move_92 : decode cX12_move 92 = .ok (.ifCond .le 57, 3) := by decide +kernel
theorem dX12_move_95 : decode cX12_move 95 = .ok (.iload 7, 2) := by decide +kernel
theorem dX12_move_97 : decode cX12_move 97 = .ok (.ifCond .lt 52, 3) := by decide +kernel
theorem dX12_move_100 : decode cX12_move 100 = .ok (.aload_n 0, 1) := by decide +kernel
theorem dX12_move_101 : decode cX12_move 101 = .ok (.getfield 166, 3) := by decide +kernel
theorem dX12_move_104 : decode cX12_move 104 = .ok (.iload 7, 2) := by decide +kernel
theorem dX12_move_106 : decode cX12_move 106 = .ok (.iconst 1, 1) := by decide +kernel
theorem dX12_move_107 : decode cX12_move 107 = .ok (.bastore, 1) := by decide +kernel
theorem dX12_move_108 : decode cX12_move 108 = .ok (.iload 5, 2) := by decide +kernel
theorem dX12_move_110 : decode cX12_move 110 = .ok (.aload_n 0, 1) := by decide +kernel
theorem dX12_move_111 : decode cX12_move 111 = .ok (.iload 7, 2) := by decide +kernel
theorem dX12_move_113 : decode cX12_move 113 = .ok (.invokevirtual 245, 3) := by decide +kernel
theorem dX12_move_116 : decode cX12_move 116 = .ok (.iload 5, 2) := by decide +kernel
theorem dX12_move_118 : decode cX12_move 118 = .ok (.if_icmp .ge 12, 3) := by decide +kernel
theorem dX12_move_121 : decode cX12_move 121 = .ok (.aload_n 0, 1) := by decide +kernel
theorem dX12_move_122 : decode cX12_move 122 = .ok (.iload 7, 2) := by decide +kernel
theorem dX12_move_124 : decode cX12_move 124 = .ok (.invokevirtual 245, 3) := by decide +kernel
theorem dX12_move_127 : decode cX12_move 127 = .ok (.goto 5, 3) := by decide +kernel
theorem dX12_move_130 : decode cX12_move 130 = .ok (.iload 5, 2) := by decide +kernel
theorem dX12_move_132 : decode cX12_move 132 = .ok (.isub, 1) := by decide +kernel
theorem dX12_move_133 : decode cX12_move 133 = .ok (.istore 5, 2) := by decide +kernel
theorem dX12_move_135 : decode cX12_move 135 = .ok (.iinc 6 1, 3) := by decide +kernel
theorem dX12_move_138 : decode cX12_move 138 = .ok (.aload_n 0, 1) := by decide +kernel
theorem dX12_move_139 : decode cX12_move 139 = .ok (.iload_n 1, 1) := by decide +kernel
theorem dX12_move_140 : decode cX12_move 140 = .ok (.iload_n 3, 1) := by decide +kernel
theorem dX12_move_141 : decode cX12_move 141 = .ok (.invokevirtual 389, 3) := by decide +kernel
theorem dX12_move_144 : decode cX12_move 144 = .ok (.istore 7, 2) := by decide +kernel
theorem dX12_move_146 : decode cX12_move 146 = .ok (.goto (-56), 3) := by decide +kernel
theorem dX12_move_149 : decode cX12_move 149 = .ok (.aload_n 0, 1) := by decide +kernel
theorem dX12_move_150 : decode cX12_move 150 = .ok (.getfield 227, 3) := by decide +kernel
theorem dX12_move_153 : decode cX12_move 153 = .ok (.iload 6, 2) := by decide +kernel
theorem dX12_move_155 : decode cX12_move 155 = .ok (.iadd, 1) := by decide +kernel
theorem dX12_move_156 : decode cX12_move 156 = .ok (.sipush 200, 3) := by decide +kernel
theorem dX12_move_159 : decode cX12_move 159 = .ok (.if_icmp .le 6, 3) := by decide +kernel
theorem dX12_move_162 : decode cX12_move 162 = .ok (.bipush (-3), 2) := by decide +kernel
theorem dX12_move_164 : decode cX12_move 164 = .ok (.ireturn, 1) := by decide +kernel
theorem dX12_move_165 : decode cX12_move 165 = .ok (.iload 4, 2) := by decide +kernel
theorem dX12_move_167 : decode cX12_move 167 = .ok (.istore 5, 2) := by decide +kernel
theorem dX12_move_169 : decode cX12_move 169 = .ok (.iconst 0, 1) := by decide +kernel
theorem dX12_move_170 : decode cX12_move 170 = .ok (.istore 8, 2) := by decide +kernel
theorem dX12_move_172 : decode cX12_move 172 = .ok (.iload 8, 2) := by decide +kernel
theorem dX12_move_174 : decode cX12_move 174 = .ok (.iload 6, 2) := by decide +kernel
theorem dX12_move_176 : decode cX12_move 176 = .ok (.if_icmp .ge 85, 3) := by decide +kernel
theorem dX12_move_179 : decode cX12_move 179 = .ok (.aload_n 0, 1) := by decide +kernel
theorem dX12_move_180 : decode cX12_move 180 = .ok (.iload_n 1, 1) := by decide +kernel
theorem dX12_move_181 : decode cX12_move 181 = .ok (.iload_n 3, 1) := by decide +kernel
theorem dX12_move_182 : decode cX12_move 182 = .ok (.iconst 0, 1) := by decide +kernel
theorem dX12_move_183 : decode cX12_move 183 = .ok (.invokevirtual 347, 3) := by decide +kernel
theorem dX12_move_186 : decode cX12_move 186 = .ok (.istore 9, 2) := by decide +kernel
theorem dX12_move_188 : decode cX12_move 188 = .ok (.aload_n 0, 1) := by decide +kernel
theorem dX12_move_189 : decode cX12_move 189 = .ok (.iload 9, 2) := by decide +kernel
theorem dX12_move_191 : decode cX12_move 191 = .ok (.invokevirtual 245, 3) := by decide +kernel
theorem dX12_move_194 : decode cX12_move 194 = .ok (.iload 5, 2) := by decide +kernel
theorem dX12_move_196 : decode cX12_move 196 = .ok (.if_icmp .ge 12, 3) := by decide +kernel
theorem dX12_move_199 : decode cX12_move 199 = .ok (.aload_n 0, 1) := by decide +kernel
theorem dX12_move_200 : decode cX12_move 200 = .ok (.iload 9, 2) := by decide +kernel
theorem dX12_move_202 : decode cX12_move 202 = .ok (.invokevirtual 245, 3) := by decide +kernel
theorem dX12_move_205 : decode cX12_move 205 = .ok (.goto 5, 3) := by decide +kernel
theorem dX12_move_208 : decode cX12_move 208 = .ok (.iload 5, 2) := by decide +kernel
theorem dX12_move_210 : decode cX12_move 210 = .ok (.istore 10, 2) := by decide +kernel
theorem dX12_move_212 : decode cX12_move 212 = .ok (.aload_n 0, 1) := by decide +kernel
theorem dX12_move_213 : decode cX12_move 213 = .ok (.getfield 64, 3) := by decide +kernel
theorem dX12_move_216 : decode cX12_move 216 = .ok (.iload 9, 2) := by decide +kernel
theorem dX12_move_218 : decode cX12_move 218 = .ok (.dup2, 1) := by decide +kernel
theorem dX12_move_219 : decode cX12_move 219 = .ok (.iaload, 1) := by decide +kernel
theorem dX12_move_220 : decode cX12_move 220 = .ok (.iload 10, 2) := by decide +kernel
theorem dX12_move_222 : decode cX12_move 222 = .ok (.iadd, 1) := by decide +kernel
theorem dX12_move_223 : decode cX12_move 223 = .ok (.iastore, 1) := by decide +kernel
theorem dX12_move_224 : decode cX12_move 224 = .ok (.iload 5, 2) := by decide +kernel
theorem dX12_move_226 : decode cX12_move 226 = .ok (.iload 10, 2) := by decide +kernel
theorem dX12_move_228 : decode cX12_move 228 = .ok (.isub, 1) := by decide +kernel
theorem dX12_move_229 : decode cX12_move 229 = .ok (.istore 5, 2) := by decide +kernel
theorem dX12_move_231 : decode cX12_move 231 = .ok (.aload_n 0, 1) := by decide +kernel
theorem dX12_move_232 : decode cX12_move 232 = .ok (.iload_n 2, 1) := by decide +kernel
theorem dX12_move_233 : decode cX12_move 233 = .ok (.iload_n 3, 1) := by decide +kernel
theorem dX12_move_234 : decode cX12_move 234 = .ok (.aload_n 0, 1) := by decide +kernel
theorem dX12_move_235 : decode cX12_move 235 = .ok (.getfield 49, 3) := by decide +kernel
theorem dX12_move_238 : decode cX12_move 238 = .ok (.iload 9, 2) := by decide +kernel
theorem dX12_move_240 : decode cX12_move 240 = .ok (.iaload, 1) := by decide +kernel
theorem dX12_move_241 : decode cX12_move 241 = .ok (.aload_n 0, 1) := by decide +kernel
theorem dX12_move_242 : decode cX12_move 242 = .ok (.getfield 52, 3) := by decide +kernel
theorem dX12_move_245 : decode cX12_move 245 = .ok (.iload 9, 2) := by decide +kernel
theorem dX12_move_247 : decode cX12_move 247 = .ok (.iaload, 1) := by decide +kernel
theorem dX12_move_248 : decode cX12_move 248 = .ok (.iload 10, 2) := by decide +kernel
theorem dX12_move_250 : decode cX12_move 250 = .ok (.iload 9, 2) := by decide +kernel
theorem dX12_move_252 : decode cX12_move 252 = .ok (.invokevirtual 234, 3) := by decide +kernel
theorem dX12_move_255 : decode cX12_move 255 = .ok (.iinc 8 1, 3) := by decide +kernel
theorem dX12_move_258 : decode cX12_move 258 = .ok (.goto (-86), 3) := by decide +kernel
theorem dX12_move_261 : decode cX12_move 261 = .ok (.iload 4, 2) := by decide +kernel
theorem dX12_move_263 : decode cX12_move 263 = .ok (.iload 5, 2) := by decide +kernel
theorem dX12_move_265 : decode cX12_move 265 = .ok (.isub, 1) := by decide +kernel
theorem dX12_move_266 : decode cX12_move 266 = .ok (.ireturn, 1) := by decide +kernel
theorem dX12_nextOf_0 : decode cX12_nextOf 0 = .ok (.iconst (-1), 1) := by decide +kernel
theorem dX12_nextOf_1 : decode cX12_nextOf 1 = .ok (.istore_n 3, 1) := by decide +kernel
theorem dX12_nextOf_2 : decode cX12_nextOf 2 = .ok (.iconst 0, 1) := by decide +kernel
theorem dX12_nextOf_3 : decode cX12_nextOf 3 = .ok (.istore 4, 2) := by decide +kernel
theorem dX12_nextOf_5 : decode cX12_nextOf 5 = .ok (.iload 4, 2) := by decide +kernel
theorem dX12_nextOf_7 : decode cX12_nextOf 7 = .ok (.aload_n 0, 1) := by decide +kernel
theorem dX12_nextOf_8 : decode cX12_nextOf 8 = .ok (.getfield 227, 3) := by decide +kernel
theorem dX12_nextOf_11 : decode cX12_nextOf 11 = .ok (.if_icmp .ge 83, 3) := by decide +kernel
theorem dX12_nextOf_14 : decode cX12_nextOf 14 = .ok (.aload_n 0, 1) := by decide +kernel
theorem dX12_nextOf_15 : decode cX12_nextOf 15 = .ok (.getfield 166, 3) := by decide +kernel
theorem dX12_nextOf_18 : decode cX12_nextOf 18 = .ok (.iload 4, 2) := by decide +kernel
theorem dX12_nextOf_20 : decode cX12_nextOf 20 = .ok (.baload, 1) := by decide +kernel
theorem dX12_nextOf_21 : decode cX12_nextOf 21 = .ok (.ifCond .ne 67, 3) := by decide +kernel
theorem dX12_nextOf_24 : decode cX12_nextOf 24 = .ok (.aload_n 0, 1) := by decide +kernel
theorem dX12_nextOf_25 : decode cX12_nextOf 25 = .ok (.getfield 43, 3) := by decide +kernel
theorem dX12_nextOf_28 : decode cX12_nextOf 28 = .ok (.iload 4, 2) := by decide +kernel
theorem dX12_nextOf_30 : decode cX12_nextOf 30 = .ok (.iaload, 1) := by decide +kernel
theorem dX12_nextOf_31 : decode cX12_nextOf 31 = .ok (.iload_n 1, 1) := by decide +kernel
theorem dX12_nextOf_32 : decode cX12_nextOf 32 = .ok (.if_icmp .ne 56, 3) := by decide +kernel
theorem dX12_nextOf_35 : decode cX12_nextOf 35 = .ok (.aload_n 0, 1) := by decide +kernel
theorem dX12_nextOf_36 : decode cX12_nextOf 36 = .ok (.getfield 46, 3) := by decide +kernel
theorem dX12_nextOf_39 : decode cX12_nextOf 39 = .ok (.iload 4, 2) := by decide +kernel
theorem dX12_nextOf_41 : decode cX12_nextOf 41 = .ok (.iaload, 1) := by decide +kernel
theorem dX12_nextOf_42 : decode cX12_nextOf 42 = .ok (.iload_n 2, 1) := by decide +kernel
theorem dX12_nextOf_43 : decode cX12_nextOf 43 = .ok (.if_icmp .ne 45, 3) := by decide +kernel
theorem dX12_nextOf_46 : decode cX12_nextOf 46 = .ok (.aload_n 0, 1) := by decide +kernel
theorem dX12_nextOf_47 : decode cX12_nextOf 47 = .ok (.iload 4, 2) := by decide +kernel
theorem dX12_nextOf_49 : decode cX12_nextOf 49 = .ok (.invokevirtual 245, 3) := by decide +kernel
theorem dX12_nextOf_52 : decode cX12_nextOf 52 = .ok (.ifCond .le 36, 3) := by decide +kernel
theorem dX12_nextOf_55 : decode cX12_nextOf 55 = .ok (.aload_n 0, 1) := by decide +kernel
theorem dX12_nextOf_56 : decode cX12_nextOf 56 = .ok (.iconst 0, 1) := by decide +kernel
theorem dX12_nextOf_57 : decode cX12_nextOf 57 = .ok (.iload 4, 2) := by decide +kernel
theorem dX12_nextOf_59 : decode cX12_nextOf 59 = .ok (.invokevirtual 327, 3) := by decide +kernel
theorem dX12_nextOf_62 : decode cX12_nextOf 62 = .ok (.ifCond .eq 26, 3) := by decide +kernel
theorem dX12_nextOf_65 : decode cX12_nextOf 65 = .ok (.iload_n 3, 1) := by decide +kernel
theorem dX12_nextOf_66 : decode cX12_nextOf 66 = .ok (.ifCond .lt 19, 3) := by decide +kernel
theorem dX12_nextOf_69 : decode cX12_nextOf 69 = .ok (.aload_n 0, 1) := by decide +kernel
theorem dX12_nextOf_70 : decode cX12_nextOf 70 = .ok (.getfield 52, 3) := by decide +kernel
theorem dX12_nextOf_73 : decode cX12_nextOf 73 = .ok (.iload 4, 2) := by decide +kernel
theorem dX12_nextOf_75 : decode cX12_nextOf 75 = .ok (.iaload, 1) := by decide +kernel
theorem dX12_nextOf_76 : decode cX12_nextOf 76 = .ok (.aload_n 0, 1) := by decide +kernel
theorem dX12_nextOf_77 : decode cX12_nextOf 77 = .ok (.getfield 52, 3) := by decide +kernel
theorem dX12_nextOf_80 : decode cX12_nextOf 80 = .ok (.iload_n 3, 1) := by decide +kernel
theorem dX12_nextOf_81 : decode cX12_nextOf 81 = .ok (.iaload, 1) := by decide +kernel
theorem dX12_nextOf_82 : decode cX12_nextOf 82 = .ok (.if_icmp .ge 6, 3) := by decide +kernel
theorem dX12_nextOf_85 : decode cX12_nextOf 85 = .ok (.iload 4, 2) := by decide +kernel
theorem dX12_nextOf_87 : decode cX12_nextOf 87 = .ok (.istore_n 3, 1) := by decide +kernel
theorem dX12_nextOf_88 : decode cX12_nextOf 88 = .ok (.iinc 4 1, 3) := by decide +kernel
theorem dX12_nextOf_91 : decode cX12_nextOf 91 = .ok (.goto (-86), 3) := by decide +kernel
theorem dX12_nextOf_94 : decode cX12_nextOf 94 = .ok (.iload_n 3, 1) := by decide +kernel
theorem dX12_nextOf_95 : decode cX12_nextOf 95 = .ok (.ireturn, 1) := by decide +kernel
theorem dX12_drawn_0 : decode cX12_drawn 0 = .ok (.aload_n 0, 1) := by decide +kernel
theorem dX12_drawn_1 : decode cX12_drawn 1 = .ok (.iload_n 1, 1) := by decide +kernel
theorem dX12_drawn_2 : decode cX12_drawn 2 = .ok (.invokevirtual 209, 3) := by decide +kernel
theorem dX12_drawn_5 : decode cX12_drawn 5 = .ok (.ifCond .eq 12, 3) := by decide +kernel
theorem dX12_drawn_8 : decode cX12_drawn 8 = .ok (.iload_n 2, 1) := by decide +kernel
theorem dX12_drawn_9 : decode cX12_drawn 9 = .ok (.iconst (-1), 1) := by decide +kernel
theorem dX12_drawn_10 : decode cX12_drawn 10 = .ok (.iconst 1, 1) := by decide +kernel
theorem dX12_drawn_11 : decode cX12_drawn 11 = .ok (.invokestatic 196, 3) := by decide +kernel
theorem dX12_drawn_14 : decode cX12_drawn 14 = .ok (.ifCond .ne 6, 3) := by decide +kernel
theorem dX12_drawn_17 : decode cX12_drawn 17 = .ok (.bipush (-2), 2) := by decide +kernel
theorem dX12_drawn_19 : decode cX12_drawn 19 = .ok (.ireturn, 1) := by decide +kernel
theorem dX12_drawn_20 : decode cX12_drawn 20 = .ok (.aload_n 0, 1) := by decide +kernel
theorem dX12_drawn_21 : decode cX12_drawn 21 = .ok (.getfield 169, 3) := by decide +kernel
theorem dX12_drawn_24 : decode cX12_drawn 24 = .ok (.iload_n 1, 1) := by decide +kernel
theorem dX12_drawn_25 : decode cX12_drawn 25 = .ok (.iaload, 1) := by decide +kernel
theorem dX12_drawn_26 : decode cX12_drawn 26 = .ok (.istore_n 3, 1) := by decide +kernel
theorem dX12_drawn_27 : decode cX12_drawn 27 = .ok (.aload_n 0, 1) := by decide +kernel
theorem dX12_drawn_28 : decode cX12_drawn 28 = .ok (.getfield 169, 3) := by decide +kernel
theorem dX12_drawn_31 : decode cX12_drawn 31 = .ok (.iload_n 1, 1) := by decide +kernel
theorem dX12_drawn_32 : decode cX12_drawn 32 = .ok (.iload_n 2, 1) := by decide +kernel
theorem dX12_drawn_33 : decode cX12_drawn 33 = .ok (.iastore, 1) := by decide +kernel
theorem dX12_drawn_34 : decode cX12_drawn 34 = .ok (.iload_n 3, 1) := by decide +kernel
theorem dX12_drawn_35 : decode cX12_drawn 35 = .ok (.ireturn, 1) := by decide +kernel
theorem dX12_earlyOf_0 : decode cX12_earlyOf 0 = .ok (.iconst 0, 1) := by decide +kernel
theorem dX12_earlyOf_1 : decode cX12_earlyOf 1 = .ok (.istore 5, 2) := by decide +kernel
theorem dX12_earlyOf_3 : decode cX12_earlyOf 3 = .ok (.iconst 0, 1) := by decide +kernel
theorem dX12_earlyOf_4 : decode cX12_earlyOf 4 = .ok (.istore 6, 2) := by decide +kernel
theorem dX12_earlyOf_6 : decode cX12_earlyOf 6 = .ok (.iload 6, 2) := by decide +kernel
theorem dX12_earlyOf_8 : decode cX12_earlyOf 8 = .ok (.aload_n 0, 1) := by decide +kernel
theorem dX12_earlyOf_9 : decode cX12_earlyOf 9 = .ok (.getfield 337, 3) := by decide +kernel
theorem dX12_earlyOf_12 : decode cX12_earlyOf 12 = .ok (.if_icmp .ge 82, 3) := by decide +kernel
theorem dX12_earlyOf_15 : decode cX12_earlyOf 15 = .ok (.aload_n 0, 1) := by decide +kernel
theorem dX12_earlyOf_16 : decode cX12_earlyOf 16 = .ok (.getfield 107, 3) := by decide +kernel
theorem dX12_earlyOf_19 : decode cX12_earlyOf 19 = .ok (.iload 6, 2) := by decide +kernel
theorem dX12_earlyOf_21 : decode cX12_earlyOf 21 = .ok (.iaload, 1) := by decide +kernel
theorem dX12_earlyOf_22 : decode cX12_earlyOf 22 = .ok (.iload_n 1, 1) := by decide +kernel
theorem dX12_earlyOf_23 : decode cX12_earlyOf 23 = .ok (.if_icmp .ne 65, 3) := by decide +kernel
theorem dX12_earlyOf_26 : decode cX12_earlyOf 26 = .ok (.aload_n 0, 1) := by decide +kernel
theorem dX12_earlyOf_27 : decode cX12_earlyOf 27 = .ok (.getfield 110, 3) := by decide +kernel
theorem dX12_earlyOf_30 : decode cX12_earlyOf 30 = .ok (.iload 6, 2) := by decide +kernel
theorem dX12_earlyOf_32 : decode cX12_earlyOf 32 = .ok (.iaload, 1) := by decide +kernel
theorem dX12_earlyOf_33 : decode cX12_earlyOf 33 = .ok (.iload_n 2, 1) := by decide +kernel
theorem dX12_earlyOf_34 : decode cX12_earlyOf 34 = .ok (.if_icmp .ne 54, 3) := by decide +kernel
theorem dX12_earlyOf_37 : decode cX12_earlyOf 37 = .ok (.aload_n 0, 1) := by decide +kernel
theorem dX12_earlyOf_38 : decode cX12_earlyOf 38 = .ok (.getfield 113, 3) := by decide +kernel
theorem dX12_earlyOf_41 : decode cX12_earlyOf 41 = .ok (.iload 6, 2) := by decide +kernel
theorem dX12_earlyOf_43 : decode cX12_earlyOf 43 = .ok (.iaload, 1) := by decide +kernel
theorem dX12_earlyOf_44 : decode cX12_earlyOf 44 = .ok (.bipush 24, 2) := by decide +kernel
theorem dX12_earlyOf_46 : decode cX12_earlyOf 46 = .ok (.irem, 1) := by decide +kernel
theorem dX12_earlyOf_47 : decode cX12_earlyOf 47 = .ok (.bipush 6, 2) := by decide +kernel
theorem dX12_earlyOf_49 : decode cX12_earlyOf 49 = .ok (.bipush 13, 2) := by decide +kernel
theorem dX12_earlyOf_51 : decode cX12_earlyOf 51 = .ok (.invokestatic 196, 3) := by decide +kernel
theorem dX12_earlyOf_54 : decode cX12_earlyOf 54 = .ok (.ifCond .eq 34, 3) := by decide +kernel
theorem dX12_earlyOf_57 : decode cX12_earlyOf 57 = .ok (.aload_n 0, 1) := by decide +kernel
theorem dX12_earlyOf_58 : decode cX12_earlyOf 58 = .ok (.getfield 113, 3) := by decide +kernel
theorem dX12_earlyOf_61 : decode cX12_earlyOf 61 = .ok (.iload 6, 2) := by decide +kernel
theorem dX12_earlyOf_63 : decode cX12_earlyOf 63 = .ok (.iaload, 1) := by decide +kernel
theorem dX12_earlyOf_64 : decode cX12_earlyOf 64 = .ok (.bipush 24, 2) := by decide +kernel
theorem dX12_earlyOf_66 : decode cX12_earlyOf 66 = .ok (.idiv, 1) := by decide +kernel
theorem dX12_earlyOf_67 : decode cX12_earlyOf 67 = .ok (.iload_n 3, 1) := by decide +kernel
theorem dX12_earlyOf_68 : decode cX12_earlyOf 68 = .ok (.iload 4, 2) := by decide +kernel
theorem dX12_earlyOf_70 : decode cX12_earlyOf 70 = .ok (.invokestatic 196, 3) := by decide +kernel
theorem dX12_earlyOf_73 : decode cX12_earlyOf 73 = .ok (.ifCond .eq 15, 3) := by decide +kernel
theorem dX12_earlyOf_76 : decode cX12_earlyOf 76 = .ok (.iload 5, 2) := by decide +kernel
theorem dX12_earlyOf_78 : decode cX12_earlyOf 78 = .ok (.aload_n 0, 1) := by decide +kernel
theorem dX12_earlyOf_79 : decode cX12_earlyOf 79 = .ok (.getfield 122, 3) := by decide +kernel
theorem dX12_earlyOf_82 : decode cX12_earlyOf 82 = .ok (.iload 6, 2) := by decide +kernel
theorem dX12_earlyOf_84 : decode cX12_earlyOf 84 = .ok (.iaload, 1) := by decide +kernel
theorem dX12_earlyOf_85 : decode cX12_earlyOf 85 = .ok (.iadd, 1) := by decide +kernel
theorem dX12_earlyOf_86 : decode cX12_earlyOf 86 = .ok (.istore 5, 2) := by decide +kernel
theorem dX12_earlyOf_88 : decode cX12_earlyOf 88 = .ok (.iinc 6 1, 3) := by decide +kernel
theorem dX12_earlyOf_91 : decode cX12_earlyOf 91 = .ok (.goto (-85), 3) := by decide +kernel
theorem dX12_earlyOf_94 : decode cX12_earlyOf 94 = .ok (.iload 5, 2) := by decide +kernel
theorem dX12_earlyOf_96 : decode cX12_earlyOf 96 = .ok (.ireturn, 1) := by decide +kernel
theorem dX12_areDays_0 : decode cX12_areDays 0 = .ok (.iload_n 0, 1) := by decide +kernel
theorem dX12_areDays_1 : decode cX12_areDays 1 = .ok (.invokestatic 220, 3) := by decide +kernel
theorem dX12_areDays_4 : decode cX12_areDays 4 = .ok (.ifCond .eq 18, 3) := by decide +kernel
theorem dX12_areDays_7 : decode cX12_areDays 7 = .ok (.iload_n 1, 1) := by decide +kernel
theorem dX12_areDays_8 : decode cX12_areDays 8 = .ok (.iload_n 0, 1) := by decide +kernel
theorem dX12_areDays_9 : decode cX12_areDays 9 = .ok (.sipush 1499, 3) := by decide +kernel
theorem dX12_areDays_12 : decode cX12_areDays 12 = .ok (.invokestatic 196, 3) := by decide +kernel
theorem dX12_areDays_15 : decode cX12_areDays 15 = .ok (.ifCond .eq 7, 3) := by decide +kernel
theorem dX12_areDays_18 : decode cX12_areDays 18 = .ok (.iconst 1, 1) := by decide +kernel
theorem dX12_areDays_19 : decode cX12_areDays 19 = .ok (.goto 4, 3) := by decide +kernel
theorem dX12_areDays_22 : decode cX12_areDays 22 = .ok (.iconst 0, 1) := by decide +kernel
theorem dX12_areDays_23 : decode cX12_areDays 23 = .ok (.ireturn, 1) := by decide +kernel
theorem dX12_early_0 : decode cX12_early 0 = .ok (.aload_n 0, 1) := by decide +kernel
theorem dX12_early_1 : decode cX12_early 1 = .ok (.iload_n 1, 1) := by decide +kernel
theorem dX12_early_2 : decode cX12_early 2 = .ok (.iload_n 2, 1) := by decide +kernel
theorem dX12_early_3 : decode cX12_early 3 = .ok (.invokevirtual 223, 3) := by decide +kernel
theorem dX12_early_6 : decode cX12_early 6 = .ok (.ifCond .eq 24, 3) := by decide +kernel
theorem dX12_early_9 : decode cX12_early 9 = .ok (.iload_n 3, 1) := by decide +kernel
theorem dX12_early_10 : decode cX12_early 10 = .ok (.iload 4, 2) := by decide +kernel
theorem dX12_early_12 : decode cX12_early 12 = .ok (.invokestatic 392, 3) := by decide +kernel
theorem dX12_early_15 : decode cX12_early 15 = .ok (.ifCond .eq 15, 3) := by decide +kernel
theorem dX12_early_18 : decode cX12_early 18 = .ok (.aload_n 0, 1) := by decide +kernel
theorem dX12_early_19 : decode cX12_early 19 = .ok (.iload_n 1, 1) := by decide +kernel
theorem dX12_early_20 : decode cX12_early 20 = .ok (.iload_n 2, 1) := by decide +kernel
theorem dX12_early_21 : decode cX12_early 21 = .ok (.iload_n 3, 1) := by decide +kernel
theorem dX12_early_22 : decode cX12_early 22 = .ok (.iload 4, 2) := by decide +kernel
theorem dX12_early_24 : decode cX12_early 24 = .ok (.invokevirtual 395, 3) := by decide +kernel
theorem dX12_early_27 : decode cX12_early 27 = .ok (.goto 4, 3) := by decide +kernel
theorem dX12_early_30 : decode cX12_early 30 = .ok (.iconst (-1), 1) := by decide +kernel
theorem dX12_early_31 : decode cX12_early 31 = .ok (.ireturn, 1) := by decide +kernel
theorem dX12_waiting_0 : decode cX12_waiting 0 = .ok (.aload_n 0, 1) := by decide +kernel
theorem dX12_waiting_1 : decode cX12_waiting 1 = .ok (.iload_n 1, 1) := by decide +kernel
theorem dX12_waiting_2 : decode cX12_waiting 2 = .ok (.invokevirtual 213, 3) := by decide +kernel
theorem dX12_waiting_5 : decode cX12_waiting 5 = .ok (.ifCond .eq 21, 3) := by decide +kernel
theorem dX12_waiting_8 : decode cX12_waiting 8 = .ok (.iload_n 2, 1) := by decide +kernel
theorem dX12_waiting_9 : decode cX12_waiting 9 = .ok (.iload_n 3, 1) := by decide +kernel
theorem dX12_waiting_10 : decode cX12_waiting 10 = .ok (.invokestatic 392, 3) := by decide +kernel
theorem dX12_waiting_13 : decode cX12_waiting 13 = .ok (.ifCond .eq 13, 3) := by decide +kernel
theorem dX12_waiting_16 : decode cX12_waiting 16 = .ok (.iload 4, 2) := by decide +kernel
theorem dX12_waiting_18 : decode cX12_waiting 18 = .ok (.iconst 0, 1) := by decide +kernel
theorem dX12_waiting_19 : decode cX12_waiting 19 = .ok (.iconst 1, 1) := by decide +kernel
theorem dX12_waiting_20 : decode cX12_waiting 20 = .ok (.invokestatic 196, 3) := by decide +kernel
theorem dX12_waiting_23 : decode cX12_waiting 23 = .ok (.ifCond .ne 6, 3) := by decide +kernel
theorem dX12_waiting_26 : decode cX12_waiting 26 = .ok (.ldc 244, 2) := by decide +kernel
theorem dX12_waiting_28 : decode cX12_waiting 28 = .ok (.ireturn, 1) := by decide +kernel
theorem dX12_waiting_29 : decode cX12_waiting 29 = .ok (.iconst 0, 1) := by decide +kernel
theorem dX12_waiting_30 : decode cX12_waiting 30 = .ok (.istore 5, 2) := by decide +kernel
theorem dX12_waiting_32 : decode cX12_waiting 32 = .ok (.iconst 0, 1) := by decide +kernel
theorem dX12_waiting_33 : decode cX12_waiting 33 = .ok (.istore 6, 2) := by decide +kernel
theorem dX12_waiting_35 : decode cX12_waiting 35 = .ok (.iconst 0, 1) := by decide +kernel
theorem dX12_waiting_36 : decode cX12_waiting 36 = .ok (.istore 7, 2) := by decide +kernel
theorem dX12_waiting_38 : decode cX12_waiting 38 = .ok (.iconst 0, 1) := by decide +kernel
theorem dX12_waiting_39 : decode cX12_waiting 39 = .ok (.istore 8, 2) := by decide +kernel
theorem dX12_waiting_41 : decode cX12_waiting 41 = .ok (.iconst 0, 1) := by decide +kernel
theorem dX12_waiting_42 : decode cX12_waiting 42 = .ok (.istore 9, 2) := by decide +kernel
theorem dX12_waiting_44 : decode cX12_waiting 44 = .ok (.iconst 0, 1) := by decide +kernel
theorem dX12_waiting_45 : decode cX12_waiting 45 = .ok (.istore 10, 2) := by decide +kernel
theorem dX12_waiting_47 : decode cX12_waiting 47 = .ok (.iload 10, 2) := by decide +kernel
theorem dX12_waiting_49 : decode cX12_waiting 49 = .ok (.aload_n 0, 1) := by decide +kernel
theorem dX12_waiting_50 : decode cX12_waiting 50 = .ok (.getfield 203, 3) := by decide +kernel
theorem dX12_waiting_53 : decode cX12_waiting 53 = .ok (.if_icmp .ge 100, 3) := by decide +kernel
theorem dX12_waiting_56 : decode cX12_waiting 56 = .ok (.aload_n 0, 1) := by decide +kernel
theorem dX12_waiting_57 : decode cX12_waiting 57 = .ok (.getfield 169, 3) := by decide +kernel
theorem dX12_waiting_60 : decode cX12_waiting 60 = .ok (.iload 10, 2) := by decide +kernel
theorem dX12_waiting_62 : decode cX12_waiting 62 = .ok (.iaload, 1) := by decide +kernel
theorem dX12_waiting_63 : decode cX12_waiting 63 = .ok (.ifCond .ge 6, 3) := by decide +kernel
theorem dX12_waiting_66 : decode cX12_waiting 66 = .ok (.goto 81, 3) := by decide +kernel
theorem dX12_waiting_69 : decode cX12_waiting 69 = .ok (.iload 5, 2) := by decide +kernel
theorem dX12_waiting_71 : decode cX12_waiting 71 = .ok (.bipush 10, 2) := by decide +kernel
theorem dX12_waiting_73 : decode cX12_waiting 73 = .ok (.if_icmp .ge 19, 3) := by decide +kernel
theorem dX12_waiting_76 : decode cX12_waiting 76 = .ok (.aload_n 0, 1) := by decide +kernel
theorem dX12_waiting_77 : decode cX12_waiting 77 = .ok (.getfield 172, 3) := by decide +kernel
theorem dX12_waiting_80 : decode cX12_waiting 80 = .ok (.iload 5, 2) := by decide +kernel
theorem dX12_waiting_82 : decode cX12_waiting 82 = .ok (.aload_n 0, 1) := by decide +kernel
theorem dX12_waiting_83 : decode cX12_waiting 83 = .ok (.iload 10, 2) := by decide +kernel
theorem dX12_waiting_85 : decode cX12_waiting 85 = .ok (.iload_n 1, 1) := by decide +kernel
theorem dX12_waiting_86 : decode cX12_waiting 86 = .ok (.iload_n 2, 1) := by decide +kernel
theorem dX12_waiting_87 : decode cX12_waiting 87 = .ok (.iload_n 3, 1) := by decide +kernel
theorem dX12_waiting_88 : decode cX12_waiting 88 = .ok (.invokevirtual 395, 3) := by decide +kernel
theorem dX12_waiting_91 : decode cX12_waiting 91 = .ok (.iastore, 1) := by decide +kernel
theorem dX12_waiting_92 : decode cX12_waiting 92 = .ok (.iinc 5 1, 3) := by decide +kernel
theorem dX12_waiting_95 : decode cX12_waiting 95 = .ok (.iload 6, 2) := by decide +kernel
theorem dX12_waiting_97 : decode cX12_waiting 97 = .ok (.aload_n 0, 1) := by decide +kernel
theorem dX12_waiting_98 : decode cX12_waiting 98 = .ok (.getfield 169, 3) := by decide +kernel
theorem dX12_waiting_101 : decode cX12_waiting 101 = .ok (.iload 10, 2) := by decide +kernel
theorem dX12_waiting_103 : decode cX12_waiting 103 = .ok (.iaload, 1) := by decide +kernel
theorem dX12_waiting_104 : decode cX12_waiting 104 = .ok (.iadd, 1) := by decide +kernel
theorem dX12_waiting_105 : decode cX12_waiting 105 = .ok (.istore 6, 2) := by decide +kernel
theorem dX12_waiting_107 : decode cX12_waiting 107 = .ok (.aload_n 0, 1) := by decide +kernel
theorem dX12_waiting_108 : decode cX12_waiting 108 = .ok (.iload 10, 2) := by decide +kernel
theorem dX12_waiting_110 : decode cX12_waiting 110 = .ok (.iload_n 1, 1) := by decide +kernel
theorem dX12_waiting_111 : decode cX12_waiting 111 = .ok (.iload_n 2, 1) := by decide +kernel
theorem dX12_waiting_112 : decode cX12_waiting 112 = .ok (.iload_n 3, 1) := by decide +kernel
theorem dX12_waiting_113 : decode cX12_waiting 113 = .ok (.invokevirtual 395, 3) := by decide +kernel
theorem dX12_waiting_116 : decode cX12_waiting 116 = .ok (.istore 9, 2) := by decide +kernel
theorem dX12_waiting_118 : decode cX12_waiting 118 = .ok (.iload 8, 2) := by decide +kernel
theorem dX12_waiting_120 : decode cX12_waiting 120 = .ok (.iload 9, 2) := by decide +kernel
theorem dX12_waiting_122 : decode cX12_waiting 122 = .ok (.iadd, 1) := by decide +kernel
theorem dX12_waiting_123 : decode cX12_waiting 123 = .ok (.istore 8, 2) := by decide +kernel
theorem dX12_waiting_125 : decode cX12_waiting 125 = .ok (.iload 7, 2) := by decide +kernel
theorem dX12_waiting_127 : decode cX12_waiting 127 = .ok (.aload_n 0, 1) := by decide +kernel
theorem dX12_waiting_128 : decode cX12_waiting 128 = .ok (.getfield 169, 3) := by decide +kernel
theorem dX12_waiting_131 : decode cX12_waiting 131 = .ok (.iload 10, 2) := by decide +kernel
theorem dX12_waiting_133 : decode cX12_waiting 133 = .ok (.iaload, 1) := by decide +kernel
theorem dX12_waiting_134 : decode cX12_waiting 134 = .ok (.iconst 1, 1) := by decide +kernel
theorem dX12_waiting_135 : decode cX12_waiting 135 = .ok (.if_icmp .ne 8, 3) := by decide +kernel
theorem dX12_waiting_138 : decode cX12_waiting 138 = .ok (.iload 9, 2) := by decide +kernel
theorem dX12_waiting_140 : decode cX12_waiting 140 = .ok (.goto 4, 3) := by decide +kernel
theorem dX12_waiting_143 : decode cX12_waiting 143 = .ok (.iconst 0, 1) := by decide +kernel
theorem dX12_waiting_144 : decode cX12_waiting 144 = .ok (.iadd, 1) := by decide +kernel
theorem dX12_waiting_145 : decode cX12_waiting 145 = .ok (.istore 7, 2) := by decide +kernel
theorem dX12_waiting_147 : decode cX12_waiting 147 = .ok (.iinc 10 1, 3) := by decide +kernel
theorem dX12_waiting_150 : decode cX12_waiting 150 = .ok (.goto (-103), 3) := by decide +kernel
theorem dX12_waiting_153 : decode cX12_waiting 153 = .ok (.iload 6, 2) := by decide +kernel
theorem dX12_waiting_155 : decode cX12_waiting 155 = .ok (.ifCond .eq 10, 3) := by decide +kernel
theorem dX12_waiting_158 : decode cX12_waiting 158 = .ok (.iload 6, 2) := by decide +kernel
theorem dX12_waiting_160 : decode cX12_waiting 160 = .ok (.iload 5, 2) := by decide +kernel
theorem dX12_waiting_162 : decode cX12_waiting 162 = .ok (.if_icmp .ne 7, 3) := by decide +kernel
theorem dX12_waiting_165 : decode cX12_waiting 165 = .ok (.ldc_w 399, 3) := by decide +kernel
theorem dX12_waiting_168 : decode cX12_waiting 168 = .ok (.ireturn, 1) := by decide +kernel
theorem dX12_waiting_169 : decode cX12_waiting 169 = .ok (.iload 5, 2) := by decide +kernel
theorem dX12_waiting_171 : decode cX12_waiting 171 = .ok (.bipush 10, 2) := by decide +kernel
theorem dX12_waiting_173 : decode cX12_waiting 173 = .ok (.if_icmp .le 7, 3) := by decide +kernel
theorem dX12_waiting_176 : decode cX12_waiting 176 = .ok (.ldc_w 400, 3) := by decide +kernel
theorem dX12_waiting_179 : decode cX12_waiting 179 = .ok (.ireturn, 1) := by decide +kernel
theorem dX12_waiting_180 : decode cX12_waiting 180 = .ok (.iload 5, 2) := by decide +kernel
theorem dX12_waiting_182 : decode cX12_waiting 182 = .ok (.iload 6, 2) := by decide +kernel
theorem dX12_waiting_184 : decode cX12_waiting 184 = .ok (.isub, 1) := by decide +kernel
theorem dX12_waiting_185 : decode cX12_waiting 185 = .ok (.istore 10, 2) := by decide +kernel
theorem dX12_waiting_187 : decode cX12_waiting 187 = .ok (.iload 4, 2) := by decide +kernel
theorem dX12_waiting_189 : decode cX12_waiting 189 = .ok (.ifCond .ne 35, 3) := by decide +kernel
theorem dX12_waiting_192 : decode cX12_waiting 192 = .ok (.ldc2_w 401, 3) := by decide +kernel
theorem dX12_waiting_195 : decode cX12_waiting 195 = .ok (.iload 8, 2) := by decide +kernel
theorem dX12_waiting_197 : decode cX12_waiting 197 = .ok (.iload 7, 2) := by decide +kernel
theorem dX12_waiting_199 : decode cX12_waiting 199 = .ok (.isub, 1) := by decide +kernel
theorem dX12_waiting_200 : decode cX12_waiting 200 = .ok (.i2l, 1) := by decide +kernel
theorem dX12_waiting_201 : decode cX12_waiting 201 = .ok (.iload 6, 2) := by decide +kernel
theorem dX12_waiting_203 : decode cX12_waiting 203 = .ok (.i2l, 1) := by decide +kernel
theorem dX12_waiting_204 : decode cX12_waiting 204 = .ok (.lmul, 1) := by decide +kernel
theorem dX12_waiting_205 : decode cX12_waiting 205 = .ok (.iload 7, 2) := by decide +kernel
theorem dX12_waiting_207 : decode cX12_waiting 207 = .ok (.i2l, 1) := by decide +kernel
theorem dX12_waiting_208 : decode cX12_waiting 208 = .ok (.iload 10, 2) := by decide +kernel
theorem dX12_waiting_210 : decode cX12_waiting 210 = .ok (.i2l, 1) := by decide +kernel
theorem dX12_waiting_211 : decode cX12_waiting 211 = .ok (.lmul, 1) := by decide +kernel
theorem dX12_waiting_212 : decode cX12_waiting 212 = .ok (.lsub, 1) := by decide +kernel
theorem dX12_waiting_213 : decode cX12_waiting 213 = .ok (.lmul, 1) := by decide +kernel
theorem dX12_waiting_214 : decode cX12_waiting 214 = .ok (.iload 10, 2) := by decide +kernel
theorem dX12_waiting_216 : decode cX12_waiting 216 = .ok (.i2l, 1) := by decide +kernel
theorem dX12_waiting_217 : decode cX12_waiting 217 = .ok (.iload 6, 2) := by decide +kernel
theorem dX12_waiting_219 : decode cX12_waiting 219 = .ok (.i2l, 1) := by decide +kernel
theorem dX12_waiting_220 : decode cX12_waiting 220 = .ok (.lmul, 1) := by decide +kernel
theorem dX12_waiting_221 : decode cX12_waiting 221 = .ok (.ldiv, 1) := by decide +kernel
theorem dX12_waiting_222 : decode cX12_waiting 222 = .ok (.l2i, 1) := by decide +kernel
theorem dX12_waiting_223 : decode cX12_waiting 223 = .ok (.ireturn, 1) := by decide +kernel
theorem dX12_waiting_224 : decode cX12_waiting 224 = .ok (.iconst 0, 1) := by decide +kernel
theorem dX12_waiting_225 : decode cX12_waiting 225 = .ok (.istore 11, 2) := by decide +kernel
theorem dX12_waiting_227 : decode cX12_waiting 227 = .ok (.iconst 0, 1) := by decide +kernel
theorem dX12_waiting_228 : decode cX12_waiting 228 = .ok (.istore 12, 2) := by decide +kernel
theorem dX12_waiting_230 : decode cX12_waiting 230 = .ok (.iconst 0, 1) := by decide +kernel
theorem dX12_waiting_231 : decode cX12_waiting 231 = .ok (.istore 13, 2) := by decide +kernel
theorem dX12_waiting_233 : decode cX12_waiting 233 = .ok (.iload 13, 2) := by decide +kernel
theorem dX12_waiting_235 : decode cX12_waiting 235 = .ok (.iconst 1, 1) := by decide +kernel
theorem dX12_waiting_236 : decode cX12_waiting 236 = .ok (.iload 5, 2) := by decide +kernel
theorem dX12_waiting_238 : decode cX12_waiting 238 = .ok (.ishl, 1) := by decide +kernel
theorem dX12_waiting_239 : decode cX12_waiting 239 = .ok (.if_icmp .ge 89, 3) := by decide +kernel
theorem dX12_waiting_242 : decode cX12_waiting 242 = .ok (.iconst 0, 1) := by decide +kernel
theorem dX12_waiting_243 : decode cX12_waiting 243 = .ok (.istore 14, 2) := by decide +kernel
theorem dX12_waiting_245 : decode cX12_waiting 245 = .ok (.iconst 0, 1) := by decide +kernel
theorem dX12_waiting_246 : decode cX12_waiting 246 = .ok (.istore 15, 2) := by decide +kernel
theorem dX12_waiting_248 : decode cX12_waiting 248 = .ok (.iconst 0, 1) := by decide +kernel
theorem dX12_waiting_249 : decode cX12_waiting 249 = .ok (.istore 16, 2) := by decide +kernel
theorem dX12_waiting_251 : decode cX12_waiting 251 = .ok (.iload 16, 2) := by decide +kernel
theorem dX12_waiting_253 : decode cX12_waiting 253 = .ok (.iload 5, 2) := by decide +kernel
theorem dX12_waiting_255 : decode cX12_waiting 255 = .ok (.if_icmp .ge 37, 3) := by decide +kernel
theorem dX12_waiting_258 : decode cX12_waiting 258 = .ok (.iload 13, 2) := by decide +kernel
theorem dX12_waiting_260 : decode cX12_waiting 260 = .ok (.iload 16, 2) := by decide +kernel
theorem dX12_waiting_262 : decode cX12_waiting 262 = .ok (.ishr, 1) := by decide +kernel
theorem dX12_waiting_263 : decode cX12_waiting 263 = .ok (.iconst 1, 1) := by decide +kernel
theorem dX12_waiting_264 : decode cX12_waiting 264 = .ok (.iand, 1) := by decide +kernel
theorem dX12_waiting_265 : decode cX12_waiting 265 = .ok (.ifCond .ne 6, 3) := by decide +kernel
theorem dX12_waiting_268 : decode cX12_waiting 268 = .ok (.goto 18, 3) := by decide +kernel
theorem dX12_waiting_271 : decode cX12_waiting 271 = .ok (.iinc 14 1, 3) := by decide +kernel
theorem dX12_waiting_274 : decode cX12_waiting 274 = .ok (.iload 15, 2) := by decide +kernel
theorem dX12_waiting_276 : decode cX12_waiting 276 = .ok (.aload_n 0, 1) := by decide +kernel
theorem dX12_waiting_277 : decode cX12_waiting 277 = .ok (.getfield 172, 3) := by decide +kernel
theorem dX12_waiting_280 : decode cX12_waiting 280 = .ok (.iload 16, 2) := by decide +kernel
theorem dX12_waiting_282 : decode cX12_waiting 282 = .ok (.iaload, 1) := by decide +kernel
theorem dX12_waiting_283 : decode cX12_waiting 283 = .ok (.iadd, 1) := by decide +kernel
theorem dX12_waiting_284 : decode cX12_waiting 284 = .ok (.istore 15, 2) := by decide +kernel
theorem dX12_waiting_286 : decode cX12_waiting 286 = .ok (.iinc 16 1, 3) := by decide +kernel
theorem dX12_waiting_289 : decode cX12_waiting 289 = .ok (.goto (-38), 3) := by decide +kernel
theorem dX12_waiting_292 : decode cX12_waiting 292 = .ok (.iload 14, 2) := by decide +kernel
theorem dX12_waiting_294 : decode cX12_waiting 294 = .ok (.iload 6, 2) := by decide +kernel
theorem dX12_waiting_296 : decode cX12_waiting 296 = .ok (.if_icmp .eq 6, 3) := by decide +kernel
theorem dX12_waiting_299 : decode cX12_waiting 299 = .ok (.goto 23, 3) := by decide +kernel
theorem dX12_waiting_302 : decode cX12_waiting 302 = .ok (.iinc 11 1, 3) := by decide +kernel
theorem dX12_waiting_305 : decode cX12_waiting 305 = .ok (.iload 12, 2) := by decide +kernel
theorem dX12_waiting_307 : decode cX12_waiting 307 = .ok (.iload 15, 2) := by decide +kernel
theorem dX12_waiting_309 : decode cX12_waiting 309 = .ok (.iload 7, 2) := by decide +kernel
theorem dX12_waiting_311 : decode cX12_waiting 311 = .ok (.if_icmp .gt 7, 3) := by decide +kernel
theorem dX12_waiting_314 : decode cX12_waiting 314 = .ok (.iconst 1, 1) := by decide +kernel
theorem dX12_waiting_315 : decode cX12_waiting 315 = .ok (.goto 4, 3) := by decide +kernel
theorem dX12_waiting_318 : decode cX12_waiting 318 = .ok (.iconst 0, 1) := by decide +kernel
theorem dX12_waiting_319 : decode cX12_waiting 319 = .ok (.iadd, 1) := by decide +kernel
theorem dX12_waiting_320 : decode cX12_waiting 320 = .ok (.istore 12, 2) := by decide +kernel
theorem dX12_waiting_322 : decode cX12_waiting 322 = .ok (.iinc 13 1, 3) := by decide +kernel
theorem dX12_waiting_325 : decode cX12_waiting 325 = .ok (.goto (-92), 3) := by decide +kernel
theorem dX12_waiting_328 : decode cX12_waiting 328 = .ok (.sipush 10000, 3) := by decide +kernel
theorem dX12_waiting_331 : decode cX12_waiting 331 = .ok (.iload 12, 2) := by decide +kernel
theorem dX12_waiting_333 : decode cX12_waiting 333 = .ok (.imul, 1) := by decide +kernel
theorem dX12_waiting_334 : decode cX12_waiting 334 = .ok (.iload 11, 2) := by decide +kernel
theorem dX12_waiting_336 : decode cX12_waiting 336 = .ok (.iadd, 1) := by decide +kernel
theorem dX12_waiting_337 : decode cX12_waiting 337 = .ok (.iconst 1, 1) := by decide +kernel
theorem dX12_waiting_338 : decode cX12_waiting 338 = .ok (.isub, 1) := by decide +kernel
theorem dX12_waiting_339 : decode cX12_waiting 339 = .ok (.iload 11, 2) := by decide +kernel
theorem dX12_waiting_341 : decode cX12_waiting 341 = .ok (.idiv, 1) := by decide +kernel
theorem dX12_waiting_342 : decode cX12_waiting 342 = .ok (.ireturn, 1) := by decide +kernel
theorem dX12_kitchen_0 : decode cX12_kitchen 0 = .ok (.iload_n 1, 1) := by decide +kernel
theorem dX12_kitchen_1 : decode cX12_kitchen 1 = .ok (.iconst 0, 1) := by decide +kernel
theorem dX12_kitchen_2 : decode cX12_kitchen 2 = .ok (.sipush 9999, 3) := by decide +kernel
theorem dX12_kitchen_5 : decode cX12_kitchen 5 = .ok (.invokestatic 196, 3) := by decide +kernel
theorem dX12_kitchen_8 : decode cX12_kitchen 8 = .ok (.ifCond .eq 13, 3) := by decide +kernel
theorem dX12_kitchen_11 : decode cX12_kitchen 11 = .ok (.iload_n 2, 1) := by decide +kernel
theorem dX12_kitchen_12 : decode cX12_kitchen 12 = .ok (.iconst 0, 1) := by decide +kernel
theorem dX12_kitchen_13 : decode cX12_kitchen 13 = .ok (.bipush 23, 2) := by decide +kernel
theorem dX12_kitchen_15 : decode cX12_kitchen 15 = .ok (.invokestatic 196, 3) := by decide +kernel
theorem dX12_kitchen_18 : decode cX12_kitchen 18 = .ok (.ifCond .ne 5, 3) := by decide +kernel
theorem dX12_kitchen_21 : decode cX12_kitchen 21 = .ok (.iconst (-1), 1) := by decide +kernel
theorem dX12_kitchen_22 : decode cX12_kitchen 22 = .ok (.ireturn, 1) := by decide +kernel
theorem dX12_kitchen_23 : decode cX12_kitchen 23 = .ok (.aload_n 0, 1) := by decide +kernel
theorem dX12_kitchen_24 : decode cX12_kitchen 24 = .ok (.getfield 403, 3) := by decide +kernel
theorem dX12_kitchen_27 : decode cX12_kitchen 27 = .ok (.bipush 10, 2) := by decide +kernel
theorem dX12_kitchen_29 : decode cX12_kitchen 29 = .ok (.if_icmp .ne 6, 3) := by decide +kernel
theorem dX12_kitchen_32 : decode cX12_kitchen 32 = .ok (.bipush (-3), 2) := by decide +kernel
theorem dX12_kitchen_34 : decode cX12_kitchen 34 = .ok (.ireturn, 1) := by decide +kernel
theorem dX12_kitchen_35 : decode cX12_kitchen 35 = .ok (.aload_n 0, 1) := by decide +kernel
theorem dX12_kitchen_36 : decode cX12_kitchen 36 = .ok (.getfield 175, 3) := by decide +kernel
theorem dX12_kitchen_39 : decode cX12_kitchen 39 = .ok (.aload_n 0, 1) := by decide +kernel
theorem dX12_kitchen_40 : decode cX12_kitchen 40 = .ok (.getfield 403, 3) := by decide +kernel
theorem dX12_kitchen_43 : decode cX12_kitchen 43 = .ok (.iload_n 1, 1) := by decide +kernel
theorem dX12_kitchen_44 : decode cX12_kitchen 44 = .ok (.bipush 100, 2) := by decide +kernel
theorem dX12_kitchen_46 : decode cX12_kitchen 46 = .ok (.idiv, 1) := by decide +kernel
theorem dX12_kitchen_47 : decode cX12_kitchen 47 = .ok (.iastore, 1) := by decide +kernel
theorem dX12_kitchen_48 : decode cX12_kitchen 48 = .ok (.aload_n 0, 1) := by decide +kernel
theorem dX12_kitchen_49 : decode cX12_kitchen 49 = .ok (.getfield 178, 3) := by decide +kernel
theorem dX12_kitchen_52 : decode cX12_kitchen 52 = .ok (.aload_n 0, 1) := by decide +kernel
theorem dX12_kitchen_53 : decode cX12_kitchen 53 = .ok (.getfield 403, 3) := by decide +kernel
theorem dX12_kitchen_56 : decode cX12_kitchen 56 = .ok (.iload_n 1, 1) := by decide +kernel
theorem dX12_kitchen_57 : decode cX12_kitchen 57 = .ok (.bipush 100, 2) := by decide +kernel
theorem dX12_kitchen_59 : decode cX12_kitchen 59 = .ok (.irem, 1) := by decide +kernel
theorem dX12_kitchen_60 : decode cX12_kitchen 60 = .ok (.iastore, 1) := by decide +kernel
theorem dX12_kitchen_61 : decode cX12_kitchen 61 = .ok (.aload_n 0, 1) := by decide +kernel
theorem dX12_kitchen_62 : decode cX12_kitchen 62 = .ok (.getfield 181, 3) := by decide +kernel
theorem dX12_kitchen_65 : decode cX12_kitchen 65 = .ok (.aload_n 0, 1) := by decide +kernel
theorem dX12_kitchen_66 : decode cX12_kitchen 66 = .ok (.getfield 403, 3) := by decide +kernel
theorem dX12_kitchen_69 : decode cX12_kitchen 69 = .ok (.iload_n 2, 1) := by decide +kernel
theorem dX12_kitchen_70 : decode cX12_kitchen 70 = .ok (.iastore, 1) := by decide +kernel
theorem dX12_kitchen_71 : decode cX12_kitchen 71 = .ok (.aload_n 0, 1) := by decide +kernel
theorem dX12_kitchen_72 : decode cX12_kitchen 72 = .ok (.dup, 1) := by decide +kernel
theorem dX12_kitchen_73 : decode cX12_kitchen 73 = .ok (.getfield 403, 3) := by decide +kernel
theorem dX12_kitchen_76 : decode cX12_kitchen 76 = .ok (.iconst 1, 1) := by decide +kernel
theorem dX12_kitchen_77 : decode cX12_kitchen 77 = .ok (.iadd, 1) := by decide +kernel
theorem dX12_kitchen_78 : decode cX12_kitchen 78 = .ok (.putfield 403, 3) := by decide +kernel
theorem dX12_kitchen_81 : decode cX12_kitchen 81 = .ok (.aload_n 0, 1) := by decide +kernel
theorem dX12_kitchen_82 : decode cX12_kitchen 82 = .ok (.getfield 403, 3) := by decide +kernel
theorem dX12_kitchen_85 : decode cX12_kitchen 85 = .ok (.iconst 1, 1) := by decide +kernel
theorem dX12_kitchen_86 : decode cX12_kitchen 86 = .ok (.isub, 1) := by decide +kernel
theorem dX12_kitchen_87 : decode cX12_kitchen 87 = .ok (.ireturn, 1) := by decide +kernel
theorem dX12_gift_0 : decode cX12_gift 0 = .ok (.aload_n 0, 1) := by decide +kernel
theorem dX12_gift_1 : decode cX12_gift 1 = .ok (.iload_n 1, 1) := by decide +kernel
theorem dX12_gift_2 : decode cX12_gift 2 = .ok (.iload_n 2, 1) := by decide +kernel
theorem dX12_gift_3 : decode cX12_gift 3 = .ok (.invokevirtual 223, 3) := by decide +kernel
theorem dX12_gift_6 : decode cX12_gift 6 = .ok (.ifCond .eq 29, 3) := by decide +kernel
theorem dX12_gift_9 : decode cX12_gift 9 = .ok (.iload_n 3, 1) := by decide +kernel
theorem dX12_gift_10 : decode cX12_gift 10 = .ok (.iconst 0, 1) := by decide +kernel
theorem dX12_gift_11 : decode cX12_gift 11 = .ok (.aload_n 0, 1) := by decide +kernel
theorem dX12_gift_12 : decode cX12_gift 12 = .ok (.getfield 403, 3) := by decide +kernel
theorem dX12_gift_15 : decode cX12_gift 15 = .ok (.iconst 1, 1) := by decide +kernel
theorem dX12_gift_16 : decode cX12_gift 16 = .ok (.isub, 1) := by decide +kernel
theorem dX12_gift_17 : decode cX12_gift 17 = .ok (.invokestatic 196, 3) := by decide +kernel
theorem dX12_gift_20 : decode cX12_gift 20 = .ok (.ifCond .eq 15, 3) := by decide +kernel
theorem dX12_gift_23 : decode cX12_gift 23 = .ok (.iload 4, 2) := by decide +kernel
theorem dX12_gift_25 : decode cX12_gift 25 = .ok (.iconst 1, 1) := by decide +kernel
theorem dX12_gift_26 : decode cX12_gift 26 = .ok (.sipush 999, 3) := by decide +kernel
theorem dX12_gift_29 : decode cX12_gift 29 = .ok (.invokestatic 196, 3) := by decide +kernel
theorem dX12_gift_32 : decode cX12_gift 32 = .ok (.ifCond .ne 5, 3) := by decide +kernel
theorem dX12_gift_35 : decode cX12_gift 35 = .ok (.iconst (-1), 1) := by decide +kernel
theorem dX12_gift_36 : decode cX12_gift 36 = .ok (.ireturn, 1) := by decide +kernel
theorem dX12_gift_37 : decode cX12_gift 37 = .ok (.aload_n 0, 1) := by decide +kernel
theorem dX12_gift_38 : decode cX12_gift 38 = .ok (.getfield 7, 3) := by decide +kernel
theorem dX12_gift_41 : decode cX12_gift 41 = .ok (.iload_n 1, 1) := by decide +kernel
theorem dX12_gift_42 : decode cX12_gift 42 = .ok (.iaload, 1) := by decide +kernel
theorem dX12_gift_43 : decode cX12_gift 43 = .ok (.aload_n 0, 1) := by decide +kernel
theorem dX12_gift_44 : decode cX12_gift 44 = .ok (.getfield 175, 3) := by decide +kernel
theorem dX12_gift_47 : decode cX12_gift 47 = .ok (.iload_n 3, 1) := by decide +kernel
theorem dX12_gift_48 : decode cX12_gift 48 = .ok (.iaload, 1) := by decide +kernel
theorem dX12_gift_49 : decode cX12_gift 49 = .ok (.invokestatic 371, 3) := by decide +kernel
theorem dX12_gift_52 : decode cX12_gift 52 = .ok (.aload_n 0, 1) := by decide +kernel
theorem dX12_gift_53 : decode cX12_gift 53 = .ok (.getfield 13, 3) := by decide +kernel
theorem dX12_gift_56 : decode cX12_gift 56 = .ok (.iload_n 1, 1) := by decide +kernel
theorem dX12_gift_57 : decode cX12_gift 57 = .ok (.iaload, 1) := by decide +kernel
theorem dX12_gift_58 : decode cX12_gift 58 = .ok (.aload_n 0, 1) := by decide +kernel
theorem dX12_gift_59 : decode cX12_gift 59 = .ok (.getfield 178, 3) := by decide +kernel
theorem dX12_gift_62 : decode cX12_gift 62 = .ok (.iload_n 3, 1) := by decide +kernel
theorem dX12_gift_63 : decode cX12_gift 63 = .ok (.iaload, 1) := by decide +kernel
theorem dX12_gift_64 : decode cX12_gift 64 = .ok (.invokestatic 371, 3) := by decide +kernel
theorem dX12_gift_67 : decode cX12_gift 67 = .ok (.iadd, 1) := by decide +kernel
theorem dX12_gift_68 : decode cX12_gift 68 = .ok (.bipush 9, 2) := by decide +kernel
theorem dX12_gift_70 : decode cX12_gift 70 = .ok (.iadd, 1) := by decide +kernel
theorem dX12_gift_71 : decode cX12_gift 71 = .ok (.bipush 10, 2) := by decide +kernel
theorem dX12_gift_73 : decode cX12_gift 73 = .ok (.idiv, 1) := by decide +kernel
theorem dX12_gift_74 : decode cX12_gift 74 = .ok (.istore 5, 2) := by decide +kernel
theorem dX12_gift_76 : decode cX12_gift 76 = .ok (.aload_n 0, 1) := by decide +kernel
theorem dX12_gift_77 : decode cX12_gift 77 = .ok (.invokevirtual 315, 3) := by decide +kernel
theorem dX12_gift_80 : decode cX12_gift 80 = .ok (.iload 5, 2) := by decide +kernel
theorem dX12_gift_82 : decode cX12_gift 82 = .ok (.iadd, 1) := by decide +kernel
theorem dX12_gift_83 : decode cX12_gift 83 = .ok (.aload_n 0, 1) := by decide +kernel
theorem dX12_gift_84 : decode cX12_gift 84 = .ok (.getfield 181, 3) := by decide +kernel
theorem dX12_gift_87 : decode cX12_gift 87 = .ok (.iload_n 3, 1) := by decide +kernel
theorem dX12_gift_88 : decode cX12_gift 88 = .ok (.iaload, 1) := by decide +kernel
theorem dX12_gift_89 : decode cX12_gift 89 = .ok (.if_icmp .gt 19, 3) := by decide +kernel
theorem dX12_gift_92 : decode cX12_gift 92 = .ok (.aload_n 0, 1) := by decide +kernel
theorem dX12_gift_93 : decode cX12_gift 93 = .ok (.getfield 28, 3) := by decide +kernel
theorem dX12_gift_96 : decode cX12_gift 96 = .ok (.iload_n 2, 1) := by decide +kernel
theorem dX12_gift_97 : decode cX12_gift 97 = .ok (.iaload, 1) := by decide +kernel
theorem dX12_gift_98 : decode cX12_gift 98 = .ok (.iconst 1, 1) := by decide +kernel
theorem dX12_gift_99 : decode cX12_gift 99 = .ok (.if_icmp .ne 12, 3) := by decide +kernel
theorem dX12_gift_102 : decode cX12_gift 102 = .ok (.iload 5, 2) := by decide +kernel
theorem dX12_gift_104 : decode cX12_gift 104 = .ok (.iconst 2, 1) := by decide +kernel
theorem dX12_gift_105 : decode cX12_gift 105 = .ok (.if_icmp .le 6, 3) := by decide +kernel
theorem dX12_gift_108 : decode cX12_gift 108 = .ok (.bipush (-2), 2) := by decide +kernel
theorem dX12_gift_110 : decode cX12_gift 110 = .ok (.ireturn, 1) := by decide +kernel
theorem dX12_gift_111 : decode cX12_gift 111 = .ok (.iload 4, 2) := by decide +kernel
theorem dX12_gift_113 : decode cX12_gift 113 = .ok (.istore 6, 2) := by decide +kernel
theorem dX12_gift_115 : decode cX12_gift 115 = .ok (.aload_n 0, 1) := by decide +kernel
theorem dX12_gift_116 : decode cX12_gift 116 = .ok (.iload_n 1, 1) := by decide +kernel
theorem dX12_gift_117 : decode cX12_gift 117 = .ok (.iload_n 2, 1) := by decide +kernel
theorem dX12_gift_118 : decode cX12_gift 118 = .ok (.iconst 1, 1) := by decide +kernel
theorem dX12_gift_119 : decode cX12_gift 119 = .ok (.invokevirtual 347, 3) := by decide +kernel
theorem dX12_gift_122 : decode cX12_gift 122 = .ok (.istore 7, 2) := by decide +kernel
theorem dX12_gift_124 : decode cX12_gift 124 = .ok (.iload 6, 2) := by decide +kernel
theorem dX12_gift_126 : decode cX12_gift 126 = .ok (.ifCond .le 63, 3) := by decide +kernel
theorem dX12_gift_129 : decode cX12_gift 129 = .ok (.iload 7, 2) := by decide +kernel
theorem dX12_gift_131 : decode cX12_gift 131 = .ok (.ifCond .lt 58, 3) := by decide +kernel
theorem dX12_gift_134 : decode cX12_gift 134 = .ok (.aload_n 0, 1) := by decide +kernel
theorem dX12_gift_135 : decode cX12_gift 135 = .ok (.iload 7, 2) := by decide +kernel
theorem dX12_gift_137 : decode cX12_gift 137 = .ok (.invokevirtual 245, 3) := by decide +kernel
theorem dX12_gift_140 : decode cX12_gift 140 = .ok (.iload 6, 2) := by decide +kernel
theorem dX12_gift_142 : decode cX12_gift 142 = .ok (.if_icmp .ge 12, 3) := by decide +kernel
theorem dX12_gift_145 : decode cX12_gift 145 = .ok (.aload_n 0, 1) := by decide +kernel
theorem dX12_gift_146 : decode cX12_gift 146 = .ok (.iload 7, 2) := by decide +kernel
theorem dX12_gift_148 : decode cX12_gift 148 = .ok (.invokevirtual 245, 3) := by decide +kernel
theorem dX12_gift_151 : decode cX12_gift 151 = .ok (.goto 5, 3) := by decide +kernel
theorem dX12_gift_154 : decode cX12_gift 154 = .ok (.iload 6, 2) := by decide +kernel
theorem dX12_gift_156 : decode cX12_gift 156 = .ok (.istore 8, 2) := by decide +kernel
theorem dX12_gift_158 : decode cX12_gift 158 = .ok (.aload_n 0, 1) := by decide +kernel
theorem dX12_gift_159 : decode cX12_gift 159 = .ok (.getfield 67, 3) := by decide +kernel
theorem dX12_gift_162 : decode cX12_gift 162 = .ok (.iload 7, 2) := by decide +kernel
theorem dX12_gift_164 : decode cX12_gift 164 = .ok (.dup2, 1) := by decide +kernel
theorem dX12_gift_165 : decode cX12_gift 165 = .ok (.iaload, 1) := by decide +kernel
theorem dX12_gift_166 : decode cX12_gift 166 = .ok (.iload 8, 2) := by decide +kernel
theorem dX12_gift_168 : decode cX12_gift 168 = .ok (.iadd, 1) := by decide +kernel
theorem dX12_gift_169 : decode cX12_gift 169 = .ok (.iastore, 1) := by decide +kernel
theorem dX12_gift_170 : decode cX12_gift 170 = .ok (.iload 6, 2) := by decide +kernel
theorem dX12_gift_172 : decode cX12_gift 172 = .ok (.iload 8, 2) := by decide +kernel
theorem dX12_gift_174 : decode cX12_gift 174 = .ok (.isub, 1) := by decide +kernel
theorem dX12_gift_175 : decode cX12_gift 175 = .ok (.istore 6, 2) := by decide +kernel
theorem dX12_gift_177 : decode cX12_gift 177 = .ok (.aload_n 0, 1) := by decide +kernel
theorem dX12_gift_178 : decode cX12_gift 178 = .ok (.iload_n 1, 1) := by decide +kernel
theorem dX12_gift_179 : decode cX12_gift 179 = .ok (.iload_n 2, 1) := by decide +kernel
theorem dX12_gift_180 : decode cX12_gift 180 = .ok (.iconst 1, 1) := by decide +kernel
theorem dX12_gift_181 : decode cX12_gift 181 = .ok (.invokevirtual 347, 3) := by decide +kernel
theorem dX12_gift_184 : decode cX12_gift 184 = .ok (.istore 7, 2) := by decide +kernel
theorem dX12_gift_186 : decode cX12_gift 186 = .ok (.goto (-62), 3) := by decide +kernel
theorem dX12_gift_189 : decode cX12_gift 189 = .ok (.iload 6, 2) := by decide +kernel
theorem dX12_gift_191 : decode cX12_gift 191 = .ok (.iload 4, 2) := by decide +kernel
theorem dX12_gift_193 : decode cX12_gift 193 = .ok (.if_icmp .ne 8, 3) := by decide +kernel
theorem dX12_gift_196 : decode cX12_gift 196 = .ok (.bipush (-2), 2) := by decide +kernel
theorem dX12_gift_198 : decode cX12_gift 198 = .ok (.goto 8, 3) := by decide +kernel
theorem dX12_gift_201 : decode cX12_gift 201 = .ok (.iload 4, 2) := by decide +kernel
theorem dX12_gift_203 : decode cX12_gift 203 = .ok (.iload 6, 2) := by decide +kernel
theorem dX12_gift_205 : decode cX12_gift 205 = .ok (.isub, 1) := by decide +kernel
theorem dX12_gift_206 : decode cX12_gift 206 = .ok (.ireturn, 1) := by decide +kernel
theorem dX12_bin_0 : decode cX12_bin 0 = .ok (.aload_n 0, 1) := by decide +kernel
theorem dX12_bin_1 : decode cX12_bin 1 = .ok (.iload_n 1, 1) := by decide +kernel
theorem dX12_bin_2 : decode cX12_bin 2 = .ok (.invokevirtual 241, 3) := by decide +kernel
theorem dX12_bin_5 : decode cX12_bin 5 = .ok (.ifCond .eq 23, 3) := by decide +kernel
theorem dX12_bin_8 : decode cX12_bin 8 = .ok (.iload_n 2, 1) := by decide +kernel
theorem dX12_bin_9 : decode cX12_bin 9 = .ok (.iconst 1, 1) := by decide +kernel
theorem dX12_bin_10 : decode cX12_bin 10 = .ok (.sipush 999, 3) := by decide +kernel
theorem dX12_bin_13 : decode cX12_bin 13 = .ok (.invokestatic 196, 3) := by decide +kernel
theorem dX12_bin_16 : decode cX12_bin 16 = .ok (.ifCond .eq 12, 3) := by decide +kernel
theorem dX12_bin_19 : decode cX12_bin 19 = .ok (.iload_n 3, 1) := by decide +kernel
theorem dX12_bin_20 : decode cX12_bin 20 = .ok (.iconst 0, 1) := by decide +kernel
theorem dX12_bin_21 : decode cX12_bin 21 = .ok (.iconst 1, 1) := by decide +kernel
theorem dX12_bin_22 : decode cX12_bin 22 = .ok (.invokestatic 196, 3) := by decide +kernel
theorem dX12_bin_25 : decode cX12_bin 25 = .ok (.ifCond .ne 5, 3) := by decide +kernel
theorem dX12_bin_28 : decode cX12_bin 28 = .ok (.iconst (-1), 1) := by decide +kernel
theorem dX12_bin_29 : decode cX12_bin 29 = .ok (.ireturn, 1) := by decide +kernel
theorem dX12_bin_30 : decode cX12_bin 30 = .ok (.aload_n 0, 1) := by decide +kernel
theorem dX12_bin_31 : decode cX12_bin 31 = .ok (.iload_n 1, 1) := by decide +kernel
theorem dX12_bin_32 : decode cX12_bin 32 = .ok (.invokevirtual 245, 3) := by decide +kernel
theorem dX12_bin_35 : decode cX12_bin 35 = .ok (.iload_n 2, 1) := by decide +kernel
theorem dX12_bin_36 : decode cX12_bin 36 = .ok (.if_icmp .ge 6, 3) := by decide +kernel
theorem dX12_bin_39 : decode cX12_bin 39 = .ok (.bipush (-2), 2) := by decide +kernel
theorem dX12_bin_41 : decode cX12_bin 41 = .ok (.ireturn, 1) := by decide +kernel
theorem dX12_bin_42 : decode cX12_bin 42 = .ok (.iload_n 3, 1) := by decide +kernel
theorem dX12_bin_43 : decode cX12_bin 43 = .ok (.iconst 1, 1) := by decide +kernel
theorem dX12_bin_44 : decode cX12_bin 44 = .ok (.if_icmp .ne 16, 3) := by decide +kernel
theorem dX12_bin_47 : decode cX12_bin 47 = .ok (.aload_n 0, 1) := by decide +kernel
theorem dX12_bin_48 : decode cX12_bin 48 = .ok (.getfield 406, 3) := by decide +kernel
theorem dX12_bin_51 : decode cX12_bin 51 = .ok (.sipush 400, 3) := by decide +kernel
theorem dX12_bin_54 : decode cX12_bin 54 = .ok (.if_icmp .ne 6, 3) := by decide +kernel
theorem dX12_bin_57 : decode cX12_bin 57 = .ok (.bipush (-3), 2) := by decide +kernel
theorem dX12_bin_59 : decode cX12_bin 59 = .ok (.ireturn, 1) := by decide +kernel
theorem dX12_bin_60 : decode cX12_bin 60 = .ok (.aload_n 0, 1) := by decide +kernel
theorem dX12_bin_61 : decode cX12_bin 61 = .ok (.iload_n 1, 1) := by decide +kernel
theorem dX12_bin_62 : decode cX12_bin 62 = .ok (.iload_n 2, 1) := by decide +kernel
theorem dX12_bin_63 : decode cX12_bin 63 = .ok (.invokevirtual 334, 3) := by decide +kernel
theorem dX12_bin_66 : decode cX12_bin 66 = .ok (.iload_n 3, 1) := by decide +kernel
theorem dX12_bin_67 : decode cX12_bin 67 = .ok (.iconst 1, 1) := by decide +kernel
theorem dX12_bin_68 : decode cX12_bin 68 = .ok (.if_icmp .ne 56, 3) := by decide +kernel
theorem dX12_bin_71 : decode cX12_bin 71 = .ok (.aload_n 0, 1) := by decide +kernel
theorem dX12_bin_72 : decode cX12_bin 72 = .ok (.getfield 73, 3) := by decide +kernel
theorem dX12_bin_75 : decode cX12_bin 75 = .ok (.iload_n 1, 1) := by decide +kernel
theorem dX12_bin_76 : decode cX12_bin 76 = .ok (.dup2, 1) := by decide +kernel
theorem dX12_bin_77 : decode cX12_bin 77 = .ok (.iaload, 1) := by decide +kernel
theorem dX12_bin_78 : decode cX12_bin 78 = .ok (.iload_n 2, 1) := by decide +kernel
theorem dX12_bin_79 : decode cX12_bin 79 = .ok (.iadd, 1) := by decide +kernel
theorem dX12_bin_80 : decode cX12_bin 80 = .ok (.iastore, 1) := by decide +kernel
theorem dX12_bin_81 : decode cX12_bin 81 = .ok (.aload_n 0, 1) := by decide +kernel
theorem dX12_bin_82 : decode cX12_bin 82 = .ok (.getfield 184, 3) := by decide +kernel
theorem dX12_bin_85 : decode cX12_bin 85 = .ok (.aload_n 0, 1) := by decide +kernel
theorem dX12_bin_86 : decode cX12_bin 86 = .ok (.getfield 406, 3) := by decide +kernel
theorem dX12_bin_89 : decode cX12_bin 89 = .ok (.iload_n 1, 1) := by decide +kernel
theorem dX12_bin_90 : decode cX12_bin 90 = .ok (.iastore, 1) := by decide +kernel
theorem dX12_bin_91 : decode cX12_bin 91 = .ok (.aload_n 0, 1) := by decide +kernel
theorem dX12_bin_92 : decode cX12_bin 92 = .ok (.getfield 187, 3) := by decide +kernel
theorem dX12_bin_95 : decode cX12_bin 95 = .ok (.aload_n 0, 1) := by decide +kernel
theorem dX12_bin_96 : decode cX12_bin 96 = .ok (.getfield 406, 3) := by decide +kernel
theorem dX12_bin_99 : decode cX12_bin 99 = .ok (.aload_n 0, 1) := by decide +kernel
theorem dX12_bin_100 : decode cX12_bin 100 = .ok (.invokevirtual 230, 3) := by decide +kernel
theorem dX12_bin_103 : decode cX12_bin 103 = .ok (.iastore, 1) := by decide +kernel
theorem dX12_bin_104 : decode cX12_bin 104 = .ok (.aload_n 0, 1) := by decide +kernel
theorem dX12_bin_105 : decode cX12_bin 105 = .ok (.getfield 190, 3) := by decide +kernel
theorem dX12_bin_108 : decode cX12_bin 108 = .ok (.aload_n 0, 1) := by decide +kernel
theorem dX12_bin_109 : decode cX12_bin 109 = .ok (.getfield 406, 3) := by decide +kernel
theorem dX12_bin_112 : decode cX12_bin 112 = .ok (.iload_n 2, 1) := by decide +kernel
theorem dX12_bin_113 : decode cX12_bin 113 = .ok (.iastore, 1) := by decide +kernel
theorem dX12_bin_114 : decode cX12_bin 114 = .ok (.aload_n 0, 1) := by decide +kernel
theorem dX12_bin_115 : decode cX12_bin 115 = .ok (.dup, 1) := by decide +kernel
theorem dX12_bin_116 : decode cX12_bin 116 = .ok (.getfield 406, 3) := by decide +kernel
theorem dX12_bin_119 : decode cX12_bin 119 = .ok (.iconst 1, 1) := by decide +kernel
theorem dX12_bin_120 : decode cX12_bin 120 = .ok (.iadd, 1) := by decide +kernel
theorem dX12_bin_121 : decode cX12_bin 121 = .ok (.putfield 406, 3) := by decide +kernel
theorem dX12_bin_124 : decode cX12_bin 124 = .ok (.aload_n 0, 1) := by decide +kernel
theorem dX12_bin_125 : decode cX12_bin 125 = .ok (.iload_n 1, 1) := by decide +kernel
theorem dX12_bin_126 : decode cX12_bin 126 = .ok (.invokevirtual 245, 3) := by decide +kernel
theorem dX12_bin_129 : decode cX12_bin 129 = .ok (.ireturn, 1) := by decide +kernel
theorem dX12_tossed_0 : decode cX12_tossed 0 = .ok (.iload_n 1, 1) := by decide +kernel
theorem dX12_tossed_1 : decode cX12_tossed 1 = .ok (.invokestatic 220, 3) := by decide +kernel
theorem dX12_tossed_4 : decode cX12_tossed 4 = .ok (.ifCond .eq 12, 3) := by decide +kernel
theorem dX12_tossed_7 : decode cX12_tossed 7 = .ok (.aload_n 0, 1) := by decide +kernel
theorem dX12_tossed_8 : decode cX12_tossed 8 = .ok (.getfield 79, 3) := by decide +kernel
theorem dX12_tossed_11 : decode cX12_tossed 11 = .ok (.iload_n 1, 1) := by decide +kernel
theorem dX12_tossed_12 : decode cX12_tossed 12 = .ok (.iaload, 1) := by decide +kernel
theorem dX12_tossed_13 : decode cX12_tossed 13 = .ok (.goto 4, 3) := by decide +kernel
theorem dX12_tossed_16 : decode cX12_tossed 16 = .ok (.iconst (-1), 1) := by decide +kernel
theorem dX12_tossed_17 : decode cX12_tossed 17 = .ok (.ireturn, 1) := by decide +kernel
theorem dX12_isBadOn_0 : decode cX12_isBadOn 0 = .ok (.iconst 0, 1) := by decide +kernel
theorem dX12_isBadOn_1 : decode cX12_isBadOn 1 = .ok (.istore 4, 2) := by decide +kernel
theorem dX12_isBadOn_3 : decode cX12_isBadOn 3 = .ok (.iconst 0, 1) := by decide +kernel
theorem dX12_isBadOn_4 : decode cX12_isBadOn 4 = .ok (.istore 5, 2) := by decide +kernel
theorem dX12_isBadOn_6 : decode cX12_isBadOn 6 = .ok (.iconst 0, 1) := by decide +kernel
theorem dX12_isBadOn_7 : decode cX12_isBadOn 7 = .ok (.istore 6, 2) := by decide +kernel
theorem dX12_isBadOn_9 : decode cX12_isBadOn 9 = .ok (.iload 6, 2) := by decide +kernel
theorem dX12_isBadOn_11 : decode cX12_isBadOn 11 = .ok (.aload_n 0, 1) := by decide +kernel
theorem dX12_isBadOn_12 : decode cX12_isBadOn 12 = .ok (.getfield 227, 3) := by decide +kernel
theorem dX12_isBadOn_15 : decode cX12_isBadOn 15 = .ok (.if_icmp .ge 64, 3) := by decide +kernel
theorem dX12_isBadOn_18 : decode cX12_isBadOn 18 = .ok (.aload_n 0, 1) := by decide +kernel
theorem dX12_isBadOn_19 : decode cX12_isBadOn 19 = .ok (.getfield 46, 3) := by decide +kernel
theorem dX12_isBadOn_22 : decode cX12_isBadOn 22 = .ok (.iload 6, 2) := by decide +kernel
theorem dX12_isBadOn_24 : decode cX12_isBadOn 24 = .ok (.iaload, 1) := by decide +kernel
theorem dX12_isBadOn_25 : decode cX12_isBadOn 25 = .ok (.iload_n 1, 1) := by decide +kernel
theorem dX12_isBadOn_26 : decode cX12_isBadOn 26 = .ok (.if_icmp .ne 47, 3) := by decide +kernel
theorem dX12_isBadOn_29 : decode cX12_isBadOn 29 = .ok (.aload_n 0, 1) := by decide +kernel
theorem dX12_isBadOn_30 : decode cX12_isBadOn 30 = .ok (.getfield 49, 3) := by decide +kernel
theorem dX12_isBadOn_33 : decode cX12_isBadOn 33 = .ok (.iload 6, 2) := by decide +kernel
theorem dX12_isBadOn_35 : decode cX12_isBadOn 35 = .ok (.iaload, 1) := by decide +kernel
theorem dX12_isBadOn_36 : decode cX12_isBadOn 36 = .ok (.iload_n 2, 1) := by decide +kernel
theorem dX12_isBadOn_37 : decode cX12_isBadOn 37 = .ok (.if_icmp .ne 36, 3) := by decide +kernel
theorem dX12_isBadOn_40 : decode cX12_isBadOn 40 = .ok (.aload_n 0, 1) := by decide +kernel
theorem dX12_isBadOn_41 : decode cX12_isBadOn 41 = .ok (.getfield 76, 3) := by decide +kernel
theorem dX12_isBadOn_44 : decode cX12_isBadOn 44 = .ok (.iload 6, 2) := by decide +kernel
theorem dX12_isBadOn_46 : decode cX12_isBadOn 46 = .ok (.iaload, 1) := by decide +kernel
theorem dX12_isBadOn_47 : decode cX12_isBadOn 47 = .ok (.ifCond .ge 26, 3) := by decide +kernel
theorem dX12_isBadOn_50 : decode cX12_isBadOn 50 = .ok (.aload_n 0, 1) := by decide +kernel
theorem dX12_isBadOn_51 : decode cX12_isBadOn 51 = .ok (.getfield 55, 3) := by decide +kernel
theorem dX12_isBadOn_54 : decode cX12_isBadOn 54 = .ok (.iload 6, 2) := by decide +kernel
theorem dX12_isBadOn_56 : decode cX12_isBadOn 56 = .ok (.iaload, 1) := by decide +kernel
theorem dX12_isBadOn_57 : decode cX12_isBadOn 57 = .ok (.iload_n 3, 1) := by decide +kernel
theorem dX12_isBadOn_58 : decode cX12_isBadOn 58 = .ok (.if_icmp .gt 15, 3) := by decide +kernel
theorem dX12_isBadOn_61 : decode cX12_isBadOn 61 = .ok (.iload 4, 2) := by decide +kernel
theorem dX12_isBadOn_63 : decode cX12_isBadOn 63 = .ok (.aload_n 0, 1) := by decide +kernel
theorem dX12_isBadOn_64 : decode cX12_isBadOn 64 = .ok (.getfield 58, 3) := by decide +kernel
theorem dX12_isBadOn_67 : decode cX12_isBadOn 67 = .ok (.iload 6, 2) := by decide +kernel
theorem dX12_isBadOn_69 : decode cX12_isBadOn 69 = .ok (.iaload, 1) := by decide +kernel
theorem dX12_isBadOn_70 : decode cX12_isBadOn 70 = .ok (.iadd, 1) := by decide +kernel
theorem dX12_isBadOn_71 : decode cX12_isBadOn 71 = .ok (.istore 4, 2) := by decide +kernel
theorem dX12_isBadOn_73 : decode cX12_isBadOn 73 = .ok (.iinc 6 1, 3) := by decide +kernel
theorem dX12_isBadOn_76 : decode cX12_isBadOn 76 = .ok (.goto (-67), 3) := by decide +kernel
theorem dX12_isBadOn_79 : decode cX12_isBadOn 79 = .ok (.iconst 0, 1) := by decide +kernel
theorem dX12_isBadOn_80 : decode cX12_isBadOn 80 = .ok (.istore 6, 2) := by decide +kernel
theorem dX12_isBadOn_82 : decode cX12_isBadOn 82 = .ok (.iload 6, 2) := by decide +kernel
theorem dX12_isBadOn_84 : decode cX12_isBadOn 84 = .ok (.aload_n 0, 1) := by decide +kernel
theorem dX12_isBadOn_85 : decode cX12_isBadOn 85 = .ok (.getfield 406, 3) := by decide +kernel
theorem dX12_isBadOn_88 : decode cX12_isBadOn 88 = .ok (.if_icmp .ge 64, 3) := by decide +kernel
theorem dX12_isBadOn_91 : decode cX12_isBadOn 91 = .ok (.aload_n 0, 1) := by decide +kernel
theorem dX12_isBadOn_92 : decode cX12_isBadOn 92 = .ok (.getfield 46, 3) := by decide +kernel
theorem dX12_isBadOn_95 : decode cX12_isBadOn 95 = .ok (.aload_n 0, 1) := by decide +kernel
theorem dX12_isBadOn_96 : decode cX12_isBadOn 96 = .ok (.getfield 184, 3) := by decide +kernel
theorem dX12_isBadOn_99 : decode cX12_isBadOn 99 = .ok (.iload 6, 2) := by decide +kernel
theorem dX12_isBadOn_101 : decode cX12_isBadOn 101 = .ok (.iaload, 1) := by decide +kernel
theorem dX12_isBadOn_102 : decode cX12_isBadOn 102 = .ok (.iaload, 1) := by decide +kernel
theorem dX12_isBadOn_103 : decode cX12_isBadOn 103 = .ok (.iload_n 1, 1) := by decide +kernel
theorem dX12_isBadOn_104 : decode cX12_isBadOn 104 = .ok (.if_icmp .ne 42, 3) := by decide +kernel
theorem dX12_isBadOn_107 : decode cX12_isBadOn 107 = .ok (.aload_n 0, 1) := by decide +kernel
theorem dX12_isBadOn_108 : decode cX12_isBadOn 108 = .ok (.getfield 49, 3) := by decide +kernel
theorem dX12_isBadOn_111 : decode cX12_isBadOn 111 = .ok (.aload_n 0, 1) := by decide +kernel
theorem dX12_isBadOn_112 : decode cX12_isBadOn 112 = .ok (.getfield 184, 3) := by decide +kernel
theorem dX12_isBadOn_115 : decode cX12_isBadOn 115 = .ok (.iload 6, 2) := by decide +kernel
theorem dX12_isBadOn_117 : decode cX12_isBadOn 117 = .ok (.iaload, 1) := by decide +kernel
theorem dX12_isBadOn_118 : decode cX12_isBadOn 118 = .ok (.iaload, 1) := by decide +kernel
theorem dX12_isBadOn_119 : decode cX12_isBadOn 119 = .ok (.iload_n 2, 1) := by decide +kernel
theorem dX12_isBadOn_120 : decode cX12_isBadOn 120 = .ok (.if_icmp .ne 26, 3) := by decide +kernel
theorem dX12_isBadOn_123 : decode cX12_isBadOn 123 = .ok (.aload_n 0, 1) := by decide +kernel
theorem dX12_isBadOn_124 : decode cX12_isBadOn 124 = .ok (.getfield 187, 3) := by decide +kernel
theorem dX12_isBadOn_127 : decode cX12_isBadOn 127 = .ok (.iload 6, 2) := by decide +kernel
theorem dX12_isBadOn_129 : decode cX12_isBadOn 129 = .ok (.iaload, 1) := by decide +kernel
theorem dX12_isBadOn_130 : decode cX12_isBadOn 130 = .ok (.iload_n 3, 1) := by decide +kernel
theorem dX12_isBadOn_131 : decode cX12_isBadOn 131 = .ok (.if_icmp .gt 15, 3) := by decide +kernel
theorem dX12_isBadOn_134 : decode cX12_isBadOn 134 = .ok (.iload 5, 2) := by decide +kernel
theorem dX12_isBadOn_136 : decode cX12_isBadOn 136 = .ok (.aload_n 0, 1) := by decide +kernel
theorem dX12_isBadOn_137 : decode cX12_isBadOn 137 = .ok (.getfield 190, 3) := by decide +kernel
theorem dX12_isBadOn_140 : decode cX12_isBadOn 140 = .ok (.iload 6, 2) := by decide +kernel
theorem dX12_isBadOn_142 : decode cX12_isBadOn 142 = .ok (.iaload, 1) := by decide +kernel
theorem dX12_isBadOn_143 : decode cX12_isBadOn 143 = .ok (.iadd, 1) := by decide +kernel
theorem dX12_isBadOn_144 : decode cX12_isBadOn 144 = .ok (.istore 5, 2) := by decide +kernel
theorem dX12_isBadOn_146 : decode cX12_isBadOn 146 = .ok (.iinc 6 1, 3) := by decide +kernel
theorem dX12_isBadOn_149 : decode cX12_isBadOn 149 = .ok (.goto (-67), 3) := by decide +kernel
theorem dX12_isBadOn_152 : decode cX12_isBadOn 152 = .ok (.iload 5, 2) := by decide +kernel
theorem dX12_isBadOn_154 : decode cX12_isBadOn 154 = .ok (.iconst 3, 1) := by decide +kernel
theorem dX12_isBadOn_155 : decode cX12_isBadOn 155 = .ok (.if_icmp .lt 17, 3) := by decide +kernel
theorem dX12_isBadOn_158 : decode cX12_isBadOn 158 = .ok (.bipush 10, 2) := by decide +kernel
theorem dX12_isBadOn_160 : decode cX12_isBadOn 160 = .ok (.iload 5, 2) := by decide +kernel
theorem dX12_isBadOn_162 : decode cX12_isBadOn 162 = .ok (.imul, 1) := by decide +kernel
theorem dX12_isBadOn_163 : decode cX12_isBadOn 163 = .ok (.iload 4, 2) := by decide +kernel
theorem dX12_isBadOn_165 : decode cX12_isBadOn 165 = .ok (.if_icmp .le 7, 3) := by decide +kernel
theorem dX12_isBadOn_168 : decode cX12_isBadOn 168 = .ok (.iconst 1, 1) := by decide +kernel
theorem dX12_isBadOn_169 : decode cX12_isBadOn 169 = .ok (.goto 4, 3) := by decide +kernel
theorem dX12_isBadOn_172 : decode cX12_isBadOn 172 = .ok (.iconst 0, 1) := by decide +kernel
theorem dX12_isBadOn_173 : decode cX12_isBadOn 173 = .ok (.ireturn, 1) := by decide +kernel
theorem dX12_isLot_0 : decode cX12_isLot 0 = .ok (.aload_n 0, 1) := by decide +kernel
theorem dX12_isLot_1 : decode cX12_isLot 1 = .ok (.iload_n 1, 1) := by decide +kernel
theorem dX12_isLot_2 : decode cX12_isLot 2 = .ok (.invokevirtual 213, 3) := by decide +kernel
theorem dX12_isLot_5 : decode cX12_isLot 5 = .ok (.ifCond .eq 17, 3) := by decide +kernel
theorem dX12_isLot_8 : decode cX12_isLot 8 = .ok (.iload_n 2, 1) := by decide +kernel
theorem dX12_isLot_9 : decode cX12_isLot 9 = .ok (.iconst 0, 1) := by decide +kernel
theorem dX12_isLot_10 : decode cX12_isLot 10 = .ok (.bipush 99, 2) := by decide +kernel
theorem dX12_isLot_12 : decode cX12_isLot 12 = .ok (.invokestatic 196, 3) := by decide +kernel
theorem dX12_isLot_15 : decode cX12_isLot 15 = .ok (.ifCond .eq 7, 3) := by decide +kernel
theorem dX12_isLot_18 : decode cX12_isLot 18 = .ok (.iconst 1, 1) := by decide +kernel
theorem dX12_isLot_19 : decode cX12_isLot 19 = .ok (.goto 4, 3) := by decide +kernel
theorem dX12_isLot_22 : decode cX12_isLot 22 = .ok (.iconst 0, 1) := by decide +kernel
theorem dX12_isLot_23 : decode cX12_isLot 23 = .ok (.ireturn, 1) := by decide +kernel
theorem dX12_isBad_0 : decode cX12_isBad 0 = .ok (.aload_n 0, 1) := by decide +kernel
theorem dX12_isBad_1 : decode cX12_isBad 1 = .ok (.iload_n 1, 1) := by decide +kernel
theorem dX12_isBad_2 : decode cX12_isBad 2 = .ok (.iload_n 2, 1) := by decide +kernel
theorem dX12_isBad_3 : decode cX12_isBad 3 = .ok (.invokevirtual 409, 3) := by decide +kernel
theorem dX12_isBad_6 : decode cX12_isBad 6 = .ok (.ifCond .eq 10, 3) := by decide +kernel
theorem dX12_isBad_9 : decode cX12_isBad 9 = .ok (.iload_n 3, 1) := by decide +kernel
theorem dX12_isBad_10 : decode cX12_isBad 10 = .ok (.invokestatic 220, 3) := by decide +kernel
theorem dX12_isBad_13 : decode cX12_isBad 13 = .ok (.ifCond .ne 7, 3) := by decide +kernel
theorem dX12_isBad_16 : decode cX12_isBad 16 = .ok (.iconst (-1), 1) := by decide +kernel
theorem dX12_isBad_17 : decode cX12_isBad 17 = .ok (.goto 18, 3) := by decide +kernel
theorem dX12_isBad_20 : decode cX12_isBad 20 = .ok (.aload_n 0, 1) := by decide +kernel
theorem dX12_isBad_21 : decode cX12_isBad 21 = .ok (.iload_n 1, 1) := by decide +kernel
theorem dX12_isBad_22 : decode cX12_isBad 22 = .ok (.iload_n 2, 1) := by decide +kernel
theorem dX12_isBad_23 : decode cX12_isBad 23 = .ok (.iload_n 3, 1) := by decide +kernel
theorem dX12_isBad_24 : decode cX12_isBad 24 = .ok (.invokevirtual 412, 3) := by decide +kernel
theorem dX12_isBad_27 : decode cX12_isBad 27 = .ok (.ifCond .eq 7, 3) := by decide +kernel
theorem dX12_isBad_30 : decode cX12_isBad 30 = .ok (.iconst 1, 1) := by decide +kernel
theorem dX12_isBad_31 : decode cX12_isBad 31 = .ok (.goto 4, 3) := by decide +kernel
theorem dX12_isBad_34 : decode cX12_isBad 34 = .ok (.iconst 0, 1) := by decide +kernel
theorem dX12_isBad_35 : decode cX12_isBad 35 = .ok (.ireturn, 1) := by decide +kernel
theorem dX12_since_0 : decode cX12_since 0 = .ok (.aload_n 0, 1) := by decide +kernel
theorem dX12_since_1 : decode cX12_since 1 = .ok (.iload_n 1, 1) := by decide +kernel
theorem dX12_since_2 : decode cX12_since 2 = .ok (.iload_n 2, 1) := by decide +kernel
theorem dX12_since_3 : decode cX12_since 3 = .ok (.invokevirtual 409, 3) := by decide +kernel
theorem dX12_since_6 : decode cX12_since 6 = .ok (.ifCond .ne 5, 3) := by decide +kernel
theorem dX12_since_9 : decode cX12_since 9 = .ok (.iconst (-1), 1) := by decide +kernel
theorem dX12_since_10 : decode cX12_since 10 = .ok (.ireturn, 1) := by decide +kernel
theorem dX12_since_11 : decode cX12_since 11 = .ok (.iconst 0, 1) := by decide +kernel
theorem dX12_since_12 : decode cX12_since 12 = .ok (.istore_n 3, 1) := by decide +kernel
theorem dX12_since_13 : decode cX12_since 13 = .ok (.iload_n 3, 1) := by decide +kernel
theorem dX12_since_14 : decode cX12_since 14 = .ok (.aload_n 0, 1) := by decide +kernel
theorem dX12_since_15 : decode cX12_since 15 = .ok (.invokevirtual 230, 3) := by decide +kernel
theorem dX12_since_18 : decode cX12_since 18 = .ok (.if_icmp .gt 21, 3) := by decide +kernel
theorem dX12_since_21 : decode cX12_since 21 = .ok (.aload_n 0, 1) := by decide +kernel
theorem dX12_since_22 : decode cX12_since 22 = .ok (.iload_n 1, 1) := by decide +kernel
theorem dX12_since_23 : decode cX12_since 23 = .ok (.iload_n 2, 1) := by decide +kernel
theorem dX12_since_24 : decode cX12_since 24 = .ok (.iload_n 3, 1) := by decide +kernel
theorem dX12_since_25 : decode cX12_since 25 = .ok (.invokevirtual 412, 3) := by decide +kernel
theorem dX12_since_28 : decode cX12_since 28 = .ok (.ifCond .eq 5, 3) := by decide +kernel
theorem dX12_since_31 : decode cX12_since 31 = .ok (.iload_n 3, 1) := by decide +kernel
theorem dX12_since_32 : decode cX12_since 32 = .ok (.ireturn, 1) := by decide +kernel
theorem dX12_since_33 : decode cX12_since 33 = .ok (.iinc 3 1, 3) := by decide +kernel
theorem dX12_since_36 : decode cX12_since 36 = .ok (.goto (-23), 3) := by decide +kernel
theorem dX12_since_39 : decode cX12_since 39 = .ok (.bipush (-2), 2) := by decide +kernel
theorem dX12_since_41 : decode cX12_since 41 = .ok (.ireturn, 1) := by decide +kernel
theorem dX12_till_0 : decode cX12_till 0 = .ok (.aload_n 0, 1) := by decide +kernel
theorem dX12_till_1 : decode cX12_till 1 = .ok (.iload_n 1, 1) := by decide +kernel
theorem dX12_till_2 : decode cX12_till 2 = .ok (.invokevirtual 209, 3) := by decide +kernel
theorem dX12_till_5 : decode cX12_till 5 = .ok (.ifCond .eq 12, 3) := by decide +kernel
theorem dX12_till_8 : decode cX12_till 8 = .ok (.aload_n 0, 1) := by decide +kernel
theorem dX12_till_9 : decode cX12_till 9 = .ok (.getfield 16, 3) := by decide +kernel
theorem dX12_till_12 : decode cX12_till 12 = .ok (.iload_n 1, 1) := by decide +kernel
theorem dX12_till_13 : decode cX12_till 13 = .ok (.iaload, 1) := by decide +kernel
theorem dX12_till_14 : decode cX12_till 14 = .ok (.goto 4, 3) := by decide +kernel
theorem dX12_till_17 : decode cX12_till 17 = .ok (.iconst (-1), 1) := by decide +kernel
theorem dX12_till_18 : decode cX12_till 18 = .ok (.ireturn, 1) := by decide +kernel
theorem dX12_count_0 : decode cX12_count 0 = .ok (.iconst 0, 1) := by decide +kernel
theorem dX12_count_1 : decode cX12_count 1 = .ok (.istore_n 2, 1) := by decide +kernel
theorem dX12_count_2 : decode cX12_count 2 = .ok (.iload_n 1, 1) := by decide +kernel
theorem dX12_count_3 : decode cX12_count 3 = .ok (.tableswitch 255 0 13 #[69, 74, 79, 84, 89, 94, 99, 104, 109, 114, 140, 167, 194, 221], 69) := by decide +kernel
theorem dX12_count_72 : decode cX12_count 72 = .ok (.aload_n 0, 1) := by decide +kernel
theorem dX12_count_73 : decode cX12_count 73 = .ok (.getfield 203, 3) := by decide +kernel
theorem dX12_count_76 : decode cX12_count 76 = .ok (.ireturn, 1) := by decide +kernel
theorem dX12_count_77 : decode cX12_count 77 = .ok (.aload_n 0, 1) := by decide +kernel
theorem dX12_count_78 : decode cX12_count 78 = .ok (.getfield 206, 3) := by decide +kernel
theorem dX12_count_81 : decode cX12_count 81 = .ok (.ireturn, 1) := by decide +kernel
theorem dX12_count_82 : decode cX12_count 82 = .ok (.aload_n 0, 1) := by decide +kernel
theorem dX12_count_83 : decode cX12_count 83 = .ok (.getfield 227, 3) := by decide +kernel
theorem dX12_count_86 : decode cX12_count 86 = .ok (.ireturn, 1) := by decide +kernel
theorem dX12_count_87 : decode cX12_count 87 = .ok (.aload_n 0, 1) := by decide +kernel
theorem dX12_count_88 : decode cX12_count 88 = .ok (.getfield 337, 3) := by decide +kernel
theorem dX12_count_91 : decode cX12_count 91 = .ok (.ireturn, 1) := by decide +kernel
theorem dX12_count_92 : decode cX12_count 92 = .ok (.aload_n 0, 1) := by decide +kernel
theorem dX12_count_93 : decode cX12_count 93 = .ok (.getfield 305, 3) := by decide +kernel
theorem dX12_count_96 : decode cX12_count 96 = .ok (.ireturn, 1) := by decide +kernel
theorem dX12_count_97 : decode cX12_count 97 = .ok (.aload_n 0, 1) := by decide +kernel
theorem dX12_count_98 : decode cX12_count 98 = .ok (.getfield 200, 3) := by decide +kernel
theorem dX12_count_101 : decode cX12_count 101 = .ok (.ireturn, 1) := by decide +kernel
theorem dX12_count_102 : decode cX12_count 102 = .ok (.aload_n 0, 1) := by decide +kernel
theorem dX12_count_103 : decode cX12_count 103 = .ok (.getfield 403, 3) := by decide +kernel
theorem dX12_count_106 : decode cX12_count 106 = .ok (.ireturn, 1) := by decide +kernel
theorem dX12_count_107 : decode cX12_count 107 = .ok (.aload_n 0, 1) := by decide +kernel
theorem dX12_count_108 : decode cX12_count 108 = .ok (.getfield 252, 3) := by decide +kernel
theorem dX12_count_111 : decode cX12_count 111 = .ok (.ireturn, 1) := by decide +kernel
theorem dX12_count_112 : decode cX12_count 112 = .ok (.aload_n 0, 1) := by decide +kernel
theorem dX12_count_113 : decode cX12_count 113 = .ok (.getfield 238, 3) := by decide +kernel
theorem dX12_count_116 : decode cX12_count 116 = .ok (.ireturn, 1) := by decide +kernel
theorem dX12_count_117 : decode cX12_count 117 = .ok (.iconst 0, 1) := by decide +kernel
theorem dX12_count_118 : decode cX12_count 118 = .ok (.istore_n 3, 1) := by decide +kernel
theorem dX12_count_119 : decode cX12_count 119 = .ok (.iload_n 3, 1) := by decide +kernel
theorem dX12_count_120 : decode cX12_count 120 = .ok (.aload_n 0, 1) := by decide +kernel
theorem dX12_count_121 : decode cX12_count 121 = .ok (.getfield 227, 3) := by decide +kernel
theorem dX12_count_124 : decode cX12_count 124 = .ok (.if_icmp .ge 17, 3) := by decide +kernel
theorem dX12_count_127 : decode cX12_count 127 = .ok (.iload_n 2, 1) := by decide +kernel
theorem dX12_count_128 : decode cX12_count 128 = .ok (.aload_n 0, 1) := by decide +kernel
theorem dX12_count_129 : decode cX12_count 129 = .ok (.iload_n 3, 1) := by decide +kernel
theorem dX12_count_130 : decode cX12_count 130 = .ok (.invokevirtual 245, 3) := by decide +kernel
theorem dX12_count_133 : decode cX12_count 133 = .ok (.iadd, 1) := by decide +kernel
theorem dX12_count_134 : decode cX12_count 134 = .ok (.istore_n 2, 1) := by decide +kernel
theorem dX12_count_135 : decode cX12_count 135 = .ok (.iinc 3 1, 3) := by decide +kernel
theorem dX12_count_138 : decode cX12_count 138 = .ok (.goto (-19), 3) := by decide +kernel
theorem dX12_count_141 : decode cX12_count 141 = .ok (.iload_n 2, 1) := by decide +kernel
theorem dX12_count_142 : decode cX12_count 142 = .ok (.ireturn, 1) := by decide +kernel
theorem dX12_count_143 : decode cX12_count 143 = .ok (.iconst 0, 1) := by decide +kernel
theorem dX12_count_144 : decode cX12_count 144 = .ok (.istore_n 3, 1) := by decide +kernel
theorem dX12_count_145 : decode cX12_count 145 = .ok (.iload_n 3, 1) := by decide +kernel
theorem dX12_count_146 : decode cX12_count 146 = .ok (.aload_n 0, 1) := by decide +kernel
theorem dX12_count_147 : decode cX12_count 147 = .ok (.getfield 227, 3) := by decide +kernel
theorem dX12_count_150 : decode cX12_count 150 = .ok (.if_icmp .ge 18, 3) := by decide +kernel
theorem dX12_count_153 : decode cX12_count 153 = .ok (.iload_n 2, 1) := by decide +kernel
theorem dX12_count_154 : decode cX12_count 154 = .ok (.aload_n 0, 1) := by decide +kernel
theorem dX12_count_155 : decode cX12_count 155 = .ok (.getfield 61, 3) := by decide +kernel
theorem dX12_count_158 : decode cX12_count 158 = .ok (.iload_n 3, 1) := by decide +kernel
theorem dX12_count_159 : decode cX12_count 159 = .ok (.iaload, 1) := by decide +kernel
theorem dX12_count_160 : decode cX12_count 160 = .ok (.iadd, 1) := by decide +kernel
theorem dX12_count_161 : decode cX12_count 161 = .ok (.istore_n 2, 1) := by decide +kernel
theorem dX12_count_162 : decode cX12_count 162 = .ok (.iinc 3 1, 3) := by decide +kernel
theorem dX12_count_165 : decode cX12_count 165 = .ok (.goto (-20), 3) := by decide +kernel
theorem dX12_count_168 : decode cX12_count 168 = .ok (.iload_n 2, 1) := by decide +kernel
theorem dX12_count_169 : decode cX12_count 169 = .ok (.ireturn, 1) := by decide +kernel
theorem dX12_count_170 : decode cX12_count 170 = .ok (.iconst 0, 1) := by decide +kernel
theorem dX12_count_171 : decode cX12_count 171 = .ok (.istore_n 3, 1) := by decide +kernel
theorem dX12_count_172 : decode cX12_count 172 = .ok (.iload_n 3, 1) := by decide +kernel
theorem dX12_count_173 : decode cX12_count 173 = .ok (.aload_n 0, 1) := by decide +kernel
theorem dX12_count_174 : decode cX12_count 174 = .ok (.getfield 227, 3) := by decide +kernel
theorem dX12_count_177 : decode cX12_count 177 = .ok (.if_icmp .ge 18, 3) := by decide +kernel
theorem dX12_count_180 : decode cX12_count 180 = .ok (.iload_n 2, 1) := by decide +kernel
theorem dX12_count_181 : decode cX12_count 181 = .ok (.aload_n 0, 1) := by decide +kernel
theorem dX12_count_182 : decode cX12_count 182 = .ok (.getfield 67, 3) := by decide +kernel
theorem dX12_count_185 : decode cX12_count 185 = .ok (.iload_n 3, 1) := by decide +kernel
theorem dX12_count_186 : decode cX12_count 186 = .ok (.iaload, 1) := by decide +kernel
theorem dX12_count_187 : decode cX12_count 187 = .ok (.iadd, 1) := by decide +kernel
theorem dX12_count_188 : decode cX12_count 188 = .ok (.istore_n 2, 1) := by decide +kernel
theorem dX12_count_189 : decode cX12_count 189 = .ok (.iinc 3 1, 3) := by decide +kernel
theorem dX12_count_192 : decode cX12_count 192 = .ok (.goto (-20), 3) := by decide +kernel
theorem dX12_count_195 : decode cX12_count 195 = .ok (.iload_n 2, 1) := by decide +kernel
theorem dX12_count_196 : decode cX12_count 196 = .ok (.ireturn, 1) := by decide +kernel
theorem dX12_count_197 : decode cX12_count 197 = .ok (.iconst 0, 1) := by decide +kernel
theorem dX12_count_198 : decode cX12_count 198 = .ok (.istore_n 3, 1) := by decide +kernel
theorem dX12_count_199 : decode cX12_count 199 = .ok (.iload_n 3, 1) := by decide +kernel
theorem dX12_count_200 : decode cX12_count 200 = .ok (.aload_n 0, 1) := by decide +kernel
theorem dX12_count_201 : decode cX12_count 201 = .ok (.getfield 227, 3) := by decide +kernel
theorem dX12_count_204 : decode cX12_count 204 = .ok (.if_icmp .ge 18, 3) := by decide +kernel
theorem dX12_count_207 : decode cX12_count 207 = .ok (.iload_n 2, 1) := by decide +kernel
theorem dX12_count_208 : decode cX12_count 208 = .ok (.aload_n 0, 1) := by decide +kernel
theorem dX12_count_209 : decode cX12_count 209 = .ok (.getfield 70, 3) := by decide +kernel
theorem dX12_count_212 : decode cX12_count 212 = .ok (.iload_n 3, 1) := by decide +kernel
theorem dX12_count_213 : decode cX12_count 213 = .ok (.iaload, 1) := by decide +kernel
theorem dX12_count_214 : decode cX12_count 214 = .ok (.iadd, 1) := by decide +kernel
theorem dX12_count_215 : decode cX12_count 215 = .ok (.istore_n 2, 1) := by decide +kernel
theorem dX12_count_216 : decode cX12_count 216 = .ok (.iinc 3 1, 3) := by decide +kernel
theorem dX12_count_219 : decode cX12_count 219 = .ok (.goto (-20), 3) := by decide +kernel
theorem dX12_count_222 : decode cX12_count 222 = .ok (.iload_n 2, 1) := by decide +kernel
theorem dX12_count_223 : decode cX12_count 223 = .ok (.ireturn, 1) := by decide +kernel
theorem dX12_count_224 : decode cX12_count 224 = .ok (.iconst 0, 1) := by decide +kernel
theorem dX12_count_225 : decode cX12_count 225 = .ok (.istore_n 3, 1) := by decide +kernel
theorem dX12_count_226 : decode cX12_count 226 = .ok (.iload_n 3, 1) := by decide +kernel
theorem dX12_count_227 : decode cX12_count 227 = .ok (.aload_n 0, 1) := by decide +kernel
theorem dX12_count_228 : decode cX12_count 228 = .ok (.getfield 337, 3) := by decide +kernel
theorem dX12_count_231 : decode cX12_count 231 = .ok (.if_icmp .ge 25, 3) := by decide +kernel
theorem dX12_count_234 : decode cX12_count 234 = .ok (.iload_n 2, 1) := by decide +kernel
theorem dX12_count_235 : decode cX12_count 235 = .ok (.aload_n 0, 1) := by decide +kernel
theorem dX12_count_236 : decode cX12_count 236 = .ok (.getfield 122, 3) := by decide +kernel
theorem dX12_count_239 : decode cX12_count 239 = .ok (.iload_n 3, 1) := by decide +kernel
theorem dX12_count_240 : decode cX12_count 240 = .ok (.iaload, 1) := by decide +kernel
theorem dX12_count_241 : decode cX12_count 241 = .ok (.aload_n 0, 1) := by decide +kernel
theorem dX12_count_242 : decode cX12_count 242 = .ok (.getfield 125, 3) := by decide +kernel
theorem dX12_count_245 : decode cX12_count 245 = .ok (.iload_n 3, 1) := by decide +kernel
theorem dX12_count_246 : decode cX12_count 246 = .ok (.iaload, 1) := by decide +kernel
theorem dX12_count_247 : decode cX12_count 247 = .ok (.isub, 1) := by decide +kernel
theorem dX12_count_248 : decode cX12_count 248 = .ok (.iadd, 1) := by decide +kernel
theorem dX12_count_249 : decode cX12_count 249 = .ok (.istore_n 2, 1) := by decide +kernel
theorem dX12_count_250 : decode cX12_count 250 = .ok (.iinc 3 1, 3) := by decide +kernel
theorem dX12_count_253 : decode cX12_count 253 = .ok (.goto (-27), 3) := by decide +kernel
theorem dX12_count_256 : decode cX12_count 256 = .ok (.iload_n 2, 1) := by decide +kernel
theorem dX12_count_257 : decode cX12_count 257 = .ok (.ireturn, 1) := by decide +kernel
theorem dX12_count_258 : decode cX12_count 258 = .ok (.iconst (-1), 1) := by decide +kernel
theorem dX12_count_259 : decode cX12_count 259 = .ok (.ireturn, 1) := by decide +kernel
end
section
/-! THE PURE MACHINE: a state is two functions (ints, longs) of a place and a slot; the places' shapes are fixed (sk); J is the judgement over it. -/
abbrev St : Type := (Nat → Nat → Int32) × (Nat → Nat → Int64)
def rd (σ : St) (q k : Nat) : Int32 := σ.1 q k
def rl (σ : St) (q k : Nat) : Int64 := σ.2 q k
def wr (σ : St) (q k : Nat) (x : Int32) : St := (fun a b => if a = q ∧ b = k then x else σ.1 a b, σ.2)
def wl (σ : St) (q k : Nat) (x : Int64) : St := (σ.1, fun a b => if a = q ∧ b = k then x else σ.2 a b)
theorem rd_wr (σ : St) (q k : Nat) (x : Int32) (a b : Nat) : rd (wr σ q k x) a b = if a = q ∧ b = k then x else rd σ a b := rfl
theorem rd_wl (σ : St) (q k : Nat) (x : Int64) (a b : Nat) : rd (wl σ q k x) a b = rd σ a b := rfl
theorem rl_wr (σ : St) (q k : Nat) (x : Int32) (a b : Nat) : rl (wr σ q k x) a b = rl σ a b := rfl
theorem rl_wl (σ : St) (q k : Nat) (x : Int64) (a b : Nat) : rl (wl σ q k x) a b = if a = q ∧ b = k then x else rl σ a b := rfl
abbrev SK : Type := (Nat × List Nat) ⊕ (Nat × Nat × Nat)
def nC : Nat := 372
def skT : List SK := [
.inl (11, [3, 6, 13, 19, 25, 28, 35, 36, 46, 51, 57, 59, 60, 0]),
  .inl (3, [4, 5, 0]),
  .inr (0, 1500, 0),
  .inr (0, 1500, 0),
  .inl (9, [7, 9, 10, 11, 12]),
  .inl (7, [8, 0]),
  .inr (0, 12, 0),
  .inr (0, 12, 0),
  .inr (0, 12, 0),
  .inr (4, 12, 118),
  .inr (4, 12, 130),
  .inl (5, [14, 15, 16, 17, 18, 0]),
  .inr (0, 10, 0),
  .inr (0, 10, 0),
  .inr (0, 10, 0),
  .inr (0, 10, 0),
  .inr (0, 10, 0),
  .inl (0, [20, 0, 21, 0, 22, 23, 24, 0]),
  .inr (4, 200, 142),
  .inr (0, 200, 0),
  .inr (0, 400, 0),
  .inr (0, 400, 0),
  .inr (0, 400, 0),
  .inl (10, [26, 0, 0, 1, 0]),
  .inr (0, 160, 0),
  .inr (0, 0, 0),
  .inl (6, [29, 30, 31, 32, 33, 0, 34, 0]),
  .inr (4, 16, 342),
  .inr (0, 16, 0),
  .inr (0, 16, 0),
  .inr (0, 16, 0),
  .inr (0, 16, 0),
  .inr (0, 160, 0),
  .inl (4, [0, 0, 0, 0, 0, 0, 0, 0]),
  .inl (8, [37, 38, 39, 40, 41, 42, 43, 0, 44, 0, 45]),
  .inr (0, 600, 0),
  .inr (0, 600, 0),
  .inr (0, 600, 0),
  .inr (0, 600, 0),
  .inr (0, 600, 0),
  .inr (0, 600, 0),
  .inr (0, 600, 0),
  .inr (0, 600, 0),
  .inr (0, 1000, 0),
  .inl (2, [47, 48, 49, 50, 0, 0, 0]),
  .inr (4, 14, 358),
  .inr (0, 4, 0),
  .inr (0, 14, 0),
  .inr (0, 14, 0),
  .inl (1, [52, 53, 54, 55, 56, 0]),
  .inr (0, 12, 0),
  .inr (0, 12, 0),
  .inr (0, 6, 0),
  .inr (0, 6, 0),
  .inr (3, 64, 0),
  .inl (7, [58, 0]),
  .inr (0, 10, 0),
  .inr (0, 10, 0),
  .inr (0, 10, 0),
  .inl (12, [0, 0, 0, 62, 63, 64, 0, 65, 66, 67, 68, 69, 70, 71, 72, 0, 0, 73, 74, 75, 76, 77, 78, 79, 80, 81, 82, 83, 84, 85, 86, 0, 0, 87, 88, 89, 90, 91, 92, 0, 0, 0, 0, 0, 93, 0, 94, 95, 96, 97, 98, 99, 100, 101, 102, 103, 0, 0, 104, 105, 106, 107, 108, 109, 110, 0, 0, 111, 112, 113, 0, 114, 115, 116, 0, 117, 118, 119]),
  .inr (0, 12, 0),
  .inr (0, 12, 0),
  .inr (0, 12, 0),
  .inr (0, 10, 0),
  .inr (0, 10, 0),
  .inr (0, 10, 0),
  .inr (0, 10, 0),
  .inr (0, 10, 0),
  .inr (0, 1500, 0),
  .inr (0, 120, 0),
  .inr (0, 120, 0),
  .inr (0, 200, 0),
  .inr (0, 200, 0),
  .inr (0, 200, 0),
  .inr (0, 200, 0),
  .inr (0, 200, 0),
  .inr (0, 200, 0),
  .inr (0, 200, 0),
  .inr (0, 200, 0),
  .inr (0, 200, 0),
  .inr (0, 200, 0),
  .inr (0, 200, 0),
  .inr (0, 200, 0),
  .inr (0, 1500, 0),
  .inr (1, 160, 0),
  .inr (0, 16, 0),
  .inr (0, 16, 0),
  .inr (0, 16, 0),
  .inr (0, 17, 0),
  .inr (0, 2890, 0),
  .inr (0, 2890, 0),
  .inr (0, 180, 0),
  .inr (0, 600, 0),
  .inr (0, 600, 0),
  .inr (0, 600, 0),
  .inr (0, 600, 0),
  .inr (0, 600, 0),
  .inr (0, 600, 0),
  .inr (0, 600, 0),
  .inr (0, 20, 0),
  .inr (0, 20, 0),
  .inr (0, 80, 0),
  .inr (0, 1500, 0),
  .inr (2, 1500, 0),
  .inr (0, 12, 0),
  .inr (0, 12, 0),
  .inr (0, 36, 0),
  .inr (0, 6, 0),
  .inr (0, 6, 0),
  .inr (2, 200, 0),
  .inr (0, 12, 0),
  .inr (0, 12, 0),
  .inr (0, 10, 0),
  .inr (0, 10, 0),
  .inr (0, 10, 0),
  .inr (0, 400, 0),
  .inr (0, 400, 0),
  .inr (0, 400, 0)]
def sk (q : Nat) : SK := if q < 118 then skT.getD q (.inr (0, 0, 0)) else if q < 130 then .inr (0, 10, 0) else if q < 142 then .inr (0, 10, 0) else if q < 342 then .inr (0, 14, 0) else if q < 358 then .inr (0, 161, 0) else if q < 372 then .inr (0, 4, 0) else .inr (0, 0, 0)
theorem sk_row118 {i : Nat} (h : i < 12) : sk (i + 118) = .inr (0, 10, 0) := by
  unfold sk
  repeat rw [if_neg (by omega)]
  rw [if_pos (by omega)]
theorem nc_row118 {i : Nat} (h : i < 12) : i + 118 < nC := by
  unfold nC
  omega
theorem sk_row130 {i : Nat} (h : i < 12) : sk (i + 130) = .inr (0, 10, 0) := by
  unfold sk
  repeat rw [if_neg (by omega)]
  rw [if_pos (by omega)]
theorem nc_row130 {i : Nat} (h : i < 12) : i + 130 < nC := by
  unfold nC
  omega
theorem sk_row142 {i : Nat} (h : i < 200) : sk (i + 142) = .inr (0, 14, 0) := by
  unfold sk
  repeat rw [if_neg (by omega)]
  rw [if_pos (by omega)]
theorem nc_row142 {i : Nat} (h : i < 200) : i + 142 < nC := by
  unfold nC
  omega
theorem sk_row342 {i : Nat} (h : i < 16) : sk (i + 342) = .inr (0, 161, 0) := by
  unfold sk
  repeat rw [if_neg (by omega)]
  rw [if_pos (by omega)]
theorem nc_row342 {i : Nat} (h : i < 16) : i + 342 < nC := by
  unfold nC
  omega
theorem sk_row358 {i : Nat} (h : i < 14) : sk (i + 358) = .inr (0, 4, 0) := by
  unfold sk
  repeat rw [if_neg (by omega)]
  rw [if_pos (by omega)]
theorem nc_row358 {i : Nat} (h : i < 14) : i + 358 < nC := by
  unfold nC
  omega
abbrev GG : Type := (Nat → Nat) × (Nat → ClassId) × va_G
abbrev MD : Type := MethodName × ByteArray × Nat × Option FieldType
def av (ad : Nat → Nat) : Value → Value
  | .ref r => .ref (ad r)
  | .int x => .int x
  | .long x => .long x
  | .float x => .float x
  | .double x => .double x
  | .null => .null
  | .retAddr x => .retAddr x
theorem av_cat (ad : Nat → Nat) (v : Value) : (av ad v).category = v.category := by cases v <;> rfl
/-- a field's value, in places -/
def fv (σ : St) (q k : Nat) : Nat → Value
  | 0 => .int (rd σ q k)
  | 1 => .ref (rd σ q k).toNatClampNeg
  | r + 2 => .ref r
def fvs (ad : Nat → Nat) (σ : St) (q : Nat) (fk : List Nat) : List Value := fk.mapIdx (fun k f => av ad (fv σ q k f))
def ce (Γ : GG) (σ : St) (q : Nat) : va_E := match sk q with
  | .inl (ci, fk) => .inr (ci, fvs Γ.1 σ q fk)
  | .inr (3, n, _) => .inl (Γ.2.1 3, n, .inr (.inl (σ.2 q)))
  | .inr (4, n, r) => .inl (Γ.2.1 4, n, .inr (.inr (.inr (.inr (fun i => some (Γ.1 (i + r)))))))
  | .inr (t, n, _) => .inl (Γ.2.1 t, n, .inl (σ.1 q))
def wsG (Γ : GG) (σ : St) : va_W := (List.range nC).map fun q => (Γ.1 q, ce Γ σ q)
def tysG (Γ : GG) : List (ClassId × FieldType) := [(Γ.2.1 0, .int), (Γ.2.1 1, .byte), (Γ.2.1 2, .boolean), (Γ.2.1 3, .long), (Γ.2.1 4, .array .int)]
def AG (Γ : GG) : Nat → Prop := fun a => ∃ k, k < nC ∧ a = Γ.1 k
def injG (Γ : GG) : Prop := ∀ i j, i < nC → j < nC → Γ.1 i = Γ.1 j → i = j
theorem ws_get {Γ : GG} {σ : St} {q : Nat} (h : q < nC) : (wsG Γ σ)[q]? = some (Γ.1 q, ce Γ σ q) := by
  unfold wsG
  rw [List.getElem?_map, List.getElem?_range h]
  rfl
theorem ws_lt {Γ : GG} {σ : St} {q : Nat} {x : Nat × va_E} (h : (wsG Γ σ)[q]? = some x) : q < nC ∧ x = (Γ.1 q, ce Γ σ q) := by
  have h1 : q < nC := by
    have h2 := (List.getElem?_eq_some_iff.mp h).1
    simpa [wsG] using h2
  rw [ws_get h1] at h
  exact ⟨h1, (Option.some.inj h).symm⟩
theorem ws_D {Γ : GG} (hi : injG Γ) (σ : St) : va_D (AG Γ) (wsG Γ σ) := by
  refine ⟨fun i j p q h1 h2 h3 => ?_, fun k q h => ?_⟩
  · obtain ⟨l1, rfl⟩ := ws_lt h1
    obtain ⟨l2, rfl⟩ := ws_lt h2
    exact hi i j l1 l2 h3
  · obtain ⟨l1, rfl⟩ := ws_lt h
    exact ⟨k, l1, rfl⟩
theorem ws_set {Γ : GG} {σ σ' : St} {q : Nat} {e : va_E} (hq : q < nC) (he : ce Γ σ' q = e) (ho : ∀ a, a ≠ q → ce Γ σ' a = ce Γ σ a) : (wsG Γ σ).set q (Γ.1 q, e) = wsG Γ σ' := by
  apply List.ext_getElem?
  intro i
  by_cases h : i = q
  · subst h
    rw [List.getElem?_set_self (by simpa [wsG] using hq), ws_get hq, he]
  · rw [List.getElem?_set_ne (Ne.symm h)]
    by_cases hi : i < nC
    · rw [ws_get hi, ws_get hi, ho i h]
    · rw [List.getElem?_eq_none (by simpa [wsG] using hi), List.getElem?_eq_none (by simpa [wsG] using hi)]
theorem fvs_get {ad : Nat → Nat} {σ : St} {q k f : Nat} {fk : List Nat} (h : fk[k]? = some f) : (fvs ad σ q fk)[k]? = some (av ad (fv σ q k f)) := by
  unfold fvs
  rw [List.getElem?_mapIdx, h]
  rfl
theorem fvs_other {ad : Nat → Nat} {σ : St} {q a k : Nat} {x : Int32} {fk : List Nat} (h : a ≠ q) : fvs ad (wr σ q k x) a fk = fvs ad σ a fk := by
  unfold fvs
  congr 1
  funext j f
  match f with
  | 0 => simp [fv, rd_wr, h]
  | 1 => simp [fv, rd_wr, h]
  | r + 2 => rfl
theorem fvs_set {ad : Nat → Nat} {σ : St} {q k f : Nat} {x : Int32} {fk : List Nat} {v : Value} (h : fk[k]? = some f) (hv : fv (wr σ q k x) q k f = v) : (fvs ad σ q fk).set k (av ad v) = fvs ad (wr σ q k x) q fk := by
  have hk : k < fk.length := (List.getElem?_eq_some_iff.mp h).1
  apply List.ext_getElem?
  intro i
  by_cases hi : i = k
  · subst hi
    rw [List.getElem?_set_self (by simpa [fvs] using hk), fvs_get h, hv]
  · rw [List.getElem?_set_ne (Ne.symm hi)]
    by_cases hl : i < fk.length
    · obtain ⟨g, hg⟩ : ∃ g, fk[i]? = some g := ⟨_, List.getElem?_eq_getElem hl⟩
      rw [fvs_get hg, fvs_get hg]
      match g with
      | 0 => simp [fv, rd_wr, hi]
      | 1 => simp [fv, rd_wr, hi]
      | r + 2 => rfl
    · rw [List.getElem?_eq_none (by simpa [fvs] using hl), List.getElem?_eq_none (by simpa [fvs] using hl)]
theorem ce_other {Γ : GG} {σ : St} {q k a : Nat} {x : Int32} (h : a ≠ q) : ce Γ (wr σ q k x) a = ce Γ σ a := by
  have h1 : (wr σ q k x).1 a = σ.1 a := by
    funext b
    simp [wr, h]
  have h2 : (wr σ q k x).2 = σ.2 := rfl
  unfold ce
  split <;> simp only [fvs_other h, h1, h2]
theorem ce_otherL {Γ : GG} {σ : St} {q k a : Nat} {x : Int64} (h : a ≠ q) : ce Γ (wl σ q k x) a = ce Γ σ a := by
  have h1 : (wl σ q k x).2 a = σ.2 a := by
    funext b
    simp [wl, h]
  have h2 : (wl σ q k x).1 = σ.1 := rfl
  have h3 : ∀ fk, fvs Γ.1 (wl σ q k x) a fk = fvs Γ.1 σ a fk := fun fk => by
    unfold fvs
    congr 1
  unfold ce
  split <;> simp only [h1, h2, h3]
theorem ce_obj {Γ : GG} {σ : St} {q ci : Nat} {fk : List Nat} (h : sk q = .inl (ci, fk)) : ce Γ σ q = .inr (ci, fvs Γ.1 σ q fk) := by
  unfold ce
  rw [h]
theorem ce_int {Γ : GG} {σ : St} {q t n r : Nat} (h : sk q = .inr (t, n, r)) (ht : t < 3) : ce Γ σ q = .inl (Γ.2.1 t, n, .inl (σ.1 q)) := by
  unfold ce
  rw [h]
  match t, ht with
  | 0, _ => rfl
  | 1, _ => rfl
  | 2, _ => rfl
theorem ce_long {Γ : GG} {σ : St} {q n r : Nat} (h : sk q = .inr (3, n, r)) : ce Γ σ q = .inl (Γ.2.1 3, n, .inr (.inl (σ.2 q))) := by
  unfold ce
  rw [h]
  rfl
theorem ce_refs {Γ : GG} {σ : St} {q n r : Nat} (h : sk q = .inr (4, n, r)) : ce Γ σ q = .inl (Γ.2.1 4, n, .inr (.inr (.inr (.inr (fun i => some (Γ.1 (i + r))))))) := by
  unfold ce
  rw [h]
  rfl
theorem ws_wr_int {Γ : GG} {σ : St} {q t n r k : Nat} {x : Int32} (hq : q < nC) (h : sk q = .inr (t, n, r)) (ht : t < 3) : (wsG Γ σ).set q (Γ.1 q, .inl (Γ.2.1 t, n, .inl (upd (σ.1 q) k x))) = wsG Γ (wr σ q k x) := by
  refine ws_set hq ?_ (fun a ha => ce_other ha)
  rw [ce_int h ht]
  congr 3
  congr 1
  funext j
  simp [wr, upd]
theorem ws_wl_long {Γ : GG} {σ : St} {q n r k : Nat} {x : Int64} (hq : q < nC) (h : sk q = .inr (3, n, r)) : (wsG Γ σ).set q (Γ.1 q, .inl (Γ.2.1 3, n, .inr (.inl (vp_updL (σ.2 q) k x)))) = wsG Γ (wl σ q k x) := by
  refine ws_set hq ?_ (fun a ha => ce_otherL ha)
  rw [ce_long h]
  congr 4
  congr 1
  funext j
  simp [wl, vp_updL]
theorem ws_wr_obj {Γ : GG} {σ : St} {q ci k f : Nat} {x : Int32} {fk : List Nat} {v : Value} (hq : q < nC) (h : sk q = .inl (ci, fk)) (hf : fk[k]? = some f) (hv : fv (wr σ q k x) q k f = v) : (wsG Γ σ).set q (Γ.1 q, .inr (ci, (fvs Γ.1 σ q fk).set k (av Γ.1 v))) = wsG Γ (wr σ q k x) := by
  refine ws_set hq ?_ (fun a ha => ce_other ha)
  rw [ce_obj h, fvs_set hf hv]
/-! the tables' words -/
noncomputable def gtbl : List Cond := lw_tbl.filter goodWord
noncomputable def ntbl : List Cond := tables_1.filter (fun w => match w with | .methodLinkNest .. => true | .fieldLinkNest .. => true | _ => false)
theorem gin {w : Cond} (i : Nat) (h : lw_tbl[i]? = some w) (g : goodWord w = true) : w ∈ gtbl := List.mem_filter.mpr ⟨List.mem_of_getElem? h, g⟩
theorem gtbl_good : GoodIn gtbl gtbl := fun w h => ⟨h, good_of_word (List.mem_filter.mp h).2⟩
theorem gtbl_in : GoodIn lw_tbl gtbl := fun w h => ⟨(List.mem_filter.mp h).1, good_of_word (List.mem_filter.mp h).2⟩
theorem ntbl_in {w : Cond} (h : w ∈ ntbl) : w ∈ lw_tbl := List.mem_append_right _ (List.mem_filter.mp h).1
theorem ntbl_on {w : Cond} (h : w ∈ ntbl) : w.onTables = true := by
  have h2 := (List.mem_filter.mp h).2
  cases w <;> first | rfl | cases h2
theorem ntbl_warm {w : Cond} (h : w ∈ ntbl) {s U : State} (hW : s.WarmedH U.vm) (hz : va_Nw w s) : va_Nw w U := by
  have h2 := (List.mem_filter.mp h).2
  cases w <;> first | exact va_Nw.warmM hW hz | exact va_Nw.warmF hW hz | cases h2
noncomputable def wsM (M : MD) : List Cond := .code M.1 M.2.1 M.2.2.1 M.2.2.2 :: gtbl
def rmD (d : Nat) : Room := { frames := d, cells := 0, slots := 0, locals := 64 * d }
def SimU (Γ : GG) (σ : St) (U : State) : Prop := va_P Γ.2.2 vwCl (wsG Γ σ) U.heap ∧ va_K Γ.2.2 vwCl (tysG Γ) U ∧ (∀ w ∈ ntbl, va_Nw w U) ∧ injG Γ
def QG (Γ : GG) (Q : Option Value → St → Prop) : Array Value → State → Outcome → State → Prop := fun _ st oc t => (∃ (v : Option Value) (σ' : St), oc = .returned (v.map (av Γ.1)) ∧ Q v σ' ∧ va_P Γ.2.2 vwCl (wsG Γ σ') t.heap) ∧ va_F (AG Γ) st t
def Meth (Γ : GG) (l : Launch) (d : Nat) (M : MD) (As : List Value) (σ : St) (Q : Option Value → St → Prop) : Prop := ∃ Q0 : Option Value → St → Prop, (∀ v σ', Q0 v σ' → Q v σ') ∧ Met l M.1 (wsM M) (rmD d) (va_Pc (As.map (av Γ.1)) (SimU Γ σ)) (QG Γ Q0) 0 0 (AG Γ)
theorem Meth.mono {Γ : GG} {l : Launch} {d : Nat} {M : MD} {As : List Value} {σ : St} {Q Q' : Option Value → St → Prop} (h : Meth Γ l d M As σ Q) (hq : ∀ v σ', Q v σ' → Q' v σ') : Meth Γ l d M As σ Q' := by
  obtain ⟨Q0, h1, h2⟩ := h
  exact ⟨Q0, fun v σ' h => hq v σ' (h1 v σ' h), h2⟩
def Base (Γ : GG) (M : MD) (p : Program) (s : State) (m : MethodId) (args : Array Value) (meth : Method) (c : Code) : Prop :=
  p.tables.exec = Jvm.exec ∧ c.code = M.2.1 ∧ meth.sig.returnType = M.2.2.2 ∧ c.maxLocals = M.2.2.1 ∧ (∀ w ∈ gtbl, w.before args s = true) ∧ s.vm.findClass M.1.cls = some m.cls ∧ meth.locks = false ∧ va_K Γ.2.2 vwCl (tysG Γ) s ∧ (∀ w ∈ ntbl, va_Nw w s) ∧ injG Γ
def mL (ad : Nat → Nat) (lv : List (Nat × Value)) : List (Nat × Value) := lv.map fun q => (q.1, av ad q.2)
def J (Γ : GG) (l : Launch) (d : Nat) (M : MD) (Q : Option Value → St → Prop) (pc : Nat) (lv : List (Nat × Value)) (st : List Value) (σ : St) : Prop :=
  ∀ (p : Program) (e : Env) (s : State) (m : MethodId) (args : Array Value) (below : List Frame) (meth : Method) (c : Code), Base Γ M p s m args meth c →
  ∀ (H : Heap) (locs : List Loc) (LS : Array Slot), va_P Γ.2.2 vwCl (wsG Γ σ) H → va_S (AG Γ) s.heap H locs → lv_has LS M.2.2.1 (mL Γ.1 lv) →
  W p l e (rmD d) s m args below meth c H locs 0 0 (MQ below (QG Γ Q) args s 0 0 (AG Γ)) (F0 m pc LS (st.map (av Γ.1)))
theorem mL_get {ad : Nat → Nat} {lv : List (Nat × Value)} {k i : Nat} {v : Value} (h : lv[k]? = some (i, v)) : (mL ad lv)[k]? = some (i, av ad v) := by
  unfold mL
  rw [List.getElem?_map, h]
  rfl
theorem mL_filter {ad : Nat → Nat} (lv : List (Nat × Value)) (f : Nat → Nat → Bool) : (mL ad lv).filter (fun q => f q.1 q.2.category) = mL ad (lv.filter (fun q => f q.1 q.2.category)) := by
  unfold mL
  rw [List.filter_map]
  congr 1
  apply List.filter_congr
  intro q _
  simp [Function.comp, av_cat]
end
section
/-! THE ROWS OF J: an instruction a row -/
section JR
variable {Γ : GG} {l : Launch} {d : Nat} {M : MD} {Q : Option Value → St → Prop} {pc : Nat} {lv : List (Nat × Value)} {st : List Value} {σ : St}
theorem J_sub (ks : List Nat) {lv' : List (Nat × Value)} (h : lv_pick lv ks = lv') (k : J Γ l d M Q pc lv' st σ) : J Γ l d M Q pc lv st σ := by
  intro p e s m args below meth c B H locs LS hP hS hL
  refine k p e s m args below meth c B H locs LS hP hS ⟨hL.1, hL.2.1, fun q hq => hL.2.2 q ?_⟩
  obtain ⟨y, hy, rfl⟩ := List.mem_map.mp hq
  rw [← h] at hy
  obtain ⟨i, -, hi⟩ := List.mem_filterMap.mp hy
  exact List.mem_map.mpr ⟨y, List.mem_of_getElem? hi, rfl⟩
theorem J_iconst {n : Int} {v : Int32} (hdg : decode M.2.1 pc = .ok (.iconst n, 1)) (hv : Int32.ofInt n = v) (k : J Γ l d M Q (pc + 1) lv (.int v :: st) σ) : J Γ l d M Q pc lv (st) σ := by
  intro p e s m args below meth c B H locs LS hP hS hL
  obtain ⟨hx, hb, hr, hml, hts, hown, hlocks, hK, hN, hinj⟩ := id B
  exact lv_iconst hx hb hdg hv (k p e s m args below meth c B H locs LS hP hS hL)
theorem J_bipush {n : Int} {v : Int32} (hdg : decode M.2.1 pc = .ok (.bipush n, 2)) (hv : (Int8.ofInt n).toInt32 = v) (k : J Γ l d M Q (pc + 2) lv (.int v :: st) σ) : J Γ l d M Q pc lv (st) σ := by
  intro p e s m args below meth c B H locs LS hP hS hL
  obtain ⟨hx, hb, hr, hml, hts, hown, hlocks, hK, hN, hinj⟩ := id B
  exact lv_bipush hx hb hdg hv (k p e s m args below meth c B H locs LS hP hS hL)
theorem J_sipush {n : Int} {v : Int32} (hdg : decode M.2.1 pc = .ok (.sipush n, 3)) (hv : (Int16.ofInt n).toInt32 = v) (k : J Γ l d M Q (pc + 3) lv (.int v :: st) σ) : J Γ l d M Q pc lv (st) σ := by
  intro p e s m args below meth c B H locs LS hP hS hL
  obtain ⟨hx, hb, hr, hml, hts, hown, hlocks, hK, hN, hinj⟩ := id B
  exact lv_sipush hx hb hdg hv (k p e s m args below meth c B H locs LS hP hS hL)
theorem J_lconst {n : Fin 2} {v : Int64} (hdg : decode M.2.1 pc = .ok (.lconst n, 1)) (hv : Int64.ofNat (n : Nat) = v) (k : J Γ l d M Q (pc + 1) lv (.long v :: st) σ) : J Γ l d M Q pc lv (st) σ := by
  intro p e s m args below meth c B H locs LS hP hS hL
  obtain ⟨hx, hb, hr, hml, hts, hown, hlocks, hK, hN, hinj⟩ := id B
  exact lv_lconst hx hb hdg hv (k p e s m args below meth c B H locs LS hP hS hL)
theorem J_iload {i kk : Nat} {x : Int32} (hdg : decode M.2.1 pc = .ok (.iload i, 2)) (hl : lv[kk]? = some (i, .int x)) (k : J Γ l d M Q (pc + 2) lv (.int x :: st) σ) : J Γ l d M Q pc lv (st) σ := by
  intro p e s m args below meth c B H locs LS hP hS hL
  obtain ⟨hx, hb, hr, hml, hts, hown, hlocks, hK, hN, hinj⟩ := id B
  exact lv_iload hx hb hdg (lv_at hL kk (mL_get hl)) (k p e s m args below meth c B H locs LS hP hS hL)
theorem J_iload_n {kf : Fin 4} {i kk : Nat} {x : Int32} (hdg : decode M.2.1 pc = .ok (.iload_n kf, 1)) (hi : (kf : Nat) = i) (hl : lv[kk]? = some (i, .int x)) (k : J Γ l d M Q (pc + 1) lv (.int x :: st) σ) : J Γ l d M Q pc lv (st) σ := by
  intro p e s m args below meth c B H locs LS hP hS hL
  obtain ⟨hx, hb, hr, hml, hts, hown, hlocks, hK, hN, hinj⟩ := id B
  exact lv_iload_n hx hb hdg hi (lv_at hL kk (mL_get hl)) (k p e s m args below meth c B H locs LS hP hS hL)
theorem J_lload {i kk : Nat} {x : Int64} (hdg : decode M.2.1 pc = .ok (.lload i, 2)) (hl : lv[kk]? = some (i, .long x)) (k : J Γ l d M Q (pc + 2) lv (.long x :: st) σ) : J Γ l d M Q pc lv (st) σ := by
  intro p e s m args below meth c B H locs LS hP hS hL
  obtain ⟨hx, hb, hr, hml, hts, hown, hlocks, hK, hN, hinj⟩ := id B
  exact lv_lload hx hb hdg (lv_at hL kk (mL_get hl)) (k p e s m args below meth c B H locs LS hP hS hL)
theorem J_lload_n {kf : Fin 4} {i kk : Nat} {x : Int64} (hdg : decode M.2.1 pc = .ok (.lload_n kf, 1)) (hi : (kf : Nat) = i) (hl : lv[kk]? = some (i, .long x)) (k : J Γ l d M Q (pc + 1) lv (.long x :: st) σ) : J Γ l d M Q pc lv (st) σ := by
  intro p e s m args below meth c B H locs LS hP hS hL
  obtain ⟨hx, hb, hr, hml, hts, hown, hlocks, hK, hN, hinj⟩ := id B
  exact lv_lload_n hx hb hdg hi (lv_at hL kk (mL_get hl)) (k p e s m args below meth c B H locs LS hP hS hL)
theorem J_aload {i kk : Nat} {x : Nat} (hdg : decode M.2.1 pc = .ok (.aload i, 2)) (hl : lv[kk]? = some (i, .ref x)) (k : J Γ l d M Q (pc + 2) lv (.ref x :: st) σ) : J Γ l d M Q pc lv (st) σ := by
  intro p e s m args below meth c B H locs LS hP hS hL
  obtain ⟨hx, hb, hr, hml, hts, hown, hlocks, hK, hN, hinj⟩ := id B
  exact lv_aload hx hb hdg (lv_at hL kk (mL_get hl)) (k p e s m args below meth c B H locs LS hP hS hL)
theorem J_aload_n {kf : Fin 4} {i kk : Nat} {x : Nat} (hdg : decode M.2.1 pc = .ok (.aload_n kf, 1)) (hi : (kf : Nat) = i) (hl : lv[kk]? = some (i, .ref x)) (k : J Γ l d M Q (pc + 1) lv (.ref x :: st) σ) : J Γ l d M Q pc lv (st) σ := by
  intro p e s m args below meth c B H locs LS hP hS hL
  obtain ⟨hx, hb, hr, hml, hts, hown, hlocks, hK, hN, hinj⟩ := id B
  exact lv_aload_n hx hb hdg hi (lv_at hL kk (mL_get hl)) (k p e s m args below meth c B H locs LS hP hS hL)
theorem J_istore {i : Nat} {x : Int32} {lv' : List (Nat × Value)} (hdg : decode M.2.1 pc = .ok (.istore i, 2)) (hn : i < M.2.2.1) (hl : (i, Value.int x) :: lv.filter (fun q => !(q.1 == i) && !(q.1 + 1 == i && q.2.category == 2)) = lv') (k : J Γ l d M Q (pc + 2) lv' st σ) : J Γ l d M Q pc lv (.int x :: st) σ := by
  intro p e s m args below meth c B H locs LS hP hS hL
  obtain ⟨hx, hb, hr, hml, hts, hown, hlocks, hK, hN, hinj⟩ := id B
  refine lv_istore (lv' := mL Γ.1 lv') hx hb hdg  hL hn ?_ (fun LS1 hL1 => k p e s m args below meth c B H locs LS1 hP hS hL1)
  rw [← hl]
  show _ :: (mL Γ.1 lv).filter (fun q => !(q.1 == i) && !(q.1 + 1 == i && q.2.category == 2)) = _ :: mL Γ.1 (lv.filter (fun q => !(q.1 == i) && !(q.1 + 1 == i && q.2.category == 2)))
  exact congrArg _ (mL_filter lv (fun a b => !(a == i) && !(a + 1 == i && b == 2)))
theorem J_istore_n {kf : Fin 4} {i : Nat} {x : Int32} {lv' : List (Nat × Value)} (hdg : decode M.2.1 pc = .ok (.istore_n kf, 1)) (hi : (kf : Nat) = i) (hn : i < M.2.2.1) (hl : (i, Value.int x) :: lv.filter (fun q => !(q.1 == i) && !(q.1 + 1 == i && q.2.category == 2)) = lv') (k : J Γ l d M Q (pc + 1) lv' st σ) : J Γ l d M Q pc lv (.int x :: st) σ := by
  intro p e s m args below meth c B H locs LS hP hS hL
  obtain ⟨hx, hb, hr, hml, hts, hown, hlocks, hK, hN, hinj⟩ := id B
  refine lv_istore_n (lv' := mL Γ.1 lv') hx hb hdg hi hL hn ?_ (fun LS1 hL1 => k p e s m args below meth c B H locs LS1 hP hS hL1)
  rw [← hl]
  show _ :: (mL Γ.1 lv).filter (fun q => !(q.1 == i) && !(q.1 + 1 == i && q.2.category == 2)) = _ :: mL Γ.1 (lv.filter (fun q => !(q.1 == i) && !(q.1 + 1 == i && q.2.category == 2)))
  exact congrArg _ (mL_filter lv (fun a b => !(a == i) && !(a + 1 == i && b == 2)))
theorem J_astore {i : Nat} {x : Nat} {lv' : List (Nat × Value)} (hdg : decode M.2.1 pc = .ok (.astore i, 2)) (hn : i < M.2.2.1) (hl : (i, Value.ref x) :: lv.filter (fun q => !(q.1 == i) && !(q.1 + 1 == i && q.2.category == 2)) = lv') (k : J Γ l d M Q (pc + 2) lv' st σ) : J Γ l d M Q pc lv (.ref x :: st) σ := by
  intro p e s m args below meth c B H locs LS hP hS hL
  obtain ⟨hx, hb, hr, hml, hts, hown, hlocks, hK, hN, hinj⟩ := id B
  refine lv_astore (lv' := mL Γ.1 lv') hx hb hdg  hL hn ?_ (fun LS1 hL1 => k p e s m args below meth c B H locs LS1 hP hS hL1)
  rw [← hl]
  show _ :: (mL Γ.1 lv).filter (fun q => !(q.1 == i) && !(q.1 + 1 == i && q.2.category == 2)) = _ :: mL Γ.1 (lv.filter (fun q => !(q.1 == i) && !(q.1 + 1 == i && q.2.category == 2)))
  exact congrArg _ (mL_filter lv (fun a b => !(a == i) && !(a + 1 == i && b == 2)))
theorem J_astore_n {kf : Fin 4} {i : Nat} {x : Nat} {lv' : List (Nat × Value)} (hdg : decode M.2.1 pc = .ok (.astore_n kf, 1)) (hi : (kf : Nat) = i) (hn : i < M.2.2.1) (hl : (i, Value.ref x) :: lv.filter (fun q => !(q.1 == i) && !(q.1 + 1 == i && q.2.category == 2)) = lv') (k : J Γ l d M Q (pc + 1) lv' st σ) : J Γ l d M Q pc lv (.ref x :: st) σ := by
  intro p e s m args below meth c B H locs LS hP hS hL
  obtain ⟨hx, hb, hr, hml, hts, hown, hlocks, hK, hN, hinj⟩ := id B
  refine lv_astore_n (lv' := mL Γ.1 lv') hx hb hdg hi hL hn ?_ (fun LS1 hL1 => k p e s m args below meth c B H locs LS1 hP hS hL1)
  rw [← hl]
  show _ :: (mL Γ.1 lv).filter (fun q => !(q.1 == i) && !(q.1 + 1 == i && q.2.category == 2)) = _ :: mL Γ.1 (lv.filter (fun q => !(q.1 == i) && !(q.1 + 1 == i && q.2.category == 2)))
  exact congrArg _ (mL_filter lv (fun a b => !(a == i) && !(a + 1 == i && b == 2)))
theorem J_lstore {i : Nat} {x : Int64} {lv' : List (Nat × Value)} (hdg : decode M.2.1 pc = .ok (.lstore i, 2)) (hn : i + 1 < M.2.2.1) (hl : (i, Value.long x) :: lv.filter (fun q => !(q.1 == i) && (!(q.1 == i + 1) && !(q.1 + 1 == i && q.2.category == 2))) = lv') (k : J Γ l d M Q (pc + 2) lv' st σ) : J Γ l d M Q pc lv (.long x :: st) σ := by
  intro p e s m args below meth c B H locs LS hP hS hL
  obtain ⟨hx, hb, hr, hml, hts, hown, hlocks, hK, hN, hinj⟩ := id B
  refine lv_lstore (lv' := mL Γ.1 lv') hx hb hdg  hL hn ?_ (fun LS1 hL1 => k p e s m args below meth c B H locs LS1 hP hS hL1)
  rw [← hl]
  show _ :: (mL Γ.1 lv).filter (fun q => !(q.1 == i) && (!(q.1 == i + 1) && !(q.1 + 1 == i && q.2.category == 2))) = _ :: mL Γ.1 (lv.filter (fun q => !(q.1 == i) && (!(q.1 == i + 1) && !(q.1 + 1 == i && q.2.category == 2))))
  exact congrArg _ (mL_filter lv (fun a b => !(a == i) && (!(a == i + 1) && !(a + 1 == i && b == 2))))
theorem J_lstore_n {kf : Fin 4} {i : Nat} {x : Int64} {lv' : List (Nat × Value)} (hdg : decode M.2.1 pc = .ok (.lstore_n kf, 1)) (hi : (kf : Nat) = i) (hn : i + 1 < M.2.2.1) (hl : (i, Value.long x) :: lv.filter (fun q => !(q.1 == i) && (!(q.1 == i + 1) && !(q.1 + 1 == i && q.2.category == 2))) = lv') (k : J Γ l d M Q (pc + 1) lv' st σ) : J Γ l d M Q pc lv (.long x :: st) σ := by
  intro p e s m args below meth c B H locs LS hP hS hL
  obtain ⟨hx, hb, hr, hml, hts, hown, hlocks, hK, hN, hinj⟩ := id B
  refine lv_lstore_n (lv' := mL Γ.1 lv') hx hb hdg hi hL hn ?_ (fun LS1 hL1 => k p e s m args below meth c B H locs LS1 hP hS hL1)
  rw [← hl]
  show _ :: (mL Γ.1 lv).filter (fun q => !(q.1 == i) && (!(q.1 == i + 1) && !(q.1 + 1 == i && q.2.category == 2))) = _ :: mL Γ.1 (lv.filter (fun q => !(q.1 == i) && (!(q.1 == i + 1) && !(q.1 + 1 == i && q.2.category == 2))))
  exact congrArg _ (mL_filter lv (fun a b => !(a == i) && (!(a == i + 1) && !(a + 1 == i && b == 2))))
theorem J_iinc {i kk : Nat} {n : Int} {x v : Int32} {lv' : List (Nat × Value)} (hdg : decode M.2.1 pc = .ok (.iinc i n, 3)) (hk : lv[kk]? = some (i, .int x)) (hv : x + Int32.ofInt n = v) (hn : i < M.2.2.1) (hl : (i, Value.int v) :: lv.filter (fun q => !(q.1 == i) && !(q.1 + 1 == i && q.2.category == 2)) = lv') (k : J Γ l d M Q (pc + 3) lv' st σ) : J Γ l d M Q pc lv st σ := by
  intro p e s m args below meth c B H locs LS hP hS hL
  obtain ⟨hx, hb, hr, hml, hts, hown, hlocks, hK, hN, hinj⟩ := id B
  refine lv_iinc (lv' := mL Γ.1 lv') (k := kk) hx hb hdg hL (mL_get hk) hv hn ?_ (fun LS1 hL1 => k p e s m args below meth c B H locs LS1 hP hS hL1)
  rw [← hl]
  show _ :: (mL Γ.1 lv).filter (fun q => !(q.1 == i) && !(q.1 + 1 == i && q.2.category == 2)) = _ :: mL Γ.1 (lv.filter (fun q => !(q.1 == i) && !(q.1 + 1 == i && q.2.category == 2)))
  exact congrArg _ (mL_filter lv (fun a b => !(a == i) && !(a + 1 == i && b == 2)))
theorem J_iadd {x y : Int32} (hdg : decode M.2.1 pc = .ok (.iadd, 1)) (k : J Γ l d M Q (pc + 1) lv (.int (x + y) :: st) σ) : J Γ l d M Q pc lv (.int y :: .int x :: st) σ := by
  intro p e s m args below meth c B H locs LS hP hS hL
  obtain ⟨hx, hb, hr, hml, hts, hown, hlocks, hK, hN, hinj⟩ := id B
  exact lv_iadd hx hb hdg  (k p e s m args below meth c B H locs LS hP hS hL)
theorem J_isub {x y : Int32} (hdg : decode M.2.1 pc = .ok (.isub, 1)) (k : J Γ l d M Q (pc + 1) lv (.int (x - y) :: st) σ) : J Γ l d M Q pc lv (.int y :: .int x :: st) σ := by
  intro p e s m args below meth c B H locs LS hP hS hL
  obtain ⟨hx, hb, hr, hml, hts, hown, hlocks, hK, hN, hinj⟩ := id B
  exact lv_isub hx hb hdg  (k p e s m args below meth c B H locs LS hP hS hL)
theorem J_imul {x y : Int32} (hdg : decode M.2.1 pc = .ok (.imul, 1)) (k : J Γ l d M Q (pc + 1) lv (.int (x * y) :: st) σ) : J Γ l d M Q pc lv (.int y :: .int x :: st) σ := by
  intro p e s m args below meth c B H locs LS hP hS hL
  obtain ⟨hx, hb, hr, hml, hts, hown, hlocks, hK, hN, hinj⟩ := id B
  exact lv_imul hx hb hdg  (k p e s m args below meth c B H locs LS hP hS hL)
theorem J_iand {x y : Int32} (hdg : decode M.2.1 pc = .ok (.iand, 1)) (k : J Γ l d M Q (pc + 1) lv (.int (x &&& y) :: st) σ) : J Γ l d M Q pc lv (.int y :: .int x :: st) σ := by
  intro p e s m args below meth c B H locs LS hP hS hL
  obtain ⟨hx, hb, hr, hml, hts, hown, hlocks, hK, hN, hinj⟩ := id B
  exact lv_iand hx hb hdg  (k p e s m args below meth c B H locs LS hP hS hL)
theorem J_ior {x y : Int32} (hdg : decode M.2.1 pc = .ok (.ior, 1)) (k : J Γ l d M Q (pc + 1) lv (.int (x ||| y) :: st) σ) : J Γ l d M Q pc lv (.int y :: .int x :: st) σ := by
  intro p e s m args below meth c B H locs LS hP hS hL
  obtain ⟨hx, hb, hr, hml, hts, hown, hlocks, hK, hN, hinj⟩ := id B
  exact lv_ior hx hb hdg  (k p e s m args below meth c B H locs LS hP hS hL)
theorem J_ixor {x y : Int32} (hdg : decode M.2.1 pc = .ok (.ixor, 1)) (k : J Γ l d M Q (pc + 1) lv (.int (x ^^^ y) :: st) σ) : J Γ l d M Q pc lv (.int y :: .int x :: st) σ := by
  intro p e s m args below meth c B H locs LS hP hS hL
  obtain ⟨hx, hb, hr, hml, hts, hown, hlocks, hK, hN, hinj⟩ := id B
  exact lv_ixor hx hb hdg  (k p e s m args below meth c B H locs LS hP hS hL)
theorem J_idiv {x y : Int32} (hdg : decode M.2.1 pc = .ok (.idiv, 1)) (hne : ¬ y = 0) (k : J Γ l d M Q (pc + 1) lv (.int (x / y) :: st) σ) : J Γ l d M Q pc lv (.int y :: .int x :: st) σ := by
  intro p e s m args below meth c B H locs LS hP hS hL
  obtain ⟨hx, hb, hr, hml, hts, hown, hlocks, hK, hN, hinj⟩ := id B
  exact lv_idiv hx hb hdg hne (k p e s m args below meth c B H locs LS hP hS hL)
theorem J_irem {x y : Int32} (hdg : decode M.2.1 pc = .ok (.irem, 1)) (hne : ¬ y = 0) (k : J Γ l d M Q (pc + 1) lv (.int (x - x / y * y) :: st) σ) : J Γ l d M Q pc lv (.int y :: .int x :: st) σ := by
  intro p e s m args below meth c B H locs LS hP hS hL
  obtain ⟨hx, hb, hr, hml, hts, hown, hlocks, hK, hN, hinj⟩ := id B
  exact lv_irem hx hb hdg hne (k p e s m args below meth c B H locs LS hP hS hL)
theorem J_ineg {x : Int32} (hdg : decode M.2.1 pc = .ok (.ineg, 1)) (k : J Γ l d M Q (pc + 1) lv (.int (-x) :: st) σ) : J Γ l d M Q pc lv (.int x :: st) σ := by
  intro p e s m args below meth c B H locs LS hP hS hL
  obtain ⟨hx, hb, hr, hml, hts, hown, hlocks, hK, hN, hinj⟩ := id B
  exact lv_ineg hx hb hdg  (k p e s m args below meth c B H locs LS hP hS hL)
theorem J_ladd {x y : Int64} (hdg : decode M.2.1 pc = .ok (.ladd, 1)) (k : J Γ l d M Q (pc + 1) lv (.long (x + y) :: st) σ) : J Γ l d M Q pc lv (.long y :: .long x :: st) σ := by
  intro p e s m args below meth c B H locs LS hP hS hL
  obtain ⟨hx, hb, hr, hml, hts, hown, hlocks, hK, hN, hinj⟩ := id B
  exact lv_ladd hx hb hdg  (k p e s m args below meth c B H locs LS hP hS hL)
theorem J_lsub {x y : Int64} (hdg : decode M.2.1 pc = .ok (.lsub, 1)) (k : J Γ l d M Q (pc + 1) lv (.long (x - y) :: st) σ) : J Γ l d M Q pc lv (.long y :: .long x :: st) σ := by
  intro p e s m args below meth c B H locs LS hP hS hL
  obtain ⟨hx, hb, hr, hml, hts, hown, hlocks, hK, hN, hinj⟩ := id B
  exact lv_lsub hx hb hdg  (k p e s m args below meth c B H locs LS hP hS hL)
theorem J_lmul {x y : Int64} (hdg : decode M.2.1 pc = .ok (.lmul, 1)) (k : J Γ l d M Q (pc + 1) lv (.long (x * y) :: st) σ) : J Γ l d M Q pc lv (.long y :: .long x :: st) σ := by
  intro p e s m args below meth c B H locs LS hP hS hL
  obtain ⟨hx, hb, hr, hml, hts, hown, hlocks, hK, hN, hinj⟩ := id B
  exact lv_lmul hx hb hdg  (k p e s m args below meth c B H locs LS hP hS hL)
theorem J_ldiv {x y : Int64} (hdg : decode M.2.1 pc = .ok (.ldiv, 1)) (hne : ¬ y = 0) (k : J Γ l d M Q (pc + 1) lv (.long (x / y) :: st) σ) : J Γ l d M Q pc lv (.long y :: .long x :: st) σ := by
  intro p e s m args below meth c B H locs LS hP hS hL
  obtain ⟨hx, hb, hr, hml, hts, hown, hlocks, hK, hN, hinj⟩ := id B
  exact lv_ldiv hx hb hdg hne (k p e s m args below meth c B H locs LS hP hS hL)
theorem J_lneg {x : Int64} (hdg : decode M.2.1 pc = .ok (.lneg, 1)) (k : J Γ l d M Q (pc + 1) lv (.long (-x) :: st) σ) : J Γ l d M Q pc lv (.long x :: st) σ := by
  intro p e s m args below meth c B H locs LS hP hS hL
  obtain ⟨hx, hb, hr, hml, hts, hown, hlocks, hK, hN, hinj⟩ := id B
  exact lv_lneg hx hb hdg  (k p e s m args below meth c B H locs LS hP hS hL)
theorem J_ishl {x y : Int32} (hdg : decode M.2.1 pc = .ok (.ishl, 1)) (k : J Γ l d M Q (pc + 1) lv (.int (x <<< (y &&& 31)) :: st) σ) : J Γ l d M Q pc lv (.int y :: .int x :: st) σ := by
  intro p e s m args below meth c B H locs LS hP hS hL
  obtain ⟨hx, hb, hr, hml, hts, hown, hlocks, hK, hN, hinj⟩ := id B
  exact lv_ishl hx hb hdg  (k p e s m args below meth c B H locs LS hP hS hL)
theorem J_ishr {x y : Int32} (hdg : decode M.2.1 pc = .ok (.ishr, 1)) (k : J Γ l d M Q (pc + 1) lv (.int (x >>> (y &&& 31)) :: st) σ) : J Γ l d M Q pc lv (.int y :: .int x :: st) σ := by
  intro p e s m args below meth c B H locs LS hP hS hL
  obtain ⟨hx, hb, hr, hml, hts, hown, hlocks, hK, hN, hinj⟩ := id B
  exact lv_ishr hx hb hdg  (k p e s m args below meth c B H locs LS hP hS hL)
theorem J_iushr {x y : Int32} (hdg : decode M.2.1 pc = .ok (.iushr, 1)) (k : J Γ l d M Q (pc + 1) lv (.int ((x.toUInt32 >>> (y.toUInt32 &&& Int32.toUInt32 31)).toInt32) :: st) σ) : J Γ l d M Q pc lv (.int y :: .int x :: st) σ := by
  intro p e s m args below meth c B H locs LS hP hS hL
  obtain ⟨hx, hb, hr, hml, hts, hown, hlocks, hK, hN, hinj⟩ := id B
  exact lv_iushr hx hb hdg rfl (k p e s m args below meth c B H locs LS hP hS hL)
theorem J_lshl {x : Int64} {y : Int32} (hdg : decode M.2.1 pc = .ok (.lshl, 1)) (k : J Γ l d M Q (pc + 1) lv (.long (x <<< (y.toInt64 &&& 63)) :: st) σ) : J Γ l d M Q pc lv (.int y :: .long x :: st) σ := by
  intro p e s m args below meth c B H locs LS hP hS hL
  obtain ⟨hx, hb, hr, hml, hts, hown, hlocks, hK, hN, hinj⟩ := id B
  exact lv_lshl hx hb hdg rfl (k p e s m args below meth c B H locs LS hP hS hL)
theorem J_lshr {x : Int64} {y : Int32} (hdg : decode M.2.1 pc = .ok (.lshr, 1)) (k : J Γ l d M Q (pc + 1) lv (.long (x >>> (y.toInt64 &&& 63)) :: st) σ) : J Γ l d M Q pc lv (.int y :: .long x :: st) σ := by
  intro p e s m args below meth c B H locs LS hP hS hL
  obtain ⟨hx, hb, hr, hml, hts, hown, hlocks, hK, hN, hinj⟩ := id B
  exact lv_lshr hx hb hdg rfl (k p e s m args below meth c B H locs LS hP hS hL)
theorem J_i2l {x : Int32} (hdg : decode M.2.1 pc = .ok (.i2l, 1)) (k : J Γ l d M Q (pc + 1) lv (.long x.toInt64 :: st) σ) : J Γ l d M Q pc lv (.int x :: st) σ := by
  intro p e s m args below meth c B H locs LS hP hS hL
  obtain ⟨hx, hb, hr, hml, hts, hown, hlocks, hK, hN, hinj⟩ := id B
  exact lv_i2l hx hb hdg rfl (k p e s m args below meth c B H locs LS hP hS hL)
theorem J_l2i {x : Int64} (hdg : decode M.2.1 pc = .ok (.l2i, 1)) (k : J Γ l d M Q (pc + 1) lv (.int x.toInt32 :: st) σ) : J Γ l d M Q pc lv (.long x :: st) σ := by
  intro p e s m args below meth c B H locs LS hP hS hL
  obtain ⟨hx, hb, hr, hml, hts, hown, hlocks, hK, hN, hinj⟩ := id B
  exact lv_l2i hx hb hdg rfl (k p e s m args below meth c B H locs LS hP hS hL)
theorem J_i2b {x : Int32} (hdg : decode M.2.1 pc = .ok (.i2b, 1)) (k : J Γ l d M Q (pc + 1) lv (.int x.toInt8.toInt32 :: st) σ) : J Γ l d M Q pc lv (.int x :: st) σ := by
  intro p e s m args below meth c B H locs LS hP hS hL
  obtain ⟨hx, hb, hr, hml, hts, hown, hlocks, hK, hN, hinj⟩ := id B
  exact lv_i2b hx hb hdg rfl (k p e s m args below meth c B H locs LS hP hS hL)
theorem J_lcmp {x y : Int64} (hdg : decode M.2.1 pc = .ok (.lcmp, 1)) (k : J Γ l d M Q (pc + 1) lv (.int (lg_cmp x y) :: st) σ) : J Γ l d M Q pc lv (.long y :: .long x :: st) σ := by
  intro p e s m args below meth c B H locs LS hP hS hL
  obtain ⟨hx, hb, hr, hml, hts, hown, hlocks, hK, hN, hinj⟩ := id B
  exact W.lcmp hx hb hdg  (k p e s m args below meth c B H locs LS hP hS hL)
theorem J_dup {va : Value} (hdg : decode M.2.1 pc = .ok (.dup, 1)) (hva : va.category = 1) (k : J Γ l d M Q (pc + 1) lv (va :: va :: st) σ) : J Γ l d M Q pc lv (va :: st) σ := by
  intro p e s m args below meth c B H locs LS hP hS hL
  obtain ⟨hx, hb, hr, hml, hts, hown, hlocks, hK, hN, hinj⟩ := id B
  exact lv_dup hx hb hdg ((av_cat _ _).trans hva) (k p e s m args below meth c B H locs LS hP hS hL)
theorem J_pop {va : Value} (hdg : decode M.2.1 pc = .ok (.pop, 1)) (hva : va.category = 1) (k : J Γ l d M Q (pc + 1) lv (st) σ) : J Γ l d M Q pc lv (va :: st) σ := by
  intro p e s m args below meth c B H locs LS hP hS hL
  obtain ⟨hx, hb, hr, hml, hts, hown, hlocks, hK, hN, hinj⟩ := id B
  exact lv_pop hx hb hdg ((av_cat _ _).trans hva) (k p e s m args below meth c B H locs LS hP hS hL)
theorem J_dup2_11 {va vb : Value} (hdg : decode M.2.1 pc = .ok (.dup2, 1)) (hva : va.category = 1) (hvb : vb.category = 1) (k : J Γ l d M Q (pc + 1) lv (va :: vb :: va :: vb :: st) σ) : J Γ l d M Q pc lv (va :: vb :: st) σ := by
  intro p e s m args below meth c B H locs LS hP hS hL
  obtain ⟨hx, hb, hr, hml, hts, hown, hlocks, hK, hN, hinj⟩ := id B
  exact lv_dup2_11 hx hb hdg ((av_cat _ _).trans hva) ((av_cat _ _).trans hvb) (k p e s m args below meth c B H locs LS hP hS hL)
theorem J_dup2_2 {va : Value} (hdg : decode M.2.1 pc = .ok (.dup2, 1)) (hva : va.category = 2) (k : J Γ l d M Q (pc + 1) lv (va :: va :: st) σ) : J Γ l d M Q pc lv (va :: st) σ := by
  intro p e s m args below meth c B H locs LS hP hS hL
  obtain ⟨hx, hb, hr, hml, hts, hown, hlocks, hK, hN, hinj⟩ := id B
  exact lv_dup2_2 hx hb hdg ((av_cat _ _).trans hva) (k p e s m args below meth c B H locs LS hP hS hL)
theorem J_goto {off : Int} {tgt : Nat} (hdg : decode M.2.1 pc = .ok (.goto off, 3)) (ht : (pc : Int) + off = (tgt : Int)) (k : J Γ l d M Q tgt lv st σ) : J Γ l d M Q pc lv st σ := by
  intro p e s m args below meth c B H locs LS hP hS hL
  obtain ⟨hx, hb, hr, hml, hts, hown, hlocks, hK, hN, hinj⟩ := id B
  exact lv_goto hx hb hdg ht (k p e s m args below meth c B H locs LS hP hS hL)
theorem J_if_eq {x : Int32} {off : Int} (tgt : Nat) (hdg : decode M.2.1 pc = .ok (.ifCond .eq off, 3)) (ht : (pc : Int) + off = (tgt : Int)) (kt : x = 0 → J Γ l d M Q tgt lv st σ) (kf : ¬ x = 0 → J Γ l d M Q (pc + 3) lv st σ) : J Γ l d M Q pc lv (.int x :: st) σ := by
  intro p e s m args below meth c B H locs LS hP hS hL
  obtain ⟨hx, hb, hr, hml, hts, hown, hlocks, hK, hN, hinj⟩ := id B
  exact lv_if_eq hx hb hdg ht (fun h => kt h p e s m args below meth c B H locs LS hP hS hL) (fun h => kf h p e s m args below meth c B H locs LS hP hS hL)
theorem J_icmp_eq {x y : Int32} {off : Int} (tgt : Nat) (hdg : decode M.2.1 pc = .ok (.if_icmp .eq off, 3)) (ht : (pc : Int) + off = (tgt : Int)) (kt : x = y → J Γ l d M Q tgt lv st σ) (kf : ¬ x = y → J Γ l d M Q (pc + 3) lv st σ) : J Γ l d M Q pc lv (.int y :: .int x :: st) σ := by
  intro p e s m args below meth c B H locs LS hP hS hL
  obtain ⟨hx, hb, hr, hml, hts, hown, hlocks, hK, hN, hinj⟩ := id B
  exact lv_icmp_eq hx hb hdg ht (fun h => kt h p e s m args below meth c B H locs LS hP hS hL) (fun h => kf h p e s m args below meth c B H locs LS hP hS hL)
theorem J_if_ne {x : Int32} {off : Int} (tgt : Nat) (hdg : decode M.2.1 pc = .ok (.ifCond .ne off, 3)) (ht : (pc : Int) + off = (tgt : Int)) (kt : ¬ x = 0 → J Γ l d M Q tgt lv st σ) (kf : x = 0 → J Γ l d M Q (pc + 3) lv st σ) : J Γ l d M Q pc lv (.int x :: st) σ := by
  intro p e s m args below meth c B H locs LS hP hS hL
  obtain ⟨hx, hb, hr, hml, hts, hown, hlocks, hK, hN, hinj⟩ := id B
  exact lv_if_ne hx hb hdg ht (fun h => kt h p e s m args below meth c B H locs LS hP hS hL) (fun h => kf h p e s m args below meth c B H locs LS hP hS hL)
theorem J_icmp_ne {x y : Int32} {off : Int} (tgt : Nat) (hdg : decode M.2.1 pc = .ok (.if_icmp .ne off, 3)) (ht : (pc : Int) + off = (tgt : Int)) (kt : ¬ x = y → J Γ l d M Q tgt lv st σ) (kf : x = y → J Γ l d M Q (pc + 3) lv st σ) : J Γ l d M Q pc lv (.int y :: .int x :: st) σ := by
  intro p e s m args below meth c B H locs LS hP hS hL
  obtain ⟨hx, hb, hr, hml, hts, hown, hlocks, hK, hN, hinj⟩ := id B
  exact lv_icmp_ne hx hb hdg ht (fun h => kt h p e s m args below meth c B H locs LS hP hS hL) (fun h => kf h p e s m args below meth c B H locs LS hP hS hL)
theorem J_if_lt {x : Int32} {off : Int} (tgt : Nat) (hdg : decode M.2.1 pc = .ok (.ifCond .lt off, 3)) (ht : (pc : Int) + off = (tgt : Int)) (kt : x < 0 → J Γ l d M Q tgt lv st σ) (kf : ¬ x < 0 → J Γ l d M Q (pc + 3) lv st σ) : J Γ l d M Q pc lv (.int x :: st) σ := by
  intro p e s m args below meth c B H locs LS hP hS hL
  obtain ⟨hx, hb, hr, hml, hts, hown, hlocks, hK, hN, hinj⟩ := id B
  exact lv_if_lt hx hb hdg ht (fun h => kt h p e s m args below meth c B H locs LS hP hS hL) (fun h => kf h p e s m args below meth c B H locs LS hP hS hL)
theorem J_icmp_lt {x y : Int32} {off : Int} (tgt : Nat) (hdg : decode M.2.1 pc = .ok (.if_icmp .lt off, 3)) (ht : (pc : Int) + off = (tgt : Int)) (kt : x < y → J Γ l d M Q tgt lv st σ) (kf : ¬ x < y → J Γ l d M Q (pc + 3) lv st σ) : J Γ l d M Q pc lv (.int y :: .int x :: st) σ := by
  intro p e s m args below meth c B H locs LS hP hS hL
  obtain ⟨hx, hb, hr, hml, hts, hown, hlocks, hK, hN, hinj⟩ := id B
  exact lv_icmp_lt hx hb hdg ht (fun h => kt h p e s m args below meth c B H locs LS hP hS hL) (fun h => kf h p e s m args below meth c B H locs LS hP hS hL)
theorem J_if_ge {x : Int32} {off : Int} (tgt : Nat) (hdg : decode M.2.1 pc = .ok (.ifCond .ge off, 3)) (ht : (pc : Int) + off = (tgt : Int)) (kt : 0 ≤ x → J Γ l d M Q tgt lv st σ) (kf : ¬ 0 ≤ x → J Γ l d M Q (pc + 3) lv st σ) : J Γ l d M Q pc lv (.int x :: st) σ := by
  intro p e s m args below meth c B H locs LS hP hS hL
  obtain ⟨hx, hb, hr, hml, hts, hown, hlocks, hK, hN, hinj⟩ := id B
  exact lv_if_ge hx hb hdg ht (fun h => kt h p e s m args below meth c B H locs LS hP hS hL) (fun h => kf h p e s m args below meth c B H locs LS hP hS hL)
theorem J_icmp_ge {x y : Int32} {off : Int} (tgt : Nat) (hdg : decode M.2.1 pc = .ok (.if_icmp .ge off, 3)) (ht : (pc : Int) + off = (tgt : Int)) (kt : y ≤ x → J Γ l d M Q tgt lv st σ) (kf : ¬ y ≤ x → J Γ l d M Q (pc + 3) lv st σ) : J Γ l d M Q pc lv (.int y :: .int x :: st) σ := by
  intro p e s m args below meth c B H locs LS hP hS hL
  obtain ⟨hx, hb, hr, hml, hts, hown, hlocks, hK, hN, hinj⟩ := id B
  exact lv_icmp_ge hx hb hdg ht (fun h => kt h p e s m args below meth c B H locs LS hP hS hL) (fun h => kf h p e s m args below meth c B H locs LS hP hS hL)
theorem J_if_gt {x : Int32} {off : Int} (tgt : Nat) (hdg : decode M.2.1 pc = .ok (.ifCond .gt off, 3)) (ht : (pc : Int) + off = (tgt : Int)) (kt : 0 < x → J Γ l d M Q tgt lv st σ) (kf : ¬ 0 < x → J Γ l d M Q (pc + 3) lv st σ) : J Γ l d M Q pc lv (.int x :: st) σ := by
  intro p e s m args below meth c B H locs LS hP hS hL
  obtain ⟨hx, hb, hr, hml, hts, hown, hlocks, hK, hN, hinj⟩ := id B
  exact lv_if_gt hx hb hdg ht (fun h => kt h p e s m args below meth c B H locs LS hP hS hL) (fun h => kf h p e s m args below meth c B H locs LS hP hS hL)
theorem J_icmp_gt {x y : Int32} {off : Int} (tgt : Nat) (hdg : decode M.2.1 pc = .ok (.if_icmp .gt off, 3)) (ht : (pc : Int) + off = (tgt : Int)) (kt : y < x → J Γ l d M Q tgt lv st σ) (kf : ¬ y < x → J Γ l d M Q (pc + 3) lv st σ) : J Γ l d M Q pc lv (.int y :: .int x :: st) σ := by
  intro p e s m args below meth c B H locs LS hP hS hL
  obtain ⟨hx, hb, hr, hml, hts, hown, hlocks, hK, hN, hinj⟩ := id B
  exact lv_icmp_gt hx hb hdg ht (fun h => kt h p e s m args below meth c B H locs LS hP hS hL) (fun h => kf h p e s m args below meth c B H locs LS hP hS hL)
theorem J_if_le {x : Int32} {off : Int} (tgt : Nat) (hdg : decode M.2.1 pc = .ok (.ifCond .le off, 3)) (ht : (pc : Int) + off = (tgt : Int)) (kt : x ≤ 0 → J Γ l d M Q tgt lv st σ) (kf : ¬ x ≤ 0 → J Γ l d M Q (pc + 3) lv st σ) : J Γ l d M Q pc lv (.int x :: st) σ := by
  intro p e s m args below meth c B H locs LS hP hS hL
  obtain ⟨hx, hb, hr, hml, hts, hown, hlocks, hK, hN, hinj⟩ := id B
  exact lv_if_le hx hb hdg ht (fun h => kt h p e s m args below meth c B H locs LS hP hS hL) (fun h => kf h p e s m args below meth c B H locs LS hP hS hL)
theorem J_icmp_le {x y : Int32} {off : Int} (tgt : Nat) (hdg : decode M.2.1 pc = .ok (.if_icmp .le off, 3)) (ht : (pc : Int) + off = (tgt : Int)) (kt : x ≤ y → J Γ l d M Q tgt lv st σ) (kf : ¬ x ≤ y → J Γ l d M Q (pc + 3) lv st σ) : J Γ l d M Q pc lv (.int y :: .int x :: st) σ := by
  intro p e s m args below meth c B H locs LS hP hS hL
  obtain ⟨hx, hb, hr, hml, hts, hown, hlocks, hK, hN, hinj⟩ := id B
  exact lv_icmp_le hx hb hdg ht (fun h => kt h p e s m args below meth c B H locs LS hP hS hL) (fun h => kf h p e s m args below meth c B H locs LS hP hS hL)
theorem J_tableOut {dflt lo hi : Int} {offs : Array Int} {len : Nat} {x : Int32} (tgt : Nat) (hdg : decode M.2.1 pc = .ok (.tableswitch dflt lo hi offs, len)) (h : x.toInt < lo ∨ hi < x.toInt) (ht : (pc : Int) + dflt = (tgt : Int)) (k : J Γ l d M Q tgt lv st σ) : J Γ l d M Q pc lv (.int x :: st) σ := by
  intro p e s m args below meth c B H locs LS hP hS hL
  obtain ⟨hx, hb, hr, hml, hts, hown, hlocks, hK, hN, hinj⟩ := id B
  exact lv_tableOut hx hb hdg h ht (k p e s m args below meth c B H locs LS hP hS hL)
theorem J_tableIn {dflt lo hi : Int} {offs : Array Int} {len : Nat} {x : Int32} {off : Int} (tgt : Nat) (hdg : decode M.2.1 pc = .ok (.tableswitch dflt lo hi offs, len)) (h1 : ¬ x.toInt < lo) (h2 : ¬ hi < x.toInt) (ho : offs[(x.toInt - lo).toNat]? = some off) (ht : (pc : Int) + off = (tgt : Int)) (k : J Γ l d M Q tgt lv st σ) : J Γ l d M Q pc lv (.int x :: st) σ := by
  intro p e s m args below meth c B H locs LS hP hS hL
  obtain ⟨hx, hb, hr, hml, hts, hown, hlocks, hK, hN, hinj⟩ := id B
  exact lv_tableIn hx hb hdg h1 h2 ho ht (k p e s m args below meth c B H locs LS hP hS hL)
theorem J_lookup {dflt : Int} {ps : Array (Int × Int)} {len : Nat} {x : Int32} {off : Int} (tgt : Nat) (hdg : decode M.2.1 pc = .ok (.lookupswitch dflt ps, len)) (hp : (ps.toList.zip (ps.toList.drop 1)).all (fun (a, next) => a.1 < next.1) = true) (ho : Op.lookupswitch.offset ps.toList dflt x.toInt = off) (ht : (pc : Int) + off = (tgt : Int)) (k : J Γ l d M Q tgt lv st σ) : J Γ l d M Q pc lv (.int x :: st) σ := by
  intro p e s m args below meth c B H locs LS hP hS hL
  obtain ⟨hx, hb, hr, hml, hts, hown, hlocks, hK, hN, hinj⟩ := id B
  exact lv_lookup hx hb hdg hp ho ht (k p e s m args below meth c B H locs LS hP hS hL)
theorem J_ldc {index : Nat} {v : Int32} (hw : Cond.constant M.1.cls index v ∈ gtbl) (hdg : decode M.2.1 pc = .ok (.ldc index, 2)) (k : J Γ l d M Q (pc + 2) lv (.int v :: st) σ) : J Γ l d M Q pc lv st σ := by
  intro p e s m args below meth c B H locs LS hP hS hL
  obtain ⟨hx, hb, hr, hml, hts, hown, hlocks, hK, hN, hinj⟩ := id B
  exact lv_ldc hx hb hown (hts _ hw) hdg (k p e s m args below meth c B H locs LS hP hS hL)
theorem J_ldcw {index : Nat} {v : Int32} (hw : Cond.constant M.1.cls index v ∈ gtbl) (hdg : decode M.2.1 pc = .ok (.ldc_w index, 3)) (k : J Γ l d M Q (pc + 3) lv (.int v :: st) σ) : J Γ l d M Q pc lv st σ := by
  intro p e s m args below meth c B H locs LS hP hS hL
  obtain ⟨hx, hb, hr, hml, hts, hown, hlocks, hK, hN, hinj⟩ := id B
  exact lv_ldcw hx hb hown (hts _ hw) hdg (k p e s m args below meth c B H locs LS hP hS hL)
theorem J_ldc2 {index : Nat} {v : Int64} (hw : Cond.constantLong M.1.cls index v ∈ gtbl) (hdg : decode M.2.1 pc = .ok (.ldc2_w index, 3)) (k : J Γ l d M Q (pc + 3) lv (.long v :: st) σ) : J Γ l d M Q pc lv st σ := by
  intro p e s m args below meth c B H locs LS hP hS hL
  obtain ⟨hx, hb, hr, hml, hts, hown, hlocks, hK, hN, hinj⟩ := id B
  exact lv_ldc2 hx hb hown (hts _ hw) hdg (k p e s m args below meth c B H locs LS hP hS hL)
/-! fields -/
theorem J_getf {index q ci Nf kf f : Nat} {C : String} {T : u_T} {fk : List Nat} (hw : Cond.fieldLink M.1.cls index (T kf).1 (T kf).2.1 (T kf).2.2.1 ∈ gtbl) (hus : ∀ w ∈ u_ws C T Nf, w ∈ gtbl) (hc : vwCl[ci]? = some (C, T, Nf)) (hq : q < nC) (hs : sk q = .inl (ci, fk)) (hk : kf < Nf) (hf : fk[kf]? = some f) (hdg : decode M.2.1 pc = .ok (.getfield index, 3)) (k : J Γ l d M Q (pc + 3) lv (fv σ q kf f :: st) σ) : J Γ l d M Q pc lv (.ref q :: st) σ := by
  intro p e s m args below meth c B H locs LS hP hS hL
  obtain ⟨hx, hb, hr, hml, hts, hown, hlocks, hK, hN, hinj⟩ := id B
  exact va_get hx hb hts hus hown hK hP q ((ws_get hq).trans (congrArg (fun e => some (Γ.1 q, e)) (ce_obj hs))) hc kf hk (hts _ hw) (fun _ h => h) (fvs_get hf) hdg (k p e s m args below meth c B H locs LS hP hS hL)
theorem J_putf {index q ci Nf kf : Nat} {x : Int32} {ty : FieldType} {C : String} {T : u_T} {ty0 : Nat → FieldType} {fk : List Nat} (hw : Cond.fieldLink M.1.cls index (T kf).1 (T kf).2.1 (T kf).2.2.1 ∈ gtbl) (hus : ∀ w ∈ u_ws C T Nf, w ∈ gtbl) (hty : ∀ k, k < Nf → parseFieldDescriptor (T k).2.2.1 = some (ty0 k)) (hnm : ∀ a, a < Nf → ∀ b, b < Nf → a ≠ b → (T a).2.1 ≠ (T b).2.1) (hc : vwCl[ci]? = some (C, T, Nf)) (hq : q < nC) (hs : sk q = .inl (ci, fk)) (hk : kf < Nf) (hf : fk[kf]? = some 0) (hfin : (T kf).2.2.2 = false) (hd : parseFieldDescriptor (T kf).2.2.1 = some ty) (hn : narrow ty (.int x) = .int x) (hfit : fits ty (.int x) = true) (hdg : decode M.2.1 pc = .ok (.putfield index, 3)) (k : J Γ l d M Q (pc + 3) lv st (wr σ q kf x)) : J Γ l d M Q pc lv (.int x :: .ref q :: st) σ := by
  intro p e s m args below meth c B H locs LS hP hS hL
  obtain ⟨hx, hb, hr, hml, hts, hown, hlocks, hK, hN, hinj⟩ := id B
  refine va_put (v := .int x) hx hb hts hus ty0 hty hnm hown hK hP (ws_D hinj σ) hS q ((ws_get hq).trans (congrArg (fun e => some (Γ.1 q, e)) (ce_obj hs))) hc kf hk (hts _ hw) (fun _ h => h) hfin hd hn hfit (by simpa [fvs] using (List.getElem?_eq_some_iff.mp hf).1) hdg (fun H1 locs1 hP1 _ hS1 => ?_)
  have eq1 := ws_wr_obj (Γ := Γ) (σ := σ) (x := x) (v := .int x) hq hs hf (by simp [fv, rd_wr])
  rw [show (Value.int x) = av Γ.1 (.int x) from rfl, eq1] at hP1
  exact k p e s m args below meth c B H1 locs1 LS hP1 hS1 hL
theorem J_putr {index q ci Nf kf r : Nat} {x : Int32} {ty : FieldType} {C : String} {T : u_T} {ty0 : Nat → FieldType} {fk : List Nat} (hx0 : x.toNatClampNeg = r) (hw : Cond.fieldLink M.1.cls index (T kf).1 (T kf).2.1 (T kf).2.2.1 ∈ gtbl) (hus : ∀ w ∈ u_ws C T Nf, w ∈ gtbl) (hty : ∀ k, k < Nf → parseFieldDescriptor (T k).2.2.1 = some (ty0 k)) (hnm : ∀ a, a < Nf → ∀ b, b < Nf → a ≠ b → (T a).2.1 ≠ (T b).2.1) (hc : vwCl[ci]? = some (C, T, Nf)) (hq : q < nC) (hs : sk q = .inl (ci, fk)) (hk : kf < Nf) (hf : fk[kf]? = some 1) (hfin : (T kf).2.2.2 = false) (hd : parseFieldDescriptor (T kf).2.2.1 = some ty) (hn : ∀ a, narrow ty (.ref a) = .ref a) (hfit : ∀ a, fits ty (.ref a) = true) (hdg : decode M.2.1 pc = .ok (.putfield index, 3)) (k : J Γ l d M Q (pc + 3) lv st (wr σ q kf x)) : J Γ l d M Q pc lv (.ref r :: .ref q :: st) σ := by
  intro p e s m args below meth c B H locs LS hP hS hL
  obtain ⟨hx, hb, hr, hml, hts, hown, hlocks, hK, hN, hinj⟩ := id B
  refine va_put (v := .ref (Γ.1 r)) hx hb hts hus ty0 hty hnm hown hK hP (ws_D hinj σ) hS q ((ws_get hq).trans (congrArg (fun e => some (Γ.1 q, e)) (ce_obj hs))) hc kf hk (hts _ hw) (fun _ h => h) hfin hd (hn _) (hfit _) (by simpa [fvs] using (List.getElem?_eq_some_iff.mp hf).1) hdg (fun H1 locs1 hP1 _ hS1 => ?_)
  have eq1 := ws_wr_obj (Γ := Γ) (σ := σ) (x := x) (v := .ref r) hq hs hf (by simp [fv, rd_wr, hx0])
  rw [show (Value.ref (Γ.1 r)) = av Γ.1 (.ref r) from rfl, eq1] at hP1
  exact k p e s m args below meth c B H1 locs1 LS hP1 hS1 hL
/-! arrays -/
theorem J_alen {q t n r : Nat} {v : Int32} (hq : q < nC) (hs : sk q = .inr (t, n, r)) (ht : t < 3) (hv : Int32.ofNat n = v) (hdg : decode M.2.1 pc = .ok (.arraylength, 1)) (k : J Γ l d M Q (pc + 1) lv (.int v :: st) σ) : J Γ l d M Q pc lv (.ref q :: st) σ := by
  intro p e s m args below meth c B H locs LS hP hS hL
  obtain ⟨hx, hb, hr, hml, hts, hown, hlocks, hK, hN, hinj⟩ := id B
  match t, ht with
  | 0, _ => exact va_alen hx hb hK hP q 0 ((ws_get hq).trans (congrArg (fun e => some (Γ.1 q, e)) (ce_int hs (by decide)))) rfl hv hdg (k p e s m args below meth c B H locs LS hP hS hL)
  | 1, _ => exact va_alen hx hb hK hP q 1 ((ws_get hq).trans (congrArg (fun e => some (Γ.1 q, e)) (ce_int hs (by decide)))) rfl hv hdg (k p e s m args below meth c B H locs LS hP hS hL)
  | 2, _ => exact va_alen hx hb hK hP q 2 ((ws_get hq).trans (congrArg (fun e => some (Γ.1 q, e)) (ce_int hs (by decide)))) rfl hv hdg (k p e s m args below meth c B H locs LS hP hS hL)
theorem J_alenL {q n r : Nat} {v : Int32} (hq : q < nC) (hs : sk q = .inr (3, n, r)) (hv : Int32.ofNat n = v) (hdg : decode M.2.1 pc = .ok (.arraylength, 1)) (k : J Γ l d M Q (pc + 1) lv (.int v :: st) σ) : J Γ l d M Q pc lv (.ref q :: st) σ := by
  intro p e s m args below meth c B H locs LS hP hS hL
  obtain ⟨hx, hb, hr, hml, hts, hown, hlocks, hK, hN, hinj⟩ := id B
  exact va_alen hx hb hK hP q 3 ((ws_get hq).trans (congrArg (fun e => some (Γ.1 q, e)) (ce_long hs))) rfl hv hdg (k p e s m args below meth c B H locs LS hP hS hL)
theorem J_iald {q n r : Nat} {i : Int32} (hq : q < nC) (hs : sk q = .inr (0, n, r)) (hin : vp_in i n) (hdg : decode M.2.1 pc = .ok (.iaload, 1)) (k : J Γ l d M Q (pc + 1) lv (.int (rd σ q i.toNatClampNeg) :: st) σ) : J Γ l d M Q pc lv (.int i :: .ref q :: st) σ := by
  intro p e s m args below meth c B H locs LS hP hS hL
  obtain ⟨hx, hb, hr, hml, hts, hown, hlocks, hK, hN, hinj⟩ := id B
  exact va_iald hx hb hK hP q 0 ((ws_get hq).trans (congrArg (fun e => some (Γ.1 q, e)) (ce_int hs (by decide)))) rfl hin hdg (k p e s m args below meth c B H locs LS hP hS hL)
theorem J_bald {q n r : Nat} {i : Int32} (hq : q < nC) (hs : sk q = .inr (1, n, r)) (hin : vp_in i n) (hdg : decode M.2.1 pc = .ok (.baload, 1)) (k : J Γ l d M Q (pc + 1) lv (.int (rd σ q i.toNatClampNeg) :: st) σ) : J Γ l d M Q pc lv (.int i :: .ref q :: st) σ := by
  intro p e s m args below meth c B H locs LS hP hS hL
  obtain ⟨hx, hb, hr, hml, hts, hown, hlocks, hK, hN, hinj⟩ := id B
  exact va_bald hx hb hK hP q 1 ((ws_get hq).trans (congrArg (fun e => some (Γ.1 q, e)) (ce_int hs (by decide)))) rfl hin hdg (k p e s m args below meth c B H locs LS hP hS hL)
theorem J_zald {q n r : Nat} {i : Int32} (hq : q < nC) (hs : sk q = .inr (2, n, r)) (hin : vp_in i n) (hdg : decode M.2.1 pc = .ok (.baload, 1)) (k : J Γ l d M Q (pc + 1) lv (.int (rd σ q i.toNatClampNeg) :: st) σ) : J Γ l d M Q pc lv (.int i :: .ref q :: st) σ := by
  intro p e s m args below meth c B H locs LS hP hS hL
  obtain ⟨hx, hb, hr, hml, hts, hown, hlocks, hK, hN, hinj⟩ := id B
  exact va_zald hx hb hK hP q 2 ((ws_get hq).trans (congrArg (fun e => some (Γ.1 q, e)) (ce_int hs (by decide)))) rfl hin hdg (k p e s m args below meth c B H locs LS hP hS hL)
theorem J_iast {q n r : Nat} {i x : Int32} (hq : q < nC) (hs : sk q = .inr (0, n, r)) (hin : vp_in i n) (hdg : decode M.2.1 pc = .ok (.iastore, 1)) (k : J Γ l d M Q (pc + 1) lv st (wr σ q i.toNatClampNeg x)) : J Γ l d M Q pc lv (.int x :: .int i :: .ref q :: st) σ := by
  intro p e s m args below meth c B H locs LS hP hS hL
  obtain ⟨hx, hb, hr, hml, hts, hown, hlocks, hK, hN, hinj⟩ := id B
  refine va_iast hx hb hK hP (ws_D hinj σ) hS q 0 ((ws_get hq).trans (congrArg (fun e => some (Γ.1 q, e)) (ce_int hs (by decide)))) rfl hin hdg (fun H1 locs1 hP1 _ hS1 => ?_)
  rw [ws_wr_int hq hs (by decide)] at hP1
  exact k p e s m args below meth c B H1 locs1 LS hP1 hS1 hL
theorem J_bast {q n r : Nat} {i x : Int32} (hq : q < nC) (hs : sk q = .inr (1, n, r)) (hin : vp_in i n) (hdg : decode M.2.1 pc = .ok (.bastore, 1)) (k : J Γ l d M Q (pc + 1) lv st (wr σ q i.toNatClampNeg (vp_nar .byte x))) : J Γ l d M Q pc lv (.int x :: .int i :: .ref q :: st) σ := by
  intro p e s m args below meth c B H locs LS hP hS hL
  obtain ⟨hx, hb, hr, hml, hts, hown, hlocks, hK, hN, hinj⟩ := id B
  refine va_bast hx hb hK hP (ws_D hinj σ) hS q 1 ((ws_get hq).trans (congrArg (fun e => some (Γ.1 q, e)) (ce_int hs (by decide)))) rfl hin hdg (fun H1 locs1 hP1 _ hS1 => ?_)
  rw [ws_wr_int hq hs (by decide)] at hP1
  exact k p e s m args below meth c B H1 locs1 LS hP1 hS1 hL
theorem J_zast {q n r : Nat} {i x : Int32} (hq : q < nC) (hs : sk q = .inr (2, n, r)) (hin : vp_in i n) (hdg : decode M.2.1 pc = .ok (.bastore, 1)) (k : J Γ l d M Q (pc + 1) lv st (wr σ q i.toNatClampNeg (vp_nar .boolean x))) : J Γ l d M Q pc lv (.int x :: .int i :: .ref q :: st) σ := by
  intro p e s m args below meth c B H locs LS hP hS hL
  obtain ⟨hx, hb, hr, hml, hts, hown, hlocks, hK, hN, hinj⟩ := id B
  refine va_zast hx hb hK hP (ws_D hinj σ) hS q 2 ((ws_get hq).trans (congrArg (fun e => some (Γ.1 q, e)) (ce_int hs (by decide)))) rfl hin hdg (fun H1 locs1 hP1 _ hS1 => ?_)
  rw [ws_wr_int hq hs (by decide)] at hP1
  exact k p e s m args below meth c B H1 locs1 LS hP1 hS1 hL
theorem J_lald {q n r : Nat} {i : Int32} (hq : q < nC) (hs : sk q = .inr (3, n, r)) (hin : vp_in i n) (hdg : decode M.2.1 pc = .ok (.laload, 1)) (k : J Γ l d M Q (pc + 1) lv (.long (rl σ q i.toNatClampNeg) :: st) σ) : J Γ l d M Q pc lv (.int i :: .ref q :: st) σ := by
  intro p e s m args below meth c B H locs LS hP hS hL
  obtain ⟨hx, hb, hr, hml, hts, hown, hlocks, hK, hN, hinj⟩ := id B
  exact va_lald hx hb hK hP q 3 ((ws_get hq).trans (congrArg (fun e => some (Γ.1 q, e)) (ce_long hs))) rfl hin hdg (k p e s m args below meth c B H locs LS hP hS hL)
theorem J_last {q n r : Nat} {i : Int32} {x : Int64} (hq : q < nC) (hs : sk q = .inr (3, n, r)) (hin : vp_in i n) (hdg : decode M.2.1 pc = .ok (.lastore, 1)) (k : J Γ l d M Q (pc + 1) lv st (wl σ q i.toNatClampNeg x)) : J Γ l d M Q pc lv (.long x :: .int i :: .ref q :: st) σ := by
  intro p e s m args below meth c B H locs LS hP hS hL
  obtain ⟨hx, hb, hr, hml, hts, hown, hlocks, hK, hN, hinj⟩ := id B
  refine va_last hx hb hK hP (ws_D hinj σ) hS q 3 ((ws_get hq).trans (congrArg (fun e => some (Γ.1 q, e)) (ce_long hs))) rfl hin hdg (fun H1 locs1 hP1 _ hS1 => ?_)
  rw [ws_wl_long hq hs] at hP1
  exact k p e s m args below meth c B H1 locs1 LS hP1 hS1 hL
theorem J_aald {q n r : Nat} {i : Int32} (hq : q < nC) (hs : sk q = .inr (4, n, r)) (hin : vp_in i n) (hdg : decode M.2.1 pc = .ok (.aaload, 1)) (k : J Γ l d M Q (pc + 1) lv (.ref (i.toNatClampNeg + r) :: st) σ) : J Γ l d M Q pc lv (.int i :: .ref q :: st) σ := by
  intro p e s m args below meth c B H locs LS hP hS hL
  obtain ⟨hx, hb, hr, hml, hts, hown, hlocks, hK, hN, hinj⟩ := id B
  have hlt : i.toNatClampNeg < n := Nat.not_le.mp fun q => hin (Or.inr q)
  have ha : (wsG Γ σ)[q]? = some (Γ.1 q, .inl (Γ.2.1 4, n, .inr (.inr (.inr (.inr (fun i => some (Γ.1 (i + r)))))))) := (ws_get hq).trans (congrArg (fun e => some (Γ.1 q, e)) (ce_refs hs))
  refine W.aald (v := .ref (Γ.1 (i.toNatClampNeg + r))) (ty := .array .int) hx hb (hP q _ ha) ((hK.2 4 (Γ.2.1 4, .array .int) rfl).1 n (fun j => va_rf (some (Γ.1 (j + r))))) rfl (fun q => by cases q) (by show ¬ (i < 0 ∨ (arrV _ _ _).slots.size ≤ _); rw [arrV_size]; exact hin) (by show (arrV _ _ _).slots[_]? = _; rw [arrV_read _ _ hlt]; rfl) rfl rfl hdg (k p e s m args below meth c B H locs LS hP hS hL)
/-! ends -/
theorem J_iret {v : Int32} (hret : M.2.2.2 = some .int) (hdg : decode M.2.1 pc = .ok (.ireturn, 1)) (k : Q (some (.int v)) σ) : J Γ l d M Q pc lv [.int v] σ := by
  intro p e s m args below meth c B H locs LS hP hS hL
  obtain ⟨hx, hb, hr, hml, hts, hown, hlocks, hK, hN, hinj⟩ := id B
  exact W.iret hx hb (hr.trans hret) (fun t ht hW => ⟨⟨some (.int v), σ, rfl, k, by rw [ht]; exact hP⟩, hS.F ht⟩) hS.2.2 hdg
theorem J_zret {v : Int32} (hret : M.2.2.2 = some .boolean) (hv : v = 0 ∨ v = 1) (hdg : decode M.2.1 pc = .ok (.ireturn, 1)) (k : Q (some (.int v)) σ) : J Γ l d M Q pc lv [.int v] σ := by
  intro p e s m args below meth c B H locs LS hP hS hL
  obtain ⟨hx, hb, hr, hml, hts, hown, hlocks, hK, hN, hinj⟩ := id B
  exact W.zret hx hb (hr.trans hret) (by rcases hv with h | h <;> subst h <;> rfl) (fun t ht hW => ⟨⟨some (.int v), σ, rfl, k, by rw [ht]; exact hP⟩, hS.F ht⟩) hS.2.2 hdg
theorem J_lret {v : Int64} (hret : M.2.2.2 = some .long) (hdg : decode M.2.1 pc = .ok (.lreturn, 1)) (k : Q (some (.long v)) σ) : J Γ l d M Q pc lv [.long v] σ := by
  intro p e s m args below meth c B H locs LS hP hS hL
  obtain ⟨hx, hb, hr, hml, hts, hown, hlocks, hK, hN, hinj⟩ := id B
  exact W.lret hx hb (hr.trans hret) (fun t ht hW => ⟨⟨some (.long v), σ, rfl, k, by rw [ht]; exact hP⟩, hS.F ht⟩) hS.2.2 hdg
theorem J_vret (hret : M.2.2.2 = none) (hdg : decode M.2.1 pc = .ok (.return_, 1)) (k : Q none σ) : J Γ l d M Q pc lv [] σ := by
  intro p e s m args below meth c B H locs LS hP hS hL
  obtain ⟨hx, hb, hr, hml, hts, hown, hlocks, hK, hN, hinj⟩ := id B
  exact W.vret hx hb (hr.trans hret) (fun t ht hW => ⟨⟨none, σ, rfl, k, by rw [ht]; exact hP⟩, hS.F ht⟩) hS.2.2 hdg
end JR
end
