section
-- ===== PART A: goes FIRST, ahead of the names: the tables' words, and 'selects' of the private methods out of them =====
/-- a private method of a class that the tables say can be made, by its rows of tables_1 -/
def lw_okq (q : MethodName × Nat) : Prop := (q.1.cls ≠ "java/lang/invoke/MethodHandle" ∧ q.1.cls ≠ "java/lang/invoke/VarHandle") ∧ Cond.instantiable q.1.cls q.2 ∈ tables_1 ∧ Cond.privateMethod q.1 ∈ tables_1 ∧ Cond.instanceMethod q.1 ∈ tables_1
theorem lw_p0 : lw_okq (⟨"RungByHeart$Deed", "forgetTold", "()V"⟩, 6) := ⟨⟨by decide +kernel, by decide +kernel⟩, List.mem_of_getElem? (i := 116) (by decide +kernel), List.mem_of_getElem? (i := 124) (by decide +kernel), List.mem_of_getElem? (i := 125) (by decide +kernel)⟩
theorem lw_p1 : lw_okq (⟨"RungByHeart", "shelfAt", "(I)LRungByHeart$Shelf;"⟩, 13) := ⟨⟨by decide +kernel, by decide +kernel⟩, List.mem_of_getElem? (i := 15) (by decide +kernel), List.mem_of_getElem? (i := 282) (by decide +kernel), List.mem_of_getElem? (i := 283) (by decide +kernel)⟩
theorem lw_p2 : lw_okq (⟨"RungByHeart", "comesFrom", "(LRungByHeart$Shelf;J)Z"⟩, 13) := ⟨⟨by decide +kernel, by decide +kernel⟩, List.mem_of_getElem? (i := 15) (by decide +kernel), List.mem_of_getElem? (i := 295) (by decide +kernel), List.mem_of_getElem? (i := 296) (by decide +kernel)⟩
theorem lw_p3 : lw_okq (⟨"RungByHeart$Changes", "dropOldest", "()V"⟩, 5) := ⟨⟨by decide +kernel, by decide +kernel⟩, List.mem_of_getElem? (i := 152) (by decide +kernel), List.mem_of_getElem? (i := 324) (by decide +kernel), List.mem_of_getElem? (i := 325) (by decide +kernel)⟩
theorem lw_p4 : lw_okq (⟨"RungByHeart", "rungNow", "()I"⟩, 13) := ⟨⟨by decide +kernel, by decide +kernel⟩, List.mem_of_getElem? (i := 15) (by decide +kernel), List.mem_of_getElem? (i := 335) (by decide +kernel), List.mem_of_getElem? (i := 336) (by decide +kernel)⟩
theorem lw_p5 : lw_okq (⟨"RungByHeart$Reader", "readLine", "()V"⟩, 6) := ⟨⟨by decide +kernel, by decide +kernel⟩, List.mem_of_getElem? (i := 69) (by decide +kernel), List.mem_of_getElem? (i := 364) (by decide +kernel), List.mem_of_getElem? (i := 365) (by decide +kernel)⟩
theorem lw_p6 : lw_okq (⟨"RungByHeart$Reader", "readLevel", "(II)V"⟩, 6) := ⟨⟨by decide +kernel, by decide +kernel⟩, List.mem_of_getElem? (i := 69) (by decide +kernel), List.mem_of_getElem? (i := 368) (by decide +kernel), List.mem_of_getElem? (i := 369) (by decide +kernel)⟩
theorem lw_p7 : lw_okq (⟨"RungByHeart$Reader", "readOperand", "(I)V"⟩, 6) := ⟨⟨by decide +kernel, by decide +kernel⟩, List.mem_of_getElem? (i := 69) (by decide +kernel), List.mem_of_getElem? (i := 372) (by decide +kernel), List.mem_of_getElem? (i := 373) (by decide +kernel)⟩
theorem lw_p8 : lw_okq (⟨"RungByHeart$Reader", "sign", "()I"⟩, 6) := ⟨⟨by decide +kernel, by decide +kernel⟩, List.mem_of_getElem? (i := 69) (by decide +kernel), List.mem_of_getElem? (i := 376) (by decide +kernel), List.mem_of_getElem? (i := 377) (by decide +kernel)⟩
theorem lw_p9 : lw_okq (⟨"RungByHeart$Reader", "readNumber", "()V"⟩, 6) := ⟨⟨by decide +kernel, by decide +kernel⟩, List.mem_of_getElem? (i := 69) (by decide +kernel), List.mem_of_getElem? (i := 383) (by decide +kernel), List.mem_of_getElem? (i := 384) (by decide +kernel)⟩
theorem lw_p10 : lw_okq (⟨"RungByHeart$Reader", "emit", "(I)V"⟩, 6) := ⟨⟨by decide +kernel, by decide +kernel⟩, List.mem_of_getElem? (i := 69) (by decide +kernel), List.mem_of_getElem? (i := 387) (by decide +kernel), List.mem_of_getElem? (i := 388) (by decide +kernel)⟩
theorem lw_p11 : lw_okq (⟨"RungByHeart$Reader", "readClosing", "()V"⟩, 6) := ⟨⟨by decide +kernel, by decide +kernel⟩, List.mem_of_getElem? (i := 69) (by decide +kernel), List.mem_of_getElem? (i := 394) (by decide +kernel), List.mem_of_getElem? (i := 395) (by decide +kernel)⟩
theorem lw_p12 : lw_okq (⟨"RungByHeart", "ringDay", "(LRungByHeart$Field;LRungByHeart$Tower;I)V"⟩, 13) := ⟨⟨by decide +kernel, by decide +kernel⟩, List.mem_of_getElem? (i := 15) (by decide +kernel), List.mem_of_getElem? (i := 410) (by decide +kernel), List.mem_of_getElem? (i := 411) (by decide +kernel)⟩
theorem lw_p13 : lw_okq (⟨"RungByHeart", "ringNext", "(LRungByHeart$Field;LRungByHeart$Tower;)V"⟩, 13) := ⟨⟨by decide +kernel, by decide +kernel⟩, List.mem_of_getElem? (i := 15) (by decide +kernel), List.mem_of_getElem? (i := 418) (by decide +kernel), List.mem_of_getElem? (i := 419) (by decide +kernel)⟩
theorem lw_p14 : lw_okq (⟨"RungByHeart", "countSigns", "(LRungByHeart$Field;LRungByHeart$Tower;I)V"⟩, 13) := ⟨⟨by decide +kernel, by decide +kernel⟩, List.mem_of_getElem? (i := 15) (by decide +kernel), List.mem_of_getElem? (i := 422) (by decide +kernel), List.mem_of_getElem? (i := 423) (by decide +kernel)⟩
theorem lw_p15 : lw_okq (⟨"RungByHeart", "clearSigns", "()V"⟩, 13) := ⟨⟨by decide +kernel, by decide +kernel⟩, List.mem_of_getElem? (i := 15) (by decide +kernel), List.mem_of_getElem? (i := 426) (by decide +kernel), List.mem_of_getElem? (i := 427) (by decide +kernel)⟩
def lw_privs_1 : List (MethodName × Nat) := [(⟨"RungByHeart$Deed", "forgetTold", "()V"⟩, 6), (⟨"RungByHeart", "shelfAt", "(I)LRungByHeart$Shelf;"⟩, 13), (⟨"RungByHeart", "comesFrom", "(LRungByHeart$Shelf;J)Z"⟩, 13), (⟨"RungByHeart$Changes", "dropOldest", "()V"⟩, 5), (⟨"RungByHeart", "rungNow", "()I"⟩, 13), (⟨"RungByHeart$Reader", "readLine", "()V"⟩, 6), (⟨"RungByHeart$Reader", "readLevel", "(II)V"⟩, 6), (⟨"RungByHeart$Reader", "readOperand", "(I)V"⟩, 6), (⟨"RungByHeart$Reader", "sign", "()I"⟩, 6), (⟨"RungByHeart$Reader", "readNumber", "()V"⟩, 6), (⟨"RungByHeart$Reader", "emit", "(I)V"⟩, 6), (⟨"RungByHeart$Reader", "readClosing", "()V"⟩, 6), (⟨"RungByHeart", "ringDay", "(LRungByHeart$Field;LRungByHeart$Tower;I)V"⟩, 13), (⟨"RungByHeart", "ringNext", "(LRungByHeart$Field;LRungByHeart$Tower;)V"⟩, 13), (⟨"RungByHeart", "countSigns", "(LRungByHeart$Field;LRungByHeart$Tower;I)V"⟩, 13), (⟨"RungByHeart", "clearSigns", "()V"⟩, 13)]
theorem lw_r1 : ∀ q ∈ lw_privs_1, lw_okq q := List.forall_mem_cons.mpr ⟨lw_p0, List.forall_mem_cons.mpr ⟨lw_p1, List.forall_mem_cons.mpr ⟨lw_p2, List.forall_mem_cons.mpr ⟨lw_p3, List.forall_mem_cons.mpr ⟨lw_p4, List.forall_mem_cons.mpr ⟨lw_p5, List.forall_mem_cons.mpr ⟨lw_p6, List.forall_mem_cons.mpr ⟨lw_p7, List.forall_mem_cons.mpr ⟨lw_p8, List.forall_mem_cons.mpr ⟨lw_p9, List.forall_mem_cons.mpr ⟨lw_p10, List.forall_mem_cons.mpr ⟨lw_p11, List.forall_mem_cons.mpr ⟨lw_p12, List.forall_mem_cons.mpr ⟨lw_p13, List.forall_mem_cons.mpr ⟨lw_p14, List.forall_mem_cons.mpr ⟨lw_p15, fun _ h => absurd h List.not_mem_nil⟩⟩⟩⟩⟩⟩⟩⟩⟩⟩⟩⟩⟩⟩⟩⟩
theorem lw_p16 : lw_okq (⟨"RungByHeart", "addSign", "(II)V"⟩, 13) := ⟨⟨by decide +kernel, by decide +kernel⟩, List.mem_of_getElem? (i := 15) (by decide +kernel), List.mem_of_getElem? (i := 438) (by decide +kernel), List.mem_of_getElem? (i := 439) (by decide +kernel)⟩
theorem lw_p17 : lw_okq (⟨"RungByHeart", "nextStroke", "(LRungByHeart$Field;LRungByHeart$Tower;)I"⟩, 13) := ⟨⟨by decide +kernel, by decide +kernel⟩, List.mem_of_getElem? (i := 15) (by decide +kernel), List.mem_of_getElem? (i := 442) (by decide +kernel), List.mem_of_getElem? (i := 443) (by decide +kernel)⟩
theorem lw_p18 : lw_okq (⟨"RungByHeart$Law", "push", "(I)V"⟩, 4) := ⟨⟨by decide +kernel, by decide +kernel⟩, List.mem_of_getElem? (i := 97) (by decide +kernel), List.mem_of_getElem? (i := 454) (by decide +kernel), List.mem_of_getElem? (i := 455) (by decide +kernel)⟩
theorem lw_p19 : lw_okq (⟨"RungByHeart$Law", "pop", "()I"⟩, 4) := ⟨⟨by decide +kernel, by decide +kernel⟩, List.mem_of_getElem? (i := 97) (by decide +kernel), List.mem_of_getElem? (i := 458) (by decide +kernel), List.mem_of_getElem? (i := 459) (by decide +kernel)⟩
theorem lw_p20 : lw_okq (⟨"RungByHeart$Law", "workOut", "(I[ILRungByHeart$Tower;)V"⟩, 4) := ⟨⟨by decide +kernel, by decide +kernel⟩, List.mem_of_getElem? (i := 97) (by decide +kernel), List.mem_of_getElem? (i := 462) (by decide +kernel), List.mem_of_getElem? (i := 463) (by decide +kernel)⟩
theorem lw_p21 : lw_okq (⟨"RungByHeart", "thinkDeaf", "(I)V"⟩, 13) := ⟨⟨by decide +kernel, by decide +kernel⟩, List.mem_of_getElem? (i := 15) (by decide +kernel), List.mem_of_getElem? (i := 535) (by decide +kernel), List.mem_of_getElem? (i := 536) (by decide +kernel)⟩
theorem lw_p22 : lw_okq (⟨"RungByHeart", "endsBy", "(II)Z"⟩, 13) := ⟨⟨by decide +kernel, by decide +kernel⟩, List.mem_of_getElem? (i := 15) (by decide +kernel), List.mem_of_getElem? (i := 554) (by decide +kernel), List.mem_of_getElem? (i := 555) (by decide +kernel)⟩
theorem lw_p23 : lw_okq (⟨"RungByHeart", "isChurch", "(I)Z"⟩, 13) := ⟨⟨by decide +kernel, by decide +kernel⟩, List.mem_of_getElem? (i := 15) (by decide +kernel), List.mem_of_getElem? (i := 570) (by decide +kernel), List.mem_of_getElem? (i := 571) (by decide +kernel)⟩
theorem lw_p24 : lw_okq (⟨"RungByHeart", "ringBoth", "(II)V"⟩, 13) := ⟨⟨by decide +kernel, by decide +kernel⟩, List.mem_of_getElem? (i := 15) (by decide +kernel), List.mem_of_getElem? (i := 574) (by decide +kernel), List.mem_of_getElem? (i := 575) (by decide +kernel)⟩
theorem lw_p25 : lw_okq (⟨"RungByHeart", "alikeFrom", "()I"⟩, 13) := ⟨⟨by decide +kernel, by decide +kernel⟩, List.mem_of_getElem? (i := 15) (by decide +kernel), List.mem_of_getElem? (i := 582) (by decide +kernel), List.mem_of_getElem? (i := 583) (by decide +kernel)⟩
theorem lw_p26 : lw_okq (⟨"RungByHeart", "firstUnseen", "(LRungByHeart$Shelf;LRungByHeart$Field;I)I"⟩, 13) := ⟨⟨by decide +kernel, by decide +kernel⟩, List.mem_of_getElem? (i := 15) (by decide +kernel), List.mem_of_getElem? (i := 590) (by decide +kernel), List.mem_of_getElem? (i := 591) (by decide +kernel)⟩
theorem lw_p27 : lw_okq (⟨"RungByHeart", "think", "(III)V"⟩, 13) := ⟨⟨by decide +kernel, by decide +kernel⟩, List.mem_of_getElem? (i := 15) (by decide +kernel), List.mem_of_getElem? (i := 598) (by decide +kernel), List.mem_of_getElem? (i := 599) (by decide +kernel)⟩
theorem lw_p28 : lw_okq (⟨"RungByHeart", "firstUntold", "(LRungByHeart$Shelf;LRungByHeart$Field;)I"⟩, 13) := ⟨⟨by decide +kernel, by decide +kernel⟩, List.mem_of_getElem? (i := 15) (by decide +kernel), List.mem_of_getElem? (i := 614) (by decide +kernel), List.mem_of_getElem? (i := 615) (by decide +kernel)⟩
theorem lw_p29 : lw_okq (⟨"RungByHeart", "ringDrawn", "(II)I"⟩, 13) := ⟨⟨by decide +kernel, by decide +kernel⟩, List.mem_of_getElem? (i := 15) (by decide +kernel), List.mem_of_getElem? (i := 626) (by decide +kernel), List.mem_of_getElem? (i := 627) (by decide +kernel)⟩
theorem lw_p30 : lw_okq (⟨"RungByHeart", "rains", "(I)Z"⟩, 13) := ⟨⟨by decide +kernel, by decide +kernel⟩, List.mem_of_getElem? (i := 15) (by decide +kernel), List.mem_of_getElem? (i := 634) (by decide +kernel), List.mem_of_getElem? (i := 635) (by decide +kernel)⟩
theorem lw_p31 : lw_okq (⟨"RungByHeart", "beginDeed", "()V"⟩, 13) := ⟨⟨by decide +kernel, by decide +kernel⟩, List.mem_of_getElem? (i := 15) (by decide +kernel), List.mem_of_getElem? (i := 642) (by decide +kernel), List.mem_of_getElem? (i := 643) (by decide +kernel)⟩
def lw_privs_2 : List (MethodName × Nat) := [(⟨"RungByHeart", "addSign", "(II)V"⟩, 13), (⟨"RungByHeart", "nextStroke", "(LRungByHeart$Field;LRungByHeart$Tower;)I"⟩, 13), (⟨"RungByHeart$Law", "push", "(I)V"⟩, 4), (⟨"RungByHeart$Law", "pop", "()I"⟩, 4), (⟨"RungByHeart$Law", "workOut", "(I[ILRungByHeart$Tower;)V"⟩, 4), (⟨"RungByHeart", "thinkDeaf", "(I)V"⟩, 13), (⟨"RungByHeart", "endsBy", "(II)Z"⟩, 13), (⟨"RungByHeart", "isChurch", "(I)Z"⟩, 13), (⟨"RungByHeart", "ringBoth", "(II)V"⟩, 13), (⟨"RungByHeart", "alikeFrom", "()I"⟩, 13), (⟨"RungByHeart", "firstUnseen", "(LRungByHeart$Shelf;LRungByHeart$Field;I)I"⟩, 13), (⟨"RungByHeart", "think", "(III)V"⟩, 13), (⟨"RungByHeart", "firstUntold", "(LRungByHeart$Shelf;LRungByHeart$Field;)I"⟩, 13), (⟨"RungByHeart", "ringDrawn", "(II)I"⟩, 13), (⟨"RungByHeart", "rains", "(I)Z"⟩, 13), (⟨"RungByHeart", "beginDeed", "()V"⟩, 13)]
theorem lw_r2 : ∀ q ∈ lw_privs_2, lw_okq q := List.forall_mem_cons.mpr ⟨lw_p16, List.forall_mem_cons.mpr ⟨lw_p17, List.forall_mem_cons.mpr ⟨lw_p18, List.forall_mem_cons.mpr ⟨lw_p19, List.forall_mem_cons.mpr ⟨lw_p20, List.forall_mem_cons.mpr ⟨lw_p21, List.forall_mem_cons.mpr ⟨lw_p22, List.forall_mem_cons.mpr ⟨lw_p23, List.forall_mem_cons.mpr ⟨lw_p24, List.forall_mem_cons.mpr ⟨lw_p25, List.forall_mem_cons.mpr ⟨lw_p26, List.forall_mem_cons.mpr ⟨lw_p27, List.forall_mem_cons.mpr ⟨lw_p28, List.forall_mem_cons.mpr ⟨lw_p29, List.forall_mem_cons.mpr ⟨lw_p30, List.forall_mem_cons.mpr ⟨lw_p31, fun _ h => absurd h List.not_mem_nil⟩⟩⟩⟩⟩⟩⟩⟩⟩⟩⟩⟩⟩⟩⟩⟩
theorem lw_p32 : lw_okq (⟨"RungByHeart", "doingNow", "(I)I"⟩, 13) := ⟨⟨by decide +kernel, by decide +kernel⟩, List.mem_of_getElem? (i := 15) (by decide +kernel), List.mem_of_getElem? (i := 646) (by decide +kernel), List.mem_of_getElem? (i := 647) (by decide +kernel)⟩
theorem lw_p33 : lw_okq (⟨"RungByHeart$Strokes", "own", "(III)I"⟩, 5) := ⟨⟨by decide +kernel, by decide +kernel⟩, List.mem_of_getElem? (i := 176) (by decide +kernel), List.mem_of_getElem? (i := 741) (by decide +kernel), List.mem_of_getElem? (i := 742) (by decide +kernel)⟩
theorem lw_p34 : lw_okq (⟨"RungByHeart$Strokes", "run", "(IIII)I"⟩, 5) := ⟨⟨by decide +kernel, by decide +kernel⟩, List.mem_of_getElem? (i := 176) (by decide +kernel), List.mem_of_getElem? (i := 749) (by decide +kernel), List.mem_of_getElem? (i := 750) (by decide +kernel)⟩
theorem lw_p35 : lw_okq (⟨"RungByHeart$Strokes", "begin", "(I)V"⟩, 5) := ⟨⟨by decide +kernel, by decide +kernel⟩, List.mem_of_getElem? (i := 176) (by decide +kernel), List.mem_of_getElem? (i := 766) (by decide +kernel), List.mem_of_getElem? (i := 767) (by decide +kernel)⟩
theorem lw_p36 : lw_okq (⟨"RungByHeart$Shelf", "lowest", "(J)J"⟩, 4) := ⟨⟨by decide +kernel, by decide +kernel⟩, List.mem_of_getElem? (i := 201) (by decide +kernel), List.mem_of_getElem? (i := 814) (by decide +kernel), List.mem_of_getElem? (i := 815) (by decide +kernel)⟩
theorem lw_p37 : lw_okq (⟨"RungByHeartModel", "isIn", "(III)Z"⟩, 53) := ⟨⟨by decide +kernel, by decide +kernel⟩, List.mem_of_getElem? (i := 844) (by decide +kernel), List.mem_of_getElem? (i := 1015) (by decide +kernel), List.mem_of_getElem? (i := 1016) (by decide +kernel)⟩
theorem lw_p38 : lw_okq (⟨"RungByHeartModel", "adds", "(III)I"⟩, 53) := ⟨⟨by decide +kernel, by decide +kernel⟩, List.mem_of_getElem? (i := 844) (by decide +kernel), List.mem_of_getElem? (i := 1019) (by decide +kernel), List.mem_of_getElem? (i := 1020) (by decide +kernel)⟩
theorem lw_p39 : lw_okq (⟨"RungByHeartModel", "isShelf", "(I)Z"⟩, 53) := ⟨⟨by decide +kernel, by decide +kernel⟩, List.mem_of_getElem? (i := 844) (by decide +kernel), List.mem_of_getElem? (i := 1027) (by decide +kernel), List.mem_of_getElem? (i := 1028) (by decide +kernel)⟩
theorem lw_p40 : lw_okq (⟨"RungByHeartModel", "intAt", "(II)I"⟩, 53) := ⟨⟨by decide +kernel, by decide +kernel⟩, List.mem_of_getElem? (i := 844) (by decide +kernel), List.mem_of_getElem? (i := 1031) (by decide +kernel), List.mem_of_getElem? (i := 1032) (by decide +kernel)⟩
theorem lw_p41 : lw_okq (⟨"RungByHeartModel", "isNumber", "(II)Z"⟩, 53) := ⟨⟨by decide +kernel, by decide +kernel⟩, List.mem_of_getElem? (i := 844) (by decide +kernel), List.mem_of_getElem? (i := 1039) (by decide +kernel), List.mem_of_getElem? (i := 1040) (by decide +kernel)⟩
theorem lw_p42 : lw_okq (⟨"RungByHeartModel", "isFarm", "(I)Z"⟩, 53) := ⟨⟨by decide +kernel, by decide +kernel⟩, List.mem_of_getElem? (i := 844) (by decide +kernel), List.mem_of_getElem? (i := 1043) (by decide +kernel), List.mem_of_getElem? (i := 1044) (by decide +kernel)⟩
theorem lw_p43 : lw_okq (⟨"RungByHeartModel", "most", "(I)I"⟩, 53) := ⟨⟨by decide +kernel, by decide +kernel⟩, List.mem_of_getElem? (i := 844) (by decide +kernel), List.mem_of_getElem? (i := 1047) (by decide +kernel), List.mem_of_getElem? (i := 1048) (by decide +kernel)⟩
theorem lw_p44 : lw_okq (⟨"RungByHeartModel", "read", "(II)I"⟩, 53) := ⟨⟨by decide +kernel, by decide +kernel⟩, List.mem_of_getElem? (i := 844) (by decide +kernel), List.mem_of_getElem? (i := 1051) (by decide +kernel), List.mem_of_getElem? (i := 1052) (by decide +kernel)⟩
theorem lw_p45 : lw_okq (⟨"RungByHeartModel", "drops", "()V"⟩, 53) := ⟨⟨by decide +kernel, by decide +kernel⟩, List.mem_of_getElem? (i := 844) (by decide +kernel), List.mem_of_getElem? (i := 1055) (by decide +kernel), List.mem_of_getElem? (i := 1056) (by decide +kernel)⟩
theorem lw_p46 : lw_okq (⟨"RungByHeartModel", "write", "(III)V"⟩, 53) := ⟨⟨by decide +kernel, by decide +kernel⟩, List.mem_of_getElem? (i := 844) (by decide +kernel), List.mem_of_getElem? (i := 1059) (by decide +kernel), List.mem_of_getElem? (i := 1060) (by decide +kernel)⟩
theorem lw_p47 : lw_okq (⟨"RungByHeartModel", "rungNow", "()I"⟩, 53) := ⟨⟨by decide +kernel, by decide +kernel⟩, List.mem_of_getElem? (i := 844) (by decide +kernel), List.mem_of_getElem? (i := 1075) (by decide +kernel), List.mem_of_getElem? (i := 1076) (by decide +kernel)⟩
def lw_privs_3 : List (MethodName × Nat) := [(⟨"RungByHeart", "doingNow", "(I)I"⟩, 13), (⟨"RungByHeart$Strokes", "own", "(III)I"⟩, 5), (⟨"RungByHeart$Strokes", "run", "(IIII)I"⟩, 5), (⟨"RungByHeart$Strokes", "begin", "(I)V"⟩, 5), (⟨"RungByHeart$Shelf", "lowest", "(J)J"⟩, 4), (⟨"RungByHeartModel", "isIn", "(III)Z"⟩, 53), (⟨"RungByHeartModel", "adds", "(III)I"⟩, 53), (⟨"RungByHeartModel", "isShelf", "(I)Z"⟩, 53), (⟨"RungByHeartModel", "intAt", "(II)I"⟩, 53), (⟨"RungByHeartModel", "isNumber", "(II)Z"⟩, 53), (⟨"RungByHeartModel", "isFarm", "(I)Z"⟩, 53), (⟨"RungByHeartModel", "most", "(I)I"⟩, 53), (⟨"RungByHeartModel", "read", "(II)I"⟩, 53), (⟨"RungByHeartModel", "drops", "()V"⟩, 53), (⟨"RungByHeartModel", "write", "(III)V"⟩, 53), (⟨"RungByHeartModel", "rungNow", "()I"⟩, 53)]
theorem lw_r3 : ∀ q ∈ lw_privs_3, lw_okq q := List.forall_mem_cons.mpr ⟨lw_p32, List.forall_mem_cons.mpr ⟨lw_p33, List.forall_mem_cons.mpr ⟨lw_p34, List.forall_mem_cons.mpr ⟨lw_p35, List.forall_mem_cons.mpr ⟨lw_p36, List.forall_mem_cons.mpr ⟨lw_p37, List.forall_mem_cons.mpr ⟨lw_p38, List.forall_mem_cons.mpr ⟨lw_p39, List.forall_mem_cons.mpr ⟨lw_p40, List.forall_mem_cons.mpr ⟨lw_p41, List.forall_mem_cons.mpr ⟨lw_p42, List.forall_mem_cons.mpr ⟨lw_p43, List.forall_mem_cons.mpr ⟨lw_p44, List.forall_mem_cons.mpr ⟨lw_p45, List.forall_mem_cons.mpr ⟨lw_p46, List.forall_mem_cons.mpr ⟨lw_p47, fun _ h => absurd h List.not_mem_nil⟩⟩⟩⟩⟩⟩⟩⟩⟩⟩⟩⟩⟩⟩⟩⟩
theorem lw_p48 : lw_okq (⟨"RungByHeartModel", "readsLine", "()V"⟩, 53) := ⟨⟨by decide +kernel, by decide +kernel⟩, List.mem_of_getElem? (i := 844) (by decide +kernel), List.mem_of_getElem? (i := 1087) (by decide +kernel), List.mem_of_getElem? (i := 1088) (by decide +kernel)⟩
theorem lw_p49 : lw_okq (⟨"RungByHeartModel", "readsE", "()V"⟩, 53) := ⟨⟨by decide +kernel, by decide +kernel⟩, List.mem_of_getElem? (i := 844) (by decide +kernel), List.mem_of_getElem? (i := 1091) (by decide +kernel), List.mem_of_getElem? (i := 1092) (by decide +kernel)⟩
theorem lw_p50 : lw_okq (⟨"RungByHeartModel", "readsA", "()V"⟩, 53) := ⟨⟨by decide +kernel, by decide +kernel⟩, List.mem_of_getElem? (i := 844) (by decide +kernel), List.mem_of_getElem? (i := 1095) (by decide +kernel), List.mem_of_getElem? (i := 1096) (by decide +kernel)⟩
theorem lw_p51 : lw_okq (⟨"RungByHeartModel", "readsB", "()V"⟩, 53) := ⟨⟨by decide +kernel, by decide +kernel⟩, List.mem_of_getElem? (i := 844) (by decide +kernel), List.mem_of_getElem? (i := 1099) (by decide +kernel), List.mem_of_getElem? (i := 1100) (by decide +kernel)⟩
theorem lw_p52 : lw_okq (⟨"RungByHeartModel", "readsS", "()V"⟩, 53) := ⟨⟨by decide +kernel, by decide +kernel⟩, List.mem_of_getElem? (i := 844) (by decide +kernel), List.mem_of_getElem? (i := 1103) (by decide +kernel), List.mem_of_getElem? (i := 1104) (by decide +kernel)⟩
theorem lw_p53 : lw_okq (⟨"RungByHeartModel", "readsP", "()V"⟩, 53) := ⟨⟨by decide +kernel, by decide +kernel⟩, List.mem_of_getElem? (i := 844) (by decide +kernel), List.mem_of_getElem? (i := 1107) (by decide +kernel), List.mem_of_getElem? (i := 1108) (by decide +kernel)⟩
theorem lw_p54 : lw_okq (⟨"RungByHeartModel", "readsO", "()V"⟩, 53) := ⟨⟨by decide +kernel, by decide +kernel⟩, List.mem_of_getElem? (i := 844) (by decide +kernel), List.mem_of_getElem? (i := 1111) (by decide +kernel), List.mem_of_getElem? (i := 1112) (by decide +kernel)⟩
theorem lw_p55 : lw_okq (⟨"RungByHeartModel", "next", "()I"⟩, 53) := ⟨⟨by decide +kernel, by decide +kernel⟩, List.mem_of_getElem? (i := 844) (by decide +kernel), List.mem_of_getElem? (i := 1115) (by decide +kernel), List.mem_of_getElem? (i := 1116) (by decide +kernel)⟩
theorem lw_p56 : lw_okq (⟨"RungByHeartModel", "isDigit", "(I)Z"⟩, 53) := ⟨⟨by decide +kernel, by decide +kernel⟩, List.mem_of_getElem? (i := 844) (by decide +kernel), List.mem_of_getElem? (i := 1119) (by decide +kernel), List.mem_of_getElem? (i := 1120) (by decide +kernel)⟩
theorem lw_p57 : lw_okq (⟨"RungByHeartModel", "isName", "(I)Z"⟩, 53) := ⟨⟨by decide +kernel, by decide +kernel⟩, List.mem_of_getElem? (i := 844) (by decide +kernel), List.mem_of_getElem? (i := 1123) (by decide +kernel), List.mem_of_getElem? (i := 1124) (by decide +kernel)⟩
theorem lw_p58 : lw_okq (⟨"RungByHeartModel", "isNext", "(C)Z"⟩, 53) := ⟨⟨by decide +kernel, by decide +kernel⟩, List.mem_of_getElem? (i := 844) (by decide +kernel), List.mem_of_getElem? (i := 1127) (by decide +kernel), List.mem_of_getElem? (i := 1128) (by decide +kernel)⟩
theorem lw_p59 : lw_okq (⟨"RungByHeartModel", "isMinute", "(I)Z"⟩, 53) := ⟨⟨by decide +kernel, by decide +kernel⟩, List.mem_of_getElem? (i := 844) (by decide +kernel), List.mem_of_getElem? (i := 1135) (by decide +kernel), List.mem_of_getElem? (i := 1136) (by decide +kernel)⟩
theorem lw_p60 : lw_okq (⟨"RungByHeartModel", "goesPlain", "(I)V"⟩, 53) := ⟨⟨by decide +kernel, by decide +kernel⟩, List.mem_of_getElem? (i := 844) (by decide +kernel), List.mem_of_getElem? (i := 1139) (by decide +kernel), List.mem_of_getElem? (i := 1140) (by decide +kernel)⟩
theorem lw_p61 : lw_okq (⟨"RungByHeartModel", "plain", "()V"⟩, 53) := ⟨⟨by decide +kernel, by decide +kernel⟩, List.mem_of_getElem? (i := 844) (by decide +kernel), List.mem_of_getElem? (i := 1143) (by decide +kernel), List.mem_of_getElem? (i := 1144) (by decide +kernel)⟩
theorem lw_p62 : lw_okq (⟨"RungByHeartModel", "goes", "(I)V"⟩, 53) := ⟨⟨by decide +kernel, by decide +kernel⟩, List.mem_of_getElem? (i := 844) (by decide +kernel), List.mem_of_getElem? (i := 1147) (by decide +kernel), List.mem_of_getElem? (i := 1148) (by decide +kernel)⟩
theorem lw_p63 : lw_okq (⟨"RungByHeartModel", "counts", "(I)V"⟩, 53) := ⟨⟨by decide +kernel, by decide +kernel⟩, List.mem_of_getElem? (i := 844) (by decide +kernel), List.mem_of_getElem? (i := 1151) (by decide +kernel), List.mem_of_getElem? (i := 1152) (by decide +kernel)⟩
def lw_privs_4 : List (MethodName × Nat) := [(⟨"RungByHeartModel", "readsLine", "()V"⟩, 53), (⟨"RungByHeartModel", "readsE", "()V"⟩, 53), (⟨"RungByHeartModel", "readsA", "()V"⟩, 53), (⟨"RungByHeartModel", "readsB", "()V"⟩, 53), (⟨"RungByHeartModel", "readsS", "()V"⟩, 53), (⟨"RungByHeartModel", "readsP", "()V"⟩, 53), (⟨"RungByHeartModel", "readsO", "()V"⟩, 53), (⟨"RungByHeartModel", "next", "()I"⟩, 53), (⟨"RungByHeartModel", "isDigit", "(I)Z"⟩, 53), (⟨"RungByHeartModel", "isName", "(I)Z"⟩, 53), (⟨"RungByHeartModel", "isNext", "(C)Z"⟩, 53), (⟨"RungByHeartModel", "isMinute", "(I)Z"⟩, 53), (⟨"RungByHeartModel", "goesPlain", "(I)V"⟩, 53), (⟨"RungByHeartModel", "plain", "()V"⟩, 53), (⟨"RungByHeartModel", "goes", "(I)V"⟩, 53), (⟨"RungByHeartModel", "counts", "(I)V"⟩, 53)]
theorem lw_r4 : ∀ q ∈ lw_privs_4, lw_okq q := List.forall_mem_cons.mpr ⟨lw_p48, List.forall_mem_cons.mpr ⟨lw_p49, List.forall_mem_cons.mpr ⟨lw_p50, List.forall_mem_cons.mpr ⟨lw_p51, List.forall_mem_cons.mpr ⟨lw_p52, List.forall_mem_cons.mpr ⟨lw_p53, List.forall_mem_cons.mpr ⟨lw_p54, List.forall_mem_cons.mpr ⟨lw_p55, List.forall_mem_cons.mpr ⟨lw_p56, List.forall_mem_cons.mpr ⟨lw_p57, List.forall_mem_cons.mpr ⟨lw_p58, List.forall_mem_cons.mpr ⟨lw_p59, List.forall_mem_cons.mpr ⟨lw_p60, List.forall_mem_cons.mpr ⟨lw_p61, List.forall_mem_cons.mpr ⟨lw_p62, List.forall_mem_cons.mpr ⟨lw_p63, fun _ h => absurd h List.not_mem_nil⟩⟩⟩⟩⟩⟩⟩⟩⟩⟩⟩⟩⟩⟩⟩⟩
theorem lw_p64 : lw_okq (⟨"RungByHeartModel", "sign", "(II)I"⟩, 53) := ⟨⟨by decide +kernel, by decide +kernel⟩, List.mem_of_getElem? (i := 844) (by decide +kernel), List.mem_of_getElem? (i := 1155) (by decide +kernel), List.mem_of_getElem? (i := 1156) (by decide +kernel)⟩
theorem lw_p65 : lw_okq (⟨"RungByHeartModel", "has", "(II)Z"⟩, 53) := ⟨⟨by decide +kernel, by decide +kernel⟩, List.mem_of_getElem? (i := 844) (by decide +kernel), List.mem_of_getElem? (i := 1159) (by decide +kernel), List.mem_of_getElem? (i := 1160) (by decide +kernel)⟩
theorem lw_p66 : lw_okq (⟨"RungByHeartModel", "signOf", "([III)I"⟩, 53) := ⟨⟨by decide +kernel, by decide +kernel⟩, List.mem_of_getElem? (i := 844) (by decide +kernel), List.mem_of_getElem? (i := 1163) (by decide +kernel), List.mem_of_getElem? (i := 1164) (by decide +kernel)⟩
theorem lw_p67 : lw_okq (⟨"RungByHeartModel", "rungAt", "([II)I"⟩, 53) := ⟨⟨by decide +kernel, by decide +kernel⟩, List.mem_of_getElem? (i := 844) (by decide +kernel), List.mem_of_getElem? (i := 1167) (by decide +kernel), List.mem_of_getElem? (i := 1168) (by decide +kernel)⟩
theorem lw_p68 : lw_okq (⟨"RungByHeartModel", "rungNext", "([II)I"⟩, 53) := ⟨⟨by decide +kernel, by decide +kernel⟩, List.mem_of_getElem? (i := 844) (by decide +kernel), List.mem_of_getElem? (i := 1171) (by decide +kernel), List.mem_of_getElem? (i := 1172) (by decide +kernel)⟩
theorem lw_p69 : lw_okq (⟨"RungByHeartModel", "given", "()I"⟩, 53) := ⟨⟨by decide +kernel, by decide +kernel⟩, List.mem_of_getElem? (i := 844) (by decide +kernel), List.mem_of_getElem? (i := 1175) (by decide +kernel), List.mem_of_getElem? (i := 1176) (by decide +kernel)⟩
theorem lw_p70 : lw_okq (⟨"RungByHeartModel", "takesE", "()I"⟩, 53) := ⟨⟨by decide +kernel, by decide +kernel⟩, List.mem_of_getElem? (i := 844) (by decide +kernel), List.mem_of_getElem? (i := 1179) (by decide +kernel), List.mem_of_getElem? (i := 1180) (by decide +kernel)⟩
theorem lw_p71 : lw_okq (⟨"RungByHeartModel", "takesA", "()I"⟩, 53) := ⟨⟨by decide +kernel, by decide +kernel⟩, List.mem_of_getElem? (i := 844) (by decide +kernel), List.mem_of_getElem? (i := 1183) (by decide +kernel), List.mem_of_getElem? (i := 1184) (by decide +kernel)⟩
theorem lw_p72 : lw_okq (⟨"RungByHeartModel", "takesB", "()I"⟩, 53) := ⟨⟨by decide +kernel, by decide +kernel⟩, List.mem_of_getElem? (i := 844) (by decide +kernel), List.mem_of_getElem? (i := 1187) (by decide +kernel), List.mem_of_getElem? (i := 1188) (by decide +kernel)⟩
theorem lw_p73 : lw_okq (⟨"RungByHeartModel", "takesS", "()I"⟩, 53) := ⟨⟨by decide +kernel, by decide +kernel⟩, List.mem_of_getElem? (i := 844) (by decide +kernel), List.mem_of_getElem? (i := 1191) (by decide +kernel), List.mem_of_getElem? (i := 1192) (by decide +kernel)⟩
theorem lw_p74 : lw_okq (⟨"RungByHeartModel", "takesP", "()I"⟩, 53) := ⟨⟨by decide +kernel, by decide +kernel⟩, List.mem_of_getElem? (i := 844) (by decide +kernel), List.mem_of_getElem? (i := 1195) (by decide +kernel), List.mem_of_getElem? (i := 1196) (by decide +kernel)⟩
theorem lw_p75 : lw_okq (⟨"RungByHeartModel", "takesO", "()I"⟩, 53) := ⟨⟨by decide +kernel, by decide +kernel⟩, List.mem_of_getElem? (i := 844) (by decide +kernel), List.mem_of_getElem? (i := 1199) (by decide +kernel), List.mem_of_getElem? (i := 1200) (by decide +kernel)⟩
theorem lw_p76 : lw_okq (⟨"RungByHeartModel", "seen", "()I"⟩, 53) := ⟨⟨by decide +kernel, by decide +kernel⟩, List.mem_of_getElem? (i := 844) (by decide +kernel), List.mem_of_getElem? (i := 1203) (by decide +kernel), List.mem_of_getElem? (i := 1204) (by decide +kernel)⟩
theorem lw_p77 : lw_okq (⟨"RungByHeartModel", "one", "(Z)I"⟩, 53) := ⟨⟨by decide +kernel, by decide +kernel⟩, List.mem_of_getElem? (i := 844) (by decide +kernel), List.mem_of_getElem? (i := 1207) (by decide +kernel), List.mem_of_getElem? (i := 1208) (by decide +kernel)⟩
theorem lw_p78 : lw_okq (⟨"RungByHeartModel", "isSeen", "(C)Z"⟩, 53) := ⟨⟨by decide +kernel, by decide +kernel⟩, List.mem_of_getElem? (i := 844) (by decide +kernel), List.mem_of_getElem? (i := 1211) (by decide +kernel), List.mem_of_getElem? (i := 1212) (by decide +kernel)⟩
theorem lw_p79 : lw_okq (⟨"RungByHeartModel", "isAgain", "(II)Z"⟩, 53) := ⟨⟨by decide +kernel, by decide +kernel⟩, List.mem_of_getElem? (i := 844) (by decide +kernel), List.mem_of_getElem? (i := 1227) (by decide +kernel), List.mem_of_getElem? (i := 1228) (by decide +kernel)⟩
def lw_privs_5 : List (MethodName × Nat) := [(⟨"RungByHeartModel", "sign", "(II)I"⟩, 53), (⟨"RungByHeartModel", "has", "(II)Z"⟩, 53), (⟨"RungByHeartModel", "signOf", "([III)I"⟩, 53), (⟨"RungByHeartModel", "rungAt", "([II)I"⟩, 53), (⟨"RungByHeartModel", "rungNext", "([II)I"⟩, 53), (⟨"RungByHeartModel", "given", "()I"⟩, 53), (⟨"RungByHeartModel", "takesE", "()I"⟩, 53), (⟨"RungByHeartModel", "takesA", "()I"⟩, 53), (⟨"RungByHeartModel", "takesB", "()I"⟩, 53), (⟨"RungByHeartModel", "takesS", "()I"⟩, 53), (⟨"RungByHeartModel", "takesP", "()I"⟩, 53), (⟨"RungByHeartModel", "takesO", "()I"⟩, 53), (⟨"RungByHeartModel", "seen", "()I"⟩, 53), (⟨"RungByHeartModel", "one", "(Z)I"⟩, 53), (⟨"RungByHeartModel", "isSeen", "(C)Z"⟩, 53), (⟨"RungByHeartModel", "isAgain", "(II)Z"⟩, 53)]
theorem lw_r5 : ∀ q ∈ lw_privs_5, lw_okq q := List.forall_mem_cons.mpr ⟨lw_p64, List.forall_mem_cons.mpr ⟨lw_p65, List.forall_mem_cons.mpr ⟨lw_p66, List.forall_mem_cons.mpr ⟨lw_p67, List.forall_mem_cons.mpr ⟨lw_p68, List.forall_mem_cons.mpr ⟨lw_p69, List.forall_mem_cons.mpr ⟨lw_p70, List.forall_mem_cons.mpr ⟨lw_p71, List.forall_mem_cons.mpr ⟨lw_p72, List.forall_mem_cons.mpr ⟨lw_p73, List.forall_mem_cons.mpr ⟨lw_p74, List.forall_mem_cons.mpr ⟨lw_p75, List.forall_mem_cons.mpr ⟨lw_p76, List.forall_mem_cons.mpr ⟨lw_p77, List.forall_mem_cons.mpr ⟨lw_p78, List.forall_mem_cons.mpr ⟨lw_p79, fun _ h => absurd h List.not_mem_nil⟩⟩⟩⟩⟩⟩⟩⟩⟩⟩⟩⟩⟩⟩⟩⟩
theorem lw_p80 : lw_okq (⟨"RungByHeartModel", "end", "()I"⟩, 53) := ⟨⟨by decide +kernel, by decide +kernel⟩, List.mem_of_getElem? (i := 844) (by decide +kernel), List.mem_of_getElem? (i := 1235) (by decide +kernel), List.mem_of_getElem? (i := 1236) (by decide +kernel)⟩
theorem lw_p81 : lw_okq (⟨"RungByHeartModel", "endOr", "(I)I"⟩, 53) := ⟨⟨by decide +kernel, by decide +kernel⟩, List.mem_of_getElem? (i := 844) (by decide +kernel), List.mem_of_getElem? (i := 1239) (by decide +kernel), List.mem_of_getElem? (i := 1240) (by decide +kernel)⟩
theorem lw_p82 : lw_okq (⟨"RungByHeartModel", "barsOf", "(I)I"⟩, 53) := ⟨⟨by decide +kernel, by decide +kernel⟩, List.mem_of_getElem? (i := 844) (by decide +kernel), List.mem_of_getElem? (i := 1251) (by decide +kernel), List.mem_of_getElem? (i := 1252) (by decide +kernel)⟩
theorem lw_p83 : lw_okq (⟨"RungByHeartModel", "endWithout", "(I)I"⟩, 53) := ⟨⟨by decide +kernel, by decide +kernel⟩, List.mem_of_getElem? (i := 844) (by decide +kernel), List.mem_of_getElem? (i := 1259) (by decide +kernel), List.mem_of_getElem? (i := 1260) (by decide +kernel)⟩
theorem lw_p84 : lw_okq (⟨"RungByHeartModel", "ones", "(I)I"⟩, 53) := ⟨⟨by decide +kernel, by decide +kernel⟩, List.mem_of_getElem? (i := 844) (by decide +kernel), List.mem_of_getElem? (i := 1267) (by decide +kernel), List.mem_of_getElem? (i := 1268) (by decide +kernel)⟩
theorem lw_p85 : lw_okq (⟨"RungByHeartModel", "keepsDay", "()V"⟩, 53) := ⟨⟨by decide +kernel, by decide +kernel⟩, List.mem_of_getElem? (i := 844) (by decide +kernel), List.mem_of_getElem? (i := 1275) (by decide +kernel), List.mem_of_getElem? (i := 1276) (by decide +kernel)⟩
theorem lw_p86 : lw_okq (⟨"RungByHeartModel", "isChurch", "(I)Z"⟩, 53) := ⟨⟨by decide +kernel, by decide +kernel⟩, List.mem_of_getElem? (i := 844) (by decide +kernel), List.mem_of_getElem? (i := 1287) (by decide +kernel), List.mem_of_getElem? (i := 1288) (by decide +kernel)⟩
theorem lw_p87 : lw_okq (⟨"RungByHeartModel", "goesBoth", "(II)V"⟩, 53) := ⟨⟨by decide +kernel, by decide +kernel⟩, List.mem_of_getElem? (i := 844) (by decide +kernel), List.mem_of_getElem? (i := 1291) (by decide +kernel), List.mem_of_getElem? (i := 1292) (by decide +kernel)⟩
theorem lw_p88 : lw_okq (⟨"RungByHeartModel", "barsFor", "(II)I"⟩, 53) := ⟨⟨by decide +kernel, by decide +kernel⟩, List.mem_of_getElem? (i := 844) (by decide +kernel), List.mem_of_getElem? (i := 1303) (by decide +kernel), List.mem_of_getElem? (i := 1304) (by decide +kernel)⟩
theorem lw_p89 : lw_okq (⟨"RungByHeartModel", "unlike", "(II)I"⟩, 53) := ⟨⟨by decide +kernel, by decide +kernel⟩, List.mem_of_getElem? (i := 844) (by decide +kernel), List.mem_of_getElem? (i := 1307) (by decide +kernel), List.mem_of_getElem? (i := 1308) (by decide +kernel)⟩
theorem lw_p90 : lw_okq (⟨"RungByHeartModel", "unlikeRung", "(II)I"⟩, 53) := ⟨⟨by decide +kernel, by decide +kernel⟩, List.mem_of_getElem? (i := 844) (by decide +kernel), List.mem_of_getElem? (i := 1327) (by decide +kernel), List.mem_of_getElem? (i := 1328) (by decide +kernel)⟩
theorem lw_p91 : lw_okq (⟨"RungByHeartModel", "rings", "(III)I"⟩, 53) := ⟨⟨by decide +kernel, by decide +kernel⟩, List.mem_of_getElem? (i := 844) (by decide +kernel), List.mem_of_getElem? (i := 1372) (by decide +kernel), List.mem_of_getElem? (i := 1373) (by decide +kernel)⟩
theorem lw_p92 : lw_okq (⟨"RungByHeartModel", "runs", "(I)V"⟩, 53) := ⟨⟨by decide +kernel, by decide +kernel⟩, List.mem_of_getElem? (i := 844) (by decide +kernel), List.mem_of_getElem? (i := 1376) (by decide +kernel), List.mem_of_getElem? (i := 1377) (by decide +kernel)⟩
theorem lw_p93 : lw_okq (⟨"RungByHeartModel", "above", "(I)I"⟩, 53) := ⟨⟨by decide +kernel, by decide +kernel⟩, List.mem_of_getElem? (i := 844) (by decide +kernel), List.mem_of_getElem? (i := 1380) (by decide +kernel), List.mem_of_getElem? (i := 1381) (by decide +kernel)⟩
theorem lw_p94 : lw_okq (⟨"RungByHeartModel", "hears", "(III)I"⟩, 53) := ⟨⟨by decide +kernel, by decide +kernel⟩, List.mem_of_getElem? (i := 844) (by decide +kernel), List.mem_of_getElem? (i := 1384) (by decide +kernel), List.mem_of_getElem? (i := 1385) (by decide +kernel)⟩
theorem lw_p95 : lw_okq (⟨"RungByHeartModel", "doing", "(III)I"⟩, 53) := ⟨⟨by decide +kernel, by decide +kernel⟩, List.mem_of_getElem? (i := 844) (by decide +kernel), List.mem_of_getElem? (i := 1388) (by decide +kernel), List.mem_of_getElem? (i := 1389) (by decide +kernel)⟩
def lw_privs_6 : List (MethodName × Nat) := [(⟨"RungByHeartModel", "end", "()I"⟩, 53), (⟨"RungByHeartModel", "endOr", "(I)I"⟩, 53), (⟨"RungByHeartModel", "barsOf", "(I)I"⟩, 53), (⟨"RungByHeartModel", "endWithout", "(I)I"⟩, 53), (⟨"RungByHeartModel", "ones", "(I)I"⟩, 53), (⟨"RungByHeartModel", "keepsDay", "()V"⟩, 53), (⟨"RungByHeartModel", "isChurch", "(I)Z"⟩, 53), (⟨"RungByHeartModel", "goesBoth", "(II)V"⟩, 53), (⟨"RungByHeartModel", "barsFor", "(II)I"⟩, 53), (⟨"RungByHeartModel", "unlike", "(II)I"⟩, 53), (⟨"RungByHeartModel", "unlikeRung", "(II)I"⟩, 53), (⟨"RungByHeartModel", "rings", "(III)I"⟩, 53), (⟨"RungByHeartModel", "runs", "(I)V"⟩, 53), (⟨"RungByHeartModel", "above", "(I)I"⟩, 53), (⟨"RungByHeartModel", "hears", "(III)I"⟩, 53), (⟨"RungByHeartModel", "doing", "(III)I"⟩, 53)]
theorem lw_r6 : ∀ q ∈ lw_privs_6, lw_okq q := List.forall_mem_cons.mpr ⟨lw_p80, List.forall_mem_cons.mpr ⟨lw_p81, List.forall_mem_cons.mpr ⟨lw_p82, List.forall_mem_cons.mpr ⟨lw_p83, List.forall_mem_cons.mpr ⟨lw_p84, List.forall_mem_cons.mpr ⟨lw_p85, List.forall_mem_cons.mpr ⟨lw_p86, List.forall_mem_cons.mpr ⟨lw_p87, List.forall_mem_cons.mpr ⟨lw_p88, List.forall_mem_cons.mpr ⟨lw_p89, List.forall_mem_cons.mpr ⟨lw_p90, List.forall_mem_cons.mpr ⟨lw_p91, List.forall_mem_cons.mpr ⟨lw_p92, List.forall_mem_cons.mpr ⟨lw_p93, List.forall_mem_cons.mpr ⟨lw_p94, List.forall_mem_cons.mpr ⟨lw_p95, fun _ h => absurd h List.not_mem_nil⟩⟩⟩⟩⟩⟩⟩⟩⟩⟩⟩⟩⟩⟩⟩⟩
theorem lw_p96 : lw_okq (⟨"RungByHeartModel", "tells", "(III)I"⟩, 53) := ⟨⟨by decide +kernel, by decide +kernel⟩, List.mem_of_getElem? (i := 844) (by decide +kernel), List.mem_of_getElem? (i := 1392) (by decide +kernel), List.mem_of_getElem? (i := 1393) (by decide +kernel)⟩
theorem lw_p97 : lw_okq (⟨"RungByHeartModel", "barsOfRow", "(I)I"⟩, 53) := ⟨⟨by decide +kernel, by decide +kernel⟩, List.mem_of_getElem? (i := 844) (by decide +kernel), List.mem_of_getElem? (i := 1412) (by decide +kernel), List.mem_of_getElem? (i := 1413) (by decide +kernel)⟩
theorem lw_p98 : lw_okq (⟨"RungByHeartModel", "isElement", "(II)Z"⟩, 53) := ⟨⟨by decide +kernel, by decide +kernel⟩, List.mem_of_getElem? (i := 844) (by decide +kernel), List.mem_of_getElem? (i := 1416) (by decide +kernel), List.mem_of_getElem? (i := 1417) (by decide +kernel)⟩
def lw_privs_7 : List (MethodName × Nat) := [(⟨"RungByHeartModel", "tells", "(III)I"⟩, 53), (⟨"RungByHeartModel", "barsOfRow", "(I)I"⟩, 53), (⟨"RungByHeartModel", "isElement", "(II)Z"⟩, 53)]
theorem lw_r7 : ∀ q ∈ lw_privs_7, lw_okq q := List.forall_mem_cons.mpr ⟨lw_p96, List.forall_mem_cons.mpr ⟨lw_p97, List.forall_mem_cons.mpr ⟨lw_p98, fun _ h => absurd h List.not_mem_nil⟩⟩⟩
def lw_privs : List (MethodName × Nat) := lw_privs_1 ++ (lw_privs_2 ++ (lw_privs_3 ++ (lw_privs_4 ++ (lw_privs_5 ++ (lw_privs_6 ++ (lw_privs_7))))))
def lw_tbl : List Cond := k2_sels lw_privs ++ tables_1
theorem lw_privs_ok : ∀ q ∈ lw_privs, lw_okq q := by
  show ∀ q ∈ lw_privs_1 ++ (lw_privs_2 ++ (lw_privs_3 ++ (lw_privs_4 ++ (lw_privs_5 ++ (lw_privs_6 ++ (lw_privs_7)))))), lw_okq q
  exact List.forall_mem_append.mpr ⟨lw_r1, List.forall_mem_append.mpr ⟨lw_r2, List.forall_mem_append.mpr ⟨lw_r3, List.forall_mem_append.mpr ⟨lw_r4, List.forall_mem_append.mpr ⟨lw_r5, List.forall_mem_append.mpr ⟨lw_r6, lw_r7⟩⟩⟩⟩⟩⟩
end
section
/-! ===== BEGIN printed: names, fields, word lists, decode rows ===== -/
def RX0 : String := "RungByHeart$Changes"
def TX0 : u_T := fun k => match k with
  | 0 => ("RungByHeart$Changes", "slots", "[I", true)
  | 1 => ("RungByHeart$Changes", "was", "[I", true)
  | 2 => ("RungByHeart$Changes", "became", "[I", true)
  | 3 => ("RungByHeart$Changes", "done", "I", false)
  | _ => ("RungByHeart$Changes", "size", "I", false)
def tyX0 : Nat → FieldType := fun k => match k with
  | 0 => .array .int
  | 1 => .array .int
  | 2 => .array .int
  | 3 => .int
  | _ => .int
abbrev wsX00 : List Cond := u_ws RX0 TX0 5
theorem nmX0 : ∀ a, a < 5 → ∀ b, b < 5 → a ≠ b → (TX0 a).2.1 ≠ (TX0 b).2.1 := by decide +kernel
theorem tyX0_ok : ∀ k, k < 5 → parseFieldDescriptor (TX0 k).2.2.1 = some (tyX0 k) := by decide +kernel
abbrev cX0_init : ByteArray := prog_2_method_1_code
def yX0_init : MethodName := ⟨RX0, "<init>", "()V"⟩
abbrev cX0_add : ByteArray := prog_2_method_2_code
def yX0_add : MethodName := ⟨RX0, "add", "(III)V"⟩
abbrev cX0_dropOldest : ByteArray := prog_2_method_3_code
def yX0_dropOldest : MethodName := ⟨RX0, "dropOldest", "()V"⟩
abbrev cX0_isKept : ByteArray := prog_2_method_4_code
def yX0_isKept : MethodName := ⟨RX0, "isKept", "(I)Z"⟩
abbrev cX0_slotAt : ByteArray := prog_2_method_5_code
def yX0_slotAt : MethodName := ⟨RX0, "slotAt", "(I)I"⟩
abbrev cX0_wasAt : ByteArray := prog_2_method_6_code
def yX0_wasAt : MethodName := ⟨RX0, "wasAt", "(I)I"⟩
abbrev cX0_becameAt : ByteArray := prog_2_method_7_code
def yX0_becameAt : MethodName := ⟨RX0, "becameAt", "(I)I"⟩
def RX1 : String := "RungByHeart$Deed"
def TX1 : u_T := fun k => match k with
  | 0 => ("RungByHeart$Deed", "tower", "LRungByHeart$Tower;", true)
  | 1 => ("RungByHeart$Deed", "told", "[I", true)
  | 2 => ("RungByHeart$Deed", "minutes", "I", false)
  | 3 => ("RungByHeart$Deed", "strokes", "I", false)
  | 4 => ("RungByHeart$Deed", "tellings", "I", false)
  | _ => ("RungByHeart$Deed", "days", "I", false)
def tyX1 : Nat → FieldType := fun k => match k with
  | 0 => .object "RungByHeart$Tower"
  | 1 => .array .int
  | 2 => .int
  | 3 => .int
  | 4 => .int
  | _ => .int
abbrev wsX10 : List Cond := u_ws RX1 TX1 6
theorem nmX1 : ∀ a, a < 6 → ∀ b, b < 6 → a ≠ b → (TX1 a).2.1 ≠ (TX1 b).2.1 := by decide +kernel
theorem tyX1_ok : ∀ k, k < 6 → parseFieldDescriptor (TX1 k).2.2.1 = some (tyX1 k) := by decide +kernel
abbrev cX1_init : ByteArray := prog_3_method_1_code
def yX1_init : MethodName := ⟨RX1, "<init>", "()V"⟩
abbrev cX1_forgetTold : ByteArray := prog_3_method_2_code
def yX1_forgetTold : MethodName := ⟨RX1, "forgetTold", "()V"⟩
abbrev cX1_toldTo : ByteArray := prog_3_method_3_code
def yX1_toldTo : MethodName := ⟨RX1, "toldTo", "(I)I"⟩
abbrev cX1_hearTold : ByteArray := prog_3_method_4_code
def yX1_hearTold : MethodName := ⟨RX1, "hearTold", "(II)V"⟩
abbrev cX1_ringOn : ByteArray := prog_3_method_5_code
def yX1_ringOn : MethodName := ⟨RX1, "ringOn", "(I)V"⟩
abbrev cX1_beginAnew : ByteArray := prog_3_method_6_code
def yX1_beginAnew : MethodName := ⟨RX1, "beginAnew", "()V"⟩
abbrev cX1_copyOf : ByteArray := prog_3_method_7_code
def yX1_copyOf : MethodName := ⟨RX1, "copyOf", "(LRungByHeart$Deed;)V"⟩
def RX2 : String := "RungByHeart$Field"
def TX2 : u_T := fun k => match k with
  | 0 => ("RungByHeart$Field", "numbers", "[I", true)
  | _ => ("RungByHeart$Field", "farms", "I", false)
def tyX2 : Nat → FieldType := fun k => match k with
  | 0 => .array .int
  | _ => .int
abbrev wsX20 : List Cond := u_ws RX2 TX2 2
theorem nmX2 : ∀ a, a < 2 → ∀ b, b < 2 → a ≠ b → (TX2 a).2.1 ≠ (TX2 b).2.1 := by decide +kernel
theorem tyX2_ok : ∀ k, k < 2 → parseFieldDescriptor (TX2 k).2.2.1 = some (tyX2 k) := by decide +kernel
abbrev cX2_init : ByteArray := prog_4_method_1_code
def yX2_init : MethodName := ⟨RX2, "<init>", "()V"⟩
abbrev cX2_copyOf : ByteArray := prog_4_method_2_code
def yX2_copyOf : MethodName := ⟨RX2, "copyOf", "(LRungByHeart$Field;)V"⟩
abbrev cX2_isFarm : ByteArray := prog_4_method_3_code
def yX2_isFarm : MethodName := ⟨RX2, "isFarm", "(I)Z"⟩
abbrev cX2_slotOf : ByteArray := prog_4_method_4_code
def yX2_slotOf : MethodName := ⟨RX2, "slotOf", "(II)I"⟩
abbrev cX2_value : ByteArray := prog_4_method_5_code
def yX2_value : MethodName := ⟨RX2, "value", "(I)I"⟩
abbrev cX2_write : ByteArray := prog_4_method_6_code
def yX2_write : MethodName := ⟨RX2, "write", "(II)V"⟩
abbrev cX2_common : ByteArray := prog_4_method_7_code
def yX2_common : MethodName := ⟨RX2, "common", "(I)I"⟩
abbrev cX2_add : ByteArray := prog_4_method_8_code
def yX2_add : MethodName := ⟨RX2, "add", "(III)I"⟩
abbrev cX2_doing : ByteArray := prog_4_method_9_code
def yX2_doing : MethodName := ⟨RX2, "doing", "(IILRungByHeart$Tower;)I"⟩
abbrev cX2_barks : ByteArray := prog_4_method_10_code
def yX2_barks : MethodName := ⟨RX2, "barks", "(II)Z"⟩
def RX3 : String := "RungByHeart$Law"
def TX3 : u_T := fun k => match k with
  | 0 => ("RungByHeart$Law", "code", "[I", true)
  | 1 => ("RungByHeart$Law", "size", "I", false)
  | 2 => ("RungByHeart$Law", "stack", "[I", true)
  | _ => ("RungByHeart$Law", "top", "I", false)
def tyX3 : Nat → FieldType := fun k => match k with
  | 0 => .array .int
  | 1 => .int
  | 2 => .array .int
  | _ => .int
abbrev wsX30 : List Cond := u_ws RX3 TX3 4
theorem nmX3 : ∀ a, a < 4 → ∀ b, b < 4 → a ≠ b → (TX3 a).2.1 ≠ (TX3 b).2.1 := by decide +kernel
theorem tyX3_ok : ∀ k, k < 4 → parseFieldDescriptor (TX3 k).2.2.1 = some (tyX3 k) := by decide +kernel
abbrev cX3_init : ByteArray := prog_5_method_1_code
def yX3_init : MethodName := ⟨RX3, "<init>", "()V"⟩
abbrev cX3_isTold : ByteArray := prog_5_method_2_code
def yX3_isTold : MethodName := ⟨RX3, "isTold", "()Z"⟩
abbrev cX3_become : ByteArray := prog_5_method_3_code
def yX3_become : MethodName := ⟨RX3, "become", "(LRungByHeart$Reader;)V"⟩
abbrev cX3_gives : ByteArray := prog_5_method_4_code
def yX3_gives : MethodName := ⟨RX3, "gives", "([ILRungByHeart$Tower;)I"⟩
abbrev cX3_workOut : ByteArray := prog_5_method_5_code
def yX3_workOut : MethodName := ⟨RX3, "workOut", "(I[ILRungByHeart$Tower;)V"⟩
abbrev cX3_howMany : ByteArray := prog_5_method_6_code
def yX3_howMany : MethodName := ⟨RX3, "howMany", "([II)I"⟩
abbrev cX3_joined : ByteArray := prog_5_method_7_code
def yX3_joined : MethodName := ⟨RX3, "joined", "(III)I"⟩
abbrev cX3_push : ByteArray := prog_5_method_8_code
def yX3_push : MethodName := ⟨RX3, "push", "(I)V"⟩
abbrev cX3_pop : ByteArray := prog_5_method_9_code
def yX3_pop : MethodName := ⟨RX3, "pop", "()I"⟩
def RX4 : String := "RungByHeart$Reader"
def TX4 : u_T := fun k => match k with
  | 0 => ("RungByHeart$Reader", "tape", "[I", true)
  | 1 => ("RungByHeart$Reader", "length", "I", false)
  | 2 => ("RungByHeart$Reader", "place", "I", false)
  | 3 => ("RungByHeart$Reader", "broken", "Z", false)
  | 4 => ("RungByHeart$Reader", "code", "[I", true)
  | _ => ("RungByHeart$Reader", "size", "I", false)
def tyX4 : Nat → FieldType := fun k => match k with
  | 0 => .array .int
  | 1 => .int
  | 2 => .int
  | 3 => .boolean
  | 4 => .array .int
  | _ => .int
abbrev wsX40 : List Cond := u_ws RX4 TX4 6
theorem nmX4 : ∀ a, a < 6 → ∀ b, b < 6 → a ≠ b → (TX4 a).2.1 ≠ (TX4 b).2.1 := by decide +kernel
theorem tyX4_ok : ∀ k, k < 6 → parseFieldDescriptor (TX4 k).2.2.1 = some (tyX4 k) := by decide +kernel
abbrev cX4_init : ByteArray := prog_6_method_1_code
def yX4_init : MethodName := ⟨RX4, "<init>", "()V"⟩
abbrev cX4_add : ByteArray := prog_6_method_2_code
def yX4_add : MethodName := ⟨RX4, "add", "(I)Z"⟩
abbrev cX4_read : ByteArray := prog_6_method_3_code
def yX4_read : MethodName := ⟨RX4, "read", "()I"⟩
abbrev cX4_sign : ByteArray := prog_6_method_4_code
def yX4_sign : MethodName := ⟨RX4, "sign", "()I"⟩
abbrev cX4_emit : ByteArray := prog_6_method_5_code
def yX4_emit : MethodName := ⟨RX4, "emit", "(I)V"⟩
abbrev cX4_readLine : ByteArray := prog_6_method_6_code
def yX4_readLine : MethodName := ⟨RX4, "readLine", "()V"⟩
abbrev cX4_readLevel : ByteArray := prog_6_method_7_code
def yX4_readLevel : MethodName := ⟨RX4, "readLevel", "(II)V"⟩
abbrev cX4_belongs : ByteArray := prog_6_method_8_code
def yX4_belongs : MethodName := ⟨RX4, "belongs", "(II)Z"⟩
abbrev cX4_readOperand : ByteArray := prog_6_method_9_code
def yX4_readOperand : MethodName := ⟨RX4, "readOperand", "(I)V"⟩
abbrev cX4_readClosing : ByteArray := prog_6_method_10_code
def yX4_readClosing : MethodName := ⟨RX4, "readClosing", "()V"⟩
abbrev cX4_readNumber : ByteArray := prog_6_method_11_code
def yX4_readNumber : MethodName := ⟨RX4, "readNumber", "()V"⟩
abbrev cX4_isDigit : ByteArray := prog_6_method_12_code
def yX4_isDigit : MethodName := ⟨RX4, "isDigit", "(I)Z"⟩
abbrev cX4_isName : ByteArray := prog_6_method_13_code
def yX4_isName : MethodName := ⟨RX4, "isName", "(I)Z"⟩
def RX5 : String := "RungByHeart$Shelf"
def TX5 : u_T := fun k => match k with
  | 0 => ("RungByHeart$Shelf", "sort", "I", false)
  | 1 => ("RungByHeart$Shelf", "size", "I", false)
  | 2 => ("RungByHeart$Shelf", "stroke", "I", false)
  | _ => ("RungByHeart$Shelf", "cells", "[J", true)
def tyX5 : Nat → FieldType := fun k => match k with
  | 0 => .int
  | 1 => .int
  | 2 => .int
  | _ => .array .long
abbrev wsX50 : List Cond := u_ws RX5 TX5 4
theorem nmX5 : ∀ a, a < 4 → ∀ b, b < 4 → a ≠ b → (TX5 a).2.1 ≠ (TX5 b).2.1 := by decide +kernel
theorem tyX5_ok : ∀ k, k < 4 → parseFieldDescriptor (TX5 k).2.2.1 = some (tyX5 k) := by decide +kernel
abbrev cX5_init : ByteArray := prog_7_method_1_code
def yX5_init : MethodName := ⟨RX5, "<init>", "()V"⟩
abbrev cX5_holdsNothing : ByteArray := prog_7_method_2_code
def yX5_holdsNothing : MethodName := ⟨RX5, "holdsNothing", "()Z"⟩
abbrev cX5_holdsRow : ByteArray := prog_7_method_3_code
def yX5_holdsRow : MethodName := ⟨RX5, "holdsRow", "()Z"⟩
abbrev cX5_holdsBytes : ByteArray := prog_7_method_4_code
def yX5_holdsBytes : MethodName := ⟨RX5, "holdsBytes", "()Z"⟩
abbrev cX5_refusal : ByteArray := prog_7_method_5_code
def yX5_refusal : MethodName := ⟨RX5, "refusal", "()I"⟩
abbrev cX5_clear : ByteArray := prog_7_method_6_code
def yX5_clear : MethodName := ⟨RX5, "clear", "()V"⟩
abbrev cX5_laySingle : ByteArray := prog_7_method_7_code
def yX5_laySingle : MethodName := ⟨RX5, "laySingle", "(I)V"⟩
abbrev cX5_layRow : ByteArray := prog_7_method_8_code
def yX5_layRow : MethodName := ⟨RX5, "layRow", "(II)V"⟩
abbrev cX5_hasPlace : ByteArray := prog_7_method_9_code
def yX5_hasPlace : MethodName := ⟨RX5, "hasPlace", "(I)Z"⟩
abbrev cX5_hasPlaces : ByteArray := prog_7_method_10_code
def yX5_hasPlaces : MethodName := ⟨RX5, "hasPlaces", "(II)Z"⟩
abbrev cX5_cell : ByteArray := prog_7_method_11_code
def yX5_cell : MethodName := ⟨RX5, "cell", "(I)J"⟩
abbrev cX5_write : ByteArray := prog_7_method_12_code
def yX5_write : MethodName := ⟨RX5, "write", "(IJ)V"⟩
abbrev cX5_lowest : ByteArray := prog_7_method_13_code
def yX5_lowest : MethodName := ⟨RX5, "lowest", "(J)J"⟩
def RX6 : String := "RungByHeart$Strokes"
def TX6 : u_T := fun k => match k with
  | 0 => ("RungByHeart$Strokes", "kindBy", "[I", true)
  | 1 => ("RungByHeart$Strokes", "size", "I", false)
  | 2 => ("RungByHeart$Strokes", "path", "[I", true)
  | 3 => ("RungByHeart$Strokes", "ran", "I", false)
  | _ => ("RungByHeart$Strokes", "acting", "I", false)
def tyX6 : Nat → FieldType := fun k => match k with
  | 0 => .array .int
  | 1 => .int
  | 2 => .array .int
  | 3 => .int
  | _ => .int
abbrev wsX60 : List Cond := u_ws RX6 TX6 5
theorem nmX6 : ∀ a, a < 5 → ∀ b, b < 5 → a ≠ b → (TX6 a).2.1 ≠ (TX6 b).2.1 := by decide +kernel
theorem tyX6_ok : ∀ k, k < 5 → parseFieldDescriptor (TX6 k).2.2.1 = some (tyX6 k) := by decide +kernel
abbrev cX6_init : ByteArray := prog_8_method_1_code
def yX6_init : MethodName := ⟨RX6, "<init>", "()V"⟩
abbrev cX6_add : ByteArray := prog_8_method_2_code
def yX6_add : MethodName := ⟨RX6, "add", "(I)I"⟩
abbrev cX6_isThere : ByteArray := prog_8_method_3_code
def yX6_isThere : MethodName := ⟨RX6, "isThere", "(I)Z"⟩
abbrev cX6_kindOf : ByteArray := prog_8_method_4_code
def yX6_kindOf : MethodName := ⟨RX6, "kindOf", "(I)I"⟩
abbrev cX6_ranAt : ByteArray := prog_8_method_5_code
def yX6_ranAt : MethodName := ⟨RX6, "ranAt", "(I)I"⟩
abbrev cX6_above : ByteArray := prog_8_method_6_code
def yX6_above : MethodName := ⟨RX6, "above", "(I)I"⟩
abbrev cX6_isUnder : ByteArray := prog_8_method_7_code
def yX6_isUnder : MethodName := ⟨RX6, "isUnder", "(II)Z"⟩
abbrev cX6_perform : ByteArray := prog_8_method_8_code
def yX6_perform : MethodName := ⟨RX6, "perform", "(III)I"⟩
abbrev cX6_own : ByteArray := prog_8_method_9_code
def yX6_own : MethodName := ⟨RX6, "own", "(III)I"⟩
abbrev cX6_ownBody : ByteArray := prog_8_method_10_code
def yX6_ownBody : MethodName := ⟨RX6, "ownBody", "(II)I"⟩
abbrev cX6_holder : ByteArray := prog_8_method_11_code
def yX6_holder : MethodName := ⟨RX6, "holder", "(II)I"⟩
abbrev cX6_begin : ByteArray := prog_8_method_12_code
def yX6_begin : MethodName := ⟨RX6, "begin", "(I)V"⟩
abbrev cX6_run : ByteArray := prog_8_method_13_code
def yX6_run : MethodName := ⟨RX6, "run", "(IIII)I"⟩
def RX7 : String := "RungByHeart$Tower"
def TX7 : u_T := fun k => match k with
  | 0 => ("RungByHeart$Tower", "signs", "[I", true)
  | 1 => ("RungByHeart$Tower", "minute", "I", false)
  | _ => ("RungByHeart$Tower", "lasting", "I", false)
def tyX7 : Nat → FieldType := fun k => match k with
  | 0 => .array .int
  | 1 => .int
  | _ => .int
abbrev wsX70 : List Cond := u_ws RX7 TX7 3
theorem nmX7 : ∀ a, a < 3 → ∀ b, b < 3 → a ≠ b → (TX7 a).2.1 ≠ (TX7 b).2.1 := by decide +kernel
theorem tyX7_ok : ∀ k, k < 3 → parseFieldDescriptor (TX7 k).2.2.1 = some (tyX7 k) := by decide +kernel
abbrev cX7_init : ByteArray := prog_9_method_1_code
def yX7_init : MethodName := ⟨RX7, "<init>", "()V"⟩
abbrev cX7_begin : ByteArray := prog_9_method_2_code
def yX7_begin : MethodName := ⟨RX7, "begin", "(I)V"⟩
abbrev cX7_add : ByteArray := prog_9_method_3_code
def yX7_add : MethodName := ⟨RX7, "add", "(I)V"⟩
abbrev cX7_at : ByteArray := prog_9_method_4_code
def yX7_at : MethodName := ⟨RX7, "at", "(I)I"⟩
abbrev cX7_copyOf : ByteArray := prog_9_method_5_code
def yX7_copyOf : MethodName := ⟨RX7, "copyOf", "(LRungByHeart$Tower;)V"⟩
abbrev cX7_silentFrom : ByteArray := prog_9_method_6_code
def yX7_silentFrom : MethodName := ⟨RX7, "silentFrom", "()I"⟩
abbrev cX7_anewFrom : ByteArray := prog_9_method_7_code
def yX7_anewFrom : MethodName := ⟨RX7, "anewFrom", "(I)I"⟩
abbrev cX7_howOften : ByteArray := prog_9_method_8_code
def yX7_howOften : MethodName := ⟨RX7, "howOften", "(I)I"⟩
abbrev cX7_longest : ByteArray := prog_9_method_9_code
def yX7_longest : MethodName := ⟨RX7, "longest", "(I)I"⟩
def RX8 : String := "RungByHeart"
def TX8 : u_T := fun k => match k with
  | 0 => ("RungByHeart", "field", "LRungByHeart$Field;", true)
  | 1 => ("RungByHeart", "thought", "LRungByHeart$Field;", true)
  | 2 => ("RungByHeart", "tower", "LRungByHeart$Tower;", true)
  | 3 => ("RungByHeart", "second", "LRungByHeart$Tower;", true)
  | 4 => ("RungByHeart", "did", "[I", true)
  | 5 => ("RungByHeart", "reader", "LRungByHeart$Reader;", true)
  | 6 => ("RungByHeart", "law", "LRungByHeart$Law;", true)
  | 7 => ("RungByHeart", "deed", "LRungByHeart$Deed;", true)
  | 8 => ("RungByHeart", "kept", "LRungByHeart$Deed;", true)
  | 9 => ("RungByHeart", "imaged", "Z", false)
  | 10 => ("RungByHeart", "changes", "LRungByHeart$Changes;", true)
  | 11 => ("RungByHeart", "strokes", "LRungByHeart$Strokes;", true)
  | _ => ("RungByHeart", "shelves", "[LRungByHeart$Shelf;", true)
def tyX8 : Nat → FieldType := fun k => match k with
  | 0 => .object "RungByHeart$Field"
  | 1 => .object "RungByHeart$Field"
  | 2 => .object "RungByHeart$Tower"
  | 3 => .object "RungByHeart$Tower"
  | 4 => .array .int
  | 5 => .object "RungByHeart$Reader"
  | 6 => .object "RungByHeart$Law"
  | 7 => .object "RungByHeart$Deed"
  | 8 => .object "RungByHeart$Deed"
  | 9 => .boolean
  | 10 => .object "RungByHeart$Changes"
  | 11 => .object "RungByHeart$Strokes"
  | _ => .array (.object "RungByHeart$Shelf")
abbrev wsX80 : List Cond := u_ws RX8 TX8 13
theorem nmX8 : ∀ a, a < 13 → ∀ b, b < 13 → a ≠ b → (TX8 a).2.1 ≠ (TX8 b).2.1 := by decide +kernel
theorem tyX8_ok : ∀ k, k < 13 → parseFieldDescriptor (TX8 k).2.2.1 = some (tyX8 k) := by decide +kernel
abbrev cX8_init : ByteArray := prog_1_method_1_code
def yX8_init : MethodName := ⟨RX8, "<init>", "()V"⟩
abbrev cX8_farm : ByteArray := prog_1_method_2_code
def yX8_farm : MethodName := ⟨RX8, "farm", "(II)I"⟩
abbrev cX8_farms : ByteArray := prog_1_method_3_code
def yX8_farms : MethodName := ⟨RX8, "farms", "(III)I"⟩
abbrev cX8_mend : ByteArray := prog_1_method_4_code
def yX8_mend : MethodName := ⟨RX8, "mend", "(III)I"⟩
abbrev cX8_of : ByteArray := prog_1_method_5_code
def yX8_of : MethodName := ⟨RX8, "of", "(II)I"⟩
abbrev cX8_feed : ByteArray := prog_1_method_6_code
def yX8_feed : MethodName := ⟨RX8, "feed", "(I)I"⟩
abbrev cX8_law : ByteArray := prog_1_method_7_code
def yX8_law : MethodName := ⟨RX8, "law", "()I"⟩
abbrev cX8_rung : ByteArray := prog_1_method_8_code
def yX8_rung : MethodName := ⟨RX8, "rung", "(I)I"⟩
abbrev cX8_does : ByteArray := prog_1_method_9_code
def yX8_does : MethodName := ⟨RX8, "does", "(II)I"⟩
abbrev cX8_signs : ByteArray := prog_1_method_10_code
def yX8_signs : MethodName := ⟨RX8, "signs", "(II)I"⟩
abbrev cX8_round : ByteArray := prog_1_method_11_code
def yX8_round : MethodName := ⟨RX8, "round", "(I)I"⟩
abbrev cX8_ends : ByteArray := prog_1_method_12_code
def yX8_ends : MethodName := ⟨RX8, "ends", "()I"⟩
abbrev cX8_often : ByteArray := prog_1_method_13_code
def yX8_often : MethodName := ⟨RX8, "often", "(III)I"⟩
abbrev cX8_late : ByteArray := prog_1_method_14_code
def yX8_late : MethodName := ⟨RX8, "late", "(III)I"⟩
abbrev cX8_spare : ByteArray := prog_1_method_15_code
def yX8_spare : MethodName := ⟨RX8, "spare", "(I)I"⟩
abbrev cX8_send : ByteArray := prog_1_method_16_code
def yX8_send : MethodName := ⟨RX8, "send", "(II)I"⟩
abbrev cX8_changesIt : ByteArray := prog_1_method_17_code
def yX8_changesIt : MethodName := ⟨RX8, "changesIt", "(II)I"⟩
abbrev cX8_byWhom : ByteArray := prog_1_method_18_code
def yX8_byWhom : MethodName := ⟨RX8, "byWhom", "(I)I"⟩
abbrev cX8_church : ByteArray := prog_1_method_19_code
def yX8_church : MethodName := ⟨RX8, "church", "(III)I"⟩
abbrev cX8_alike : ByteArray := prog_1_method_20_code
def yX8_alike : MethodName := ⟨RX8, "alike", "(II)I"⟩
abbrev cX8_judge : ByteArray := prog_1_method_21_code
def yX8_judge : MethodName := ⟨RX8, "judge", "(II)I"⟩
abbrev cX8_kinds : ByteArray := prog_1_method_22_code
def yX8_kinds : MethodName := ⟨RX8, "kinds", "(II)I"⟩
abbrev cX8_howFar : ByteArray := prog_1_method_23_code
def yX8_howFar : MethodName := ⟨RX8, "howFar", "(II)I"⟩
abbrev cX8_which : ByteArray := prog_1_method_24_code
def yX8_which : MethodName := ⟨RX8, "which", "(I)I"⟩
abbrev cX8_asTold : ByteArray := prog_1_method_25_code
def yX8_asTold : MethodName := ⟨RX8, "asTold", "(I)I"⟩
abbrev cX8_deaf : ByteArray := prog_1_method_26_code
def yX8_deaf : MethodName := ⟨RX8, "deaf", "(I)I"⟩
abbrev cX8_drawn : ByteArray := prog_1_method_27_code
def yX8_drawn : MethodName := ⟨RX8, "drawn", "(III)I"⟩
abbrev cX8_pass : ByteArray := prog_1_method_28_code
def yX8_pass : MethodName := ⟨RX8, "pass", "()I"⟩
abbrev cX8_tell : ByteArray := prog_1_method_29_code
def yX8_tell : MethodName := ⟨RX8, "tell", "(II)I"⟩
abbrev cX8_day : ByteArray := prog_1_method_30_code
def yX8_day : MethodName := ⟨RX8, "day", "()I"⟩
abbrev cX8_led : ByteArray := prog_1_method_31_code
def yX8_led : MethodName := ⟨RX8, "led", "(I)I"⟩
abbrev cX8_image : ByteArray := prog_1_method_32_code
def yX8_image : MethodName := ⟨RX8, "image", "()I"⟩
abbrev cX8_back : ByteArray := prog_1_method_33_code
def yX8_back : MethodName := ⟨RX8, "back", "()I"⟩
abbrev cX8_undo : ByteArray := prog_1_method_34_code
def yX8_undo : MethodName := ⟨RX8, "undo", "()I"⟩
abbrev cX8_redo : ByteArray := prog_1_method_35_code
def yX8_redo : MethodName := ⟨RX8, "redo", "()I"⟩
abbrev cX8_body : ByteArray := prog_1_method_36_code
def yX8_body : MethodName := ⟨RX8, "body", "(I)I"⟩
abbrev cX8_act : ByteArray := prog_1_method_37_code
def yX8_act : MethodName := ⟨RX8, "act", "(III)I"⟩
abbrev cX8_trace : ByteArray := prog_1_method_38_code
def yX8_trace : MethodName := ⟨RX8, "trace", "(I)I"⟩
abbrev cX8_keep : ByteArray := prog_1_method_39_code
def yX8_keep : MethodName := ⟨RX8, "keep", "(II)I"⟩
abbrev cX8_row : ByteArray := prog_1_method_40_code
def yX8_row : MethodName := ⟨RX8, "row", "(III)I"⟩
abbrev cX8_put : ByteArray := prog_1_method_41_code
def yX8_put : MethodName := ⟨RX8, "put", "(IIJ)I"⟩
abbrev cX8_element : ByteArray := prog_1_method_42_code
def yX8_element : MethodName := ⟨RX8, "element", "(II)J"⟩
abbrev cX8_shift : ByteArray := prog_1_method_43_code
def yX8_shift : MethodName := ⟨RX8, "shift", "(IIIII)I"⟩
abbrev cX8_taken : ByteArray := prog_1_method_44_code
def yX8_taken : MethodName := ⟨RX8, "taken", "(II)I"⟩
abbrev cX8_count : ByteArray := prog_1_method_45_code
def yX8_count : MethodName := ⟨RX8, "count", "(I)I"⟩
abbrev cX8_within : ByteArray := prog_1_method_46_code
def yX8_within : MethodName := ⟨RX8, "within", "(II)Z"⟩
abbrev cX8_mostOf : ByteArray := prog_1_method_47_code
def yX8_mostOf : MethodName := ⟨RX8, "mostOf", "(I)I"⟩
abbrev cX8_shelfAt : ByteArray := prog_1_method_48_code
def yX8_shelfAt : MethodName := ⟨RX8, "shelfAt", "(I)LRungByHeart$Shelf;"⟩
abbrev cX8_comesFrom : ByteArray := prog_1_method_49_code
def yX8_comesFrom : MethodName := ⟨RX8, "comesFrom", "(LRungByHeart$Shelf;J)Z"⟩
abbrev cX8_clearSigns : ByteArray := prog_1_method_50_code
def yX8_clearSigns : MethodName := ⟨RX8, "clearSigns", "()V"⟩
abbrev cX8_addSign : ByteArray := prog_1_method_51_code
def yX8_addSign : MethodName := ⟨RX8, "addSign", "(II)V"⟩
abbrev cX8_countSigns : ByteArray := prog_1_method_52_code
def yX8_countSigns : MethodName := ⟨RX8, "countSigns", "(LRungByHeart$Field;LRungByHeart$Tower;I)V"⟩
abbrev cX8_nextStroke : ByteArray := prog_1_method_53_code
def yX8_nextStroke : MethodName := ⟨RX8, "nextStroke", "(LRungByHeart$Field;LRungByHeart$Tower;)I"⟩
abbrev cX8_ringDay : ByteArray := prog_1_method_54_code
def yX8_ringDay : MethodName := ⟨RX8, "ringDay", "(LRungByHeart$Field;LRungByHeart$Tower;I)V"⟩
abbrev cX8_ringNext : ByteArray := prog_1_method_55_code
def yX8_ringNext : MethodName := ⟨RX8, "ringNext", "(LRungByHeart$Field;LRungByHeart$Tower;)V"⟩
abbrev cX8_ringDrawn : ByteArray := prog_1_method_56_code
def yX8_ringDrawn : MethodName := ⟨RX8, "ringDrawn", "(II)I"⟩
abbrev cX8_draw : ByteArray := prog_1_method_57_code
def yX8_draw : MethodName := ⟨RX8, "draw", "(I)I"⟩
abbrev cX8_rains : ByteArray := prog_1_method_58_code
def yX8_rains : MethodName := ⟨RX8, "rains", "(I)Z"⟩
abbrev cX8_think : ByteArray := prog_1_method_59_code
def yX8_think : MethodName := ⟨RX8, "think", "(III)V"⟩
abbrev cX8_thinkDeaf : ByteArray := prog_1_method_60_code
def yX8_thinkDeaf : MethodName := ⟨RX8, "thinkDeaf", "(I)V"⟩
abbrev cX8_endsBy : ByteArray := prog_1_method_61_code
def yX8_endsBy : MethodName := ⟨RX8, "endsBy", "(II)Z"⟩
abbrev cX8_isChurch : ByteArray := prog_1_method_62_code
def yX8_isChurch : MethodName := ⟨RX8, "isChurch", "(I)Z"⟩
abbrev cX8_ringBoth : ByteArray := prog_1_method_63_code
def yX8_ringBoth : MethodName := ⟨RX8, "ringBoth", "(II)V"⟩
abbrev cX8_alikeFrom : ByteArray := prog_1_method_64_code
def yX8_alikeFrom : MethodName := ⟨RX8, "alikeFrom", "()I"⟩
abbrev cX8_firstUnseen : ByteArray := prog_1_method_65_code
def yX8_firstUnseen : MethodName := ⟨RX8, "firstUnseen", "(LRungByHeart$Shelf;LRungByHeart$Field;I)I"⟩
abbrev cX8_firstUntold : ByteArray := prog_1_method_66_code
def yX8_firstUntold : MethodName := ⟨RX8, "firstUntold", "(LRungByHeart$Shelf;LRungByHeart$Field;)I"⟩
abbrev cX8_rungNow : ByteArray := prog_1_method_67_code
def yX8_rungNow : MethodName := ⟨RX8, "rungNow", "()I"⟩
abbrev cX8_doingNow : ByteArray := prog_1_method_68_code
def yX8_doingNow : MethodName := ⟨RX8, "doingNow", "(I)I"⟩
abbrev cX8_beginDeed : ByteArray := prog_1_method_69_code
def yX8_beginDeed : MethodName := ⟨RX8, "beginDeed", "()V"⟩
def RX9 : String := "RungByHeartModel"
def TX9 : u_T := fun k => match k with
  | 0 => ("RungByHeartModel", "farms", "I", false)
  | 1 => ("RungByHeartModel", "quorum", "I", false)
  | 2 => ("RungByHeartModel", "begins", "I", false)
  | 3 => ("RungByHeartModel", "rains", "I", false)
  | 4 => ("RungByHeartModel", "size", "I", false)
  | 5 => ("RungByHeartModel", "length", "I", false)
  | 6 => ("RungByHeartModel", "ran", "I", false)
  | 7 => ("RungByHeartModel", "bodies", "I", false)
  | 8 => ("RungByHeartModel", "isLaw", "Z", false)
  | 9 => ("RungByHeartModel", "far", "[I", true)
  | 10 => ("RungByHeartModel", "kind", "[I", true)
  | 11 => ("RungByHeartModel", "at", "[I", true)
  | 12 => ("RungByHeartModel", "does", "[I", true)
  | 13 => ("RungByHeartModel", "rests", "[I", true)
  | 14 => ("RungByHeartModel", "tape", "[I", true)
  | 15 => ("RungByHeartModel", "text", "[I", true)
  | 16 => ("RungByHeartModel", "ofNumber", "[I", true)
  | 17 => ("RungByHeartModel", "ofWhat", "[I", true)
  | 18 => ("RungByHeartModel", "ofOld", "[I", true)
  | 19 => ("RungByHeartModel", "ofNew", "[I", true)
  | 20 => ("RungByHeartModel", "made", "I", false)
  | 21 => ("RungByHeartModel", "all", "I", false)
  | 22 => ("RungByHeartModel", "p", "I", false)
  | 23 => ("RungByHeartModel", "open", "I", false)
  | 24 => ("RungByHeartModel", "isRight", "Z", false)
  | 25 => ("RungByHeartModel", "names", "[I", true)
  | 26 => ("RungByHeartModel", "rung", "[I", true)
  | 27 => ("RungByHeartModel", "other", "[I", true)
  | 28 => ("RungByHeartModel", "deed", "[I", true)
  | 29 => ("RungByHeartModel", "told", "[I", true)
  | 30 => ("RungByHeartModel", "mute", "I", false)
  | 31 => ("RungByHeartModel", "oddFarm", "I", false)
  | 32 => ("RungByHeartModel", "oddMinute", "I", false)
  | 33 => ("RungByHeartModel", "oddSign", "I", false)
  | 34 => ("RungByHeartModel", "theirs", "I", false)
  | 35 => ("RungByHeartModel", "isRain", "[Z", true)
  | 36 => ("RungByHeartModel", "many", "[I", true)
  | 37 => ("RungByHeartModel", "now", "I", false)
  | 38 => ("RungByHeartModel", "passed", "I", false)
  | 39 => ("RungByHeartModel", "strokes", "I", false)
  | 40 => ("RungByHeartModel", "tellings", "I", false)
  | 41 => ("RungByHeartModel", "days", "I", false)
  | 42 => ("RungByHeartModel", "says", "[I", true)
  | 43 => ("RungByHeartModel", "kept", "[I", true)
  | 44 => ("RungByHeartModel", "isKept", "Z", false)
  | 45 => ("RungByHeartModel", "ofKind", "[I", true)
  | 46 => ("RungByHeartModel", "trace", "[I", true)
  | 47 => ("RungByHeartModel", "held", "[I", true)
  | 48 => ("RungByHeartModel", "sort", "[I", true)
  | 49 => ("RungByHeartModel", "sizes", "[I", true)
  | 50 => ("RungByHeartModel", "shown", "[I", true)
  | 51 => ("RungByHeartModel", "cells", "[J", true)
  | _ => ("RungByHeartModel", "carried", "[J", true)
def tyX9 : Nat → FieldType := fun k => match k with
  | 0 => .int
  | 1 => .int
  | 2 => .int
  | 3 => .int
  | 4 => .int
  | 5 => .int
  | 6 => .int
  | 7 => .int
  | 8 => .boolean
  | 9 => .array .int
  | 10 => .array .int
  | 11 => .array .int
  | 12 => .array .int
  | 13 => .array .int
  | 14 => .array .int
  | 15 => .array .int
  | 16 => .array .int
  | 17 => .array .int
  | 18 => .array .int
  | 19 => .array .int
  | 20 => .int
  | 21 => .int
  | 22 => .int
  | 23 => .int
  | 24 => .boolean
  | 25 => .array .int
  | 26 => .array .int
  | 27 => .array .int
  | 28 => .array .int
  | 29 => .array .int
  | 30 => .int
  | 31 => .int
  | 32 => .int
  | 33 => .int
  | 34 => .int
  | 35 => .array .boolean
  | 36 => .array .int
  | 37 => .int
  | 38 => .int
  | 39 => .int
  | 40 => .int
  | 41 => .int
  | 42 => .array .int
  | 43 => .array .int
  | 44 => .boolean
  | 45 => .array .int
  | 46 => .array .int
  | 47 => .array .int
  | 48 => .array .int
  | 49 => .array .int
  | 50 => .array .int
  | 51 => .array .long
  | _ => .array .long
abbrev wsX90 : List Cond := u_ws RX9 TX9 53
theorem nmX9 : ∀ a, a < 53 → ∀ b, b < 53 → a ≠ b → (TX9 a).2.1 ≠ (TX9 b).2.1 := by decide +kernel
theorem tyX9_ok : ∀ k, k < 53 → parseFieldDescriptor (TX9 k).2.2.1 = some (tyX9 k) := by decide +kernel
abbrev cX9_init : ByteArray := prog_11_method_1_code
def yX9_init : MethodName := ⟨RX9, "<init>", "()V"⟩
abbrev cX9_isIn : ByteArray := prog_11_method_2_code
def yX9_isIn : MethodName := ⟨RX9, "isIn", "(III)Z"⟩
abbrev cX9_isFarm : ByteArray := prog_11_method_3_code
def yX9_isFarm : MethodName := ⟨RX9, "isFarm", "(I)Z"⟩
abbrev cX9_isMinute : ByteArray := prog_11_method_4_code
def yX9_isMinute : MethodName := ⟨RX9, "isMinute", "(I)Z"⟩
abbrev cX9_has : ByteArray := prog_11_method_5_code
def yX9_has : MethodName := ⟨RX9, "has", "(II)Z"⟩
abbrev cX9_farm : ByteArray := prog_11_method_6_code
def yX9_farm : MethodName := ⟨RX9, "farm", "(II)I"⟩
abbrev cX9_adds : ByteArray := prog_11_method_7_code
def yX9_adds : MethodName := ⟨RX9, "adds", "(III)I"⟩
abbrev cX9_farms : ByteArray := prog_11_method_8_code
def yX9_farms : MethodName := ⟨RX9, "farms", "(III)I"⟩
abbrev cX9_most : ByteArray := prog_11_method_9_code
def yX9_most : MethodName := ⟨RX9, "most", "(I)I"⟩
abbrev cX9_isNumber : ByteArray := prog_11_method_10_code
def yX9_isNumber : MethodName := ⟨RX9, "isNumber", "(II)Z"⟩
abbrev cX9_read : ByteArray := prog_11_method_11_code
def yX9_read : MethodName := ⟨RX9, "read", "(II)I"⟩
abbrev cX9_write : ByteArray := prog_11_method_12_code
def yX9_write : MethodName := ⟨RX9, "write", "(III)V"⟩
abbrev cX9_drops : ByteArray := prog_11_method_13_code
def yX9_drops : MethodName := ⟨RX9, "drops", "()V"⟩
abbrev cX9_mend : ByteArray := prog_11_method_14_code
def yX9_mend : MethodName := ⟨RX9, "mend", "(III)I"⟩
abbrev cX9_undo : ByteArray := prog_11_method_15_code
def yX9_undo : MethodName := ⟨RX9, "undo", "()I"⟩
abbrev cX9_redo : ByteArray := prog_11_method_16_code
def yX9_redo : MethodName := ⟨RX9, "redo", "()I"⟩
abbrev cX9_of : ByteArray := prog_11_method_17_code
def yX9_of : MethodName := ⟨RX9, "of", "(II)I"⟩
abbrev cX9_feed : ByteArray := prog_11_method_18_code
def yX9_feed : MethodName := ⟨RX9, "feed", "(I)I"⟩
abbrev cX9_next : ByteArray := prog_11_method_19_code
def yX9_next : MethodName := ⟨RX9, "next", "()I"⟩
abbrev cX9_isNext : ByteArray := prog_11_method_20_code
def yX9_isNext : MethodName := ⟨RX9, "isNext", "(C)Z"⟩
abbrev cX9_isDigit : ByteArray := prog_11_method_21_code
def yX9_isDigit : MethodName := ⟨RX9, "isDigit", "(I)Z"⟩
abbrev cX9_isName : ByteArray := prog_11_method_22_code
def yX9_isName : MethodName := ⟨RX9, "isName", "(I)Z"⟩
abbrev cX9_readsO : ByteArray := prog_11_method_23_code
def yX9_readsO : MethodName := ⟨RX9, "readsO", "()V"⟩
abbrev cX9_readsP : ByteArray := prog_11_method_24_code
def yX9_readsP : MethodName := ⟨RX9, "readsP", "()V"⟩
abbrev cX9_readsS : ByteArray := prog_11_method_25_code
def yX9_readsS : MethodName := ⟨RX9, "readsS", "()V"⟩
abbrev cX9_readsB : ByteArray := prog_11_method_26_code
def yX9_readsB : MethodName := ⟨RX9, "readsB", "()V"⟩
abbrev cX9_readsA : ByteArray := prog_11_method_27_code
def yX9_readsA : MethodName := ⟨RX9, "readsA", "()V"⟩
abbrev cX9_readsE : ByteArray := prog_11_method_28_code
def yX9_readsE : MethodName := ⟨RX9, "readsE", "()V"⟩
abbrev cX9_readsLine : ByteArray := prog_11_method_29_code
def yX9_readsLine : MethodName := ⟨RX9, "readsLine", "()V"⟩
abbrev cX9_law : ByteArray := prog_11_method_30_code
def yX9_law : MethodName := ⟨RX9, "law", "()I"⟩
abbrev cX9_seen : ByteArray := prog_11_method_31_code
def yX9_seen : MethodName := ⟨RX9, "seen", "()I"⟩
abbrev cX9_isSeen : ByteArray := prog_11_method_32_code
def yX9_isSeen : MethodName := ⟨RX9, "isSeen", "(C)Z"⟩
abbrev cX9_one : ByteArray := prog_11_method_33_code
def yX9_one : MethodName := ⟨RX9, "one", "(Z)I"⟩
abbrev cX9_takesO : ByteArray := prog_11_method_34_code
def yX9_takesO : MethodName := ⟨RX9, "takesO", "()I"⟩
abbrev cX9_takesP : ByteArray := prog_11_method_35_code
def yX9_takesP : MethodName := ⟨RX9, "takesP", "()I"⟩
abbrev cX9_takesS : ByteArray := prog_11_method_36_code
def yX9_takesS : MethodName := ⟨RX9, "takesS", "()I"⟩
abbrev cX9_takesB : ByteArray := prog_11_method_37_code
def yX9_takesB : MethodName := ⟨RX9, "takesB", "()I"⟩
abbrev cX9_takesA : ByteArray := prog_11_method_38_code
def yX9_takesA : MethodName := ⟨RX9, "takesA", "()I"⟩
abbrev cX9_takesE : ByteArray := prog_11_method_39_code
def yX9_takesE : MethodName := ⟨RX9, "takesE", "()I"⟩
abbrev cX9_given : ByteArray := prog_11_method_40_code
def yX9_given : MethodName := ⟨RX9, "given", "()I"⟩
abbrev cX9_plain : ByteArray := prog_11_method_41_code
def yX9_plain : MethodName := ⟨RX9, "plain", "()V"⟩
abbrev cX9_rungAt : ByteArray := prog_11_method_42_code
def yX9_rungAt : MethodName := ⟨RX9, "rungAt", "([II)I"⟩
abbrev cX9_signOf : ByteArray := prog_11_method_43_code
def yX9_signOf : MethodName := ⟨RX9, "signOf", "([III)I"⟩
abbrev cX9_sign : ByteArray := prog_11_method_44_code
def yX9_sign : MethodName := ⟨RX9, "sign", "(II)I"⟩
abbrev cX9_counts : ByteArray := prog_11_method_45_code
def yX9_counts : MethodName := ⟨RX9, "counts", "(I)V"⟩
abbrev cX9_rungNext : ByteArray := prog_11_method_46_code
def yX9_rungNext : MethodName := ⟨RX9, "rungNext", "([II)I"⟩
abbrev cX9_goes : ByteArray := prog_11_method_47_code
def yX9_goes : MethodName := ⟨RX9, "goes", "(I)V"⟩
abbrev cX9_goesPlain : ByteArray := prog_11_method_48_code
def yX9_goesPlain : MethodName := ⟨RX9, "goesPlain", "(I)V"⟩
abbrev cX9_rung : ByteArray := prog_11_method_49_code
def yX9_rung : MethodName := ⟨RX9, "rung", "(I)I"⟩
abbrev cX9_does : ByteArray := prog_11_method_50_code
def yX9_does : MethodName := ⟨RX9, "does", "(II)I"⟩
abbrev cX9_signs : ByteArray := prog_11_method_51_code
def yX9_signs : MethodName := ⟨RX9, "signs", "(II)I"⟩
abbrev cX9_isAgain : ByteArray := prog_11_method_52_code
def yX9_isAgain : MethodName := ⟨RX9, "isAgain", "(II)Z"⟩
abbrev cX9_round : ByteArray := prog_11_method_53_code
def yX9_round : MethodName := ⟨RX9, "round", "(I)I"⟩
abbrev cX9_end : ByteArray := prog_11_method_54_code
def yX9_end : MethodName := ⟨RX9, "end", "()I"⟩
abbrev cX9_endOr : ByteArray := prog_11_method_55_code
def yX9_endOr : MethodName := ⟨RX9, "endOr", "(I)I"⟩
abbrev cX9_ends : ByteArray := prog_11_method_56_code
def yX9_ends : MethodName := ⟨RX9, "ends", "()I"⟩
abbrev cX9_often : ByteArray := prog_11_method_57_code
def yX9_often : MethodName := ⟨RX9, "often", "(III)I"⟩
abbrev cX9_barsOf : ByteArray := prog_11_method_58_code
def yX9_barsOf : MethodName := ⟨RX9, "barsOf", "(I)I"⟩
abbrev cX9_late : ByteArray := prog_11_method_59_code
def yX9_late : MethodName := ⟨RX9, "late", "(III)I"⟩
abbrev cX9_endWithout : ByteArray := prog_11_method_60_code
def yX9_endWithout : MethodName := ⟨RX9, "endWithout", "(I)I"⟩
abbrev cX9_spare : ByteArray := prog_11_method_61_code
def yX9_spare : MethodName := ⟨RX9, "spare", "(I)I"⟩
abbrev cX9_ones : ByteArray := prog_11_method_62_code
def yX9_ones : MethodName := ⟨RX9, "ones", "(I)I"⟩
abbrev cX9_send : ByteArray := prog_11_method_63_code
def yX9_send : MethodName := ⟨RX9, "send", "(II)I"⟩
abbrev cX9_keepsDay : ByteArray := prog_11_method_64_code
def yX9_keepsDay : MethodName := ⟨RX9, "keepsDay", "()V"⟩
abbrev cX9_changesIt : ByteArray := prog_11_method_65_code
def yX9_changesIt : MethodName := ⟨RX9, "changesIt", "(II)I"⟩
abbrev cX9_byWhom : ByteArray := prog_11_method_66_code
def yX9_byWhom : MethodName := ⟨RX9, "byWhom", "(I)I"⟩
abbrev cX9_goesBoth : ByteArray := prog_11_method_67_code
def yX9_goesBoth : MethodName := ⟨RX9, "goesBoth", "(II)V"⟩
abbrev cX9_isChurch : ByteArray := prog_11_method_68_code
def yX9_isChurch : MethodName := ⟨RX9, "isChurch", "(I)Z"⟩
abbrev cX9_church : ByteArray := prog_11_method_69_code
def yX9_church : MethodName := ⟨RX9, "church", "(III)I"⟩
abbrev cX9_alike : ByteArray := prog_11_method_70_code
def yX9_alike : MethodName := ⟨RX9, "alike", "(II)I"⟩
abbrev cX9_unlike : ByteArray := prog_11_method_71_code
def yX9_unlike : MethodName := ⟨RX9, "unlike", "(II)I"⟩
abbrev cX9_barsFor : ByteArray := prog_11_method_72_code
def yX9_barsFor : MethodName := ⟨RX9, "barsFor", "(II)I"⟩
abbrev cX9_judge : ByteArray := prog_11_method_73_code
def yX9_judge : MethodName := ⟨RX9, "judge", "(II)I"⟩
abbrev cX9_kinds : ByteArray := prog_11_method_74_code
def yX9_kinds : MethodName := ⟨RX9, "kinds", "(II)I"⟩
abbrev cX9_howFar : ByteArray := prog_11_method_75_code
def yX9_howFar : MethodName := ⟨RX9, "howFar", "(II)I"⟩
abbrev cX9_which : ByteArray := prog_11_method_76_code
def yX9_which : MethodName := ⟨RX9, "which", "(I)I"⟩
abbrev cX9_unlikeRung : ByteArray := prog_11_method_77_code
def yX9_unlikeRung : MethodName := ⟨RX9, "unlikeRung", "(II)I"⟩
abbrev cX9_asTold : ByteArray := prog_11_method_78_code
def yX9_asTold : MethodName := ⟨RX9, "asTold", "(I)I"⟩
abbrev cX9_deaf : ByteArray := prog_11_method_79_code
def yX9_deaf : MethodName := ⟨RX9, "deaf", "(I)I"⟩
abbrev cX9_drawn : ByteArray := prog_11_method_80_code
def yX9_drawn : MethodName := ⟨RX9, "drawn", "(III)I"⟩
abbrev cX9_rungNow : ByteArray := prog_11_method_81_code
def yX9_rungNow : MethodName := ⟨RX9, "rungNow", "()I"⟩
abbrev cX9_pass : ByteArray := prog_11_method_82_code
def yX9_pass : MethodName := ⟨RX9, "pass", "()I"⟩
abbrev cX9_tell : ByteArray := prog_11_method_83_code
def yX9_tell : MethodName := ⟨RX9, "tell", "(II)I"⟩
abbrev cX9_day : ByteArray := prog_11_method_84_code
def yX9_day : MethodName := ⟨RX9, "day", "()I"⟩
abbrev cX9_led : ByteArray := prog_11_method_85_code
def yX9_led : MethodName := ⟨RX9, "led", "(I)I"⟩
abbrev cX9_image : ByteArray := prog_11_method_86_code
def yX9_image : MethodName := ⟨RX9, "image", "()I"⟩
abbrev cX9_back : ByteArray := prog_11_method_87_code
def yX9_back : MethodName := ⟨RX9, "back", "()I"⟩
abbrev cX9_body : ByteArray := prog_11_method_88_code
def yX9_body : MethodName := ⟨RX9, "body", "(I)I"⟩
abbrev cX9_runs : ByteArray := prog_11_method_89_code
def yX9_runs : MethodName := ⟨RX9, "runs", "(I)V"⟩
abbrev cX9_above : ByteArray := prog_11_method_90_code
def yX9_above : MethodName := ⟨RX9, "above", "(I)I"⟩
abbrev cX9_rings : ByteArray := prog_11_method_91_code
def yX9_rings : MethodName := ⟨RX9, "rings", "(III)I"⟩
abbrev cX9_hears : ByteArray := prog_11_method_92_code
def yX9_hears : MethodName := ⟨RX9, "hears", "(III)I"⟩
abbrev cX9_doing : ByteArray := prog_11_method_93_code
def yX9_doing : MethodName := ⟨RX9, "doing", "(III)I"⟩
abbrev cX9_tells : ByteArray := prog_11_method_94_code
def yX9_tells : MethodName := ⟨RX9, "tells", "(III)I"⟩
abbrev cX9_act : ByteArray := prog_11_method_95_code
def yX9_act : MethodName := ⟨RX9, "act", "(III)I"⟩
abbrev cX9_trace : ByteArray := prog_11_method_96_code
def yX9_trace : MethodName := ⟨RX9, "trace", "(I)I"⟩
abbrev cX9_isShelf : ByteArray := prog_11_method_97_code
def yX9_isShelf : MethodName := ⟨RX9, "isShelf", "(I)Z"⟩
abbrev cX9_intAt : ByteArray := prog_11_method_98_code
def yX9_intAt : MethodName := ⟨RX9, "intAt", "(II)I"⟩
abbrev cX9_keep : ByteArray := prog_11_method_99_code
def yX9_keep : MethodName := ⟨RX9, "keep", "(II)I"⟩
abbrev cX9_row : ByteArray := prog_11_method_100_code
def yX9_row : MethodName := ⟨RX9, "row", "(III)I"⟩
abbrev cX9_barsOfRow : ByteArray := prog_11_method_101_code
def yX9_barsOfRow : MethodName := ⟨RX9, "barsOfRow", "(I)I"⟩
abbrev cX9_isElement : ByteArray := prog_11_method_102_code
def yX9_isElement : MethodName := ⟨RX9, "isElement", "(II)Z"⟩
abbrev cX9_put : ByteArray := prog_11_method_103_code
def yX9_put : MethodName := ⟨RX9, "put", "(IIJ)I"⟩
abbrev cX9_element : ByteArray := prog_11_method_104_code
def yX9_element : MethodName := ⟨RX9, "element", "(II)J"⟩
abbrev cX9_shift : ByteArray := prog_11_method_105_code
def yX9_shift : MethodName := ⟨RX9, "shift", "(IIIII)I"⟩
abbrev cX9_taken : ByteArray := prog_11_method_106_code
def yX9_taken : MethodName := ⟨RX9, "taken", "(II)I"⟩
abbrev cX9_count : ByteArray := prog_11_method_107_code
def yX9_count : MethodName := ⟨RX9, "count", "(I)I"⟩
def RJ6 : String := "java/lang/Integer"
def TJ6 : u_T := fun k => match k with
  | _ => ("", "", "", false)
def tyJ6 : Nat → FieldType := fun k => match k with
  | _ => .int
abbrev wsJ60 : List Cond := u_ws RJ6 TJ6 0
theorem nmJ6 : ∀ a, a < 0 → ∀ b, b < 0 → a ≠ b → (TJ6 a).2.1 ≠ (TJ6 b).2.1 := by decide +kernel
theorem tyJ6_ok : ∀ k, k < 0 → parseFieldDescriptor (TJ6 k).2.2.1 = some (tyJ6 k) := by decide +kernel
abbrev cJ6_bitCount_0f7a4 : ByteArray := prog_12_method_49_code
def yJ6_bitCount_0f7a4 : MethodName := ⟨RJ6, "bitCount", "(I)I"⟩
def RJ9 : String := "java/lang/Math"
def TJ9 : u_T := fun k => match k with
  | _ => ("", "", "", false)
def tyJ9 : Nat → FieldType := fun k => match k with
  | _ => .int
abbrev wsJ90 : List Cond := u_ws RJ9 TJ9 0
theorem nmJ9 : ∀ a, a < 0 → ∀ b, b < 0 → a ≠ b → (TJ9 a).2.1 ≠ (TJ9 b).2.1 := by decide +kernel
theorem tyJ9_ok : ∀ k, k < 0 → parseFieldDescriptor (TJ9 k).2.2.1 = some (tyJ9 k) := by decide +kernel
abbrev cJ9_max_7cf53 : ByteArray := prog_13_method_65_code
def yJ9_max_7cf53 : MethodName := ⟨RJ9, "max", "(II)I"⟩
abbrev cJ9_min_7cf53 : ByteArray := prog_13_method_69_code
def yJ9_min_7cf53 : MethodName := ⟨RJ9, "min", "(II)I"⟩
def RJ10 : String := "java/lang/System"
def TJ10 : u_T := fun k => match k with
  | _ => ("", "", "", false)
def tyJ10 : Nat → FieldType := fun k => match k with
  | _ => .int
abbrev wsJ100 : List Cond := u_ws RJ10 TJ10 0
theorem nmJ10 : ∀ a, a < 0 → ∀ b, b < 0 → a ≠ b → (TJ10 a).2.1 ≠ (TJ10 b).2.1 := by decide +kernel
theorem tyJ10_ok : ∀ k, k < 0 → parseFieldDescriptor (TJ10 k).2.2.1 = some (tyJ10 k) := by decide +kernel
def RL : String := "RungByHeartLaw"
abbrev cL_law : ByteArray := code
def yL_law : MethodName := ⟨RL, "law", "([I)Z"⟩
abbrev vwCl : List vw_C := [(RX0, TX0, 5), (RX1, TX1, 6), (RX2, TX2, 2), (RX3, TX3, 4), (RX4, TX4, 6), (RX5, TX5, 4), (RX6, TX6, 5), (RX7, TX7, 3), (RX8, TX8, 13), (RX9, TX9, 53)]
/-! ===== END printed: names ===== -/
end
section
/-! THE CLEAN MACHINE: a cell is a number (0..3: the three tables and the script; 4 + i: the i-th cell made), memory is two functions -/
abbrev QL : Type := List (Option Value)
abbrev QM : Type := (Nat → Nat → Int32) × (Nat → Nat → Int64)
abbrev QCell : Type := Nat × Nat × List (Option Nat)
abbrev QG : Type := List QCell
abbrev QX : Type := (Nat → Nat) × (Nat → Nat → Int32)
abbrev QC : Type := Nat → List Value → QM → Option (Option Value × QM)
abbrev QE : Type 1 := QG → QX → QC → (Rt : Type) → (Nat → QL → List Value → QM → Option Rt) → (Option Value → QM → Option Rt) → QL → List Value → QM → Option Rt
def q_get : QL → Nat → Option Value
  | [], _ => none
  | a :: _, 0 => a
  | _ :: t, i + 1 => q_get t i
def q_keep (a : Option Value) : Option Value := match a with
  | some (.long _) => none
  | some (.double _) => none
  | a => a
def q_put {β : Type} : QL → Nat → Value → (QL → β) → β
  | [], _, _, f => f []
  | _ :: t, 0, v, f => f (some v :: t)
  | a :: t, 1, v, f => q_put t 0 v (fun t' => f (q_keep a :: t'))
  | a :: t, i + 2, v, f => q_put t (i + 1) v (fun t' => f (a :: t'))
def q_clr {β : Type} : QL → Nat → (QL → β) → β
  | [], _, f => f []
  | _ :: t, 0, f => f (none :: t)
  | a :: t, i + 1, f => q_clr t i (fun t' => f (a :: t'))
def q_nth : List (Option Nat) → Nat → Option Nat
  | [], _ => none
  | a :: _, 0 => a
  | _ :: t, i + 1 => q_nth t i
def q_lk : QG → Nat → Option QCell
  | [], _ => none
  | a :: _, 0 => some a
  | _ :: t, i + 1 => q_lk t i
def q_cell (G : QG) (X : QX) : Nat → Option QCell
  | 0 => some (14, X.1 0, [])
  | 1 => some (14, X.1 1, [])
  | 2 => some (14, X.1 2, [])
  | 3 => some (14, X.1 3, [])
  | a + 4 => q_lk G a
def q_up {α : Type} (h : Nat → Nat → α) (a k : Nat) (v : α) : Nat → Nat → α := fun a' k' => if a' = a ∧ k' = k then v else h a' k'
def q_uc {α : Type} (h : Nat → Nat → α) (a : Nat) (f : Nat → α) : Nat → Nat → α := fun a' k' => if a' = a then f k' else h a' k'
def q_cat : List Value → Nat
  | [] => 0
  | .long _ :: t => q_cat t + 2
  | .double _ :: t => q_cat t + 2
  | _ :: t => q_cat t + 1
/-- what a call brings back, by its kind -/
def q_bv {Rt : Type} (x : Option (Option Value × QM)) (f : QM → Option Rt) : Option Rt := match x with
  | some (none, M) => f M
  | _ => none
def q_bi {Rt : Type} (x : Option (Option Value × QM)) (f : Int32 → QM → Option Rt) : Option Rt := match x with
  | some (some (.int v), M) => f v M
  | _ => none
def q_bl {Rt : Type} (x : Option (Option Value × QM)) (f : Int64 → QM → Option Rt) : Option Rt := match x with
  | some (some (.long v), M) => f v M
  | _ => none
def q_br {Rt : Type} (x : Option (Option Value × QM)) (f : Nat → QM → Option Rt) (g : QM → Option Rt) : Option Rt := match x with
  | some (some (.ref v), M) => f v M
  | some (some .null, M) => g M
  | _ => none
def q_bo {Rt : Type} (x : Option Nat) (f : Nat → Option Rt) : Option Rt := match x with
  | some b => f b
  | none => none
/-! the instructions; the first number is where the next one stands -/
def qi_const (t : Nat) (v : Value) : QE := fun _ _ _ _ nx _ L S M => nx t L (v :: S) M
def qi_iload (t i : Nat) : QE := fun _ _ _ _ nx _ L S M => match q_get L i with
  | some (.int x) => nx t L (.int x :: S) M
  | _ => none
def qi_lload (t i : Nat) : QE := fun _ _ _ _ nx _ L S M => match q_get L i with
  | some (.long x) => nx t L (.long x :: S) M
  | _ => none
def qi_aload (t i : Nat) : QE := fun _ _ _ _ nx _ L S M => match q_get L i with
  | some (.ref x) => nx t L (.ref x :: S) M
  | some .null => nx t L (.null :: S) M
  | _ => none
def qi_istore (t i : Nat) : QE := fun _ _ _ _ nx _ L S M => match S with
  | .int x :: S => q_put L i (.int x) (fun L => nx t L S M)
  | _ => none
def qi_lstore (t i : Nat) : QE := fun _ _ _ _ nx _ L S M => match S with
  | .long x :: S => q_put L i (.long x) (fun L => q_clr L (i + 1) (fun L => nx t L S M))
  | _ => none
def qi_astore (t i : Nat) : QE := fun _ _ _ _ nx _ L S M => match S with
  | .ref x :: S => q_put L i (.ref x) (fun L => nx t L S M)
  | .null :: S => q_put L i .null (fun L => nx t L S M)
  | _ => none
def qi_iinc (t i : Nat) (n : Int32) : QE := fun _ _ _ _ nx _ L S M => match q_get L i with
  | some (.int x) => q_put L i (.int (x + n)) (fun L => nx t L S M)
  | _ => none
def qi_bin (t : Nat) (f : Int32 → Int32 → Int32) : QE := fun _ _ _ _ nx _ L S M => match S with
  | .int y :: .int x :: S => nx t L (.int (f x y) :: S) M
  | _ => none
def qi_div (t : Nat) (f : Int32 → Int32 → Int32) : QE := fun _ _ _ _ nx _ L S M => match S with
  | .int y :: .int x :: S => if y = 0 then none else nx t L (.int (f x y) :: S) M
  | _ => none
def qi_un (t : Nat) (f : Int32 → Int32) : QE := fun _ _ _ _ nx _ L S M => match S with
  | .int x :: S => nx t L (.int (f x) :: S) M
  | _ => none
def qi_lbin (t : Nat) (f : Int64 → Int64 → Int64) : QE := fun _ _ _ _ nx _ L S M => match S with
  | .long y :: .long x :: S => nx t L (.long (f x y) :: S) M
  | _ => none
def qi_lsh (t : Nat) (f : Int64 → Int32 → Int64) : QE := fun _ _ _ _ nx _ L S M => match S with
  | .int y :: .long x :: S => nx t L (.long (f x y) :: S) M
  | _ => none
def qi_i2l (t : Nat) : QE := fun _ _ _ _ nx _ L S M => match S with
  | .int x :: S => nx t L (.long x.toInt64 :: S) M
  | _ => none
def qi_l2i (t : Nat) : QE := fun _ _ _ _ nx _ L S M => match S with
  | .long x :: S => nx t L (.int x.toInt32 :: S) M
  | _ => none
def qi_lcmp (t : Nat) : QE := fun _ _ _ _ nx _ L S M => match S with
  | .long y :: .long x :: S => nx t L (.int (lg_cmp x y) :: S) M
  | _ => none
def q_one (v : Value) : Bool := match v with
  | .int _ => true
  | .ref _ => true
  | .null => true
  | _ => false
def qi_pop (t : Nat) : QE := fun _ _ _ _ nx _ L S M => match S with
  | v :: S => cond (q_one v) (nx t L S M) none
  | _ => none
def qi_dup (t : Nat) : QE := fun _ _ _ _ nx _ L S M => match S with
  | v :: S => cond (q_one v) (nx t L (v :: v :: S) M) none
  | _ => none
def qi_dupx1 (t : Nat) : QE := fun _ _ _ _ nx _ L S M => match S with
  | v :: w :: S => cond (q_one v && q_one w) (nx t L (v :: w :: v :: S) M) none
  | _ => none
def qi_dup2 (t : Nat) : QE := fun _ _ _ _ nx _ L S M => match S with
  | v :: w :: S => cond (q_one v && q_one w) (nx t L (v :: w :: v :: w :: S) M) none
  | _ => none
def qi_goto (t : Nat) : QE := fun _ _ _ _ nx _ L S M => nx t L S M
def qi_ifEq (a b : Nat) : QE := fun _ _ _ _ nx _ L S M => match S with
  | .int y :: .int x :: S => if x = y then nx a L S M else nx b L S M
  | _ => none
def qi_ifLt (a b : Nat) : QE := fun _ _ _ _ nx _ L S M => match S with
  | .int y :: .int x :: S => if x < y then nx a L S M else nx b L S M
  | _ => none
def qi_ifLe (a b : Nat) : QE := fun _ _ _ _ nx _ L S M => match S with
  | .int y :: .int x :: S => if x ≤ y then nx a L S M else nx b L S M
  | _ => none
def qi_ifGe (a b : Nat) : QE := fun _ _ _ _ nx _ L S M => match S with
  | .int y :: .int x :: S => if y ≤ x then nx a L S M else nx b L S M
  | _ => none
def qi_ifGt (a b : Nat) : QE := fun _ _ _ _ nx _ L S M => match S with
  | .int y :: .int x :: S => if y < x then nx a L S M else nx b L S M
  | _ => none
def qi_zEq (a b : Nat) : QE := fun _ _ _ _ nx _ L S M => match S with
  | .int x :: S => if x = 0 then nx a L S M else nx b L S M
  | _ => none
def qi_zLt (a b : Nat) : QE := fun _ _ _ _ nx _ L S M => match S with
  | .int x :: S => if x < 0 then nx a L S M else nx b L S M
  | _ => none
def qi_zLe (a b : Nat) : QE := fun _ _ _ _ nx _ L S M => match S with
  | .int x :: S => if x ≤ 0 then nx a L S M else nx b L S M
  | _ => none
def qi_zGe (a b : Nat) : QE := fun _ _ _ _ nx _ L S M => match S with
  | .int x :: S => if 0 ≤ x then nx a L S M else nx b L S M
  | _ => none
def qi_zGt (a b : Nat) : QE := fun _ _ _ _ nx _ L S M => match S with
  | .int x :: S => if 0 < x then nx a L S M else nx b L S M
  | _ => none
def qi_null (a b : Nat) : QE := fun _ _ _ _ nx _ L S M => match S with
  | .ref _ :: S => nx b L S M
  | .null :: S => nx a L S M
  | _ => none
def q_sw {β : Type} (f : Nat → β) (x : Int32) : List (Int32 × Nat) → Nat → β
  | [], d => f d
  | (k, t) :: r, d => if x = k then f t else q_sw f x r d
def qi_sw (ks : List (Int32 × Nat)) (d : Nat) : QE := fun _ _ _ _ nx _ L S M => match S with
  | .int x :: S => q_sw (fun t => nx t L S M) x ks d
  | _ => none
def qi_static (t j : Nat) : QE := fun _ _ _ _ nx _ L S M => nx t L (.ref j :: S) M
/-! a cell of the class; a class's reference; an array's place: as tests that a known address passes -/
def q_atO {β : Type} (G : QG) (X : QX) (a ci : Nat) (o : Option β) : Option β := match q_cell G X a with
  | some (kd, _, _) => cond (kd == ci) o none
  | none => none
def q_atA {β : Type} (G : QG) (X : QX) (a ci k : Nat) (f : Nat → Option β) : Option β := match q_cell G X a with
  | some (kd, _, rs) => cond (kd == ci) (q_bo (q_nth rs k) f) none
  | none => none
def q_arO {β : Type} (G : QG) (X : QX) (a : Nat) (i : Int32) (ci : Nat) (o : Option β) : Option β := match q_cell G X a with
  | some (kd, n, _) => if i < 0 ∨ n ≤ i.toNatClampNeg then none else cond (kd == ci) o none
  | none => none
def q_arI {β : Type} (G : QG) (X : QX) (M : QM) (a : Nat) (i : Int32) (f : Int32 → Option β) : Option β := match q_cell G X a with
  | some (kd, n, _) => if i < 0 ∨ n ≤ i.toNatClampNeg then none else cond (kd == 10) (f (M.1 a i.toNatClampNeg)) (cond (kd == 14 && Nat.ble a 3) (f (X.2 a i.toNatClampNeg)) none)
  | none => none
def q_arA {β : Type} (G : QG) (X : QX) (a : Nat) (i : Int32) (f : Nat → Option β) : Option β := match q_cell G X a with
  | some (kd, n, rs) => if i < 0 ∨ n ≤ i.toNatClampNeg then none else cond (kd == 13) (q_bo (q_nth rs i.toNatClampNeg) f) none
  | none => none
def q_len {β : Type} (G : QG) (X : QX) (a : Nat) (f : Nat → Option β) : Option β := match q_cell G X a with
  | some (kd, n, _) => cond (Nat.ble 10 kd) (f n) none
  | none => none
def qi_getI (t ci k : Nat) : QE := fun G X _ _ nx _ L S M => match S with
  | .ref a :: S => q_atO G X a ci (nx t L (.int (M.1 a k) :: S) M)
  | _ => none
def qi_getA (t ci k : Nat) : QE := fun G X _ _ nx _ L S M => match S with
  | .ref a :: S => q_atA G X a ci k (fun b => nx t L (.ref b :: S) M)
  | _ => none
def qi_putI (t ci k : Nat) : QE := fun G X _ _ nx _ L S M => match S with
  | .int v :: .ref a :: S => q_atO G X a ci (nx t L S (q_up M.1 a k v, M.2))
  | _ => none
def qi_putZ (t ci k : Nat) : QE := fun G X _ _ nx _ L S M => match S with
  | .int v :: .ref a :: S => q_atO G X a ci (if v = 0 ∨ v = 1 then nx t L S (q_up M.1 a k v, M.2) else none)
  | _ => none
def qi_iald (t : Nat) : QE := fun G X _ _ nx _ L S M => match S with
  | .int i :: .ref a :: S => q_arI G X M a i (fun v => nx t L (.int v :: S) M)
  | _ => none
def qi_iast (t : Nat) : QE := fun G X _ _ nx _ L S M => match S with
  | .int v :: .int i :: .ref a :: S => q_arO G X a i 10 (nx t L S (q_up M.1 a i.toNatClampNeg v, M.2))
  | _ => none
def qi_lald (t : Nat) : QE := fun G X _ _ nx _ L S M => match S with
  | .int i :: .ref a :: S => q_arO G X a i 11 (nx t L (.long (M.2 a i.toNatClampNeg) :: S) M)
  | _ => none
def qi_last (t : Nat) : QE := fun G X _ _ nx _ L S M => match S with
  | .long v :: .int i :: .ref a :: S => q_arO G X a i 11 (nx t L S (M.1, q_up M.2 a i.toNatClampNeg v))
  | _ => none
def qi_zald (t : Nat) : QE := fun G X _ _ nx _ L S M => match S with
  | .int i :: .ref a :: S => q_arO G X a i 12 (nx t L (.int (M.1 a i.toNatClampNeg) :: S) M)
  | _ => none
def qi_zast (t : Nat) : QE := fun G X _ _ nx _ L S M => match S with
  | .int v :: .int i :: .ref a :: S => q_arO G X a i 12 (nx t L S (q_up M.1 a i.toNatClampNeg (vp_nar .boolean v), M.2))
  | _ => none
def qi_aald (t : Nat) : QE := fun G X _ _ nx _ L S M => match S with
  | .int i :: .ref a :: S => q_arA G X a i (fun b => nx t L (.ref b :: S) M)
  | _ => none
def qi_alen (t : Nat) : QE := fun G X _ _ nx _ L S M => match S with
  | .ref a :: S => q_len G X a (fun n => nx t L (.int (Int32.ofNat n) :: S) M)
  | _ => none
def q_cpy {β : Type} (G : QG) (X : QX) (M : QM) (a0 : Nat) (sp : Int32) (a : Nat) (dp n : Int32) (f : QM → Option β) : Option β := match q_cell G X a0, q_cell G X a with
  | some (k0, n0, _), some (k1, n1, _) =>
      if sp < 0 ∨ dp < 0 ∨ n < 0 ∨ n0 < sp.toNatClampNeg + n.toNatClampNeg ∨ n1 < dp.toNatClampNeg + n.toNatClampNeg then none else
        cond (k0 == 10 && k1 == 10) (f (q_uc M.1 a (va_cpy (M.1 a0) (M.1 a) sp.toNatClampNeg dp.toNatClampNeg n.toNatClampNeg), M.2))
          (cond (k0 == 11 && k1 == 11) (f (M.1, q_uc M.2 a (va_cpy (M.2 a0) (M.2 a) sp.toNatClampNeg dp.toNatClampNeg n.toNatClampNeg))) none)
  | _, _ => none
def qi_copy (t : Nat) : QE := fun G X _ _ nx _ L S M => match S with
  | .int n :: .int dp :: .ref a :: .int sp :: .ref a0 :: S => cond (Nat.ble (q_cat S) 8) (q_cpy G X M a0 sp a dp n (fun M => nx t L S M)) none
  | _ => none
def q_pop {β : Type} : Nat → List Value → List Value → (List Value → List Value → Option β) → Option β
  | 0, S, acc, f => f acc S
  | n + 1, v :: S, acc, f => q_pop n S (v :: acc) f
  | _ + 1, [], _, _ => none
/-- the receiver, where there is one, is of the class -/
def q_rc {β : Type} (G : QG) (X : QX) (ci : Option Nat) (as : List Value) (o : Option β) : Option β := match ci with
  | none => o
  | some ci => (match as with
    | .ref a :: _ => (match q_cell G X a with
      | some (kd, _, _) => cond (kd == ci) o none
      | none => none)
    | _ => none)
def qi_callv (t k n : Nat) (ci : Option Nat) : QE := fun G X C _ nx _ L S M => q_pop n S [] (fun as S => cond (Nat.ble (q_cat S) 8) (q_rc G X ci as (q_bv (C k as M) (fun M => nx t L S M))) none)
def qi_calli (t k n : Nat) (ci : Option Nat) : QE := fun G X C _ nx _ L S M => q_pop n S [] (fun as S => cond (Nat.ble (q_cat S) 8) (q_rc G X ci as (q_bi (C k as M) (fun v M => nx t L (.int v :: S) M))) none)
def qi_calll (t k n : Nat) (ci : Option Nat) : QE := fun G X C _ nx _ L S M => q_pop n S [] (fun as S => cond (Nat.ble (q_cat S) 8) (q_rc G X ci as (q_bl (C k as M) (fun v M => nx t L (.long v :: S) M))) none)
def qi_callr (t k n : Nat) (ci : Option Nat) : QE := fun G X C _ nx _ L S M => q_pop n S [] (fun as S => cond (Nat.ble (q_cat S) 8) (q_rc G X ci as (q_br (C k as M) (fun v M => nx t L (.ref v :: S) M) (fun M => nx t L (.null :: S) M))) none)
def qi_objInit (t : Nat) : QE := fun _ _ _ _ nx _ L S M => match S with
  | .ref _ :: S => cond (Nat.ble (q_cat S) 8) (nx t L S M) none
  | _ => none
def qi_iret : QE := fun _ _ _ _ _ rt _ S M => match S with
  | [.int x] => rt (some (.int x)) M
  | _ => none
def qi_zret : QE := fun _ _ _ _ _ rt _ S M => match S with
  | [.int x] => if x = 0 ∨ x = 1 then rt (some (.int x)) M else none
  | _ => none
def qi_lret : QE := fun _ _ _ _ _ rt _ S M => match S with
  | [.long x] => rt (some (.long x)) M
  | _ => none
def qi_aret : QE := fun _ _ _ _ _ rt _ S M => match S with
  | [.ref x] => rt (some (.ref x)) M
  | [.null] => rt (some .null) M
  | _ => none
def qi_vret : QE := fun _ _ _ _ _ rt _ S M => match S with
  | [] => rt none M
  | _ => none
/-! a frame's run: between cut places a run of fewer than 400 instructions -/
def q_mask : List Bool → QL → QL
  | true :: b, a :: t => a :: q_mask b t
  | false :: b, _ :: t => none :: q_mask b t
  | _, _ => []
def q_in (G : QG) (X : QX) (C : QC) (cd : Nat → Option QE) (ct : Nat → Option (List Bool)) (K : Nat → QL → List Value → QM → Option (Option Value × QM)) : Nat → Nat → QL → List Value → QM → Option (Option Value × QM)
  | 0, _, _, _, _ => none
  | f + 1, pc, L, S, M => match cd pc with
    | none => none
    | some e => e G X C (Option Value × QM) (fun pc' L' S' M' => match ct pc' with
      | none => q_in G X C cd ct K f pc' L' S' M'
      | some b => K pc' (q_mask b L') S' M') (fun v M' => some (v, M')) L S M
def q_out (G : QG) (X : QX) (C : QC) (cd : Nat → Option QE) (ct : Nat → Option (List Bool)) : Nat → Nat → QL → List Value → QM → Option (Option Value × QM)
  | 0, _, _, _, _ => none
  | n + 1, pc, L, S, M => q_in G X C cd ct (q_out G X C cd ct n) 400 pc L S M
def q_args : List Value → QL
  | [] => []
  | .long x :: t => some (.long x) :: none :: q_args t
  | .double x :: t => some (.double x) :: none :: q_args t
  | v :: t => some v :: q_args t
def q_entry (nL : Nat) (as : List Value) : QL := q_args as ++ List.replicate (nL - (q_args as).length) none
/-- a program: for each method its name, bytes, locals, what it returns; its code; its cut places -/
abbrev QP : Type := Nat → MethodName × ByteArray × Nat × Option FieldType
def qN : Nat := 1000000
def q_call (P : QP) (cd : Nat → Nat → Option QE) (ct : Nat → Nat → Option (List Bool)) (G : QG) (X : QX) : Nat → QC
  | 0 => fun _ _ _ => none
  | d + 1 => fun k as M => cond (Nat.ble (q_args as).length (P k).2.2.1) (q_out G X (q_call P cd ct G X d) (cd k) (ct k) qN 0 (q_entry (P k).2.2.1 as) [] M) none
end
section
/-! HOW THE CLEAN MACHINE STANDS TO THE REAL ONE -/
abbrev QTy : Type := ClassId × ClassId × ClassId × ClassId
def q_tys (ty : QTy) : List (ClassId × FieldType) := [(ty.1, .int), (ty.2.1, .long), (ty.2.2.1, .boolean), (ty.2.2.2, .object "RungByHeart$Shelf")]
def q_rho (tb : Nat → Nat) (base : Nat) (a : Nat) : Nat := if a < 4 then tb a else base + (a - 4)
def q_rv (tb : Nat → Nat) (base : Nat) (v : Value) : Value := match v with
  | .ref a => .ref (q_rho tb base a)
  | v => v
/-- field k of class ci is an int or a boolean -/
def q_fi (ci k : Nat) : Bool := match vwCl[ci]? with
  | some r => (r.2.1 k).2.2.1 == "I" || (r.2.1 k).2.2.1 == "Z"
  | none => false
def q_nf (ci : Nat) : Nat := match vwCl[ci]? with
  | some r => r.2.2
  | none => 0
def q_fv (tb : Nat → Nat) (base : Nat) (M : QM) (a ci : Nat) (rs : List (Option Nat)) (k : Nat) : Value := if q_fi ci k = true then .int (M.1 a k) else va_rf ((q_nth rs k).map (q_rho tb base))
def q_ent (ty : QTy) (tb : Nat → Nat) (base : Nat) (M : QM) (a : Nat) (q : QCell) : va_E :=
  if q.1 < 10 then .inr (q.1, (List.range (q_nf q.1)).map (q_fv tb base M a q.1 q.2.2))
  else if q.1 = 10 then .inl (ty.1, q.2.1, .inl (M.1 a))
  else if q.1 = 11 then .inl (ty.2.1, q.2.1, .inr (.inl (M.2 a)))
  else if q.1 = 12 then .inl (ty.2.2.1, q.2.1, .inl (M.1 a))
  else .inl (ty.2.2.2, q.2.1, .inr (.inr (.inr (.inr (fun j => (q_nth q.2.2 j).map (q_rho tb base))))))
def q_wf (ty : QTy) (tb : Nat → Nat) (base : Nat) (M : QM) (i : Nat) (q : QCell) : Nat × va_E := (base + i, q_ent ty tb base M (i + 4) q)
def q_W (ty : QTy) (tb : Nat → Nat) (base : Nat) (G : QG) (M : QM) : va_W := G.mapIdx (q_wf ty tb base M)
theorem q_lk_get (G : QG) (i : Nat) : q_lk G i = G[i]? := by
  induction G generalizing i with
  | nil => simp [q_lk]
  | cons a t ih => cases i with
    | zero => simp [q_lk]
    | succ i => simp [q_lk, ih]
theorem q_nth_get (rs : List (Option Nat)) (i : Nat) : q_nth rs i = (rs[i]?).join := by
  induction rs generalizing i with
  | nil => simp [q_nth]
  | cons a t ih => cases i with
    | zero => simp [q_nth]
    | succ i => simp [q_nth, ih]
theorem q_W_get {ty : QTy} {tb : Nat → Nat} {base : Nat} {G : QG} {M : QM} {i : Nat} {q : QCell} (h : G[i]? = some q) : (q_W ty tb base G M)[i]? = some (base + i, q_ent ty tb base M (i + 4) q) := by
  simp [q_W, List.getElem?_mapIdx, h, q_wf]
theorem q_W_len {ty : QTy} {tb : Nat → Nat} {base : Nat} {G : QG} {M : QM} : (q_W ty tb base G M).length = G.length := by simp [q_W]
/-- memory changed in one cell alone -/
theorem q_W_set {ty : QTy} {tb : Nat → Nat} {base : Nat} {G : QG} {M M' : QM} {i : Nat} {q : QCell} {e : va_E} (h : G[i]? = some q) (h1 : ∀ a, a ≠ i + 4 → M'.1 a = M.1 a ∧ M'.2 a = M.2 a) (he : q_ent ty tb base M' (i + 4) q = e) :
    (q_W ty tb base G M).set i (base + i, e) = q_W ty tb base G M' := by
  subst he
  have hi : i < G.length := (List.getElem?_eq_some_iff.mp h).1
  apply List.ext_getElem?
  intro j
  by_cases hj : i = j
  · subst hj
    rw [List.getElem?_set_self (by rw [q_W_len]; exact hi), q_W_get h]
  · rw [List.getElem?_set_ne hj]
    cases hg : G[j]? with
    | none =>
      have hlen : G.length ≤ j := by simpa using hg
      rw [List.getElem?_eq_none (by rw [q_W_len]; exact hlen), List.getElem?_eq_none (by rw [q_W_len]; exact hlen)]
    | some r =>
      rw [q_W_get hg, q_W_get hg]
      have h2 := h1 (j + 4) (by omega)
      have e1 : q_ent ty tb base M' (j + 4) r = q_ent ty tb base M (j + 4) r := by
        unfold q_ent q_fv
        rw [h2.1, h2.2]
      rw [e1]
/-- the locals: what the clean ones name stands in the real ones -/
def QLR (tb : Nat → Nat) (base nL : Nat) (ls : Array Slot) (L : QL) : Prop := lv_has ls nL [] ∧ ∀ (i : Nat) (v : Value), q_get L i = some v → ls[i]? = some (.val (q_rv tb base v))
def q_lv (tb : Nat → Nat) (base nL : Nat) (L : QL) : List (Nat × Value) := (List.range nL).filterMap (fun i => (q_get L i).map (fun v => (i, q_rv tb base v)))
theorem QLR.has {tb : Nat → Nat} {base nL : Nat} {ls : Array Slot} {L : QL} (h : QLR tb base nL ls L) : lv_has ls nL (q_lv tb base nL L) := by
  refine ⟨h.1.1, h.1.2.1, fun q hq => ?_⟩
  obtain ⟨i, -, hi⟩ := List.mem_filterMap.mp hq
  cases hg : q_get L i with
  | none => rw [hg] at hi; cases hi
  | some v =>
    rw [hg] at hi
    cases hi
    exact h.2 i v hg
theorem QLR.mem {tb : Nat → Nat} {base nL : Nat} {ls : Array Slot} {L : QL} (h : QLR tb base nL ls L) {i : Nat} {v : Value} (hg : q_get L i = some v) : (i, q_rv tb base v) ∈ q_lv tb base nL L := by
  refine List.mem_filterMap.mpr ⟨i, List.mem_range.mpr ?_, by rw [hg]; rfl⟩
  have := lv_lt (h.2 i v hg)
  rw [h.1.1] at this
  exact this
def q_putL (L : QL) (i : Nat) (v : Value) : QL := q_put L i v (fun L => L)
def q_clrL (L : QL) (i : Nat) : QL := q_clr L i (fun L => L)
theorem q_put_eq {β : Type} (L : QL) (i : Nat) (v : Value) (f : QL → β) : q_put L i v f = f (q_putL L i v) := by
  induction L generalizing i β f with
  | nil => simp [q_put, q_putL]
  | cons a t ih => match i with
    | 0 => simp [q_put, q_putL]
    | 1 =>
      simp only [q_put, q_putL]
      rw [ih, ih 0 (fun t' => q_keep a :: t')]
    | i + 2 =>
      simp only [q_put, q_putL]
      rw [ih, ih (i + 1) (fun t' => a :: t')]
theorem q_clr_eq {β : Type} (L : QL) (i : Nat) (f : QL → β) : q_clr L i f = f (q_clrL L i) := by
  induction L generalizing i β f with
  | nil => simp [q_clr, q_clrL]
  | cons a t ih => match i with
    | 0 => simp [q_clr, q_clrL]
    | i + 1 =>
      simp only [q_clr, q_clrL]
      rw [ih, ih i (fun t' => a :: t')]
theorem q_putL_get (L : QL) (i : Nat) (w : Value) (j : Nat) (v : Value) (h : q_get (q_putL L i w) j = some v) : (j = i ∧ v = w) ∨ (j ≠ i ∧ q_get L j = some v ∧ ¬ (j + 1 = i ∧ v.category = 2)) := by
  induction L generalizing i j with
  | nil => simp [q_putL, q_put, q_get] at h
  | cons a t ih => match i with
    | 0 =>
      simp only [q_putL, q_put] at h
      cases j with
      | zero => simp only [q_get, Option.some.injEq] at h; exact Or.inl ⟨rfl, h.symm⟩
      | succ j => exact Or.inr ⟨by omega, h, by omega⟩
    | 1 =>
      simp only [q_putL, q_put] at h
      rw [q_put_eq] at h
      cases j with
      | zero =>
        simp only [q_get] at h
        refine Or.inr ⟨by omega, ?_, fun hx => ?_⟩
        · unfold q_keep at h
          split at h
          · cases h
          · cases h
          · exact h
        · obtain ⟨-, hx⟩ := hx
          unfold q_keep at h
          split at h
          · cases h
          · cases h
          · rename_i hn1 hn2
            cases v <;> simp [Value.category] at hx
            · exact hn1 _ h
            · exact hn2 _ h
      | succ j =>
        rcases ih 0 j h with ⟨h1, h2⟩ | ⟨h1, h2, h3⟩
        · exact Or.inl ⟨by omega, h2⟩
        · exact Or.inr ⟨by omega, h2, fun hx => h3 ⟨by omega, hx.2⟩⟩
    | i + 2 =>
      simp only [q_putL, q_put] at h
      rw [q_put_eq] at h
      cases j with
      | zero => exact Or.inr ⟨by omega, h, by omega⟩
      | succ j =>
        rcases ih (i + 1) j h with ⟨h1, h2⟩ | ⟨h1, h2, h3⟩
        · exact Or.inl ⟨by omega, h2⟩
        · exact Or.inr ⟨by omega, h2, fun hx => h3 ⟨by omega, hx.2⟩⟩
theorem q_clrL_get (L : QL) (i j : Nat) (v : Value) (h : q_get (q_clrL L i) j = some v) : j ≠ i ∧ q_get L j = some v := by
  induction L generalizing i j with
  | nil => simp [q_clrL, q_clr, q_get] at h
  | cons a t ih => match i with
    | 0 =>
      simp only [q_clrL, q_clr] at h
      cases j with
      | zero => simp [q_get] at h
      | succ j => exact ⟨by omega, h⟩
    | i + 1 =>
      simp only [q_clrL, q_clr] at h
      rw [q_clr_eq] at h
      cases j with
      | zero => exact ⟨by omega, h⟩
      | succ j =>
        obtain ⟨h1, h2⟩ := ih i j h
        exact ⟨by omega, h2⟩
theorem q_rv_cat (tb : Nat → Nat) (base : Nat) (v : Value) : (q_rv tb base v).category = v.category := by cases v <;> rfl
theorem q_mask_get (b : List Bool) (L : QL) (i : Nat) (v : Value) (h : q_get (q_mask b L) i = some v) : q_get L i = some v := by
  induction b generalizing L i with
  | nil => simp [q_mask, q_get] at h
  | cons c b ih => cases L with
    | nil => cases c <;> simp [q_mask, q_get] at h
    | cons a t => cases c <;> cases i <;> simp only [q_mask, q_get] at h ⊢ <;> first | exact ih _ _ h | exact h | cases h
theorem QLR.mask {tb : Nat → Nat} {base nL : Nat} {ls : Array Slot} {L : QL} (h : QLR tb base nL ls L) (b : List Bool) : QLR tb base nL ls (q_mask b L) := ⟨h.1, fun i v hv => h.2 i v (q_mask_get b L i v hv)⟩
/-- behind a store of a one-word value -/
theorem QLR.put {tb : Nat → Nat} {base nL : Nat} {ls ls' : Array Slot} {L : QL} (h : QLR tb base nL ls L) {i : Nat} {w : Value}
    (h' : lv_has ls' nL ((i, q_rv tb base w) :: (q_lv tb base nL L).filter (fun q => !(q.1 == i) && !(q.1 + 1 == i && q.2.category == 2)))) : QLR tb base nL ls' (q_putL L i w) := by
  refine ⟨⟨h'.1, h'.2.1, fun q hq => by cases hq⟩, fun j v hv => ?_⟩
  rcases q_putL_get L i w j v hv with ⟨rfl, rfl⟩ | ⟨h1, h2, h3⟩
  · exact h'.2.2 (j, q_rv tb base v) List.mem_cons_self
  · refine h'.2.2 (j, q_rv tb base v) (List.mem_cons_of_mem _ (List.mem_filter.mpr ⟨h.mem h2, ?_⟩))
    by_cases hj : j + 1 = i
    · have hc : ¬ v.category = 2 := fun hc => h3 ⟨hj, hc⟩
      have e1 : (j == i) = false := by simp; omega
      have e2 : ((q_rv tb base v).category == 2) = false := by rw [q_rv_cat]; simp [hc]
      simp only [e1, e2]
      simp
    · have e1 : (j == i) = false := by simp; omega
      have e2 : (j + 1 == i) = false := by simp [hj]
      simp only [e1, e2]
      simp
end
section
/-! THE CONTEXT OF A FRAME, and what an instruction of the clean machine must be of the real one -/
def q_GW : List Cond := lw_tbl.filter goodWord
def q_nest (w : Cond) : Bool := match w with
  | .fieldLinkNest _ _ _ _ _ _ => true
  | .methodLinkNest _ _ _ _ => true
  | _ => false
def q_NW : List Cond := lw_tbl.filter q_nest
def q_zc (j : Nat) : String := match j with
  | 0 => "RungByHeart"
  | _ => "RungByHeart$Strokes"
def q_zn (j : Nat) : String := match j with
  | 0 => "MOST"
  | 1 => "ABOVE"
  | _ => "OWN"
def q_A (base : Nat) : Nat → Prop := fun q => base ≤ q
def QSt (D : va_G) (ty : QTy) (tb : Nat → Nat) (base : Nat) (X : QX) (U : State) : Prop :=
  va_K D vwCl (q_tys ty) U ∧ (∀ j, j < 4 → va_T .int (tb j) (X.1 j) (fun i => .int (X.2 j i)) (q_A base) U U.heap) ∧ (∀ j, j < 3 → va_Z (q_zc j) (q_zn j) "[I" (.ref (tb j)) (q_A base) U U.heap) ∧ (∀ w ∈ q_NW, va_Nw w U) ∧ va_AO "RungByHeart$Shelf" U
def QWld (D : va_G) (ty : QTy) (tb : Nat → Nat) (base : Nat) (X : QX) (G : QG) (M : QM) (U : State) : Prop :=
  QSt D ty tb base X U ∧ va_P D vwCl (q_W ty tb base G M) U.heap ∧ U.heap.size = base + G.length
def QRel (D : va_G) (ty : QTy) (tb : Nat → Nat) (base : Nat) (G : QG) (M : QM) (H0 H : Heap) (locs : List Loc) : Prop :=
  va_P D vwCl (q_W ty tb base G M) H ∧ va_S (q_A base) H0 H locs
def QQ (D : va_G) (ty : QTy) (tb : Nat → Nat) (base : Nat) (v : Option Value) (G : QG) (M : QM) : Array Value → State → Outcome → State → Prop :=
  fun _ st oc t => oc = .returned (v.map (q_rv tb base)) ∧ va_P D vwCl (q_W ty tb base G M) t.heap ∧ va_F (q_A base) st t
theorem q_D {ty : QTy} {tb : Nat → Nat} {base : Nat} {G : QG} {M : QM} : va_D (q_A base) (q_W ty tb base G M) := by
  have key : ∀ (i : Nat) (q : Nat × va_E), (q_W ty tb base G M)[i]? = some q → q.1 = base + i := by
    intro i q h
    cases hg : G[i]? with
    | none => simp [q_W, List.getElem?_mapIdx, hg] at h
    | some r =>
      rw [q_W_get hg] at h
      cases h
      rfl
  refine ⟨fun i j p q hi hj hpq => ?_, fun k q hk => ?_⟩
  · have h1 := key i p hi
    have h2 := key j q hj
    omega
  · have h1 := key k q hk
    show base ≤ q.1
    omega
theorem q_nest_tabs {w : Cond} (h : w ∈ q_NW) : w.onTables = true := by
  have h1 := (List.mem_filter.mp h).2
  cases w <;> first | rfl | cases h1
theorem q_nest_warm {w : Cond} (h : w ∈ q_NW) {s U : State} (hW : s.WarmedH U.vm) (hZ : va_Nw w s) : va_Nw w U := by
  have h1 := (List.mem_filter.mp h).2
  cases w <;> first | exact va_Nw.warmF hW hZ | exact va_Nw.warmM hW hZ | cases h1
theorem QSt.call {D : va_G} {ty : QTy} {tb : Nat → Nat} {base : Nat} {X : QX} {s U : State} {H : Heap} {locs : List Loc} (h : QSt D ty tb base X s) (hS : va_S (q_A base) s.heap H locs) (hU : U.heap = H) (hW : s.WarmedH U.vm) : QSt D ty tb base X U := by
  obtain ⟨hK, hT, hZ, hN, hO⟩ := h
  have hk : ∀ a : Nat, a < s.heap.size → ¬ q_A base a → U.heap[a]? = s.heap[a]? := fun a h1 h2 => by rw [hU]; exact hS.2.1 a h1 h2
  exact ⟨va_K.moved hW.alike hK, fun j hj => ((hT j hj).moved hW.alike).kept hk, fun j hj => ((hZ j hj).moved hW.alike).kept hk, fun w hw => q_nest_warm hw hW (hN w hw), va_AO.moved hW.alike hO⟩
theorem QSt.same {D : va_G} {ty : QTy} {tb : Nat → Nat} {base : Nat} {X : QX} {s U : State} (h : QSt D ty tb base X s) (hU : U.heap = s.heap) (hv : U.vm = s.vm) : QSt D ty tb base X U := by
  obtain ⟨hK, hT, hZ, hN, hO⟩ := h
  have ha : s.vm.Alike U.vm := by rw [hv]; exact Vm.Alike.refl _
  have hk : ∀ a : Nat, a < s.heap.size → ¬ q_A base a → U.heap[a]? = s.heap[a]? := fun a _ _ => by rw [hU]
  exact ⟨va_K.moved ha hK, fun j hj => ((hT j hj).moved ha).kept hk, fun j hj => ((hZ j hj).moved ha).kept hk, fun w hw => (hN w hw).same (q_nest_tabs hw) hv.symm, va_AO.moved ha hO⟩
theorem q_blind {D : va_G} {ty : QTy} {tb : Nat → Nat} {base : Nat} {X : QX} {G : QG} {M : QM} (av : List Value) : FrameBlind (va_Pc av (QWld D ty tb base X G M)) := by
  intro a U g mk h
  exact ⟨h.1, h.2.1.same (U := U.calling g mk a) rfl rfl, h.2.2.1, h.2.2.2⟩
def q_ws (P : QP) (k : Nat) : List Cond := Cond.code (P k).1 (P k).2.1 (P k).2.2.1 (P k).2.2.2 :: q_GW
def q_rm (d mc ms : Nat) : Room := { frames := d, cells := mc, slots := ms, locals := 40 * d }
def QCok (l : Launch) (P : QP) (D : va_G) (ty : QTy) (tb : Nat → Nat) (base : Nat) (X : QX) (G : QG) (C : QC) (d : Nat) : Prop :=
  ∀ (k : Nat) (as : List Value) (M : QM) (v : Option Value) (M' : QM), C k as M = some (v, M') → Met l (P k).1 (q_ws P k) (q_rm d 0 0) (va_Pc (as.map (q_rv tb base)) (QWld D ty tb base X G M)) (QQ D ty tb base v G M') 0 0 (q_A base)
def QCx (D : va_G) (ty : QTy) (tb : Nat → Nat) (base : Nat) (X : QX) (p : Program) (s : State) (m : MethodId) (args : Array Value) (c : Code) (own : String) (cc : ByteArray) (nL : Nat) : Prop :=
  p.tables.exec = Jvm.exec ∧ c.code = cc ∧ c.maxLocals = nL ∧ s.vm.findClass own = some m.cls ∧ (∀ w ∈ q_GW, w.before args s = true) ∧ QSt D ty tb base X s
def q_retOK (ret : Option FieldType) (v : Option Value) : Prop := match v with
  | none => ret = none
  | some (.int x) => ret = some .int ∨ (ret = some .boolean ∧ (x = 0 ∨ x = 1))
  | some (.long _) => ret = some .long
  | some (.ref _) => ∃ n, ret = some (.object n)
  | some .null => ∃ n, ret = some (.object n)
  | _ => False
def q_retI (v : Option Value) : Instr := match v with
  | none => .return_
  | some (.int _) => .ireturn
  | some (.long _) => .lreturn
  | _ => .areturn
section QWs
variable (p : Program) (l : Launch) (e : Env) (R : Room) (s : State) (m : MethodId) (args : Array Value) (below : List Frame) (meth : Method) (c : Code) (D : va_G) (ty : QTy) (tb : Nat → Nat) (base nL : Nat) (G : QG) (cells slots : Nat) (Q : State → Prop)
def QW (pc : Nat) (L : QL) (S : List Value) (M : QM) : Prop := ∀ (H : Heap) (locs : List Loc) (ls : Array Slot), QRel D ty tb base G M s.heap H locs → QLR tb base nL ls L →
  W p l e R s m args below meth c H locs cells slots Q (F0 m pc ls (S.map (q_rv tb base)))
def QRt (cc : ByteArray) (ret : Option FieldType) (v : Option Value) (M : QM) : Prop := q_retOK ret v → ∀ (pcr : Nat) (H : Heap) (locs : List Loc) (ls : Array Slot), QRel D ty tb base G M s.heap H locs → decode cc pcr = .ok (q_retI v, 1) →
  W p l e R s m args below meth c H locs cells slots Q (F0 m pcr ls ((v.map (q_rv tb base)).toList))
end QWs
/-- an entry of the clean code at pc stands for the real code's instruction there -/
def QGood (l : Launch) (P : QP) (own : String) (cc : ByteArray) (nL : Nat) (ret : Option FieldType) (pc : Nat) (E : QE) : Prop :=
  ∀ (p : Program) (e : Env) (s : State) (m : MethodId) (args : Array Value) (below : List Frame) (meth : Method) (c : Code) (R : Room) (D : va_G) (ty : QTy) (tb : Nat → Nat) (base : Nat) (X : QX) (G : QG) (C : QC) (d cells slots : Nat) (Q : State → Prop),
    QCx D ty tb base X p s m args c own cc nL → QCok l P D ty tb base X G C d → (d + 1 ≤ R.frames ∧ 40 * (d + 1) ≤ R.locals ∧ cells ≤ R.cells ∧ slots ≤ R.slots ∧ s.heap.size + cells = base + G.length ∧ base ≤ s.heap.size) →
    ∀ (Rt : Type) (nx : Nat → QL → List Value → QM → Option Rt) (rt : Option Value → QM → Option Rt) (L : QL) (S : List Value) (M : QM) (r : Rt), E G X C Rt nx rt L S M = some r →
      (∀ pc' L' S' M', nx pc' L' S' M' = some r → QW p l e R s m args below meth c D ty tb base nL G cells slots Q pc' L' S' M') →
      (∀ v M', rt v M' = some r → QRt p l e R s m args below meth c D ty tb base G cells slots Q cc ret v M') →
      QW p l e R s m args below meth c D ty tb base nL G cells slots Q pc L S M
theorem q_size {p : Program} {l : Launch} {e : Env} {R : Room} {s : State} {m : MethodId} {args : Array Value} {below : List Frame} {meth : Method} {c : Code} {H : Heap} {locs : List Loc} {cells slots : Nat} {Q : State → Prop} {g : JFrame}
    (h : H.size ≤ s.heap.size + cells → W p l e R s m args below meth c H locs cells slots Q g) : W p l e R s m args below meth c H locs cells slots Q g := by
  intro T hT X
  exact h (by rw [← hT]; exact X.heapSize) T hT X
theorem q_lb {D : va_G} {ty : QTy} {tb : Nat → Nat} {base : Nat} {G : QG} {M : QM} {H : Heap} (hP : va_P D vwCl (q_W ty tb base G M) H) (hb : base ≤ H.size) : base + G.length ≤ H.size := by
  cases hl : G.length with
  | zero => omega
  | succ n =>
    have hn : n < G.length := by omega
    have h1 := (hP n _ (q_W_get (List.getElem?_eq_getElem hn))).lt
    have h2 : base + n < H.size := h1
    omega
theorem q_after {p : Program} {l : Launch} {e : Env} {R : Room} {s : State} {m : MethodId} {args : Array Value} {below : List Frame} {meth : Method} {c : Code} {H : Heap} {locs : List Loc} {cells slots mc ms : Nat} {Q : State → Prop} {D : va_G} {ty : QTy} {tb : Nat → Nat} {base : Nat} {G' : QG} {M' : QM} {v : Option Value} {pc : Nat} {ls : Array Slot} {st0 rest : List Value} {a : Array Value}
    (hr : va_Run p l e R s m args below meth c H locs cells slots mc ms (F0 m pc ls st0) rest (QQ D ty tb base v G' M' a) (q_A base)) (hS : va_S (q_A base) s.heap H locs)
    (kk : ∀ (H1 : Heap) (locs1 : List Loc), QRel D ty tb base G' M' s.heap H1 locs1 → W p l e R s m args below meth c H1 locs1 (cells + mc) (slots + ms) Q (F0 m (pc + 3) ls ((v.map (q_rv tb base)).toList ++ rest))) :
    W p l e R s m args below meth c H locs cells slots Q (F0 m pc ls st0) := by
  intro T hT X
  obtain ⟨v1, st₀, t, T', L, h0, X', hL, e1, e2, ⟨hv, hP, hz, hk⟩, st⟩ := hr T hT X
  cases hv
  rw [h0] at hz hk
  obtain ⟨t2, a1, b1⟩ := kk T'.heap (locs ++ L) ⟨by rw [e1]; exact hP, ⟨Nat.le_trans hS.1 (by rw [e1]; exact hz), fun q h1 h2 => by rw [e1, hk q (Nat.lt_of_lt_of_le h1 hS.1) h2]; exact hS.2.1 q h1 h2, fun q hq => by
      rcases List.mem_append.mp hq with h | h
      · exact hS.2.2 q h
      · exact hL q h⟩⟩ T' rfl X'
  exact ⟨t2, st t2 a1, b1⟩
theorem q_cell_cases {G : QG} {X : QX} {a : Nat} {q : QCell} (h : q_cell G X a = some q) : (a < 4 ∧ q = (14, X.1 a, [])) ∨ ∃ i, a = i + 4 ∧ G[i]? = some q := by
  match a, h with
  | 0, h => cases h; exact Or.inl ⟨by omega, rfl⟩
  | 1, h => cases h; exact Or.inl ⟨by omega, rfl⟩
  | 2, h => cases h; exact Or.inl ⟨by omega, rfl⟩
  | 3, h => cases h; exact Or.inl ⟨by omega, rfl⟩
  | i + 4, h => exact Or.inr ⟨i, rfl, by rw [← q_lk_get]; exact h⟩
theorem q_rho_hi (tb : Nat → Nat) (base i : Nat) : q_rho tb base (i + 4) = base + i := by
  have h : ¬ i + 4 < 4 := by omega
  simp [q_rho, h]
theorem q_rho_lo (tb : Nat → Nat) (base : Nat) {a : Nat} (h : a < 4) : q_rho tb base a = tb a := by simp [q_rho, h]
theorem q_cat_eq (tb : Nat → Nat) (base : Nat) (S : List Value) : ((S.map (q_rv tb base)).map fun v => v.category).sum = q_cat S := by
  induction S with
  | nil => rfl
  | cons v t ih =>
    simp only [List.map_cons, List.sum_cons, q_rv_cat, ih]
    cases v <;> simp [q_cat, Value.category] <;> omega
theorem q_pop_of {β : Type} (n : Nat) (S acc : List Value) (f : List Value → List Value → Option β) (r : β) (h : q_pop n S acc f = some r) : ∃ as rest, as.length = n ∧ S = as.reverse ++ rest ∧ f (as ++ acc) rest = some r := by
  induction n generalizing S acc with
  | zero => exact ⟨[], S, rfl, rfl, h⟩
  | succ n ih => cases S with
    | nil => cases h
    | cons v S =>
      obtain ⟨as, rest, h1, h2, h3⟩ := ih S (v :: acc) h
      exact ⟨as ++ [v], rest, by simp [h1], by simp [h2], by simpa using h3⟩
end
section
/-! THE INSTRUCTIONS, one by one: numbers, locals, stack, branches -/
theorem q_cond {β : Type} {b : Bool} {o : Option β} {r : β} (h : cond b o none = some r) : b = true ∧ o = some r := by
  cases b
  · cases h
  · exact ⟨rfl, h⟩
theorem q_one_cat {tb : Nat → Nat} {base : Nat} {v : Value} (h : q_one v = true) : (q_rv tb base v).category = 1 := by
  rw [q_rv_cat]
  cases v <;> first | rfl | cases h
/-- behind a store of a two-word value -/
theorem QLR.putL {tb : Nat → Nat} {base nL : Nat} {ls ls' : Array Slot} {L : QL} (h : QLR tb base nL ls L) {i : Nat} {w : Int64}
    (h' : lv_has ls' nL ((i, Value.long w) :: (q_lv tb base nL L).filter (fun q => !(q.1 == i) && (!(q.1 == i + 1) && !(q.1 + 1 == i && q.2.category == 2))))) : QLR tb base nL ls' (q_clrL (q_putL L i (.long w)) (i + 1)) := by
  refine ⟨⟨h'.1, h'.2.1, fun q hq => by cases hq⟩, fun j v hv => ?_⟩
  obtain ⟨h0, hv⟩ := q_clrL_get _ _ _ _ hv
  rcases q_putL_get L i (.long w) j v hv with ⟨rfl, rfl⟩ | ⟨h1, h2, h3⟩
  · exact h'.2.2 (j, .long w) List.mem_cons_self
  · refine h'.2.2 (j, q_rv tb base v) (List.mem_cons_of_mem _ (List.mem_filter.mpr ⟨h.mem h2, ?_⟩))
    have e1 : (j == i) = false := by simp; omega
    have e3 : (j == i + 1) = false := by simp; omega
    by_cases hj : j + 1 = i
    · have hc : ¬ v.category = 2 := fun hc => h3 ⟨hj, hc⟩
      have e2 : ((q_rv tb base v).category == 2) = false := by rw [q_rv_cat]; simp [hc]
      simp only [e1, e2, e3]
      simp
    · have e2 : (j + 1 == i) = false := by simp [hj]
      simp only [e1, e2, e3]
      simp
theorem qg_iconst {l : Launch} {P : QP} {own : String} {cc : ByteArray} {nL pc : Nat} {ret : Option FieldType} {n : Int} {v : Int32} (h : decode cc pc = .ok (.iconst n, 1)) (hv : Int32.ofInt n = v) : QGood l P own cc nL ret pc (qi_const (pc + 1) (.int v)) := by
  intro p e s m args below meth c R D ty tb base X G C d cells slots Q cx hC hroom Rt nx rt L S M r he hn hr H locs ls hR hL
  obtain ⟨hx, hb, hml, hown, hts, hSt⟩ := cx
  exact lv_iconst hx hb h hv (hn _ _ _ _ he H locs ls hR hL)
theorem qg_bipush {l : Launch} {P : QP} {own : String} {cc : ByteArray} {nL pc : Nat} {ret : Option FieldType} {n : Int} {v : Int32} (h : decode cc pc = .ok (.bipush n, 2)) (hv : (Int8.ofInt n).toInt32 = v) : QGood l P own cc nL ret pc (qi_const (pc + 2) (.int v)) := by
  intro p e s m args below meth c R D ty tb base X G C d cells slots Q cx hC hroom Rt nx rt L S M r he hn hr H locs ls hR hL
  obtain ⟨hx, hb, hml, hown, hts, hSt⟩ := cx
  exact lv_bipush hx hb h hv (hn _ _ _ _ he H locs ls hR hL)
theorem qg_sipush {l : Launch} {P : QP} {own : String} {cc : ByteArray} {nL pc : Nat} {ret : Option FieldType} {n : Int} {v : Int32} (h : decode cc pc = .ok (.sipush n, 3)) (hv : (Int16.ofInt n).toInt32 = v) : QGood l P own cc nL ret pc (qi_const (pc + 3) (.int v)) := by
  intro p e s m args below meth c R D ty tb base X G C d cells slots Q cx hC hroom Rt nx rt L S M r he hn hr H locs ls hR hL
  obtain ⟨hx, hb, hml, hown, hts, hSt⟩ := cx
  exact lv_sipush hx hb h hv (hn _ _ _ _ he H locs ls hR hL)
theorem qg_lconst {l : Launch} {P : QP} {own : String} {cc : ByteArray} {nL pc : Nat} {ret : Option FieldType} {n : Fin 2} {v : Int64} (h : decode cc pc = .ok (.lconst n, 1)) (hv : Int64.ofNat (n : Nat) = v) : QGood l P own cc nL ret pc (qi_const (pc + 1) (.long v)) := by
  intro p e s m args below meth c R D ty tb base X G C d cells slots Q cx hC hroom Rt nx rt L S M r he hn hr H locs ls hR hL
  obtain ⟨hx, hb, hml, hown, hts, hSt⟩ := cx
  exact lv_lconst hx hb h hv (hn _ _ _ _ he H locs ls hR hL)
theorem qg_null {l : Launch} {P : QP} {own : String} {cc : ByteArray} {nL pc : Nat} {ret : Option FieldType} (h : decode cc pc = .ok (.aconst_null, 1)) : QGood l P own cc nL ret pc (qi_const (pc + 1) .null) := by
  intro p e s m args below meth c R D ty tb base X G C d cells slots Q cx hC hroom Rt nx rt L S M r he hn hr H locs ls hR hL
  obtain ⟨hx, hb, hml, hown, hts, hSt⟩ := cx
  exact lv_null hx hb h (hn _ _ _ _ he H locs ls hR hL)
theorem qg_ldc {l : Launch} {P : QP} {own : String} {cc : ByteArray} {nL pc : Nat} {ret : Option FieldType} {index : Nat} {v : Int32} (hw : Cond.constant own index v ∈ q_GW) (h : decode cc pc = .ok (.ldc index, 2)) : QGood l P own cc nL ret pc (qi_const (pc + 2) (.int v)) := by
  intro p e s m args below meth c R D ty tb base X G C d cells slots Q cx hC hroom Rt nx rt L S M r he hn hr H locs ls hR hL
  obtain ⟨hx, hb, hml, hown, hts, hSt⟩ := cx
  exact lv_ldc hx hb hown (hts _ hw) h (hn _ _ _ _ he H locs ls hR hL)
theorem qg_ldcw {l : Launch} {P : QP} {own : String} {cc : ByteArray} {nL pc : Nat} {ret : Option FieldType} {index : Nat} {v : Int32} (hw : Cond.constant own index v ∈ q_GW) (h : decode cc pc = .ok (.ldc_w index, 3)) : QGood l P own cc nL ret pc (qi_const (pc + 3) (.int v)) := by
  intro p e s m args below meth c R D ty tb base X G C d cells slots Q cx hC hroom Rt nx rt L S M r he hn hr H locs ls hR hL
  obtain ⟨hx, hb, hml, hown, hts, hSt⟩ := cx
  exact lv_ldcw hx hb hown (hts _ hw) h (hn _ _ _ _ he H locs ls hR hL)
theorem qg_ldc2 {l : Launch} {P : QP} {own : String} {cc : ByteArray} {nL pc : Nat} {ret : Option FieldType} {index : Nat} {v : Int64} (hw : Cond.constantLong own index v ∈ q_GW) (h : decode cc pc = .ok (.ldc2_w index, 3)) : QGood l P own cc nL ret pc (qi_const (pc + 3) (.long v)) := by
  intro p e s m args below meth c R D ty tb base X G C d cells slots Q cx hC hroom Rt nx rt L S M r he hn hr H locs ls hR hL
  obtain ⟨hx, hb, hml, hown, hts, hSt⟩ := cx
  exact lv_ldc2 hx hb hown (hts _ hw) h (hn _ _ _ _ he H locs ls hR hL)
theorem qg_iload {l : Launch} {P : QP} {own : String} {cc : ByteArray} {nL pc : Nat} {ret : Option FieldType} {i : Nat} (h : decode cc pc = .ok (.iload i, 2)) : QGood l P own cc nL ret pc (qi_iload (pc + 2) i) := by
  intro p e s m args below meth c R D ty tb base X G C d cells slots Q cx hC hroom Rt nx rt L S M r he hn hr H locs ls hR hL
  obtain ⟨hx, hb, hml, hown, hts, hSt⟩ := cx
  unfold qi_iload at he
  split at he
  · rename_i hg
    exact lv_iload hx hb h (hL.2 _ _ hg) (hn _ _ _ _ he H locs ls hR hL)
  · cases he
theorem qg_iload_n {l : Launch} {P : QP} {own : String} {cc : ByteArray} {nL pc : Nat} {ret : Option FieldType} {k : Fin 4} {i : Nat} (h : decode cc pc = .ok (.iload_n k, 1)) (hi : (k : Nat) = i) : QGood l P own cc nL ret pc (qi_iload (pc + 1) i) := by
  intro p e s m args below meth c R D ty tb base X G C d cells slots Q cx hC hroom Rt nx rt L S M r he hn hr H locs ls hR hL
  obtain ⟨hx, hb, hml, hown, hts, hSt⟩ := cx
  unfold qi_iload at he
  split at he
  · rename_i hg
    exact lv_iload_n hx hb h hi (hL.2 _ _ hg) (hn _ _ _ _ he H locs ls hR hL)
  · cases he
theorem qg_lload {l : Launch} {P : QP} {own : String} {cc : ByteArray} {nL pc : Nat} {ret : Option FieldType} {i : Nat} (h : decode cc pc = .ok (.lload i, 2)) : QGood l P own cc nL ret pc (qi_lload (pc + 2) i) := by
  intro p e s m args below meth c R D ty tb base X G C d cells slots Q cx hC hroom Rt nx rt L S M r he hn hr H locs ls hR hL
  obtain ⟨hx, hb, hml, hown, hts, hSt⟩ := cx
  unfold qi_lload at he
  split at he
  · rename_i hg
    exact lv_lload hx hb h (hL.2 _ _ hg) (hn _ _ _ _ he H locs ls hR hL)
  · cases he
theorem qg_lload_n {l : Launch} {P : QP} {own : String} {cc : ByteArray} {nL pc : Nat} {ret : Option FieldType} {k : Fin 4} {i : Nat} (h : decode cc pc = .ok (.lload_n k, 1)) (hi : (k : Nat) = i) : QGood l P own cc nL ret pc (qi_lload (pc + 1) i) := by
  intro p e s m args below meth c R D ty tb base X G C d cells slots Q cx hC hroom Rt nx rt L S M r he hn hr H locs ls hR hL
  obtain ⟨hx, hb, hml, hown, hts, hSt⟩ := cx
  unfold qi_lload at he
  split at he
  · rename_i hg
    exact lv_lload_n hx hb h hi (hL.2 _ _ hg) (hn _ _ _ _ he H locs ls hR hL)
  · cases he
theorem qg_aload {l : Launch} {P : QP} {own : String} {cc : ByteArray} {nL pc : Nat} {ret : Option FieldType} {i : Nat} (h : decode cc pc = .ok (.aload i, 2)) : QGood l P own cc nL ret pc (qi_aload (pc + 2) i) := by
  intro p e s m args below meth c R D ty tb base X G C d cells slots Q cx hC hroom Rt nx rt L S M r he hn hr H locs ls hR hL
  obtain ⟨hx, hb, hml, hown, hts, hSt⟩ := cx
  unfold qi_aload at he
  split at he
  · rename_i hg
    exact lv_aload hx hb h (hL.2 _ _ hg) (hn _ _ _ _ he H locs ls hR hL)
  · rename_i hg
    exact lv_aloadN hx hb h (hL.2 _ _ hg) (hn _ _ _ _ he H locs ls hR hL)
  · cases he
theorem qg_aload_n {l : Launch} {P : QP} {own : String} {cc : ByteArray} {nL pc : Nat} {ret : Option FieldType} {k : Fin 4} {i : Nat} (h : decode cc pc = .ok (.aload_n k, 1)) (hi : (k : Nat) = i) : QGood l P own cc nL ret pc (qi_aload (pc + 1) i) := by
  intro p e s m args below meth c R D ty tb base X G C d cells slots Q cx hC hroom Rt nx rt L S M r he hn hr H locs ls hR hL
  obtain ⟨hx, hb, hml, hown, hts, hSt⟩ := cx
  unfold qi_aload at he
  split at he
  · rename_i hg
    exact lv_aload_n hx hb h hi (hL.2 _ _ hg) (hn _ _ _ _ he H locs ls hR hL)
  · rename_i hg
    exact lv_aload_nN hx hb h hi (hL.2 _ _ hg) (hn _ _ _ _ he H locs ls hR hL)
  · cases he
theorem qg_istore {l : Launch} {P : QP} {own : String} {cc : ByteArray} {nL pc : Nat} {ret : Option FieldType} {i : Nat} (h : decode cc pc = .ok (.istore i, 2)) (hi2 : i < nL) : QGood l P own cc nL ret pc (qi_istore (pc + 2) i) := by
  intro p e s m args below meth c R D ty tb base X G C d cells slots Q cx hC hroom Rt nx rt L S M r he hn hr H locs ls hR hL
  obtain ⟨hx, hb, hml, hown, hts, hSt⟩ := cx
  unfold qi_istore at he
  split at he
  · rw [q_put_eq] at he
    exact lv_istore hx hb h hL.has hi2 rfl (fun ls' h' => hn _ _ _ _ he H locs ls' hR (hL.put h'))
  · cases he
theorem qg_astore {l : Launch} {P : QP} {own : String} {cc : ByteArray} {nL pc : Nat} {ret : Option FieldType} {i : Nat} (h : decode cc pc = .ok (.astore i, 2)) (hi2 : i < nL) : QGood l P own cc nL ret pc (qi_astore (pc + 2) i) := by
  intro p e s m args below meth c R D ty tb base X G C d cells slots Q cx hC hroom Rt nx rt L S M r he hn hr H locs ls hR hL
  obtain ⟨hx, hb, hml, hown, hts, hSt⟩ := cx
  unfold qi_astore at he
  split at he
  · rw [q_put_eq] at he
    exact lv_astore hx hb h hL.has hi2 rfl (fun ls' h' => hn _ _ _ _ he H locs ls' hR (hL.put h'))
  · rw [q_put_eq] at he
    exact lv_astoreN hx hb h hL.has hi2 rfl (fun ls' h' => hn _ _ _ _ he H locs ls' hR (hL.put (w := .null) h'))
  · cases he
theorem qg_lstore {l : Launch} {P : QP} {own : String} {cc : ByteArray} {nL pc : Nat} {ret : Option FieldType} {i : Nat} (h : decode cc pc = .ok (.lstore i, 2)) (hi2 : i + 1 < nL) : QGood l P own cc nL ret pc (qi_lstore (pc + 2) i) := by
  intro p e s m args below meth c R D ty tb base X G C d cells slots Q cx hC hroom Rt nx rt L S M r he hn hr H locs ls hR hL
  obtain ⟨hx, hb, hml, hown, hts, hSt⟩ := cx
  unfold qi_lstore at he
  split at he
  · rw [q_put_eq, q_clr_eq] at he
    exact lv_lstore hx hb h hL.has hi2 rfl (fun ls' h' => hn _ _ _ _ he H locs ls' hR (hL.putL h'))
  · cases he
theorem qg_istore_n {l : Launch} {P : QP} {own : String} {cc : ByteArray} {nL pc : Nat} {ret : Option FieldType} {k : Fin 4} {i : Nat} (h : decode cc pc = .ok (.istore_n k, 1)) (hi : (k : Nat) = i) (hi2 : i < nL) : QGood l P own cc nL ret pc (qi_istore (pc + 1) i) := by
  intro p e s m args below meth c R D ty tb base X G C d cells slots Q cx hC hroom Rt nx rt L S M r he hn hr H locs ls hR hL
  obtain ⟨hx, hb, hml, hown, hts, hSt⟩ := cx
  unfold qi_istore at he
  split at he
  · rw [q_put_eq] at he
    exact lv_istore_n hx hb h hi hL.has hi2 rfl (fun ls' h' => hn _ _ _ _ he H locs ls' hR (hL.put h'))
  · cases he
theorem qg_astore_n {l : Launch} {P : QP} {own : String} {cc : ByteArray} {nL pc : Nat} {ret : Option FieldType} {k : Fin 4} {i : Nat} (h : decode cc pc = .ok (.astore_n k, 1)) (hi : (k : Nat) = i) (hi2 : i < nL) : QGood l P own cc nL ret pc (qi_astore (pc + 1) i) := by
  intro p e s m args below meth c R D ty tb base X G C d cells slots Q cx hC hroom Rt nx rt L S M r he hn hr H locs ls hR hL
  obtain ⟨hx, hb, hml, hown, hts, hSt⟩ := cx
  unfold qi_astore at he
  split at he
  · rw [q_put_eq] at he
    exact lv_astore_n hx hb h hi hL.has hi2 rfl (fun ls' h' => hn _ _ _ _ he H locs ls' hR (hL.put h'))
  · rw [q_put_eq] at he
    exact lv_astore_nN hx hb h hi hL.has hi2 rfl (fun ls' h' => hn _ _ _ _ he H locs ls' hR (hL.put (w := .null) h'))
  · cases he
theorem qg_lstore_n {l : Launch} {P : QP} {own : String} {cc : ByteArray} {nL pc : Nat} {ret : Option FieldType} {k : Fin 4} {i : Nat} (h : decode cc pc = .ok (.lstore_n k, 1)) (hi : (k : Nat) = i) (hi2 : i + 1 < nL) : QGood l P own cc nL ret pc (qi_lstore (pc + 1) i) := by
  intro p e s m args below meth c R D ty tb base X G C d cells slots Q cx hC hroom Rt nx rt L S M r he hn hr H locs ls hR hL
  obtain ⟨hx, hb, hml, hown, hts, hSt⟩ := cx
  unfold qi_lstore at he
  split at he
  · rw [q_put_eq, q_clr_eq] at he
    exact lv_lstore_n hx hb h hi hL.has hi2 rfl (fun ls' h' => hn _ _ _ _ he H locs ls' hR (hL.putL h'))
  · cases he
theorem qg_iinc {l : Launch} {P : QP} {own : String} {cc : ByteArray} {nL pc : Nat} {ret : Option FieldType} {i : Nat} {n : Int} {v : Int32} (h : decode cc pc = .ok (.iinc i n, 3)) (hv : Int32.ofInt n = v) (hi2 : i < nL) : QGood l P own cc nL ret pc (qi_iinc (pc + 3) i v) := by
  intro p e s m args below meth c R D ty tb base X G C d cells slots Q cx hC hroom Rt nx rt L S M r he hn hr H locs ls hR hL
  obtain ⟨hx, hb, hml, hown, hts, hSt⟩ := cx
  subst hv
  unfold qi_iinc at he
  split at he
  · rename_i hg
    rw [q_put_eq] at he
    obtain ⟨k, hk⟩ := List.mem_iff_getElem?.mp (hL.mem hg)
    exact lv_iinc hx hb h hL.has hk rfl hi2 rfl (fun ls' h' => hn _ _ _ _ he H locs ls' hR (hL.put h'))
  · cases he
theorem qg_iadd {l : Launch} {P : QP} {own : String} {cc : ByteArray} {nL pc : Nat} {ret : Option FieldType} (h : decode cc pc = .ok (.iadd, 1)) : QGood l P own cc nL ret pc (qi_bin (pc + 1) (fun x y => x + y)) := by
  intro p e s m args below meth c R D ty tb base X G C d cells slots Q cx hC hroom Rt nx rt L S M r he hn hr H locs ls hR hL
  obtain ⟨hx, hb, hml, hown, hts, hSt⟩ := cx
  unfold qi_bin at he
  split at he
  · exact lv_iadd hx hb h (hn _ _ _ _ he H locs ls hR hL)
  · cases he
theorem qg_isub {l : Launch} {P : QP} {own : String} {cc : ByteArray} {nL pc : Nat} {ret : Option FieldType} (h : decode cc pc = .ok (.isub, 1)) : QGood l P own cc nL ret pc (qi_bin (pc + 1) (fun x y => x - y)) := by
  intro p e s m args below meth c R D ty tb base X G C d cells slots Q cx hC hroom Rt nx rt L S M r he hn hr H locs ls hR hL
  obtain ⟨hx, hb, hml, hown, hts, hSt⟩ := cx
  unfold qi_bin at he
  split at he
  · exact lv_isub hx hb h (hn _ _ _ _ he H locs ls hR hL)
  · cases he
theorem qg_imul {l : Launch} {P : QP} {own : String} {cc : ByteArray} {nL pc : Nat} {ret : Option FieldType} (h : decode cc pc = .ok (.imul, 1)) : QGood l P own cc nL ret pc (qi_bin (pc + 1) (fun x y => x * y)) := by
  intro p e s m args below meth c R D ty tb base X G C d cells slots Q cx hC hroom Rt nx rt L S M r he hn hr H locs ls hR hL
  obtain ⟨hx, hb, hml, hown, hts, hSt⟩ := cx
  unfold qi_bin at he
  split at he
  · exact lv_imul hx hb h (hn _ _ _ _ he H locs ls hR hL)
  · cases he
theorem qg_iand {l : Launch} {P : QP} {own : String} {cc : ByteArray} {nL pc : Nat} {ret : Option FieldType} (h : decode cc pc = .ok (.iand, 1)) : QGood l P own cc nL ret pc (qi_bin (pc + 1) (fun x y => x &&& y)) := by
  intro p e s m args below meth c R D ty tb base X G C d cells slots Q cx hC hroom Rt nx rt L S M r he hn hr H locs ls hR hL
  obtain ⟨hx, hb, hml, hown, hts, hSt⟩ := cx
  unfold qi_bin at he
  split at he
  · exact lv_iand hx hb h (hn _ _ _ _ he H locs ls hR hL)
  · cases he
theorem qg_ior {l : Launch} {P : QP} {own : String} {cc : ByteArray} {nL pc : Nat} {ret : Option FieldType} (h : decode cc pc = .ok (.ior, 1)) : QGood l P own cc nL ret pc (qi_bin (pc + 1) (fun x y => x ||| y)) := by
  intro p e s m args below meth c R D ty tb base X G C d cells slots Q cx hC hroom Rt nx rt L S M r he hn hr H locs ls hR hL
  obtain ⟨hx, hb, hml, hown, hts, hSt⟩ := cx
  unfold qi_bin at he
  split at he
  · exact lv_ior hx hb h (hn _ _ _ _ he H locs ls hR hL)
  · cases he
theorem qg_ixor {l : Launch} {P : QP} {own : String} {cc : ByteArray} {nL pc : Nat} {ret : Option FieldType} (h : decode cc pc = .ok (.ixor, 1)) : QGood l P own cc nL ret pc (qi_bin (pc + 1) (fun x y => x ^^^ y)) := by
  intro p e s m args below meth c R D ty tb base X G C d cells slots Q cx hC hroom Rt nx rt L S M r he hn hr H locs ls hR hL
  obtain ⟨hx, hb, hml, hown, hts, hSt⟩ := cx
  unfold qi_bin at he
  split at he
  · exact lv_ixor hx hb h (hn _ _ _ _ he H locs ls hR hL)
  · cases he
theorem qg_ishl {l : Launch} {P : QP} {own : String} {cc : ByteArray} {nL pc : Nat} {ret : Option FieldType} (h : decode cc pc = .ok (.ishl, 1)) : QGood l P own cc nL ret pc (qi_bin (pc + 1) (fun x y => x <<< (y &&& 31))) := by
  intro p e s m args below meth c R D ty tb base X G C d cells slots Q cx hC hroom Rt nx rt L S M r he hn hr H locs ls hR hL
  obtain ⟨hx, hb, hml, hown, hts, hSt⟩ := cx
  unfold qi_bin at he
  split at he
  · exact lv_ishl hx hb h (hn _ _ _ _ he H locs ls hR hL)
  · cases he
theorem qg_ishr {l : Launch} {P : QP} {own : String} {cc : ByteArray} {nL pc : Nat} {ret : Option FieldType} (h : decode cc pc = .ok (.ishr, 1)) : QGood l P own cc nL ret pc (qi_bin (pc + 1) (fun x y => x >>> (y &&& 31))) := by
  intro p e s m args below meth c R D ty tb base X G C d cells slots Q cx hC hroom Rt nx rt L S M r he hn hr H locs ls hR hL
  obtain ⟨hx, hb, hml, hown, hts, hSt⟩ := cx
  unfold qi_bin at he
  split at he
  · exact lv_ishr hx hb h (hn _ _ _ _ he H locs ls hR hL)
  · cases he
theorem qg_iushr {l : Launch} {P : QP} {own : String} {cc : ByteArray} {nL pc : Nat} {ret : Option FieldType} (h : decode cc pc = .ok (.iushr, 1)) : QGood l P own cc nL ret pc (qi_bin (pc + 1) (fun x y => (x.toUInt32 >>> (y.toUInt32 &&& Int32.toUInt32 31)).toInt32)) := by
  intro p e s m args below meth c R D ty tb base X G C d cells slots Q cx hC hroom Rt nx rt L S M r he hn hr H locs ls hR hL
  obtain ⟨hx, hb, hml, hown, hts, hSt⟩ := cx
  unfold qi_bin at he
  split at he
  · exact lv_iushr hx hb h rfl (hn _ _ _ _ he H locs ls hR hL)
  · cases he
theorem qg_idiv {l : Launch} {P : QP} {own : String} {cc : ByteArray} {nL pc : Nat} {ret : Option FieldType} (h : decode cc pc = .ok (.idiv, 1)) : QGood l P own cc nL ret pc (qi_div (pc + 1) (fun x y => x / y)) := by
  intro p e s m args below meth c R D ty tb base X G C d cells slots Q cx hC hroom Rt nx rt L S M r he hn hr H locs ls hR hL
  obtain ⟨hx, hb, hml, hown, hts, hSt⟩ := cx
  unfold qi_div at he
  split at he
  · split at he
    · cases he
    · rename_i hz
      exact lv_idiv hx hb h hz (hn _ _ _ _ he H locs ls hR hL)
  · cases he
theorem qg_irem {l : Launch} {P : QP} {own : String} {cc : ByteArray} {nL pc : Nat} {ret : Option FieldType} (h : decode cc pc = .ok (.irem, 1)) : QGood l P own cc nL ret pc (qi_div (pc + 1) (fun x y => x - x / y * y)) := by
  intro p e s m args below meth c R D ty tb base X G C d cells slots Q cx hC hroom Rt nx rt L S M r he hn hr H locs ls hR hL
  obtain ⟨hx, hb, hml, hown, hts, hSt⟩ := cx
  unfold qi_div at he
  split at he
  · split at he
    · cases he
    · rename_i hz
      exact lv_irem hx hb h hz (hn _ _ _ _ he H locs ls hR hL)
  · cases he
theorem qg_ineg {l : Launch} {P : QP} {own : String} {cc : ByteArray} {nL pc : Nat} {ret : Option FieldType} (h : decode cc pc = .ok (.ineg, 1)) : QGood l P own cc nL ret pc (qi_un (pc + 1) (fun x => -x)) := by
  intro p e s m args below meth c R D ty tb base X G C d cells slots Q cx hC hroom Rt nx rt L S M r he hn hr H locs ls hR hL
  obtain ⟨hx, hb, hml, hown, hts, hSt⟩ := cx
  unfold qi_un at he
  split at he
  · exact lv_ineg hx hb h (hn _ _ _ _ he H locs ls hR hL)
  · cases he
theorem qg_i2b {l : Launch} {P : QP} {own : String} {cc : ByteArray} {nL pc : Nat} {ret : Option FieldType} (h : decode cc pc = .ok (.i2b, 1)) : QGood l P own cc nL ret pc (qi_un (pc + 1) (fun x => x.toInt8.toInt32)) := by
  intro p e s m args below meth c R D ty tb base X G C d cells slots Q cx hC hroom Rt nx rt L S M r he hn hr H locs ls hR hL
  obtain ⟨hx, hb, hml, hown, hts, hSt⟩ := cx
  unfold qi_un at he
  split at he
  · exact lv_i2b hx hb h rfl (hn _ _ _ _ he H locs ls hR hL)
  · cases he
theorem qg_i2s {l : Launch} {P : QP} {own : String} {cc : ByteArray} {nL pc : Nat} {ret : Option FieldType} (h : decode cc pc = .ok (.i2s, 1)) : QGood l P own cc nL ret pc (qi_un (pc + 1) (fun x => x.toInt16.toInt32)) := by
  intro p e s m args below meth c R D ty tb base X G C d cells slots Q cx hC hroom Rt nx rt L S M r he hn hr H locs ls hR hL
  obtain ⟨hx, hb, hml, hown, hts, hSt⟩ := cx
  unfold qi_un at he
  split at he
  · exact lv_i2s hx hb h rfl (hn _ _ _ _ he H locs ls hR hL)
  · cases he
theorem qg_ladd {l : Launch} {P : QP} {own : String} {cc : ByteArray} {nL pc : Nat} {ret : Option FieldType} (h : decode cc pc = .ok (.ladd, 1)) : QGood l P own cc nL ret pc (qi_lbin (pc + 1) (fun x y => x + y)) := by
  intro p e s m args below meth c R D ty tb base X G C d cells slots Q cx hC hroom Rt nx rt L S M r he hn hr H locs ls hR hL
  obtain ⟨hx, hb, hml, hown, hts, hSt⟩ := cx
  unfold qi_lbin at he
  split at he
  · exact lv_ladd hx hb h (hn _ _ _ _ he H locs ls hR hL)
  · cases he
theorem qg_lmul {l : Launch} {P : QP} {own : String} {cc : ByteArray} {nL pc : Nat} {ret : Option FieldType} (h : decode cc pc = .ok (.lmul, 1)) : QGood l P own cc nL ret pc (qi_lbin (pc + 1) (fun x y => x * y)) := by
  intro p e s m args below meth c R D ty tb base X G C d cells slots Q cx hC hroom Rt nx rt L S M r he hn hr H locs ls hR hL
  obtain ⟨hx, hb, hml, hown, hts, hSt⟩ := cx
  unfold qi_lbin at he
  split at he
  · exact lv_lmul hx hb h (hn _ _ _ _ he H locs ls hR hL)
  · cases he
theorem qg_land {l : Launch} {P : QP} {own : String} {cc : ByteArray} {nL pc : Nat} {ret : Option FieldType} (h : decode cc pc = .ok (.land, 1)) : QGood l P own cc nL ret pc (qi_lbin (pc + 1) (fun x y => x &&& y)) := by
  intro p e s m args below meth c R D ty tb base X G C d cells slots Q cx hC hroom Rt nx rt L S M r he hn hr H locs ls hR hL
  obtain ⟨hx, hb, hml, hown, hts, hSt⟩ := cx
  unfold qi_lbin at he
  split at he
  · exact lv_land hx hb h (hn _ _ _ _ he H locs ls hR hL)
  · cases he
theorem qg_lor {l : Launch} {P : QP} {own : String} {cc : ByteArray} {nL pc : Nat} {ret : Option FieldType} (h : decode cc pc = .ok (.lor, 1)) : QGood l P own cc nL ret pc (qi_lbin (pc + 1) (fun x y => x ||| y)) := by
  intro p e s m args below meth c R D ty tb base X G C d cells slots Q cx hC hroom Rt nx rt L S M r he hn hr H locs ls hR hL
  obtain ⟨hx, hb, hml, hown, hts, hSt⟩ := cx
  unfold qi_lbin at he
  split at he
  · exact lv_lor hx hb h (hn _ _ _ _ he H locs ls hR hL)
  · cases he
theorem qg_lshl {l : Launch} {P : QP} {own : String} {cc : ByteArray} {nL pc : Nat} {ret : Option FieldType} (h : decode cc pc = .ok (.lshl, 1)) : QGood l P own cc nL ret pc (qi_lsh (pc + 1) (fun x y => x <<< (y.toInt64 &&& 63))) := by
  intro p e s m args below meth c R D ty tb base X G C d cells slots Q cx hC hroom Rt nx rt L S M r he hn hr H locs ls hR hL
  obtain ⟨hx, hb, hml, hown, hts, hSt⟩ := cx
  unfold qi_lsh at he
  split at he
  · exact lv_lshl hx hb h rfl (hn _ _ _ _ he H locs ls hR hL)
  · cases he
theorem qg_i2l {l : Launch} {P : QP} {own : String} {cc : ByteArray} {nL pc : Nat} {ret : Option FieldType} (h : decode cc pc = .ok (.i2l, 1)) : QGood l P own cc nL ret pc (qi_i2l (pc + 1)) := by
  intro p e s m args below meth c R D ty tb base X G C d cells slots Q cx hC hroom Rt nx rt L S M r he hn hr H locs ls hR hL
  obtain ⟨hx, hb, hml, hown, hts, hSt⟩ := cx
  unfold qi_i2l at he
  split at he
  · exact lv_i2l hx hb h rfl (hn _ _ _ _ he H locs ls hR hL)
  · cases he
theorem qg_l2i {l : Launch} {P : QP} {own : String} {cc : ByteArray} {nL pc : Nat} {ret : Option FieldType} (h : decode cc pc = .ok (.l2i, 1)) : QGood l P own cc nL ret pc (qi_l2i (pc + 1)) := by
  intro p e s m args below meth c R D ty tb base X G C d cells slots Q cx hC hroom Rt nx rt L S M r he hn hr H locs ls hR hL
  obtain ⟨hx, hb, hml, hown, hts, hSt⟩ := cx
  unfold qi_l2i at he
  split at he
  · exact lv_l2i hx hb h rfl (hn _ _ _ _ he H locs ls hR hL)
  · cases he
theorem qg_lcmp {l : Launch} {P : QP} {own : String} {cc : ByteArray} {nL pc : Nat} {ret : Option FieldType} (h : decode cc pc = .ok (.lcmp, 1)) : QGood l P own cc nL ret pc (qi_lcmp (pc + 1)) := by
  intro p e s m args below meth c R D ty tb base X G C d cells slots Q cx hC hroom Rt nx rt L S M r he hn hr H locs ls hR hL
  obtain ⟨hx, hb, hml, hown, hts, hSt⟩ := cx
  unfold qi_lcmp at he
  split at he
  · exact W.lcmp hx hb h (hn _ _ _ _ he H locs ls hR hL)
  · cases he
theorem qg_pop {l : Launch} {P : QP} {own : String} {cc : ByteArray} {nL pc : Nat} {ret : Option FieldType} (h : decode cc pc = .ok (.pop, 1)) : QGood l P own cc nL ret pc (qi_pop (pc + 1)) := by
  intro p e s m args below meth c R D ty tb base X G C d cells slots Q cx hC hroom Rt nx rt L S M r he hn hr H locs ls hR hL
  obtain ⟨hx, hb, hml, hown, hts, hSt⟩ := cx
  unfold qi_pop at he
  split at he
  · obtain ⟨h1, he⟩ := q_cond he
    exact lv_pop hx hb h (q_one_cat h1) (hn _ _ _ _ he H locs ls hR hL)
  · cases he
theorem qg_dup {l : Launch} {P : QP} {own : String} {cc : ByteArray} {nL pc : Nat} {ret : Option FieldType} (h : decode cc pc = .ok (.dup, 1)) : QGood l P own cc nL ret pc (qi_dup (pc + 1)) := by
  intro p e s m args below meth c R D ty tb base X G C d cells slots Q cx hC hroom Rt nx rt L S M r he hn hr H locs ls hR hL
  obtain ⟨hx, hb, hml, hown, hts, hSt⟩ := cx
  unfold qi_dup at he
  split at he
  · obtain ⟨h1, he⟩ := q_cond he
    exact lv_dup hx hb h (q_one_cat h1) (hn _ _ _ _ he H locs ls hR hL)
  · cases he
theorem qg_dupx1 {l : Launch} {P : QP} {own : String} {cc : ByteArray} {nL pc : Nat} {ret : Option FieldType} (h : decode cc pc = .ok (.dup_x1, 1)) : QGood l P own cc nL ret pc (qi_dupx1 (pc + 1)) := by
  intro p e s m args below meth c R D ty tb base X G C d cells slots Q cx hC hroom Rt nx rt L S M r he hn hr H locs ls hR hL
  obtain ⟨hx, hb, hml, hown, hts, hSt⟩ := cx
  unfold qi_dupx1 at he
  split at he
  · obtain ⟨h1, he⟩ := q_cond he
    rw [Bool.and_eq_true] at h1
    exact lv_dup_x1 hx hb h (q_one_cat h1.1) (q_one_cat h1.2) (hn _ _ _ _ he H locs ls hR hL)
  · cases he
theorem qg_dup2 {l : Launch} {P : QP} {own : String} {cc : ByteArray} {nL pc : Nat} {ret : Option FieldType} (h : decode cc pc = .ok (.dup2, 1)) : QGood l P own cc nL ret pc (qi_dup2 (pc + 1)) := by
  intro p e s m args below meth c R D ty tb base X G C d cells slots Q cx hC hroom Rt nx rt L S M r he hn hr H locs ls hR hL
  obtain ⟨hx, hb, hml, hown, hts, hSt⟩ := cx
  unfold qi_dup2 at he
  split at he
  · obtain ⟨h1, he⟩ := q_cond he
    rw [Bool.and_eq_true] at h1
    exact lv_dup2_11 hx hb h (q_one_cat h1.1) (q_one_cat h1.2) (hn _ _ _ _ he H locs ls hR hL)
  · cases he
theorem qg_goto {l : Launch} {P : QP} {own : String} {cc : ByteArray} {nL pc : Nat} {ret : Option FieldType} {off : Int} {tgt : Nat} (h : decode cc pc = .ok (.goto off, 3)) (ht : (pc : Int) + off = (tgt : Int)) : QGood l P own cc nL ret pc (qi_goto tgt) := by
  intro p e s m args below meth c R D ty tb base X G C d cells slots Q cx hC hroom Rt nx rt L S M r he hn hr H locs ls hR hL
  obtain ⟨hx, hb, hml, hown, hts, hSt⟩ := cx
  exact lv_goto hx hb h ht (hn _ _ _ _ he H locs ls hR hL)
theorem qg_icmp_eq {l : Launch} {P : QP} {own : String} {cc : ByteArray} {nL pc : Nat} {ret : Option FieldType} {off : Int} {tgt : Nat} (h : decode cc pc = .ok (.if_icmp .eq off, 3)) (ht : (pc : Int) + off = (tgt : Int)) : QGood l P own cc nL ret pc (qi_ifEq tgt (pc + 3)) := by
  intro p e s m args below meth c R D ty tb base X G C d cells slots Q cx hC hroom Rt nx rt L S M r he hn hr H locs ls hR hL
  obtain ⟨hx, hb, hml, hown, hts, hSt⟩ := cx
  unfold qi_ifEq at he
  split at he
  · refine lv_icmp_eq hx hb h ht (fun hc => ?_) (fun hc => ?_)
    · rw [if_pos hc] at he
      exact hn _ _ _ _ he H locs ls hR hL
    · rw [if_neg hc] at he
      exact hn _ _ _ _ he H locs ls hR hL
  · cases he
theorem qg_if_eq {l : Launch} {P : QP} {own : String} {cc : ByteArray} {nL pc : Nat} {ret : Option FieldType} {off : Int} {tgt : Nat} (h : decode cc pc = .ok (.ifCond .eq off, 3)) (ht : (pc : Int) + off = (tgt : Int)) : QGood l P own cc nL ret pc (qi_zEq tgt (pc + 3)) := by
  intro p e s m args below meth c R D ty tb base X G C d cells slots Q cx hC hroom Rt nx rt L S M r he hn hr H locs ls hR hL
  obtain ⟨hx, hb, hml, hown, hts, hSt⟩ := cx
  unfold qi_zEq at he
  split at he
  · refine lv_if_eq hx hb h ht (fun hc => ?_) (fun hc => ?_)
    · rw [if_pos hc] at he
      exact hn _ _ _ _ he H locs ls hR hL
    · rw [if_neg hc] at he
      exact hn _ _ _ _ he H locs ls hR hL
  · cases he
theorem qg_icmp_lt {l : Launch} {P : QP} {own : String} {cc : ByteArray} {nL pc : Nat} {ret : Option FieldType} {off : Int} {tgt : Nat} (h : decode cc pc = .ok (.if_icmp .lt off, 3)) (ht : (pc : Int) + off = (tgt : Int)) : QGood l P own cc nL ret pc (qi_ifLt tgt (pc + 3)) := by
  intro p e s m args below meth c R D ty tb base X G C d cells slots Q cx hC hroom Rt nx rt L S M r he hn hr H locs ls hR hL
  obtain ⟨hx, hb, hml, hown, hts, hSt⟩ := cx
  unfold qi_ifLt at he
  split at he
  · refine lv_icmp_lt hx hb h ht (fun hc => ?_) (fun hc => ?_)
    · rw [if_pos hc] at he
      exact hn _ _ _ _ he H locs ls hR hL
    · rw [if_neg hc] at he
      exact hn _ _ _ _ he H locs ls hR hL
  · cases he
theorem qg_if_lt {l : Launch} {P : QP} {own : String} {cc : ByteArray} {nL pc : Nat} {ret : Option FieldType} {off : Int} {tgt : Nat} (h : decode cc pc = .ok (.ifCond .lt off, 3)) (ht : (pc : Int) + off = (tgt : Int)) : QGood l P own cc nL ret pc (qi_zLt tgt (pc + 3)) := by
  intro p e s m args below meth c R D ty tb base X G C d cells slots Q cx hC hroom Rt nx rt L S M r he hn hr H locs ls hR hL
  obtain ⟨hx, hb, hml, hown, hts, hSt⟩ := cx
  unfold qi_zLt at he
  split at he
  · refine lv_if_lt hx hb h ht (fun hc => ?_) (fun hc => ?_)
    · rw [if_pos hc] at he
      exact hn _ _ _ _ he H locs ls hR hL
    · rw [if_neg hc] at he
      exact hn _ _ _ _ he H locs ls hR hL
  · cases he
theorem qg_icmp_ge {l : Launch} {P : QP} {own : String} {cc : ByteArray} {nL pc : Nat} {ret : Option FieldType} {off : Int} {tgt : Nat} (h : decode cc pc = .ok (.if_icmp .ge off, 3)) (ht : (pc : Int) + off = (tgt : Int)) : QGood l P own cc nL ret pc (qi_ifGe tgt (pc + 3)) := by
  intro p e s m args below meth c R D ty tb base X G C d cells slots Q cx hC hroom Rt nx rt L S M r he hn hr H locs ls hR hL
  obtain ⟨hx, hb, hml, hown, hts, hSt⟩ := cx
  unfold qi_ifGe at he
  split at he
  · refine lv_icmp_ge hx hb h ht (fun hc => ?_) (fun hc => ?_)
    · rw [if_pos hc] at he
      exact hn _ _ _ _ he H locs ls hR hL
    · rw [if_neg hc] at he
      exact hn _ _ _ _ he H locs ls hR hL
  · cases he
theorem qg_if_ge {l : Launch} {P : QP} {own : String} {cc : ByteArray} {nL pc : Nat} {ret : Option FieldType} {off : Int} {tgt : Nat} (h : decode cc pc = .ok (.ifCond .ge off, 3)) (ht : (pc : Int) + off = (tgt : Int)) : QGood l P own cc nL ret pc (qi_zGe tgt (pc + 3)) := by
  intro p e s m args below meth c R D ty tb base X G C d cells slots Q cx hC hroom Rt nx rt L S M r he hn hr H locs ls hR hL
  obtain ⟨hx, hb, hml, hown, hts, hSt⟩ := cx
  unfold qi_zGe at he
  split at he
  · refine lv_if_ge hx hb h ht (fun hc => ?_) (fun hc => ?_)
    · rw [if_pos hc] at he
      exact hn _ _ _ _ he H locs ls hR hL
    · rw [if_neg hc] at he
      exact hn _ _ _ _ he H locs ls hR hL
  · cases he
theorem qg_icmp_gt {l : Launch} {P : QP} {own : String} {cc : ByteArray} {nL pc : Nat} {ret : Option FieldType} {off : Int} {tgt : Nat} (h : decode cc pc = .ok (.if_icmp .gt off, 3)) (ht : (pc : Int) + off = (tgt : Int)) : QGood l P own cc nL ret pc (qi_ifGt tgt (pc + 3)) := by
  intro p e s m args below meth c R D ty tb base X G C d cells slots Q cx hC hroom Rt nx rt L S M r he hn hr H locs ls hR hL
  obtain ⟨hx, hb, hml, hown, hts, hSt⟩ := cx
  unfold qi_ifGt at he
  split at he
  · refine lv_icmp_gt hx hb h ht (fun hc => ?_) (fun hc => ?_)
    · rw [if_pos hc] at he
      exact hn _ _ _ _ he H locs ls hR hL
    · rw [if_neg hc] at he
      exact hn _ _ _ _ he H locs ls hR hL
  · cases he
theorem qg_if_gt {l : Launch} {P : QP} {own : String} {cc : ByteArray} {nL pc : Nat} {ret : Option FieldType} {off : Int} {tgt : Nat} (h : decode cc pc = .ok (.ifCond .gt off, 3)) (ht : (pc : Int) + off = (tgt : Int)) : QGood l P own cc nL ret pc (qi_zGt tgt (pc + 3)) := by
  intro p e s m args below meth c R D ty tb base X G C d cells slots Q cx hC hroom Rt nx rt L S M r he hn hr H locs ls hR hL
  obtain ⟨hx, hb, hml, hown, hts, hSt⟩ := cx
  unfold qi_zGt at he
  split at he
  · refine lv_if_gt hx hb h ht (fun hc => ?_) (fun hc => ?_)
    · rw [if_pos hc] at he
      exact hn _ _ _ _ he H locs ls hR hL
    · rw [if_neg hc] at he
      exact hn _ _ _ _ he H locs ls hR hL
  · cases he
theorem qg_icmp_le {l : Launch} {P : QP} {own : String} {cc : ByteArray} {nL pc : Nat} {ret : Option FieldType} {off : Int} {tgt : Nat} (h : decode cc pc = .ok (.if_icmp .le off, 3)) (ht : (pc : Int) + off = (tgt : Int)) : QGood l P own cc nL ret pc (qi_ifLe tgt (pc + 3)) := by
  intro p e s m args below meth c R D ty tb base X G C d cells slots Q cx hC hroom Rt nx rt L S M r he hn hr H locs ls hR hL
  obtain ⟨hx, hb, hml, hown, hts, hSt⟩ := cx
  unfold qi_ifLe at he
  split at he
  · refine lv_icmp_le hx hb h ht (fun hc => ?_) (fun hc => ?_)
    · rw [if_pos hc] at he
      exact hn _ _ _ _ he H locs ls hR hL
    · rw [if_neg hc] at he
      exact hn _ _ _ _ he H locs ls hR hL
  · cases he
theorem qg_if_le {l : Launch} {P : QP} {own : String} {cc : ByteArray} {nL pc : Nat} {ret : Option FieldType} {off : Int} {tgt : Nat} (h : decode cc pc = .ok (.ifCond .le off, 3)) (ht : (pc : Int) + off = (tgt : Int)) : QGood l P own cc nL ret pc (qi_zLe tgt (pc + 3)) := by
  intro p e s m args below meth c R D ty tb base X G C d cells slots Q cx hC hroom Rt nx rt L S M r he hn hr H locs ls hR hL
  obtain ⟨hx, hb, hml, hown, hts, hSt⟩ := cx
  unfold qi_zLe at he
  split at he
  · refine lv_if_le hx hb h ht (fun hc => ?_) (fun hc => ?_)
    · rw [if_pos hc] at he
      exact hn _ _ _ _ he H locs ls hR hL
    · rw [if_neg hc] at he
      exact hn _ _ _ _ he H locs ls hR hL
  · cases he
theorem qg_icmp_ne {l : Launch} {P : QP} {own : String} {cc : ByteArray} {nL pc : Nat} {ret : Option FieldType} {off : Int} {tgt : Nat} (h : decode cc pc = .ok (.if_icmp .ne off, 3)) (ht : (pc : Int) + off = (tgt : Int)) : QGood l P own cc nL ret pc (qi_ifEq (pc + 3) tgt) := by
  intro p e s m args below meth c R D ty tb base X G C d cells slots Q cx hC hroom Rt nx rt L S M r he hn hr H locs ls hR hL
  obtain ⟨hx, hb, hml, hown, hts, hSt⟩ := cx
  unfold qi_ifEq at he
  split at he
  · refine lv_icmp_ne hx hb h ht (fun hc => ?_) (fun hc => ?_)
    · rw [if_neg hc] at he
      exact hn _ _ _ _ he H locs ls hR hL
    · rw [if_pos hc] at he
      exact hn _ _ _ _ he H locs ls hR hL
  · cases he
theorem qg_if_ne {l : Launch} {P : QP} {own : String} {cc : ByteArray} {nL pc : Nat} {ret : Option FieldType} {off : Int} {tgt : Nat} (h : decode cc pc = .ok (.ifCond .ne off, 3)) (ht : (pc : Int) + off = (tgt : Int)) : QGood l P own cc nL ret pc (qi_zEq (pc + 3) tgt) := by
  intro p e s m args below meth c R D ty tb base X G C d cells slots Q cx hC hroom Rt nx rt L S M r he hn hr H locs ls hR hL
  obtain ⟨hx, hb, hml, hown, hts, hSt⟩ := cx
  unfold qi_zEq at he
  split at he
  · refine lv_if_ne hx hb h ht (fun hc => ?_) (fun hc => ?_)
    · rw [if_neg hc] at he
      exact hn _ _ _ _ he H locs ls hR hL
    · rw [if_pos hc] at he
      exact hn _ _ _ _ he H locs ls hR hL
  · cases he
theorem qg_ifnull {l : Launch} {P : QP} {own : String} {cc : ByteArray} {nL pc : Nat} {ret : Option FieldType} {off : Int} {tgt : Nat} (h : decode cc pc = .ok (.ifnull off, 3)) (ht : (pc : Int) + off = (tgt : Int)) : QGood l P own cc nL ret pc (qi_null tgt (pc + 3)) := by
  intro p e s m args below meth c R D ty tb base X G C d cells slots Q cx hC hroom Rt nx rt L S M r he hn hr H locs ls hR hL
  obtain ⟨hx, hb, hml, hown, hts, hSt⟩ := cx
  unfold qi_null at he
  split at he
  · exact lv_ifnull hx hb h (hn _ _ _ _ he H locs ls hR hL)
  · exact lv_ifnullN hx hb h ht (hn _ _ _ _ he H locs ls hR hL)
  · cases he
theorem qg_ifnonnull {l : Launch} {P : QP} {own : String} {cc : ByteArray} {nL pc : Nat} {ret : Option FieldType} {off : Int} {tgt : Nat} (h : decode cc pc = .ok (.ifnonnull off, 3)) (ht : (pc : Int) + off = (tgt : Int)) : QGood l P own cc nL ret pc (qi_null (pc + 3) tgt) := by
  intro p e s m args below meth c R D ty tb base X G C d cells slots Q cx hC hroom Rt nx rt L S M r he hn hr H locs ls hR hL
  obtain ⟨hx, hb, hml, hown, hts, hSt⟩ := cx
  unfold qi_null at he
  split at he
  · exact lv_ifnonnull hx hb h ht (hn _ _ _ _ he H locs ls hR hL)
  · exact lv_ifnonnullN hx hb h (hn _ _ _ _ he H locs ls hR hL)
  · cases he
end
section
/-! THE INSTRUCTIONS: fields, arrays, statics, switches, returns -/
/-- what the field rows want of a class -/
def QCls (ci : Nat) (C : String) (T : u_T) (N : Nat) (ty0 : Nat → FieldType) : Prop := vwCl[ci]? = some (C, T, N) ∧ ci < 10 ∧ (∀ k, k < N → parseFieldDescriptor (T k).2.2.1 = some (ty0 k)) ∧ (∀ a, a < N → ∀ b, b < N → a ≠ b → (T a).2.1 ≠ (T b).2.1) ∧ ∀ w ∈ u_ws C T N, w ∈ q_GW
def q_lnk (own : String) (index : Nat) (T : u_T) (k : Nat) : Prop := Cond.fieldLink own index (T k).1 (T k).2.1 (T k).2.2.1 ∈ q_GW ∨ ∃ host, Cond.fieldLinkNest own index (T k).1 (T k).2.1 (T k).2.2.1 host ∈ q_NW
theorem q_objAt {G : QG} {X : QX} {a ci : Nat} {q : QCell} (h : q_cell G X a = some q) (hk : (q.1 == ci) = true) (hc : ci < 10) : ∃ i, a = i + 4 ∧ G[i]? = some q ∧ q.1 = ci := by
  have hk' : q.1 = ci := by simpa using hk
  rcases q_cell_cases h with ⟨-, rfl⟩ | ⟨i, h1, h2⟩
  · exact absurd (show 14 = ci from hk') (by omega)
  · exact ⟨i, h1, h2, hk'⟩
theorem q_arrAt {G : QG} {X : QX} {a kd : Nat} {q : QCell} (h : q_cell G X a = some q) (hk : (q.1 == kd) = true) (hc : kd < 14) : ∃ i, a = i + 4 ∧ G[i]? = some q ∧ q.1 = kd := by
  have hk' : q.1 = kd := by simpa using hk
  rcases q_cell_cases h with ⟨-, rfl⟩ | ⟨i, h1, h2⟩
  · exact absurd (show 14 = kd from hk') (by omega)
  · exact ⟨i, h1, h2, hk'⟩
theorem q_ent_obj {ty : QTy} {tb : Nat → Nat} {base : Nat} {M : QM} {a ci : Nat} {q : QCell} (hk : q.1 = ci) (hc : ci < 10) : q_ent ty tb base M a q = .inr (ci, (List.range (q_nf ci)).map (q_fv tb base M a ci q.2.2)) := by
  subst hk
  unfold q_ent
  rw [if_pos hc]
theorem q_ent_i {ty : QTy} {tb : Nat → Nat} {base : Nat} {M : QM} {a : Nat} {q : QCell} (hk : q.1 = 10) : q_ent ty tb base M a q = .inl (ty.1, q.2.1, .inl (M.1 a)) := by
  unfold q_ent
  rw [hk]
  rfl
theorem q_ent_l {ty : QTy} {tb : Nat → Nat} {base : Nat} {M : QM} {a : Nat} {q : QCell} (hk : q.1 = 11) : q_ent ty tb base M a q = .inl (ty.2.1, q.2.1, .inr (.inl (M.2 a))) := by
  unfold q_ent
  rw [hk]
  rfl
theorem q_ent_z {ty : QTy} {tb : Nat → Nat} {base : Nat} {M : QM} {a : Nat} {q : QCell} (hk : q.1 = 12) : q_ent ty tb base M a q = .inl (ty.2.2.1, q.2.1, .inl (M.1 a)) := by
  unfold q_ent
  rw [hk]
  rfl
theorem q_ent_q {ty : QTy} {tb : Nat → Nat} {base : Nat} {M : QM} {a : Nat} {q : QCell} (hk : 13 ≤ q.1) : q_ent ty tb base M a q = .inl (ty.2.2.2, q.2.1, .inr (.inr (.inr (.inr (fun j => (q_nth q.2.2 j).map (q_rho tb base)))))) := by
  unfold q_ent
  rw [if_neg (by omega), if_neg (by omega), if_neg (by omega), if_neg (by omega)]
theorem q_nf_of {ci : Nat} {C : String} {T : u_T} {N : Nat} {ty0 : Nat → FieldType} (h : QCls ci C T N ty0) : q_nf ci = N := by
  unfold q_nf
  rw [h.1]
theorem q_fs_set (tb : Nat → Nat) (base : Nat) (M : QM) (a ci n k : Nat) (rs : List (Option Nat)) (v : Int32) (hf : q_fi ci k = true) : ((List.range n).map (q_fv tb base M a ci rs)).set k (.int v) = (List.range n).map (q_fv tb base (q_up M.1 a k v, M.2) a ci rs) := by
  apply List.ext_getElem?
  intro j
  by_cases hj : k = j
  · subst hj
    by_cases hk : k < n
    · rw [List.getElem?_set_self (by simpa using hk)]
      simp [List.getElem?_range, hk, q_fv, hf, q_up]
    · rw [List.getElem?_eq_none (by simp; omega), List.getElem?_eq_none (by simp; omega)]
  · rw [List.getElem?_set_ne hj]
    by_cases hk : j < n
    · have hj' : ¬ j = k := fun h => hj h.symm
      simp [List.getElem?_range, hk, q_fv, q_up, hj']
    · rw [List.getElem?_eq_none (by simp; omega), List.getElem?_eq_none (by simp; omega)]
theorem q_up_ne {α : Type} (h : Nat → Nat → α) {a a' k : Nat} (v : α) (hn : a' ≠ a) : q_up h a k v a' = h a' := by
  funext k'
  simp [q_up, hn]
theorem q_up_eq {α : Type} (h : Nat → Nat → α) (a k : Nat) (v : α) : q_up h a k v a = fun j => if j = k then v else h a j := by
  funext k'
  simp [q_up]
theorem q_uc_ne {α : Type} (h : Nat → Nat → α) {a a' : Nat} (f : Nat → α) (hn : a' ≠ a) : q_uc h a f a' = h a' := by
  funext k'
  simp [q_uc, hn]
theorem q_uc_eq {α : Type} (h : Nat → Nat → α) (a : Nat) (f : Nat → α) : q_uc h a f a = f := by
  funext k'
  simp [q_uc]
theorem q_in_of {i : Int32} {n : Nat} (h : ¬ (i < 0 ∨ n ≤ i.toNatClampNeg)) : vp_in i n := h
theorem q_fit {v : Int32} (h : v = 0 ∨ v = 1) : fits .boolean (.int v) = true := by
  rcases h with rfl | rfl <;> rfl
theorem q_nar {v : Int32} (h : v = 0 ∨ v = 1) : narrow .boolean (.int v) = .int v := by
  rcases h with rfl | rfl <;> rfl
theorem qg_getI {l : Launch} {P : QP} {own : String} {cc : ByteArray} {nL pc : Nat} {ret : Option FieldType} {index ci k N : Nat} {C : String} {T : u_T} {ty0 : Nat → FieldType} (hc : QCls ci C T N ty0) (hk : k < N) (hf : q_fi ci k = true) (hl : q_lnk own index T k) (h : decode cc pc = .ok (.getfield index, 3)) : QGood l P own cc nL ret pc (qi_getI (pc + 3) ci k) := by
  intro p e s m args below meth c R D ty tb base X G C d cells slots Q cx hC hroom Rt nx rt L S M r he hn hr H locs ls hR hL
  obtain ⟨hx, hb, hml, hown, hts, hSt⟩ := cx
  unfold qi_getI at he
  split at he
  · rename_i a S1
    unfold q_atO at he
    split at he
    · rename_i kd nn rs hq
      obtain ⟨h1, he⟩ := q_cond he
      obtain ⟨i, rfl, hG, hkd⟩ := q_objAt hq h1 hc.2.1
      have hat := q_W_get (ty := ty) (tb := tb) (base := base) (M := M) hG
      rw [q_ent_obj hkd hc.2.1, q_nf_of hc] at hat
      have hv : ((List.range N).map (q_fv tb base M (i + 4) ci rs))[k]? = some (.int (M.1 (i + 4) k)) := by simp [List.getElem?_range, hk, q_fv, hf]
      have hn' := hn _ _ _ _ he H locs ls hR hL
      simp only [List.map_cons, q_rv, q_rho_hi]
      rcases hl with hl | ⟨host, hl⟩
      · exact va_get hx hb hts hc.2.2.2.2 hown hSt.1 hR.1 i hat hc.1 k hk (hts _ hl) (fun _ h9 => h9) hv h hn'
      · exact va_getN hx hb hts hc.2.2.2.2 hown hSt.1 hR.1 i hat hc.1 k hk (va_Nw.use rfl (hSt.2.2.2.1 _ hl)) (fun _ h9 => h9) hv h hn'
    · cases he
  · cases he
theorem qg_getA {l : Launch} {P : QP} {own : String} {cc : ByteArray} {nL pc : Nat} {ret : Option FieldType} {index ci k N : Nat} {C : String} {T : u_T} {ty0 : Nat → FieldType} (hc : QCls ci C T N ty0) (hk : k < N) (hf : q_fi ci k = false) (hl : q_lnk own index T k) (h : decode cc pc = .ok (.getfield index, 3)) : QGood l P own cc nL ret pc (qi_getA (pc + 3) ci k) := by
  intro p e s m args below meth c R D ty tb base X G C d cells slots Q cx hC hroom Rt nx rt L S M r he hn hr H locs ls hR hL
  obtain ⟨hx, hb, hml, hown, hts, hSt⟩ := cx
  unfold qi_getA at he
  split at he
  · rename_i a S1
    unfold q_atA at he
    split at he
    · rename_i kd nn rs hq
      obtain ⟨h1, he⟩ := q_cond he
      unfold q_bo at he
      split at he
      · rename_i b hb2
        obtain ⟨i, rfl, hG, hkd⟩ := q_objAt hq h1 hc.2.1
        have hat := q_W_get (ty := ty) (tb := tb) (base := base) (M := M) hG
        rw [q_ent_obj hkd hc.2.1, q_nf_of hc] at hat
        have hv : ((List.range N).map (q_fv tb base M (i + 4) ci rs))[k]? = some (.ref (q_rho tb base b)) := by simp [List.getElem?_range, hk, q_fv, hf, hb2, va_rf]
        have hn' := hn _ _ _ _ he H locs ls hR hL
        simp only [List.map_cons, q_rv, q_rho_hi]
        rcases hl with hl | ⟨host, hl⟩
        · exact va_get hx hb hts hc.2.2.2.2 hown hSt.1 hR.1 i hat hc.1 k hk (hts _ hl) (fun _ h9 => h9) hv h hn'
        · exact va_getN hx hb hts hc.2.2.2.2 hown hSt.1 hR.1 i hat hc.1 k hk (va_Nw.use rfl (hSt.2.2.2.1 _ hl)) (fun _ h9 => h9) hv h hn'
      · cases he
    · cases he
  · cases he
theorem qg_putI {l : Launch} {P : QP} {own : String} {cc : ByteArray} {nL pc : Nat} {ret : Option FieldType} {index ci k N : Nat} {C : String} {T : u_T} {ty0 : Nat → FieldType} (hc : QCls ci C T N ty0) (hk : k < N) (hf : q_fi ci k = true) (hfin : (T k).2.2.2 = false) (hd : parseFieldDescriptor (T k).2.2.1 = some .int) (hl : q_lnk own index T k) (h : decode cc pc = .ok (.putfield index, 3)) : QGood l P own cc nL ret pc (qi_putI (pc + 3) ci k) := by
  intro p e s m args below meth c R D ty tb base X G C d cells slots Q cx hC hroom Rt nx rt L S M r he hn hr H locs ls hR hL
  obtain ⟨hx, hb, hml, hown, hts, hSt⟩ := cx
  unfold qi_putI at he
  split at he
  · rename_i v a S1
    unfold q_atO at he
    split at he
    · rename_i kd nn rs hq
      obtain ⟨h1, he⟩ := q_cond he
      obtain ⟨i, rfl, hG, hkd⟩ := q_objAt hq h1 hc.2.1
      have hat := q_W_get (ty := ty) (tb := tb) (base := base) (M := M) hG
      rw [q_ent_obj hkd hc.2.1, q_nf_of hc] at hat
      have hlen : k < ((List.range N).map (q_fv tb base M (i + 4) ci rs)).length := by simpa using hk
      simp only [List.map_cons, q_rv, q_rho_hi]
      have kk : ∀ (H1 : Heap) (locs1 : List Loc), va_P D vwCl ((q_W ty tb base G M).set i (base + i, .inr (ci, ((List.range N).map (q_fv tb base M (i + 4) ci rs)).set k (.int v)))) H1 → va_D (q_A base) ((q_W ty tb base G M).set i (base + i, .inr (ci, ((List.range N).map (q_fv tb base M (i + 4) ci rs)).set k (.int v)))) → va_S (q_A base) s.heap H1 locs1 → W p l e R s m args below meth c H1 locs1 cells slots Q (F0 m (pc + 3) ls (S1.map (q_rv tb base))) := by
        intro H1 locs1 hP1 _ hS1
        rw [q_fs_set _ _ _ _ _ _ _ _ _ hf, ← q_nf_of hc, q_W_set (M' := (q_up M.1 (i + 4) k v, M.2)) hG (fun a ha => ⟨q_up_ne _ _ ha, rfl⟩) (q_ent_obj hkd hc.2.1)] at hP1
        exact hn _ _ _ _ he H1 locs1 ls ⟨hP1, hS1⟩ hL
      rcases hl with hl | ⟨host, hl⟩
      · exact va_put hx hb hts hc.2.2.2.2 ty0 hc.2.2.1 hc.2.2.2.1 hown hSt.1 hR.1 q_D hR.2 i hat hc.1 k hk (hts _ hl) (fun _ h9 => h9) hfin hd rfl rfl hlen h kk
      · exact va_putN hx hb hts hc.2.2.2.2 ty0 hc.2.2.1 hc.2.2.2.1 hown hSt.1 hR.1 q_D hR.2 i hat hc.1 k hk (va_Nw.use rfl (hSt.2.2.2.1 _ hl)) (fun _ h9 => h9) hfin hd rfl rfl hlen h kk
    · cases he
  · cases he
theorem qg_putZ {l : Launch} {P : QP} {own : String} {cc : ByteArray} {nL pc : Nat} {ret : Option FieldType} {index ci k N : Nat} {C : String} {T : u_T} {ty0 : Nat → FieldType} (hc : QCls ci C T N ty0) (hk : k < N) (hf : q_fi ci k = true) (hfin : (T k).2.2.2 = false) (hd : parseFieldDescriptor (T k).2.2.1 = some .boolean) (hl : q_lnk own index T k) (h : decode cc pc = .ok (.putfield index, 3)) : QGood l P own cc nL ret pc (qi_putZ (pc + 3) ci k) := by
  intro p e s m args below meth c R D ty tb base X G C d cells slots Q cx hC hroom Rt nx rt L S M r he hn hr H locs ls hR hL
  obtain ⟨hx, hb, hml, hown, hts, hSt⟩ := cx
  unfold qi_putZ at he
  split at he
  · rename_i v a S1
    unfold q_atO at he
    split at he
    · rename_i kd nn rs hq
      obtain ⟨h1, he⟩ := q_cond he
      split at he <;> rename_i hz
      rotate_left
      · cases he
      obtain ⟨i, rfl, hG, hkd⟩ := q_objAt hq h1 hc.2.1
      have hat := q_W_get (ty := ty) (tb := tb) (base := base) (M := M) hG
      rw [q_ent_obj hkd hc.2.1, q_nf_of hc] at hat
      have hlen : k < ((List.range N).map (q_fv tb base M (i + 4) ci rs)).length := by simpa using hk
      simp only [List.map_cons, q_rv, q_rho_hi]
      have kk : ∀ (H1 : Heap) (locs1 : List Loc), va_P D vwCl ((q_W ty tb base G M).set i (base + i, .inr (ci, ((List.range N).map (q_fv tb base M (i + 4) ci rs)).set k (.int v)))) H1 → va_D (q_A base) ((q_W ty tb base G M).set i (base + i, .inr (ci, ((List.range N).map (q_fv tb base M (i + 4) ci rs)).set k (.int v)))) → va_S (q_A base) s.heap H1 locs1 → W p l e R s m args below meth c H1 locs1 cells slots Q (F0 m (pc + 3) ls (S1.map (q_rv tb base))) := by
        intro H1 locs1 hP1 _ hS1
        rw [q_fs_set _ _ _ _ _ _ _ _ _ hf, ← q_nf_of hc, q_W_set (M' := (q_up M.1 (i + 4) k v, M.2)) hG (fun a ha => ⟨q_up_ne _ _ ha, rfl⟩) (q_ent_obj hkd hc.2.1)] at hP1
        exact hn _ _ _ _ he H1 locs1 ls ⟨hP1, hS1⟩ hL
      rcases hl with hl | ⟨host, hl⟩
      · exact va_put hx hb hts hc.2.2.2.2 ty0 hc.2.2.1 hc.2.2.2.1 hown hSt.1 hR.1 q_D hR.2 i hat hc.1 k hk (hts _ hl) (fun _ h9 => h9) hfin hd (q_nar hz) (q_fit hz) hlen h kk
      · exact va_putN hx hb hts hc.2.2.2.2 ty0 hc.2.2.1 hc.2.2.2.1 hown hSt.1 hR.1 q_D hR.2 i hat hc.1 k hk (va_Nw.use rfl (hSt.2.2.2.1 _ hl)) (fun _ h9 => h9) hfin hd (q_nar hz) (q_fit hz) hlen h kk
    · cases he
  · cases he
theorem qg_lald {l : Launch} {P : QP} {own : String} {cc : ByteArray} {nL pc : Nat} {ret : Option FieldType} (h : decode cc pc = .ok (.laload, 1)) : QGood l P own cc nL ret pc (qi_lald (pc + 1)) := by
  intro p e s m args below meth c R D ty tb base X G C d cells slots Q cx hC hroom Rt nx rt L S M r he hn hr H locs ls hR hL
  obtain ⟨hx, hb, hml, hown, hts, hSt⟩ := cx
  unfold qi_lald at he
  split at he
  · rename_i i a S1
    unfold q_arO at he
    split at he
    · rename_i kd nn rs hq
      split at he
      · cases he
      · rename_i hin
        obtain ⟨h1, he⟩ := q_cond he
        obtain ⟨j, rfl, hG, hkd⟩ := q_arrAt hq h1 (by decide)
        have hat := q_W_get (ty := ty) (tb := tb) (base := base) (M := M) hG
        rw [q_ent_l hkd] at hat
        simp only [List.map_cons, q_rv, q_rho_hi]
        exact va_lald hx hb hSt.1 hR.1 j 1 hat rfl (q_in_of hin) h (hn _ _ _ _ he H locs ls hR hL)
    · cases he
  · cases he
theorem qg_zald {l : Launch} {P : QP} {own : String} {cc : ByteArray} {nL pc : Nat} {ret : Option FieldType} (h : decode cc pc = .ok (.baload, 1)) : QGood l P own cc nL ret pc (qi_zald (pc + 1)) := by
  intro p e s m args below meth c R D ty tb base X G C d cells slots Q cx hC hroom Rt nx rt L S M r he hn hr H locs ls hR hL
  obtain ⟨hx, hb, hml, hown, hts, hSt⟩ := cx
  unfold qi_zald at he
  split at he
  · rename_i i a S1
    unfold q_arO at he
    split at he
    · rename_i kd nn rs hq
      split at he
      · cases he
      · rename_i hin
        obtain ⟨h1, he⟩ := q_cond he
        obtain ⟨j, rfl, hG, hkd⟩ := q_arrAt hq h1 (by decide)
        have hat := q_W_get (ty := ty) (tb := tb) (base := base) (M := M) hG
        rw [q_ent_z hkd] at hat
        simp only [List.map_cons, q_rv, q_rho_hi]
        exact va_zald hx hb hSt.1 hR.1 j 2 hat rfl (q_in_of hin) h (hn _ _ _ _ he H locs ls hR hL)
    · cases he
  · cases he
theorem qg_iast {l : Launch} {P : QP} {own : String} {cc : ByteArray} {nL pc : Nat} {ret : Option FieldType} (h : decode cc pc = .ok (.iastore, 1)) : QGood l P own cc nL ret pc (qi_iast (pc + 1)) := by
  intro p e s m args below meth c R D ty tb base X G C d cells slots Q cx hC hroom Rt nx rt L S M r he hn hr H locs ls hR hL
  obtain ⟨hx, hb, hml, hown, hts, hSt⟩ := cx
  unfold qi_iast at he
  split at he
  · rename_i v i a S1
    unfold q_arO at he
    split at he
    · rename_i kd nn rs hq
      split at he
      · cases he
      · rename_i hin
        obtain ⟨h1, he⟩ := q_cond he
        obtain ⟨j, rfl, hG, hkd⟩ := q_arrAt hq h1 (by decide)
        have hat := q_W_get (ty := ty) (tb := tb) (base := base) (M := M) hG
        rw [q_ent_i hkd] at hat
        simp only [List.map_cons, q_rv, q_rho_hi]
        refine va_iast hx hb hSt.1 hR.1 q_D hR.2 j 0 hat rfl (q_in_of hin) h (fun H1 locs1 hP1 _ hS1 => ?_)
        rw [q_W_set (M := M) (M' := (q_up M.1 (j + 4) i.toNatClampNeg v, M.2)) hG (fun a ha => ⟨q_up_ne _ _ ha, rfl⟩) (by rw [q_ent_i hkd]; simp only [q_up_eq]; rfl)] at hP1
        exact hn _ _ _ _ he H1 locs1 ls ⟨hP1, hS1⟩ hL
    · cases he
  · cases he
theorem qg_zast {l : Launch} {P : QP} {own : String} {cc : ByteArray} {nL pc : Nat} {ret : Option FieldType} (h : decode cc pc = .ok (.bastore, 1)) : QGood l P own cc nL ret pc (qi_zast (pc + 1)) := by
  intro p e s m args below meth c R D ty tb base X G C d cells slots Q cx hC hroom Rt nx rt L S M r he hn hr H locs ls hR hL
  obtain ⟨hx, hb, hml, hown, hts, hSt⟩ := cx
  unfold qi_zast at he
  split at he
  · rename_i v i a S1
    unfold q_arO at he
    split at he
    · rename_i kd nn rs hq
      split at he
      · cases he
      · rename_i hin
        obtain ⟨h1, he⟩ := q_cond he
        obtain ⟨j, rfl, hG, hkd⟩ := q_arrAt hq h1 (by decide)
        have hat := q_W_get (ty := ty) (tb := tb) (base := base) (M := M) hG
        rw [q_ent_z hkd] at hat
        simp only [List.map_cons, q_rv, q_rho_hi]
        refine va_zast hx hb hSt.1 hR.1 q_D hR.2 j 2 hat rfl (q_in_of hin) h (fun H1 locs1 hP1 _ hS1 => ?_)
        rw [q_W_set (M := M) (M' := (q_up M.1 (j + 4) i.toNatClampNeg (vp_nar .boolean v), M.2)) hG (fun a ha => ⟨q_up_ne _ _ ha, rfl⟩) (by rw [q_ent_z hkd]; simp only [q_up_eq]; rfl)] at hP1
        exact hn _ _ _ _ he H1 locs1 ls ⟨hP1, hS1⟩ hL
    · cases he
  · cases he
theorem qg_last {l : Launch} {P : QP} {own : String} {cc : ByteArray} {nL pc : Nat} {ret : Option FieldType} (h : decode cc pc = .ok (.lastore, 1)) : QGood l P own cc nL ret pc (qi_last (pc + 1)) := by
  intro p e s m args below meth c R D ty tb base X G C d cells slots Q cx hC hroom Rt nx rt L S M r he hn hr H locs ls hR hL
  obtain ⟨hx, hb, hml, hown, hts, hSt⟩ := cx
  unfold qi_last at he
  split at he
  · rename_i v i a S1
    unfold q_arO at he
    split at he
    · rename_i kd nn rs hq
      split at he
      · cases he
      · rename_i hin
        obtain ⟨h1, he⟩ := q_cond he
        obtain ⟨j, rfl, hG, hkd⟩ := q_arrAt hq h1 (by decide)
        have hat := q_W_get (ty := ty) (tb := tb) (base := base) (M := M) hG
        rw [q_ent_l hkd] at hat
        simp only [List.map_cons, q_rv, q_rho_hi]
        refine va_last hx hb hSt.1 hR.1 q_D hR.2 j 1 hat rfl (q_in_of hin) h (fun H1 locs1 hP1 _ hS1 => ?_)
        rw [q_W_set (M := M) (M' := (M.1, q_up M.2 (j + 4) i.toNatClampNeg v)) hG (fun a ha => ⟨rfl, q_up_ne _ _ ha⟩) (by rw [q_ent_l hkd]; simp only [q_up_eq]; rfl)] at hP1
        exact hn _ _ _ _ he H1 locs1 ls ⟨hP1, hS1⟩ hL
    · cases he
  · cases he
theorem qg_iald {l : Launch} {P : QP} {own : String} {cc : ByteArray} {nL pc : Nat} {ret : Option FieldType} (h : decode cc pc = .ok (.iaload, 1)) : QGood l P own cc nL ret pc (qi_iald (pc + 1)) := by
  intro p e s m args below meth c R D ty tb base X G C d cells slots Q cx hC hroom Rt nx rt L S M r he hn hr H locs ls hR hL
  obtain ⟨hx, hb, hml, hown, hts, hSt⟩ := cx
  unfold qi_iald at he
  split at he
  · rename_i i a S1
    unfold q_arI at he
    split at he
    · rename_i kd nn rs hq
      split at he
      · cases he
      · rename_i hin
        cases h1 : kd == 10
        · rw [h1] at he
          obtain ⟨h2, he⟩ := q_cond (show cond (kd == 14 && Nat.ble a 3) _ none = some r from he)
          rw [Bool.and_eq_true] at h2
          have ha : (a : Nat) < 4 := Nat.lt_succ_of_le (Nat.le_of_ble_eq_true h2.2)
          rcases q_cell_cases hq with ⟨-, h3⟩ | ⟨j, h3, -⟩
          · have h4 : nn = X.1 a := by cases h3; rfl
            subst h4
            simp only [List.map_cons, q_rv, q_rho_lo _ _ ha]
            have hT := hSt.2.1 a ha
            exact va_ti hx hb hT hR.2 (q_in_of hin) rfl h (hn _ _ _ _ he H locs ls hR hL)
          · exact absurd ha (by rw [h3]; exact Nat.not_lt.mpr (Nat.le_add_left 4 j))
        · rw [h1] at he
          obtain ⟨j, rfl, hG, hkd⟩ := q_arrAt hq h1 (by decide)
          have hat := q_W_get (ty := ty) (tb := tb) (base := base) (M := M) hG
          rw [q_ent_i hkd] at hat
          simp only [List.map_cons, q_rv, q_rho_hi]
          exact va_iald hx hb hSt.1 hR.1 j 0 hat rfl (q_in_of hin) h (hn _ _ _ _ he H locs ls hR hL)
    · cases he
  · cases he
theorem qg_aald {l : Launch} {P : QP} {own : String} {cc : ByteArray} {nL pc : Nat} {ret : Option FieldType} (h : decode cc pc = .ok (.aaload, 1)) : QGood l P own cc nL ret pc (qi_aald (pc + 1)) := by
  intro p e s m args below meth c R D ty tb base X G C d cells slots Q cx hC hroom Rt nx rt L S M r he hn hr H locs ls hR hL
  obtain ⟨hx, hb, hml, hown, hts, hSt⟩ := cx
  unfold qi_aald at he
  split at he
  · rename_i i a S1
    unfold q_arA at he
    split at he
    · rename_i kd nn rs hq
      split at he
      · cases he
      · rename_i hin
        obtain ⟨h1, he⟩ := q_cond he
        obtain ⟨j, rfl, hG, hkd⟩ := q_arrAt hq h1 (by decide)
        unfold q_bo at he
        split at he
        · rename_i b hb2
          have hat := q_W_get (ty := ty) (tb := tb) (base := base) (M := M) hG
          rw [q_ent_q (by rw [hkd]; exact Nat.le_refl _)] at hat
          simp only [List.map_cons, q_rv, q_rho_hi]
          refine va_aldq hx hb hSt.1 hR.1 j 3 hat rfl (q_in_of hin) h ?_
          simp only [hb2]
          exact hn _ _ _ _ he H locs ls hR hL
        · cases he
    · cases he
  · cases he
theorem qg_alen {l : Launch} {P : QP} {own : String} {cc : ByteArray} {nL pc : Nat} {ret : Option FieldType} (h : decode cc pc = .ok (.arraylength, 1)) : QGood l P own cc nL ret pc (qi_alen (pc + 1)) := by
  intro p e s m args below meth c R D ty tb base X G C d cells slots Q cx hC hroom Rt nx rt L S M r he hn hr H locs ls hR hL
  obtain ⟨hx, hb, hml, hown, hts, hSt⟩ := cx
  unfold qi_alen at he
  split at he
  · rename_i a S1
    unfold q_len at he
    split at he
    · rename_i kd nn rs hq
      obtain ⟨h1, he⟩ := q_cond he
      have h1 := Nat.le_of_ble_eq_true h1
      rcases q_cell_cases hq with ⟨ha, h3⟩ | ⟨j, rfl, hG⟩
      · have h4 : nn = X.1 a := by cases h3; rfl
        subst h4
        simp only [List.map_cons, q_rv, q_rho_lo _ _ ha]
        exact va_tlen hx hb (hSt.2.1 a ha) hR.2 rfl h (hn _ _ _ _ he H locs ls hR hL)
      · have hat := q_W_get (ty := ty) (tb := tb) (base := base) (M := M) hG
        simp only [List.map_cons, q_rv, q_rho_hi]
        have hn' := hn _ _ _ _ he H locs ls hR hL
        rcases (show kd = 10 ∨ kd = 11 ∨ kd = 12 ∨ 13 ≤ kd by omega) with hk | hk | hk | hk
        · rw [q_ent_i hk] at hat
          exact va_alen hx hb hSt.1 hR.1 j 0 hat (ty := .int) rfl rfl h hn'
        · rw [q_ent_l hk] at hat
          exact va_alen hx hb hSt.1 hR.1 j 1 hat (ty := .long) rfl rfl h hn'
        · rw [q_ent_z hk] at hat
          exact va_alen hx hb hSt.1 hR.1 j 2 hat (ty := .boolean) rfl rfl h hn'
        · rw [q_ent_q hk] at hat
          exact va_alen hx hb hSt.1 hR.1 j 3 hat (ty := .object "RungByHeart$Shelf") rfl rfl h hn'
    · cases he
  · cases he
theorem qg_static {l : Launch} {P : QP} {own : String} {cc : ByteArray} {nL pc : Nat} {ret : Option FieldType} {index j : Nat} (hj : j < 3) (hl : Cond.fieldLink own index (q_zc j) (q_zn j) "[I" ∈ q_GW) (h : decode cc pc = .ok (.getstatic index, 3)) : QGood l P own cc nL ret pc (qi_static (pc + 3) j) := by
  intro p e s m args below meth c R D ty tb base X G C d cells slots Q cx hC hroom Rt nx rt L S M r he hn hr H locs ls hR hL
  obtain ⟨hx, hb, hml, hown, hts, hSt⟩ := cx
  have hn' := hn _ _ _ _ he H locs ls hR hL
  have hj4 : j < 4 := by omega
  simp only [List.map_cons, q_rv, q_rho_lo _ _ hj4] at hn'
  exact va_gets hx hb (hSt.2.2.1 j hj) hR.2 hown (hts _ hl) (fun _ h9 => h9) h hn'
theorem qg_iret {l : Launch} {P : QP} {own : String} {cc : ByteArray} {nL pc : Nat} {ret : Option FieldType} (hret : ret = some .int) (h : decode cc pc = .ok (.ireturn, 1)) : QGood l P own cc nL ret pc qi_iret := by
  intro p e s m args below meth c R D ty tb base X G C d cells slots Q cx hC hroom Rt nx rt L S M r he hn hr H locs ls hR hL
  obtain ⟨hx, hb, hml, hown, hts, hSt⟩ := cx
  unfold qi_iret at he
  split at he
  · exact hr _ _ he (Or.inl hret) pc H locs ls hR h
  · cases he
theorem qg_lret {l : Launch} {P : QP} {own : String} {cc : ByteArray} {nL pc : Nat} {ret : Option FieldType} (hret : ret = some .long) (h : decode cc pc = .ok (.lreturn, 1)) : QGood l P own cc nL ret pc qi_lret := by
  intro p e s m args below meth c R D ty tb base X G C d cells slots Q cx hC hroom Rt nx rt L S M r he hn hr H locs ls hR hL
  obtain ⟨hx, hb, hml, hown, hts, hSt⟩ := cx
  unfold qi_lret at he
  split at he
  · exact hr _ _ he hret pc H locs ls hR h
  · cases he
theorem qg_zret {l : Launch} {P : QP} {own : String} {cc : ByteArray} {nL pc : Nat} {ret : Option FieldType} (hret : ret = some .boolean) (h : decode cc pc = .ok (.ireturn, 1)) : QGood l P own cc nL ret pc qi_zret := by
  intro p e s m args below meth c R D ty tb base X G C d cells slots Q cx hC hroom Rt nx rt L S M r he hn hr H locs ls hR hL
  obtain ⟨hx, hb, hml, hown, hts, hSt⟩ := cx
  unfold qi_zret at he
  split at he
  · split at he
    · rename_i hz
      exact hr _ _ he (Or.inr ⟨hret, hz⟩) pc H locs ls hR h
    · cases he
  · cases he
theorem qg_aret {l : Launch} {P : QP} {own : String} {cc : ByteArray} {nL pc : Nat} {ret : Option FieldType} {n : String} (hret : ret = some (.object n)) (h : decode cc pc = .ok (.areturn, 1)) : QGood l P own cc nL ret pc qi_aret := by
  intro p e s m args below meth c R D ty tb base X G C d cells slots Q cx hC hroom Rt nx rt L S M r he hn hr H locs ls hR hL
  obtain ⟨hx, hb, hml, hown, hts, hSt⟩ := cx
  unfold qi_aret at he
  split at he
  · exact hr _ _ he ⟨n, hret⟩ pc H locs ls hR h
  · exact hr _ _ he ⟨n, hret⟩ pc H locs ls hR h
  · cases he
theorem qg_vret {l : Launch} {P : QP} {own : String} {cc : ByteArray} {nL pc : Nat} {ret : Option FieldType} (hret : ret = none) (h : decode cc pc = .ok (.return_, 1)) : QGood l P own cc nL ret pc qi_vret := by
  intro p e s m args below meth c R D ty tb base X G C d cells slots Q cx hC hroom Rt nx rt L S M r he hn hr H locs ls hR hL
  obtain ⟨hx, hb, hml, hown, hts, hSt⟩ := cx
  unfold qi_vret at he
  split at he
  · exact hr _ _ he hret pc H locs ls hR h
  · cases he
end
section
/-! THE INSTRUCTIONS: switches, copies, calls -/
theorem q_sw_table {β : Type} (f : Nat → Option β) (x : Int32) (r : β) (hi d : Nat) (pc : Nat) (offs : List Int) (dflt : Int) (hd : (pc : Int) + dflt = (d : Int)) :
    ∀ (ks : List (Int32 × Nat)) (lo : Int), ks.length = offs.length → (∀ (j : Nat) (k : Int32 × Nat) (o : Int), ks[j]? = some k → offs[j]? = some o → k.1.toInt = lo + (j : Int) ∧ (pc : Int) + o = (k.2 : Int)) → q_sw f x ks d = some r →
      ((x.toInt < lo ∨ lo + (offs.length : Int) - 1 < x.toInt) ∧ f d = some r) ∨ (∃ (o : Int) (t : Nat), ¬ x.toInt < lo ∧ ¬ lo + (offs.length : Int) - 1 < x.toInt ∧ offs[(x.toInt - lo).toNat]? = some o ∧ (pc : Int) + o = (t : Int) ∧ f t = some r) := by
  induction offs with
  | nil =>
    intro ks lo hl _ h
    have : ks = [] := by cases ks with
      | nil => rfl
      | cons a t => simp at hl
    subst this
    exact Or.inl ⟨by simp only [List.length_nil]; omega, h⟩
  | cons o os ih =>
    intro ks lo hl hk h
    cases ks with
    | nil => simp at hl
    | cons k ks =>
      obtain ⟨k1, k2⟩ := k
      have h0 := hk 0 (k1, k2) o rfl rfl
      simp only [q_sw] at h
      by_cases hx : x = k1
      · rw [if_pos hx] at h
        refine Or.inr ⟨o, k2, ?_, ?_, ?_, h0.2, h⟩
        · rw [hx]; have := h0.1; simp at this; omega
        · rw [hx]; have := h0.1; simp at this; simp only [List.length_cons]; omega
        · have e : (x.toInt - lo).toNat = 0 := by rw [hx]; have := h0.1; simp at this; omega
          rw [e]; rfl
      · rw [if_neg hx] at h
        have hne : ¬ x.toInt = lo := fun q => hx (Int32.toInt_inj.mp (by have := h0.1; simp at this; rw [this]; exact q))
        have hrec := ih ks (lo + 1) (by simpa using hl) (fun j k o' h1 h2 => by
          have := hk (j + 1) k o' (by simpa using h1) (by simpa using h2)
          refine ⟨by have := this.1; push_cast at this; omega, this.2⟩) h
        rcases hrec with ⟨h1, h2⟩ | ⟨o', t, h1, h2, h3, h4, h5⟩
        · refine Or.inl ⟨?_, h2⟩
          simp only [List.length_cons]
          push_cast
          omega
        · refine Or.inr ⟨o', t, by omega, by simp only [List.length_cons]; push_cast; omega, ?_, h4, h5⟩
          have e : (x.toInt - lo).toNat = (x.toInt - (lo + 1)).toNat + 1 := by omega
          rw [e]
          simpa using h3
/-- the keys and targets of a tableswitch are as the bytes have them -/
def q_swOK (pc : Nat) (lo : Int) : List (Int32 × Nat) → List Int → Bool
  | [], [] => true
  | k :: ks, o :: os => (k.1.toInt == lo) && ((pc : Int) + o == (k.2 : Int)) && q_swOK pc (lo + 1) ks os
  | _, _ => false
theorem q_swOK_of (pc : Nat) : ∀ (ks : List (Int32 × Nat)) (os : List Int) (lo : Int), q_swOK pc lo ks os = true → ks.length = os.length ∧ ∀ (j : Nat) (k : Int32 × Nat) (o : Int), ks[j]? = some k → os[j]? = some o → k.1.toInt = lo + (j : Int) ∧ (pc : Int) + o = (k.2 : Int) := by
  intro ks
  induction ks with
  | nil =>
    intro os lo h
    cases os with
    | nil => exact ⟨rfl, fun j k o h1 => by simp at h1⟩
    | cons a t => cases h
  | cons a t ih =>
    intro os lo h
    cases os with
    | nil => cases h
    | cons o os =>
      simp only [q_swOK, Bool.and_eq_true, beq_iff_eq] at h
      obtain ⟨⟨h1, h2⟩, h3⟩ := h
      obtain ⟨g1, g2⟩ := ih os (lo + 1) h3
      refine ⟨by simp [g1], fun j k o' e1 e2 => ?_⟩
      cases j with
      | zero =>
        simp at e1 e2
        subst e1; subst e2
        exact ⟨by simpa using h1, h2⟩
      | succ j =>
        have := g2 j k o' (by simpa using e1) (by simpa using e2)
        exact ⟨by have := this.1; push_cast; omega, this.2⟩
theorem qg_tableswitch {l : Launch} {P : QP} {own : String} {cc : ByteArray} {nL pc : Nat} {ret : Option FieldType} {dflt lo hi : Int} {offs : Array Int} {len d : Nat} {ks : List (Int32 × Nat)} (h : decode cc pc = .ok (.tableswitch dflt lo hi offs, len)) (hhi : hi = lo + (offs.toList.length : Int) - 1) (hd : (pc : Int) + dflt = (d : Int)) (hk : q_swOK pc lo ks offs.toList = true) : QGood l P own cc nL ret pc (qi_sw ks d) := by
  intro p e s m args below meth c R D ty tb base X G C d' cells slots Q cx hC hroom Rt nx rt L S M r he hn hr H locs ls hR hL
  obtain ⟨hx, hb, hml, hown, hts, hSt⟩ := cx
  unfold qi_sw at he
  split at he
  · rename_i x S1
    obtain ⟨g1, g2⟩ := q_swOK_of pc ks offs.toList lo hk
    rcases q_sw_table (fun t => nx t L S1 M) x r 0 d pc offs.toList dflt hd ks lo g1 g2 he with ⟨h1, h2⟩ | ⟨o, t, h1, h2, h3, h4, h5⟩
    · exact lv_tableOut hx hb h (by rw [hhi]; exact h1) hd (hn _ _ _ _ h2 H locs ls hR hL)
    · exact lv_tableIn hx hb h h1 (by rw [hhi]; exact h2) (by rw [← Array.getElem?_toList]; exact h3) h4 (hn _ _ _ _ h5 H locs ls hR hL)
  · cases he
def q_lkOK (pc : Nat) : List (Int32 × Nat) → List (Int × Int) → Bool
  | [], [] => true
  | k :: ks, o :: os => (k.1.toInt == o.1) && ((pc : Int) + o.2 == (k.2 : Int)) && q_lkOK pc ks os
  | _, _ => false
theorem q_sw_lookup {β : Type} (f : Nat → Option β) (x : Int32) (r : β) (d pc : Nat) (dflt : Int) (hd : (pc : Int) + dflt = (d : Int)) :
    ∀ (ks : List (Int32 × Nat)) (ps : List (Int × Int)), q_lkOK pc ks ps = true → q_sw f x ks d = some r → ∃ t : Nat, (pc : Int) + Op.lookupswitch.offset ps dflt x.toInt = (t : Int) ∧ f t = some r := by
  intro ks
  induction ks with
  | nil =>
    intro ps hk h
    cases ps with
    | nil => exact ⟨d, by simpa [Op.lookupswitch.offset] using hd, h⟩
    | cons a t => cases hk
  | cons k ks ih =>
    intro ps hk h
    cases ps with
    | nil => cases hk
    | cons o ps =>
      obtain ⟨k1, k2⟩ := k
      obtain ⟨o1, o2⟩ := o
      simp only [q_lkOK, Bool.and_eq_true, beq_iff_eq] at hk
      obtain ⟨⟨h1, h2⟩, h3⟩ := hk
      simp only [q_sw] at h
      by_cases hx : x = k1
      · rw [if_pos hx] at h
        refine ⟨k2, ?_, h⟩
        rw [Op.lookupswitch.offset_cons, if_pos (by rw [hx]; exact h1.symm)]
        exact h2
      · rw [if_neg hx] at h
        rw [lv_osw hx h1]
        exact ih ps h3 h
theorem qg_lookupswitch {l : Launch} {P : QP} {own : String} {cc : ByteArray} {nL pc : Nat} {ret : Option FieldType} {dflt : Int} {ps : Array (Int × Int)} {len d : Nat} {ks : List (Int32 × Nat)} (h : decode cc pc = .ok (.lookupswitch dflt ps, len)) (hp : (ps.toList.zip (ps.toList.drop 1)).all (fun (a, next) => a.1 < next.1) = true) (hd : (pc : Int) + dflt = (d : Int)) (hk : q_lkOK pc ks ps.toList = true) : QGood l P own cc nL ret pc (qi_sw ks d) := by
  intro p e s m args below meth c R D ty tb base X G C d' cells slots Q cx hC hroom Rt nx rt L S M r he hn hr H locs ls hR hL
  obtain ⟨hx, hb, hml, hown, hts, hSt⟩ := cx
  unfold qi_sw at he
  split at he
  · rename_i x S1
    obtain ⟨t, h1, h2⟩ := q_sw_lookup (fun t => nx t L S1 M) x r d pc dflt hd ks ps.toList hk he
    exact lv_lookup hx hb h hp rfl h1 (hn _ _ _ _ h2 H locs ls hR hL)
  · cases he
/-- a copy -/
def q_cpw (own : String) (index : Nat) : Prop := Cond.methodLink own index arraycopyName ∈ q_GW ∧ Cond.native arraycopyName ∈ q_GW ∧ Cond.static arraycopyName ∈ q_GW ∧ Cond.initialized "java/lang/System" ∈ q_GW
theorem qg_copy {l : Launch} {P : QP} {own : String} {cc : ByteArray} {nL pc : Nat} {ret : Option FieldType} {index : Nat} (hw : q_cpw own index) (h : decode cc pc = .ok (.invokestatic index, 3)) : QGood l P own cc nL ret pc (qi_copy (pc + 3)) := by
  intro p e s m args below meth c R D ty tb base X G C d' cells slots Q cx hC hroom Rt nx rt L S M r he hn hr H locs ls hR hL
  obtain ⟨hx, hb, hml, hown, hts, hSt⟩ := cx
  unfold qi_copy at he
  split at he
  · rename_i n dp a sp a0 S1
    obtain ⟨hcat, he⟩ := q_cond he
    have hcat := Nat.le_of_ble_eq_true hcat
    unfold q_cpy at he
    split at he
    · rename_i k0 n0 r0 k1 n1 r1 hq0 hq1
      split at he
      · cases he
      · rename_i hin
        have c1 : ¬ sp < 0 := fun q => hin (Or.inl q)
        have c2 : ¬ dp < 0 := fun q => hin (Or.inr (Or.inl q))
        have c3 : ¬ n < 0 := fun q => hin (Or.inr (Or.inr (Or.inl q)))
        have c4 : sp.toNatClampNeg + n.toNatClampNeg ≤ n0 := Nat.not_lt.mp fun q => hin (Or.inr (Or.inr (Or.inr (Or.inl q))))
        have c5 : dp.toNatClampNeg + n.toNatClampNeg ≤ n1 := Nat.not_lt.mp fun q => hin (Or.inr (Or.inr (Or.inr (Or.inr q))))
        have hw1 : (((S1.map (q_rv tb base)).map fun v => v.category).sum + (nativeFrameWords "java/lang/System" "arraycopy" 5 + 11) ≤ R.locals) := by
          rw [q_cat_eq]
          have e : nativeFrameWords "java/lang/System" "arraycopy" 5 + 11 ≤ 32 := by decide +kernel
          omega
        cases h1 : (k0 == 10 && k1 == 10)
        · rw [h1] at he
          obtain ⟨h2, he⟩ := q_cond (show cond (k0 == 11 && k1 == 11) _ none = some r from he)
          rw [Bool.and_eq_true] at h2
          obtain ⟨j0, rfl, hG0, hkd0⟩ := q_arrAt hq0 h2.1 (by decide)
          obtain ⟨j1, rfl, hG1, hkd1⟩ := q_arrAt hq1 h2.2 (by decide)
          have hat0 := q_W_get (ty := ty) (tb := tb) (base := base) (M := M) hG0
          have hat1 := q_W_get (ty := ty) (tb := tb) (base := base) (M := M) hG1
          rw [q_ent_l hkd0] at hat0
          rw [q_ent_l hkd1] at hat1
          simp only [List.map_cons, q_rv, q_rho_hi]
          refine va_copyl hx hb (hml.trans hL.1.1.symm) hown (hts _ hw.1) (hts _ hw.2.1) (hts _ hw.2.2.1) (hts _ hw.2.2.2) hSt.1 hR.1 q_D hR.2 j0 j1 1 1 hat0 hat1 (ty := .long) rfl rfl rfl c1 c2 c3 c4 c5 (fun _ _ => rfl) (by omega) hw1 h (fun H1 locs1 hP1 _ hS1 => ?_)
          rw [q_W_set (M := M) (M' := (M.1, q_uc M.2 (j1 + 4) (va_cpy (M.2 (j0 + 4)) (M.2 (j1 + 4)) sp.toNatClampNeg dp.toNatClampNeg n.toNatClampNeg))) hG1 (fun a ha => ⟨rfl, q_uc_ne _ _ ha⟩) (by rw [q_ent_l hkd1]; simp only [q_uc_eq])] at hP1
          exact hn _ _ _ _ he H1 locs1 ls ⟨hP1, hS1⟩ hL
        · rw [h1] at he
          rw [Bool.and_eq_true] at h1
          obtain ⟨j0, rfl, hG0, hkd0⟩ := q_arrAt hq0 h1.1 (by decide)
          obtain ⟨j1, rfl, hG1, hkd1⟩ := q_arrAt hq1 h1.2 (by decide)
          have hat0 := q_W_get (ty := ty) (tb := tb) (base := base) (M := M) hG0
          have hat1 := q_W_get (ty := ty) (tb := tb) (base := base) (M := M) hG1
          rw [q_ent_i hkd0] at hat0
          rw [q_ent_i hkd1] at hat1
          simp only [List.map_cons, q_rv, q_rho_hi]
          refine va_copyi hx hb (hml.trans hL.1.1.symm) hown (hts _ hw.1) (hts _ hw.2.1) (hts _ hw.2.2.1) (hts _ hw.2.2.2) hSt.1 hR.1 q_D hR.2 j0 j1 0 0 hat0 hat1 (ty := .int) rfl rfl rfl c1 c2 c3 c4 c5 (fun _ _ => rfl) (by omega) hw1 h (fun H1 locs1 hP1 _ hS1 => ?_)
          rw [q_W_set (M := M) (M' := (q_uc M.1 (j1 + 4) (va_cpy (M.1 (j0 + 4)) (M.1 (j1 + 4)) sp.toNatClampNeg dp.toNatClampNeg n.toNatClampNeg), M.2)) hG1 (fun a ha => ⟨q_uc_ne _ _ ha, rfl⟩) (by rw [q_ent_i hkd1]; simp only [q_uc_eq])] at hP1
          exact hn _ _ _ _ he H1 locs1 ls ⟨hP1, hS1⟩ hL
    · cases he
  · cases he
end
section
/-! THE CALLS -/
/-- what a call of method k wants of the tables, n arguments beside the receiver -/
def QCal (P : QP) (k n : Nat) : Prop := Cond.code (P k).1 (P k).2.1 (P k).2.2.1 (P k).2.2.2 ∈ q_GW ∧ Cond.initialized (P k).1.cls ∈ q_GW ∧ ((P k).1.cls ≠ "java/lang/invoke/MethodHandle" ∧ (P k).1.cls ≠ "java/lang/invoke/VarHandle") ∧ (parseMethodDescriptor (P k).1.desc).map (fun d => d.parameters.length) = some n ∧ (P k).2.2.1 ≤ 21
def QVir (P : QP) (own : String) (index k : Nat) : Prop := Cond.methodLink own index (P k).1 ∈ q_GW ∧ Cond.instanceMethod (P k).1 ∈ q_GW ∧ Cond.selects (P k).1.cls (P k).1 (P k).1 ∈ q_GW
def QSta (P : QP) (own : String) (index k : Nat) : Prop := Cond.methodLink own index (P k).1 ∈ q_GW ∧ Cond.static (P k).1 ∈ q_GW
theorem q_GW_good {w : Cond} (h : w ∈ q_GW) : w ∈ q_GW ∧ ((w.onTables && w.keeps) = true ∨ ∃ ty, w = .arrayClass ty) := ⟨h, good_of_word (List.mem_filter.mp h).2⟩
theorem q_ws_good {P : QP} {k : Nat} (h : Cond.code (P k).1 (P k).2.1 (P k).2.2.1 (P k).2.2.2 ∈ q_GW) : GoodIn q_GW (q_ws P k) := by
  intro w hw
  rcases List.mem_cons.mp hw with rfl | hw
  · exact q_GW_good h
  · exact q_GW_good hw
section QCALL
variable {l : Launch} {P : QP} {own : String} {cc : ByteArray} {nL pc : Nat} {ret : Option FieldType} {p : Program} {e : Env} {s : State} {m : MethodId} {args : Array Value} {below : List Frame} {meth : Method} {c : Code} {R : Room} {D : va_G} {ty : QTy} {tb : Nat → Nat} {base : Nat} {X : QX} {G : QG} {C : QC} {d cells slots : Nat} {Q : State → Prop} {H : Heap} {locs : List Loc} {ls : Array Slot}
theorem q_wld {M : QM} {U : State} (hSt : QSt D ty tb base X s) (hroom : s.heap.size + cells = base + G.length ∧ base ≤ s.heap.size) (hR : QRel D ty tb base G M s.heap H locs) (hsz : H.size ≤ s.heap.size + cells) (hU : U.heap = H) (hW : s.WarmedH U.vm) : QWld D ty tb base X G M U := by
  refine ⟨hSt.call hR.2 hU hW, by rw [hU]; exact hR.1, ?_⟩
  have h1 := q_lb hR.1 (Nat.le_trans hroom.2 hR.2.1)
  rw [hU]
  omega
theorem q_runV {index k n ci N : Nat} {CN : String} {T : u_T} {rest : List Value} {M M' : QM} {v : Option Value} {a : Nat} {as : List Value} {q : QCell}
    (hcal : QCal P k n) (hvir : QVir P own index k) (hci : vwCl[ci]? = some (CN, T, N)) (hCN : (P k).1.cls = CN) (hlt : ci < 10) (h : decode cc pc = .ok (.invokevirtual index, 3))
    (cx : QCx D ty tb base X p s m args c own cc nL) (hC : QCok l P D ty tb base X G C d) (hroom : d + 1 ≤ R.frames ∧ 40 * (d + 1) ≤ R.locals ∧ cells ≤ R.cells ∧ slots ≤ R.slots ∧ s.heap.size + cells = base + G.length ∧ base ≤ s.heap.size)
    (hr : C k (.ref a :: as) M = some (v, M')) (hn : as.length = n) (hq : q_cell G X a = some q) (hkd : (q.1 == ci) = true) (hcat : q_cat rest ≤ 8)
    (hR : QRel D ty tb base G M s.heap H locs) (hL : lv_has ls nL [])
    (kk : ∀ (H1 : Heap) (locs1 : List Loc), QRel D ty tb base G M' s.heap H1 locs1 → W p l e R s m args below meth c H1 locs1 cells slots Q (F0 m (pc + 3) ls ((v.map (q_rv tb base)).toList ++ rest.map (q_rv tb base)))) :
    W p l e R s m args below meth c H locs cells slots Q (F0 m pc ls ((((.ref a :: as).reverse ++ rest)).map (q_rv tb base))) := by
  obtain ⟨hx, hb, hml, hown, hts, hSt⟩ := cx
  obtain ⟨hr1, hr2, hr3, hr4, hr5⟩ := hroom
  obtain ⟨k1, k2, k3, k4, k5⟩ := hcal
  obtain ⟨i, rfl, hG, hkd⟩ := q_objAt hq hkd hlt
  refine q_size (fun hsz => ?_)
  have hat := q_W_get (ty := ty) (tb := tb) (base := base) (M := M) hG
  rw [q_ent_obj hkd hlt] at hat
  have hGI : GoodIn q_GW (wsV own index (P k).1.cls (P k).1 (q_ws P k)) := by
    intro w hw
    rcases List.mem_append.mp hw with h1 | h1
    · refine q_GW_good ?_
      simp only [List.mem_cons, List.not_mem_nil, or_false] at h1
      rcases h1 with rfl | rfl | rfl | rfl
      · exact hvir.1
      · exact hvir.2.1
      · exact hvir.2.2
      · exact k2
    · exact q_ws_good k1 w h1
  have cw : CallW R s args own (P k).1.cls index (P k).1 (P k).2.1 (P k).2.2.1 (P k).2.2.2 (q_ws P k) (q_rm d 0 0) 0 0 n :=
    cwV n hts hGI rfl rfl rfl ⟨rfl, k3.1, k3.2, k4⟩ ⟨by show d + 1 ≤ _; omega, by show 8 + ((P k).2.2.1 + 11) + 40 * d ≤ _; omega⟩
  have hp : PreV s H (P k).1.cls (base + i) (va_Pc ((.ref (i + 4) :: as).map (q_rv tb base)) (QWld D ty tb base X G M)) (as.map (q_rv tb base)) := by
    refine ⟨q_blind _, ?_, fun U hU hW => ⟨?_, q_wld hSt hr5 hR hsz hU hW⟩⟩
    · rw [hCN]
      exact va_recv hSt.1 hR.1 hci hat
    · simp [q_rv, q_rho_hi]
  have run := va_runV (rest := rest.map (q_rv tb base)) (g := F0 m pc ls ((((.ref (i + 4) :: as).reverse ++ rest)).map (q_rv tb base))) (locs := locs) (e := e) (below := below) (meth := meth) (cells := cells) (slots := slots) ⟨hx, hb, hml, hown, hts⟩ (hC k _ M v M' hr) cw hp rfl (by simpa using hn) hL.1 (by simp [q_rv, q_rho_hi]) (lv_room (by rw [q_cat_eq]; exact hcat)) h ⟨by omega, by omega⟩
  exact q_after run hR.2 kk
theorem q_runS {index k n : Nat} {rest : List Value} {M M' : QM} {v : Option Value} {as : List Value}
    (hcal : QCal P k n) (hsta : QSta P own index k) (h : decode cc pc = .ok (.invokestatic index, 3))
    (cx : QCx D ty tb base X p s m args c own cc nL) (hC : QCok l P D ty tb base X G C d) (hroom : d + 1 ≤ R.frames ∧ 40 * (d + 1) ≤ R.locals ∧ cells ≤ R.cells ∧ slots ≤ R.slots ∧ s.heap.size + cells = base + G.length ∧ base ≤ s.heap.size)
    (hr : C k as M = some (v, M')) (hn : as.length = n) (hcat : q_cat rest ≤ 8)
    (hR : QRel D ty tb base G M s.heap H locs) (hL : lv_has ls nL [])
    (kk : ∀ (H1 : Heap) (locs1 : List Loc), QRel D ty tb base G M' s.heap H1 locs1 → W p l e R s m args below meth c H1 locs1 cells slots Q (F0 m (pc + 3) ls ((v.map (q_rv tb base)).toList ++ rest.map (q_rv tb base)))) :
    W p l e R s m args below meth c H locs cells slots Q (F0 m pc ls (((as.reverse ++ rest)).map (q_rv tb base))) := by
  obtain ⟨hx, hb, hml, hown, hts, hSt⟩ := cx
  obtain ⟨hr1, hr2, hr3, hr4, hr5⟩ := hroom
  obtain ⟨k1, k2, k3, k4, k5⟩ := hcal
  refine q_size (fun hsz => ?_)
  have hGI : GoodIn q_GW (va_wsS own index (P k).1 (q_ws P k)) := by
    intro w hw
    rcases List.mem_append.mp hw with h1 | h1
    · refine q_GW_good ?_
      simp only [List.mem_cons, List.not_mem_nil, or_false] at h1
      rcases h1 with rfl | rfl | rfl
      · exact hsta.1
      · exact hsta.2
      · exact k2
    · exact q_ws_good k1 w h1
  have cw : CallB R s args own index (P k).1 (P k).2.1 (P k).2.2.1 (P k).2.2.2 (q_ws P k) (q_rm d 0 0) 0 0 n ∧ (Cond.static (P k).1).before args s = true :=
    va_cwS n hts hGI rfl rfl rfl ⟨k3.1, k3.2, k4⟩ ⟨by show d + 1 ≤ _; omega, by show 8 + ((P k).2.2.1 + 11) + 40 * d ≤ _; omega⟩
  have hp : PreS s H (va_Pc (as.map (q_rv tb base)) (QWld D ty tb base X G M)) (as.map (q_rv tb base)) :=
    ⟨q_blind _, fun U hU hW => ⟨rfl, q_wld hSt hr5 hR hsz hU hW⟩⟩
  have run := va_runS (rest := rest.map (q_rv tb base)) (g := F0 m pc ls (((as.reverse ++ rest)).map (q_rv tb base))) (locs := locs) (e := e) (below := below) (meth := meth) (cells := cells) (slots := slots) ⟨hx, hb, hml, hown, hts⟩ (hC k _ M v M' hr) cw hp rfl (by simpa using hn) hL.1 (by simp) (lv_room (by rw [q_cat_eq]; exact hcat)) h ⟨by omega, by omega⟩
  exact q_after run hR.2 kk
end QCALL
theorem q_bv_of {Rt : Type} {x : Option (Option Value × QM)} {f : QM → Option Rt} {r : Rt} (h : q_bv x f = some r) : ∃ M, x = some (none, M) ∧ f M = some r := by
  unfold q_bv at h
  split at h
  · exact ⟨_, rfl, h⟩
  · cases h
theorem q_bi_of {Rt : Type} {x : Option (Option Value × QM)} {f : Int32 → QM → Option Rt} {r : Rt} (h : q_bi x f = some r) : ∃ v M, x = some (some (.int v), M) ∧ f v M = some r := by
  unfold q_bi at h
  split at h
  · exact ⟨_, _, rfl, h⟩
  · cases h
theorem q_bl_of {Rt : Type} {x : Option (Option Value × QM)} {f : Int64 → QM → Option Rt} {r : Rt} (h : q_bl x f = some r) : ∃ v M, x = some (some (.long v), M) ∧ f v M = some r := by
  unfold q_bl at h
  split at h
  · exact ⟨_, _, rfl, h⟩
  · cases h
theorem q_br_of {Rt : Type} {x : Option (Option Value × QM)} {f : Nat → QM → Option Rt} {g : QM → Option Rt} {r : Rt} (h : q_br x f g = some r) : (∃ v M, x = some (some (.ref v), M) ∧ f v M = some r) ∨ ∃ M, x = some (some .null, M) ∧ g M = some r := by
  unfold q_br at h
  split at h
  · exact Or.inl ⟨_, _, rfl, h⟩
  · exact Or.inr ⟨_, rfl, h⟩
  · cases h
theorem q_rc_none {β : Type} {G : QG} {X : QX} {as : List Value} {o : Option β} : q_rc G X none as o = o := rfl
theorem q_rc_of {β : Type} {G : QG} {X : QX} {ci : Nat} {as : List Value} {o : Option β} {r : β} (h : q_rc G X (some ci) as o = some r) : ∃ (a : Nat) (as' : List Value) (q : QCell), as = .ref a :: as' ∧ q_cell G X a = some q ∧ (q.1 == ci) = true ∧ o = some r := by
  unfold q_rc at h
  dsimp only at h
  split at h
  · rename_i a as'
    split at h
    · rename_i kd nn rs hq
      obtain ⟨h1, h2⟩ := q_cond h
      exact ⟨a, as', _, rfl, hq, h1, h2⟩
    · cases h
  · cases h
theorem qg_virv {l : Launch} {P : QP} {own : String} {cc : ByteArray} {nL pc : Nat} {ret : Option FieldType} {index k n ci N : Nat} {CN : String} {T : u_T} (hcal : QCal P k n) (hvir : QVir P own index k) (hci : vwCl[ci]? = some (CN, T, N)) (hCN : (P k).1.cls = CN) (hlt : ci < 10) (h : decode cc pc = .ok (.invokevirtual index, 3)) : QGood l P own cc nL ret pc (qi_callv (pc + 3) k (n + 1) (some ci)) := by
  intro p e s m args below meth c R D ty tb base X G C d cells slots Q cx hC hroom Rt nx rt L S M r he hn hr H locs ls hR hL
  unfold qi_callv at he
  obtain ⟨as, rest, h1, rfl, he2⟩ := q_pop_of _ _ _ _ _ he
  clear he
  simp only [List.append_nil] at he2
  obtain ⟨hcat, he⟩ := q_cond he2
  obtain ⟨a, as', q, rfl, hq, hkd, he⟩ := q_rc_of he
  obtain ⟨M', hc, he⟩ := q_bv_of he
  exact q_runV hcal hvir hci hCN hlt h cx hC hroom hc (by simpa using h1) hq hkd (Nat.le_of_ble_eq_true hcat) hR hL.1 (fun H1 locs1 hR1 => hn _ _ _ _ he H1 locs1 ls hR1 hL)
theorem qg_stav {l : Launch} {P : QP} {own : String} {cc : ByteArray} {nL pc : Nat} {ret : Option FieldType} {index k n : Nat} (hcal : QCal P k n) (hsta : QSta P own index k) (h : decode cc pc = .ok (.invokestatic index, 3)) : QGood l P own cc nL ret pc (qi_callv (pc + 3) k n none) := by
  intro p e s m args below meth c R D ty tb base X G C d cells slots Q cx hC hroom Rt nx rt L S M r he hn hr H locs ls hR hL
  unfold qi_callv at he
  obtain ⟨as, rest, h1, rfl, he2⟩ := q_pop_of _ _ _ _ _ he
  clear he
  simp only [List.append_nil] at he2
  obtain ⟨hcat, he⟩ := q_cond he2
  rw [q_rc_none] at he
  obtain ⟨M', hc, he⟩ := q_bv_of he
  exact q_runS hcal hsta h cx hC hroom hc h1 (Nat.le_of_ble_eq_true hcat) hR hL.1 (fun H1 locs1 hR1 => hn _ _ _ _ he H1 locs1 ls hR1 hL)
theorem qg_viri {l : Launch} {P : QP} {own : String} {cc : ByteArray} {nL pc : Nat} {ret : Option FieldType} {index k n ci N : Nat} {CN : String} {T : u_T} (hcal : QCal P k n) (hvir : QVir P own index k) (hci : vwCl[ci]? = some (CN, T, N)) (hCN : (P k).1.cls = CN) (hlt : ci < 10) (h : decode cc pc = .ok (.invokevirtual index, 3)) : QGood l P own cc nL ret pc (qi_calli (pc + 3) k (n + 1) (some ci)) := by
  intro p e s m args below meth c R D ty tb base X G C d cells slots Q cx hC hroom Rt nx rt L S M r he hn hr H locs ls hR hL
  unfold qi_calli at he
  obtain ⟨as, rest, h1, rfl, he2⟩ := q_pop_of _ _ _ _ _ he
  clear he
  simp only [List.append_nil] at he2
  obtain ⟨hcat, he⟩ := q_cond he2
  obtain ⟨a, as', q, rfl, hq, hkd, he⟩ := q_rc_of he
  obtain ⟨v, M', hc, he⟩ := q_bi_of he
  exact q_runV hcal hvir hci hCN hlt h cx hC hroom hc (by simpa using h1) hq hkd (Nat.le_of_ble_eq_true hcat) hR hL.1 (fun H1 locs1 hR1 => hn _ _ _ _ he H1 locs1 ls hR1 hL)
theorem qg_stai {l : Launch} {P : QP} {own : String} {cc : ByteArray} {nL pc : Nat} {ret : Option FieldType} {index k n : Nat} (hcal : QCal P k n) (hsta : QSta P own index k) (h : decode cc pc = .ok (.invokestatic index, 3)) : QGood l P own cc nL ret pc (qi_calli (pc + 3) k n none) := by
  intro p e s m args below meth c R D ty tb base X G C d cells slots Q cx hC hroom Rt nx rt L S M r he hn hr H locs ls hR hL
  unfold qi_calli at he
  obtain ⟨as, rest, h1, rfl, he2⟩ := q_pop_of _ _ _ _ _ he
  clear he
  simp only [List.append_nil] at he2
  obtain ⟨hcat, he⟩ := q_cond he2
  rw [q_rc_none] at he
  obtain ⟨v, M', hc, he⟩ := q_bi_of he
  exact q_runS hcal hsta h cx hC hroom hc h1 (Nat.le_of_ble_eq_true hcat) hR hL.1 (fun H1 locs1 hR1 => hn _ _ _ _ he H1 locs1 ls hR1 hL)
theorem qg_virl {l : Launch} {P : QP} {own : String} {cc : ByteArray} {nL pc : Nat} {ret : Option FieldType} {index k n ci N : Nat} {CN : String} {T : u_T} (hcal : QCal P k n) (hvir : QVir P own index k) (hci : vwCl[ci]? = some (CN, T, N)) (hCN : (P k).1.cls = CN) (hlt : ci < 10) (h : decode cc pc = .ok (.invokevirtual index, 3)) : QGood l P own cc nL ret pc (qi_calll (pc + 3) k (n + 1) (some ci)) := by
  intro p e s m args below meth c R D ty tb base X G C d cells slots Q cx hC hroom Rt nx rt L S M r he hn hr H locs ls hR hL
  unfold qi_calll at he
  obtain ⟨as, rest, h1, rfl, he2⟩ := q_pop_of _ _ _ _ _ he
  clear he
  simp only [List.append_nil] at he2
  obtain ⟨hcat, he⟩ := q_cond he2
  obtain ⟨a, as', q, rfl, hq, hkd, he⟩ := q_rc_of he
  obtain ⟨v, M', hc, he⟩ := q_bl_of he
  exact q_runV hcal hvir hci hCN hlt h cx hC hroom hc (by simpa using h1) hq hkd (Nat.le_of_ble_eq_true hcat) hR hL.1 (fun H1 locs1 hR1 => hn _ _ _ _ he H1 locs1 ls hR1 hL)
theorem qg_stal {l : Launch} {P : QP} {own : String} {cc : ByteArray} {nL pc : Nat} {ret : Option FieldType} {index k n : Nat} (hcal : QCal P k n) (hsta : QSta P own index k) (h : decode cc pc = .ok (.invokestatic index, 3)) : QGood l P own cc nL ret pc (qi_calll (pc + 3) k n none) := by
  intro p e s m args below meth c R D ty tb base X G C d cells slots Q cx hC hroom Rt nx rt L S M r he hn hr H locs ls hR hL
  unfold qi_calll at he
  obtain ⟨as, rest, h1, rfl, he2⟩ := q_pop_of _ _ _ _ _ he
  clear he
  simp only [List.append_nil] at he2
  obtain ⟨hcat, he⟩ := q_cond he2
  rw [q_rc_none] at he
  obtain ⟨v, M', hc, he⟩ := q_bl_of he
  exact q_runS hcal hsta h cx hC hroom hc h1 (Nat.le_of_ble_eq_true hcat) hR hL.1 (fun H1 locs1 hR1 => hn _ _ _ _ he H1 locs1 ls hR1 hL)
theorem qg_virr {l : Launch} {P : QP} {own : String} {cc : ByteArray} {nL pc : Nat} {ret : Option FieldType} {index k n ci N : Nat} {CN : String} {T : u_T} (hcal : QCal P k n) (hvir : QVir P own index k) (hci : vwCl[ci]? = some (CN, T, N)) (hCN : (P k).1.cls = CN) (hlt : ci < 10) (h : decode cc pc = .ok (.invokevirtual index, 3)) : QGood l P own cc nL ret pc (qi_callr (pc + 3) k (n + 1) (some ci)) := by
  intro p e s m args below meth c R D ty tb base X G C d cells slots Q cx hC hroom Rt nx rt L S M r he hn hr H locs ls hR hL
  unfold qi_callr at he
  obtain ⟨as, rest, h1, rfl, he2⟩ := q_pop_of _ _ _ _ _ he
  clear he
  simp only [List.append_nil] at he2
  obtain ⟨hcat, he⟩ := q_cond he2
  obtain ⟨a, as', q, rfl, hq, hkd, he⟩ := q_rc_of he
  rcases q_br_of he with ⟨v, M', hc, he⟩ | ⟨M', hc, he⟩
  · exact q_runV hcal hvir hci hCN hlt h cx hC hroom hc (by simpa using h1) hq hkd (Nat.le_of_ble_eq_true hcat) hR hL.1 (fun H1 locs1 hR1 => hn _ _ _ _ he H1 locs1 ls hR1 hL)
  · exact q_runV hcal hvir hci hCN hlt h cx hC hroom hc (by simpa using h1) hq hkd (Nat.le_of_ble_eq_true hcat) hR hL.1 (fun H1 locs1 hR1 => hn _ _ _ _ he H1 locs1 ls hR1 hL)
theorem qg_objInit {l : Launch} {P : QP} {own : String} {cc : ByteArray} {nL pc : Nat} {ret : Option FieldType} {index : Nat} (h1 : Cond.methodLink own index Lib.objectInit ∈ q_GW) (h2 : Cond.instanceMethod Lib.objectInit ∈ q_GW) (h3 : Cond.code Lib.objectInit ⟨#[0xb1]⟩ 1 none ∈ q_GW) (h : decode cc pc = .ok (.invokespecial index, 3)) : QGood l P own cc nL ret pc (qi_objInit (pc + 3)) := by
  intro p e s m args below meth c R D ty tb base X G C d cells slots Q cx hC hroom Rt nx rt L S M r he hn hr H locs ls hR hL
  obtain ⟨hx, hb, hml, hown, hts, hSt⟩ := cx
  obtain ⟨hr1, hr2, hr3, hr4, hr5⟩ := hroom
  unfold qi_objInit at he
  split at he
  · rename_i a S1
    obtain ⟨hcat, he⟩ := q_cond he
    have hcat := Nat.le_of_ble_eq_true hcat
    refine W.objInit hx hb hown (hts _ h1) (hts _ h2) (hts _ h3) rfl (hL.1.1.trans hml.symm) (rest := S1.map (q_rv tb base)) rfl h (by omega) ?_ ?_
    · rw [q_cat_eq]
      show 2 * 0 + q_cat S1 + 12 ≤ _
      omega
    · exact hn _ _ _ _ he H locs ls hR hL
  · cases he
end
section
/-! EVERY RUN OF THE CLEAN MACHINE IS A RUN OF THE REAL ONE -/
theorem q_args_len (tb : Nat → Nat) (base : Nat) (as : List Value) : (lg_sl (as.map (q_rv tb base))).length = (q_args as).length := by
  induction as with
  | nil => rfl
  | cons v t ih =>
    have e : lg_sl ((v :: t).map (q_rv tb base)) = (if (q_rv tb base v).category = 2 then [.val (q_rv tb base v), .second] else [.val (q_rv tb base v)]) ++ lg_sl (t.map (q_rv tb base)) := by
      simp [lg_sl]
    rw [e, List.length_append, ih, q_rv_cat]
    cases v <;> simp [q_args, Value.category] <;> omega
theorem q_args_get (tb : Nat → Nat) (base : Nat) (n : Nat) (as : List Value) : ∀ (i0 j : Nat) (v : Value), q_get (q_args as ++ List.replicate n none) j = some v → (i0 + j, q_rv tb base v) ∈ lv_args i0 (as.map (q_rv tb base)) := by
  have hrep : ∀ (n j : Nat), q_get (List.replicate n none) j = none := by
    intro n
    induction n with
    | zero => intro j; rfl
    | succ n ih => intro j; cases j with
      | zero => rfl
      | succ j => exact ih j
  induction as with
  | nil =>
    intro i0 j v h
    simp only [q_args, List.nil_append, hrep] at h
    cases h
  | cons a t ih =>
    intro i0 j v h
    by_cases hc : a.category = 2
    · have e : q_args (a :: t) = some a :: none :: q_args t := by
        cases a <;> simp [Value.category] at hc <;> rfl
      rw [e] at h
      have hc2 : (q_rv tb base a).category = 2 := by rw [q_rv_cat]; exact hc
      simp only [List.map_cons, lv_args, hc2, if_true]
      match j, h with
      | 0, h =>
        simp only [List.cons_append, q_get, Option.some.injEq] at h
        subst h
        exact List.mem_cons_self
      | 1, h => simp [q_get] at h
      | j + 2, h =>
        have h3 := ih (i0 + 2) j v (by simpa [q_get] using h)
        rw [show i0 + (j + 2) = i0 + 2 + j by omega]
        exact List.mem_cons_of_mem _ h3
    · have e : q_args (a :: t) = some a :: q_args t := by
        cases a <;> simp [Value.category] at hc <;> rfl
      rw [e] at h
      have hc2 : ¬ (q_rv tb base a).category = 2 := by rw [q_rv_cat]; exact hc
      simp only [List.map_cons, lv_args, hc2, if_false]
      match j, h with
      | 0, h =>
        simp only [List.cons_append, q_get, Option.some.injEq] at h
        subst h
        exact List.mem_cons_self
      | j + 1, h =>
        have h3 := ih (i0 + 1) j v (by simpa [q_get] using h)
        rw [show i0 + (j + 1) = i0 + 1 + j by omega]
        exact List.mem_cons_of_mem _ h3
section QSIM
variable {p : Program} {l : Launch} {e : Env} {R : Room} {s : State} {m : MethodId} {args : Array Value} {below : List Frame} {meth : Method} {c : Code} {D : va_G} {ty : QTy} {tb : Nat → Nat} {base nL : Nat} {G : QG} {cells slots : Nat} {Q : State → Prop} {X : QX} {C : QC} {d : Nat} {P : QP} {own : String} {cc : ByteArray} {ret : Option FieldType} {cd : Nat → Option QE} {ct : Nat → Option (List Bool)}
theorem q_in_sim {K : Nat → QL → List Value → QM → Option (Option Value × QM)} {r : Option Value × QM} (hg : ∀ pc E, cd pc = some E → QGood l P own cc nL ret pc E)
    (cx : QCx D ty tb base X p s m args c own cc nL) (hC : QCok l P D ty tb base X G C d) (hroom : d + 1 ≤ R.frames ∧ 40 * (d + 1) ≤ R.locals ∧ cells ≤ R.cells ∧ slots ≤ R.slots ∧ s.heap.size + cells = base + G.length ∧ base ≤ s.heap.size)
    (hK : ∀ pc L S M, K pc L S M = some r → QW p l e R s m args below meth c D ty tb base nL G cells slots Q pc L S M)
    (hr : QRt p l e R s m args below meth c D ty tb base G cells slots Q cc ret r.1 r.2) :
    ∀ (f pc : Nat) (L : QL) (S : List Value) (M : QM), q_in G X C cd ct K f pc L S M = some r → QW p l e R s m args below meth c D ty tb base nL G cells slots Q pc L S M := by
  intro f
  induction f with
  | zero => intro pc L S M h; cases h
  | succ f ih =>
    intro pc L S M h
    unfold q_in at h
    split at h
    · cases h
    · rename_i E hE
      refine hg pc E hE p e s m args below meth c R D ty tb base X G C d cells slots Q cx hC hroom _ _ _ L S M r h ?_ ?_
      · intro pc' L' S' M' h'
        split at h'
        · exact ih pc' L' S' M' h'
        · intro H locs ls hR hL
          exact hK _ _ _ _ h' H locs ls hR (hL.mask _)
      · intro v M' h'
        cases h'
        exact hr
theorem q_out_sim {r : Option Value × QM} (hg : ∀ pc E, cd pc = some E → QGood l P own cc nL ret pc E)
    (cx : QCx D ty tb base X p s m args c own cc nL) (hC : QCok l P D ty tb base X G C d) (hroom : d + 1 ≤ R.frames ∧ 40 * (d + 1) ≤ R.locals ∧ cells ≤ R.cells ∧ slots ≤ R.slots ∧ s.heap.size + cells = base + G.length ∧ base ≤ s.heap.size)
    (hr : QRt p l e R s m args below meth c D ty tb base G cells slots Q cc ret r.1 r.2) :
    ∀ (n pc : Nat) (L : QL) (S : List Value) (M : QM), q_out G X C cd ct n pc L S M = some r → QW p l e R s m args below meth c D ty tb base nL G cells slots Q pc L S M := by
  intro n
  induction n with
  | zero => intro pc L S M h; cases h
  | succ n ih =>
    intro pc L S M h
    unfold q_out at h
    exact q_in_sim hg cx hC hroom ih hr 400 pc L S M h
end QSIM
/-- the code's rows of every method are good -/
def QProg (l : Launch) (P : QP) (cd : Nat → Nat → Option QE) : Prop := ∀ k pc E, cd k pc = some E → plainName (P k).1.cls = true ∧ QGood l P (P k).1.cls (P k).2.1 (P k).2.2.1 (P k).2.2.2 pc E
theorem q_entry_lr (tb : Nat → Nat) (base nL : Nat) (as : List Value) (h : (q_args as).length ≤ nL) : QLR tb base nL ((lg_sl (as.map (q_rv tb base)) ++ List.replicate (nL - (lg_sl (as.map (q_rv tb base))).length) Slot.unset).toArray) (q_entry nL as) := by
  have hl := lv_entry (as.map (q_rv tb base)) (n := nL) (by rw [q_args_len]; exact h)
  refine ⟨⟨hl.1, hl.2.1, fun q hq => by cases hq⟩, fun i v hv => ?_⟩
  have h1 := q_args_get tb base (nL - (q_args as).length) as 0 i v hv
  rw [Nat.zero_add] at h1
  exact hl.2.2 _ h1
theorem q_sim {l : Launch} {P : QP} {cd : Nat → Nat → Option QE} {ct : Nat → Nat → Option (List Bool)} (hP : QProg l P cd) {D : va_G} {ty : QTy} {tb : Nat → Nat} {base : Nat} {X : QX} {G : QG} : ∀ d : Nat, QCok l P D ty tb base X G (q_call P cd ct G X d) d := by
  intro d
  induction d with
  | zero => intro k as M v M' h; cases h
  | succ d ih =>
    intro k as M v M' h
    obtain ⟨hlen, h⟩ := q_cond (show cond (Nat.ble (q_args as).length (P k).2.2.1) _ none = _ from h)
    have hlen := Nat.le_of_ble_eq_true hlen
    have hpl : plainName (P k).1.cls = true := by
      have h2 := h
      rw [show qN = 999999 + 1 from rfl] at h2
      unfold q_out at h2
      rw [show (400 : Nat) = 399 + 1 from rfl] at h2
      unfold q_in at h2
      split at h2
      · cases h2
      · rename_i E hE
        exact (hP k 0 E hE).1
    refine Met.ofW (cc := (P k).2.1) (maxL := (P k).2.2.1) (ret := (P k).2.2.2) hpl rfl ?_
    intro p e s m args below meth c s₁ B hml hv
    obtain ⟨rfl, hSt, hPw, hsz⟩ := hv
    have hts : ∀ w ∈ q_GW, w.before _ s = true := fun w hw => atoms_spec (ws := q_ws P k) B.pre w (List.mem_cons_of_mem _ hw)
    have hown : s.vm.findClass (P k).1.cls = some m.cls := findClass_of_methodNamed B.named
    have cx : QCx D ty tb base X p s m (as.map (q_rv tb base)).toArray c (P k).1.cls (P k).2.1 (P k).2.2.1 := ⟨B.exec, B.bytes, hml, hown, hts, hSt⟩
    rw [lg_entry_eq]
    refine q_out_sim (r := (v, M')) (fun pc E hE => (hP k pc E hE).2) cx ih ⟨Nat.le_refl _, Nat.le_refl _, Nat.zero_le _, Nat.zero_le _, by rw [hsz]; rfl, by omega⟩ ?_ qN 0 (q_entry (P k).2.2.1 as) [] M h s.heap [] _ ⟨hPw, va_S.rf⟩ (q_entry_lr tb base _ as hlen)
    intro hok pcr H locs ls hR hd
    have hq : ∀ t : State, t.heap = H → s.WarmedH t.vm → QQ D ty tb base v G M' (as.map (q_rv tb base)).toArray s (.returned (v.map (q_rv tb base))) t := fun t ht _ => ⟨rfl, by rw [ht]; exact hR.1, hR.2.F ht⟩
    cases v with
    | none => exact W.vret B.exec B.bytes (B.returns.trans hok) hq hR.2.2.2 hd
    | some v =>
      cases v with
      | int x =>
        rcases hok with hok | ⟨hok, hx⟩
        · exact W.iret B.exec B.bytes (B.returns.trans hok) hq hR.2.2.2 hd
        · exact W.zret B.exec B.bytes (B.returns.trans hok) (q_nar hx) hq hR.2.2.2 hd
      | long x => exact W.lret B.exec B.bytes (B.returns.trans hok) hq hR.2.2.2 hd
      | ref a =>
        obtain ⟨n, hok⟩ := hok
        exact W.aret B.exec B.bytes (B.returns.trans hok) (Or.inl ⟨n, rfl⟩) (Or.inr ⟨_, rfl⟩) hq hR.2.2.2 hd
      | null =>
        obtain ⟨n, hok⟩ := hok
        exact W.aret B.exec B.bytes (B.returns.trans hok) (Or.inl ⟨n, rfl⟩) (Or.inl rfl) hq hR.2.2.2 hd
      | _ => exact absurd hok (by intro z; exact z)
end
section
/-! THE MACHINE THAT MAKES CELLS: constructors, and the law's beginning -/
abbrev QGC : Type := Nat → List Value → QG → QM → Option (Option Value × QG × QM)
abbrev QEG : Type 1 := Nat → Nat → QX → QGC → (Rt : Type) → (Nat → QL → List Value → QG → QM → Option Rt) → QL → List Value → QG → QM → Option Rt
def q_sl : QG → Nat
  | [] => 0
  | q :: t => q.2.1 + q_sl t
theorem q_sl_app (G G' : QG) : q_sl (G ++ G') = q_sl G + q_sl G' := by
  induction G with
  | nil => simp [q_sl]
  | cons a t ih => simp only [List.cons_append, q_sl, ih]; omega
def q_zero (M : QM) (a : Nat) : QM := (q_uc M.1 a (fun _ => 0), q_uc M.2 a (fun _ => 0))
/-- lists put together and changed at once, so that no work is left over in them -/
def q_app {α β : Type} : List α → α → (List α → β) → β
  | [], c, f => f [c]
  | a :: t, c, f => q_app t c (fun t' => f (a :: t'))
def q_sets {α β : Type} : List α → Nat → α → (List α → β) → β
  | [], _, _, f => f []
  | _ :: t, 0, c, f => f (c :: t)
  | a :: t, i + 1, c, f => q_sets t i c (fun t' => f (a :: t'))
theorem q_app_eq {α β : Type} (l : List α) (c : α) (f : List α → β) : q_app l c f = f (l ++ [c]) := by
  induction l generalizing f with
  | nil => rfl
  | cons a t ih => simp only [q_app, ih, List.cons_append]
theorem q_sets_eq {α β : Type} (l : List α) (i : Nat) (c : α) (f : List α → β) : q_sets l i c f = f (l.set i c) := by
  induction l generalizing i f with
  | nil => rfl
  | cons a t ih => cases i with
    | zero => rfl
    | succ i => simp only [q_sets, ih, List.set_cons_succ]
def qa_new (t ci : Nat) : QEG := fun lc lsl _ _ _ nx L S G M =>
  cond (Nat.ble (G.length + 1) lc && Nat.ble (q_sl G + q_nf ci) lsl) (q_app G (ci, q_nf ci, List.replicate (q_nf ci) none) (fun G' => nx t L (.ref (G.length + 4) :: S) G' (q_zero M (G.length + 4)))) none
def qa_arr (t kd : Nat) : QEG := fun lc lsl _ _ _ nx L S G M => match S with
  | .int n :: S => if n < 0 then none else cond (Nat.ble n.toNatClampNeg 1000 && (Nat.ble (G.length + 1) lc && Nat.ble (q_sl G + n.toNatClampNeg) lsl)) (q_app G (kd, n.toNatClampNeg, []) (fun G' => nx t L (.ref (G.length + 4) :: S) G' (q_zero M (G.length + 4)))) none
  | _ => none
def qa_arq (t : Nat) : QEG := fun lc lsl _ _ _ nx L S G M => match S with
  | .int n :: S => if n < 0 then none else cond (Nat.ble n.toNatClampNeg 1000 && (Nat.ble (G.length + 1) lc && Nat.ble (q_sl G + n.toNatClampNeg) lsl)) (q_app G (13, n.toNatClampNeg, List.replicate n.toNatClampNeg none) (fun G' => nx t L (.ref (G.length + 4) :: S) G' (q_zero M (G.length + 4)))) none
  | _ => none
def qa_putA (t ci k : Nat) : QEG := fun _ _ X _ _ nx L S G M => match S with
  | .ref b :: .ref a :: S => (match q_cell G X a with
    | some (kd, n, rs) => cond (kd == ci && Nat.blt k rs.length) (q_sets rs k (some b) (fun rs' => q_sets G (a - 4) (kd, n, rs') (fun G' => nx t L S G' M))) none
    | none => none)
  | _ => none
def qa_aast (t : Nat) : QEG := fun _ _ X _ _ nx L S G M => match S with
  | .ref b :: .int i :: .ref a :: S => (match q_cell G X a, q_cell G X b with
    | some (kd, n, rs), some (kb, _, _) => if i < 0 ∨ n ≤ i.toNatClampNeg then none else cond (kd == 13 && (kb == 5 && Nat.blt i.toNatClampNeg rs.length)) (q_sets rs i.toNatClampNeg (some b) (fun rs' => q_sets G (a - 4) (kd, n, rs') (fun G' => nx t L S G' M))) none
    | _, _ => none)
  | _ => none
/-- a constructor: it makes so many cells and slots as B says -/
def qa_call (B : Nat → Nat × Nat) (t k n ci : Nat) : QEG := fun lc lsl X CG _ nx L S G M => q_pop (n + 1) S [] (fun as S => cond (Nat.ble (q_cat S) 8 && (Nat.ble (G.length + (B k).1) lc && Nat.ble (q_sl G + (B k).2) lsl)) (q_rc G X (some ci) as (match CG k as G M with
    | some (none, G', M') => nx t L S G' M'
    | _ => none)) none)
def q_gin {Rt : Type} (P : QP) (cd : Nat → Nat → Option QE) (ct : Nat → Nat → Option (List Bool)) (X : QX) (d : Nat) (CG : QGC) (lc lsl : Nat) (cg1 : Nat → Option QEG) (cd1 : Nat → Option QE) (ct1 : Nat → Option (List Bool)) (K : Nat → QL → List Value → QG → QM → Option Rt) (rt : Option Value → QG → QM → Option Rt) : Nat → Nat → QL → List Value → QG → QM → Option Rt
  | 0, _, _, _, _, _ => none
  | f + 1, pc, L, S, G, M => match cg1 pc with
    | some e => e lc lsl X CG Rt (fun pc' L' S' G' M' => match ct1 pc' with
      | none => q_gin P cd ct X d CG lc lsl cg1 cd1 ct1 K rt f pc' L' S' G' M'
      | some b => K pc' (q_mask b L') S' G' M') L S G M
    | none => match cd1 pc with
      | none => none
      | some e => e G X (q_call P cd ct G X d) Rt (fun pc' L' S' M' => match ct1 pc' with
        | none => q_gin P cd ct X d CG lc lsl cg1 cd1 ct1 K rt f pc' L' S' G M'
        | some b => K pc' (q_mask b L') S' G M') (fun v M' => rt v G M') L S M
def q_gout (P : QP) (cd : Nat → Nat → Option QE) (ct : Nat → Nat → Option (List Bool)) (X : QX) (d : Nat) (CG : QGC) (lc lsl : Nat) (cg1 : Nat → Option QEG) (cd1 : Nat → Option QE) (ct1 : Nat → Option (List Bool)) : Nat → Nat → QL → List Value → QG → QM → Option (Option Value × QG × QM)
  | 0, _, _, _, _, _ => none
  | n + 1, pc, L, S, G, M => q_gin P cd ct X d CG lc lsl cg1 cd1 ct1 (q_gout P cd ct X d CG lc lsl cg1 cd1 ct1 n) (fun v G M => some (v, G, M)) 400 pc L S G M
def q_chk (o : Option (Option Value × QG × QM)) (lc lsl : Nat) : Option (Option Value × QG × QM) := match o with
  | some (v, G, M) => cond (G.length == lc && q_sl G == lsl) (some (v, G, M)) none
  | none => none
def q_gcall (P : QP) (cd : Nat → Nat → Option QE) (ct : Nat → Nat → Option (List Bool)) (cg : Nat → Nat → Option QEG) (B : Nat → Nat × Nat) (X : QX) : Nat → QGC
  | 0 => fun _ _ _ _ => none
  | d + 1 => fun k as G M => cond (Nat.ble (q_args as).length (P k).2.2.1) (q_chk (q_gout P cd ct X d (q_gcall P cd ct cg B X d) (G.length + (B k).1) (q_sl G + (B k).2) (cg k) (cd k) (ct k) qN 0 (q_entry (P k).2.2.1 as) [] G M) (G.length + (B k).1) (q_sl G + (B k).2)) none
def QGok (l : Launch) (P : QP) (B : Nat → Nat × Nat) (D : va_G) (ty : QTy) (tb : Nat → Nat) (base : Nat) (X : QX) (CG : QGC) (d : Nat) : Prop :=
  ∀ (k : Nat) (as : List Value) (G : QG) (M : QM) (v : Option Value) (G' : QG) (M' : QM), CG k as G M = some (v, G', M') → Met l (P k).1 (q_ws P k) (q_rm d (B k).1 (B k).2) (va_Pc (as.map (q_rv tb base)) (QWld D ty tb base X G M)) (QQ D ty tb base v G' M') (B k).1 (B k).2 (q_A base) ∧ G'.length = G.length + (B k).1 ∧ q_sl G' = q_sl G + (B k).2
section QGW
variable (p : Program) (l : Launch) (e : Env) (R : Room) (s : State) (m : MethodId) (args : Array Value) (below : List Frame) (meth : Method) (c : Code) (D : va_G) (ty : QTy) (tb : Nat → Nat) (base nL lc lsl s0 : Nat) (Q : State → Prop)
def QWG (pc : Nat) (L : QL) (S : List Value) (G : QG) (M : QM) : Prop := ∀ (cells slots : Nat), s.heap.size + cells = base + G.length → slots + s0 = q_sl G → G.length ≤ lc → q_sl G ≤ lsl → QW p l e R s m args below meth c D ty tb base nL G cells slots Q pc L S M
def QRG (cc : ByteArray) (ret : Option FieldType) (v : Option Value) (G : QG) (M : QM) : Prop := ∀ (cells slots : Nat), s.heap.size + cells = base + G.length → slots + s0 = q_sl G → QRt p l e R s m args below meth c D ty tb base G cells slots Q cc ret v M
end QGW
def QGoodG (l : Launch) (P : QP) (B : Nat → Nat × Nat) (own : String) (cc : ByteArray) (nL pc : Nat) (E : QEG) : Prop :=
  ∀ (p : Program) (e : Env) (s : State) (m : MethodId) (args : Array Value) (below : List Frame) (meth : Method) (c : Code) (R : Room) (D : va_G) (ty : QTy) (tb : Nat → Nat) (base : Nat) (X : QX) (CG : QGC) (d lc lsl s0 : Nat) (Q : State → Prop),
    QCx D ty tb base X p s m args c own cc nL → QGok l P B D ty tb base X CG d → (d + 1 ≤ R.frames ∧ 40 * (d + 1) ≤ R.locals ∧ base + lc ≤ s.heap.size + R.cells ∧ lsl ≤ s0 + R.slots ∧ base ≤ s.heap.size) → meth.name = "<init>" ∨ own = "RungByHeartLaw" →
    ∀ (Rt : Type) (nx : Nat → QL → List Value → QG → QM → Option Rt) (L : QL) (S : List Value) (G : QG) (M : QM) (r : Rt), E lc lsl X CG Rt nx L S G M = some r →
      (∀ pc' L' S' G' M', nx pc' L' S' G' M' = some r → QWG p l e R s m args below meth c D ty tb base nL lc lsl s0 Q pc' L' S' G' M') →
      QWG p l e R s m args below meth c D ty tb base nL lc lsl s0 Q pc L S G M
/-- a new cell's place -/
theorem q_place {D : va_G} {ty : QTy} {tb : Nat → Nat} {base : Nat} {G : QG} {M : QM} {q : Nat} {E : va_E} {H1 : Heap} {n : Nat} (hP : va_P D vwCl (q_W ty tb base G M ++ [(q, E)]) H1) (hD : va_D (q_A base) (q_W ty tb base G M ++ [(q, E)])) (hsz : H1.size ≤ n) (hn : n = base + G.length + 1) : q = base + G.length := by
  have hlast : (q_W ty tb base G M ++ [(q, E)])[G.length]? = some (q, E) := by
    rw [List.getElem?_append_right (by rw [q_W_len]; exact Nat.le_refl _), q_W_len, Nat.sub_self]
    rfl
  have h1 : q < H1.size := (hP _ _ hlast).lt
  have h2 : base ≤ q := hD.2 _ _ hlast
  apply Nat.le_antisymm
  · omega
  · apply Nat.le_of_not_lt
    intro h3
    have hi : q - base < G.length := by omega
    have h4 : (q_W ty tb base G M ++ [(q, E)])[q - base]? = some (base + (q - base), q_ent ty tb base M (q - base + 4) G[q - base]) := by
      rw [List.getElem?_append_left (by rw [q_W_len]; exact hi)]
      exact q_W_get (List.getElem?_eq_getElem hi)
    have h5 := hD.1 _ _ _ _ h4 hlast (by show base + (q - base) = q; omega)
    omega
theorem q_W_push {ty : QTy} {tb : Nat → Nat} {base : Nat} {G : QG} {M : QM} {q : QCell} {E : va_E} (h : q_ent ty tb base (q_zero M (G.length + 4)) (G.length + 4) q = E) : q_W ty tb base G M ++ [(base + G.length, E)] = q_W ty tb base (G ++ [q]) (q_zero M (G.length + 4)) := by
  subst h
  apply List.ext_getElem?
  intro j
  rcases Nat.lt_or_ge j G.length with hj | hj
  · have h2 : (G ++ [q])[j]? = some G[j] := by rw [List.getElem?_append_left hj, List.getElem?_eq_getElem hj]
    rw [List.getElem?_append_left (by rw [q_W_len]; exact hj), q_W_get (List.getElem?_eq_getElem hj), q_W_get h2]
    have e1 : ∀ c : QCell, q_ent ty tb base (q_zero M (G.length + 4)) (j + 4) c = q_ent ty tb base M (j + 4) c := by
      intro c
      have z1 : (q_zero M (G.length + 4)).1 (j + 4) = M.1 (j + 4) := q_uc_ne _ _ (by omega)
      have z2 : (q_zero M (G.length + 4)).2 (j + 4) = M.2 (j + 4) := q_uc_ne _ _ (by omega)
      unfold q_ent q_fv
      rw [z1, z2]
    rw [e1]
  · rw [List.getElem?_append_right (by rw [q_W_len]; exact hj), q_W_len]
    by_cases hj2 : j = G.length
    · subst hj2
      rw [Nat.sub_self, q_W_get (q := q) (by simp)]
      rfl
    · rw [List.getElem?_eq_none (by simp; omega), List.getElem?_eq_none (by rw [q_W_len]; simp; omega)]
/-- one cell's references changed -/
theorem q_W_setG {ty : QTy} {tb : Nat → Nat} {base : Nat} {G : QG} {M : QM} {i : Nat} {q' : QCell} {e : va_E} (he : q_ent ty tb base M (i + 4) q' = e) (hi : i < G.length) : (q_W ty tb base G M).set i (base + i, e) = q_W ty tb base (G.set i q') M := by
  subst he
  apply List.ext_getElem?
  intro j
  by_cases hj : i = j
  · subst hj
    rw [List.getElem?_set_self (by rw [q_W_len]; exact hi), q_W_get (q := q') (by rw [List.getElem?_set_self hi])]
  · rw [List.getElem?_set_ne hj]
    cases hg : G[j]? with
    | none =>
      have hlen : G.length ≤ j := by simpa using hg
      rw [List.getElem?_eq_none (by rw [q_W_len]; exact hlen), List.getElem?_eq_none (by rw [q_W_len, List.length_set]; exact hlen)]
    | some r => rw [q_W_get hg, q_W_get (q := r) (by rw [List.getElem?_set_ne hj]; exact hg)]
end
section
/-! WHAT MAKES CELLS, one by one -/
theorem q_and {a b : Bool} (h : (a && b) = true) : a = true ∧ b = true := by rwa [Bool.and_eq_true] at h
theorem q_base_A {base n : Nat} (h : base ≤ n) : ∀ q : Nat, n ≤ q → q_A base q := fun _ hq => Nat.le_trans h hq
/-- a class of which objects are made -/
def QNew (own : String) (index : Nat) (C : String) (N : Nat) : Prop := Cond.classLink own index C ∈ q_GW ∧ Cond.instantiable C N ∈ q_GW ∧ Cond.initialized C ∈ q_GW
theorem q_fs_new (tb : Nat → Nat) (base : Nat) (M : QM) (a ci N : Nat) (ty0 : Nat → FieldType) (hdef : ∀ k, k < N → defaultValue (ty0 k) = if q_fi ci k = true then .int 0 else .null) : ∀ j, j < N → defaultValue (ty0 j) = vp_V ((List.range N).map (q_fv tb base (q_zero M a) a ci (List.replicate N none))) j := by
  intro j hj
  have hn : q_nth (List.replicate N none) j = none := by rw [q_nth_get, List.getElem?_replicate, if_pos hj]; rfl
  rw [hdef j hj]
  simp only [vp_V, List.getD_eq_getElem?_getD, List.getElem?_map, List.getElem?_range hj, Option.map_some, Option.getD_some, q_fv, hn]
  split
  · simp [q_zero, q_uc]
  · rfl
theorem qg_new {l : Launch} {P : QP} {B : Nat → Nat × Nat} {own : String} {cc : ByteArray} {nL pc index ci N : Nat} {C : String} {T : u_T} {ty0 : Nat → FieldType} (hc : QCls ci C T N ty0) (hw : QNew own index C N) (hdef : ∀ k, k < N → defaultValue (ty0 k) = if q_fi ci k = true then .int 0 else .null) (h : decode cc pc = .ok (.new index, 3)) : QGoodG l P B own cc nL pc (qa_new (pc + 3) ci) := by
  intro p e s m args below meth c R D ty tb base X CG d lc lsl s0 Q cx hCG hroom hin Rt nx L S G M r he hn cells slots hz1 hz2 hz3 hz4 H locs ls hR hL
  obtain ⟨hx, hb, hml, hown, hts, hSt⟩ := cx
  obtain ⟨r1, r2, r3, r4, r5⟩ := hroom
  unfold qa_new at he
  obtain ⟨hl, he⟩ := q_cond he
  rw [q_app_eq] at he
  obtain ⟨hl1, hl2⟩ := q_and hl
  have hl1 := Nat.le_of_ble_eq_true hl1
  have hl2 := Nat.le_of_ble_eq_true hl2
  rw [q_nf_of hc] at hl2 he
  have hls : q_sl (G ++ [(ci, N, List.replicate N none)]) = q_sl G + N := by rw [q_sl_app]; rfl
  have hll : (G ++ [(ci, N, List.replicate N (none : Option Nat))]).length = G.length + 1 := by simp
  refine va_new (fs := (List.range N).map (q_fv tb base (q_zero M (G.length + 4)) (G.length + 4) ci (List.replicate N none))) hx hb hts hc.2.2.2.2 ty0 hc.2.2.1 hown (hts _ hw.1) (hts _ hw.2.1) (hts _ hw.2.2) hSt.1 hR.1 q_D hR.2 (q_base_A r5) hc.1 (q_fs_new tb base M _ ci N ty0 hdef) (by omega) (by omega) h (fun q H1 hP1 hD1 hS1 => ?_)
  refine q_size (fun hsz => ?_)
  have hq := q_place hP1 hD1 hsz (by omega)
  subst hq
  rw [q_W_push (q := (ci, N, List.replicate N none)) (by rw [q_ent_obj rfl hc.2.1, q_nf_of hc])] at hP1
  have := hn _ _ _ _ _ he (cells + 1) (slots + N) (by rw [hll]; omega) (by rw [hls]; omega) (by rw [hll]; exact hl1) (by rw [hls]; exact hl2) H1 locs ls ⟨hP1, hS1⟩ hL
  simpa only [List.map_cons, q_rv, q_rho_hi] using this
theorem q_tyI {s : State} {D : va_G} {ty : QTy} (hK : va_K D vwCl (q_tys ty) s) (k : Nat) {c1 cA : ClassId} {t : FieldType} (hk : (q_tys ty)[k]? = some (c1, t)) (hK2 : va_K D vwCl (q_tys ty ++ [(cA, t)]) s) : cA = c1 := by
  have h1 := (hK.2 k _ hk).2
  have h2 := (hK2.2 (q_tys ty).length (cA, t) (by rw [List.getElem?_append_right (Nat.le_refl _), Nat.sub_self]; rfl)).2
  cases t with
  | object C =>
    obtain ⟨_, _, _, _, _, e1⟩ := h1
    obtain ⟨_, _, _, _, _, e2⟩ := h2
    exact Option.some.inj (e2.symm.trans e1)
  | _ => exact Option.some.inj (h2.symm.trans h1)
theorem qg_arr_int {l : Launch} {P : QP} {B : Nat → Nat × Nat} {own : String} {cc : ByteArray} {nL pc : Nat} (hw : Cond.arrayClass .int ∈ q_GW) (h : decode cc pc = .ok (.newarray .int, 2)) : QGoodG l P B own cc nL pc (qa_arr (pc + 2) 10) := by
  intro p e s m args below meth c R D ty tb base X CG d lc lsl s0 Q cx hCG hroom hin Rt nx L S G M r he hn cells slots hz1 hz2 hz3 hz4 H locs ls hR hL
  obtain ⟨hx, hb, hml, hown, hts, hSt⟩ := cx
  obtain ⟨r1, r2, r3, r4, r5⟩ := hroom
  unfold qa_arr at he
  split at he
  · rename_i n S1
    split at he
    · cases he
    · rename_i hneg
      obtain ⟨hl, he⟩ := q_cond he
      rw [q_app_eq] at he
      obtain ⟨hl0, hl⟩ := q_and hl
      obtain ⟨hl1, hl2⟩ := q_and hl
      have hl0 := Nat.le_of_ble_eq_true hl0
      have hl1 := Nat.le_of_ble_eq_true hl1
      have hl2 := Nat.le_of_ble_eq_true hl2
      have hls : q_sl (G ++ [(10, n.toNatClampNeg, [])]) = q_sl G + n.toNatClampNeg := by rw [q_sl_app]; rfl
      have hll : (G ++ [(10, n.toNatClampNeg, ([] : List (Option Nat)))]).length = G.length + 1 := by simp
      simp only [List.map_cons, q_rv]
      refine va_newa (atype := .int) (a0 := (n.toNatClampNeg, .inl (fun _ => 0))) hx hb (hts _ hw) rfl hSt.1 hR.1 q_D hR.2 (q_base_A r5) (fun _ => rfl) hneg rfl ?_ (by omega) (by omega) h (fun q cA H1 hK1 hP1 hD1 hS1 => ?_)
      · have hc8 : componentBytes (newarray.typeOf .int) ≤ 8 := by decide
        have := Nat.mul_le_mul hl0 hc8
        exact Nat.le_trans this (by decide)
      · refine q_size (fun hsz => ?_)
        have hq := q_place hP1 hD1 hsz (by omega)
        subst hq
        have hcA := q_tyI hSt.1 0 rfl hK1
        subst hcA
        rw [q_W_push (q := (10, n.toNatClampNeg, [])) (by rw [q_ent_i rfl]; simp only [q_zero, q_uc_eq])] at hP1
        have := hn _ _ _ _ _ he (cells + 1) (slots + n.toNatClampNeg) (by rw [hll]; omega) (by rw [hls]; omega) (by rw [hll]; exact hl1) (by rw [hls]; exact hl2) H1 locs ls ⟨hP1, hS1⟩ hL
        simpa only [List.map_cons, q_rv, q_rho_hi] using this
  · cases he
theorem qg_arr_long {l : Launch} {P : QP} {B : Nat → Nat × Nat} {own : String} {cc : ByteArray} {nL pc : Nat} (hw : Cond.arrayClass .long ∈ q_GW) (h : decode cc pc = .ok (.newarray .long, 2)) : QGoodG l P B own cc nL pc (qa_arr (pc + 2) 11) := by
  intro p e s m args below meth c R D ty tb base X CG d lc lsl s0 Q cx hCG hroom hin Rt nx L S G M r he hn cells slots hz1 hz2 hz3 hz4 H locs ls hR hL
  obtain ⟨hx, hb, hml, hown, hts, hSt⟩ := cx
  obtain ⟨r1, r2, r3, r4, r5⟩ := hroom
  unfold qa_arr at he
  split at he
  · rename_i n S1
    split at he
    · cases he
    · rename_i hneg
      obtain ⟨hl, he⟩ := q_cond he
      rw [q_app_eq] at he
      obtain ⟨hl0, hl⟩ := q_and hl
      obtain ⟨hl1, hl2⟩ := q_and hl
      have hl0 := Nat.le_of_ble_eq_true hl0
      have hl1 := Nat.le_of_ble_eq_true hl1
      have hl2 := Nat.le_of_ble_eq_true hl2
      have hls : q_sl (G ++ [(11, n.toNatClampNeg, [])]) = q_sl G + n.toNatClampNeg := by rw [q_sl_app]; rfl
      have hll : (G ++ [(11, n.toNatClampNeg, ([] : List (Option Nat)))]).length = G.length + 1 := by simp
      simp only [List.map_cons, q_rv]
      refine va_newa (atype := .long) (a0 := (n.toNatClampNeg, .inr (.inl (fun _ => 0)))) hx hb (hts _ hw) rfl hSt.1 hR.1 q_D hR.2 (q_base_A r5) (fun _ => rfl) hneg rfl ?_ (by omega) (by omega) h (fun q cA H1 hK1 hP1 hD1 hS1 => ?_)
      · have hc8 : componentBytes (newarray.typeOf .long) ≤ 8 := by decide
        have := Nat.mul_le_mul hl0 hc8
        exact Nat.le_trans this (by decide)
      · refine q_size (fun hsz => ?_)
        have hq := q_place hP1 hD1 hsz (by omega)
        subst hq
        have hcA := q_tyI hSt.1 1 rfl hK1
        subst hcA
        rw [q_W_push (q := (11, n.toNatClampNeg, [])) (by rw [q_ent_l rfl]; simp only [q_zero, q_uc_eq])] at hP1
        have := hn _ _ _ _ _ he (cells + 1) (slots + n.toNatClampNeg) (by rw [hll]; omega) (by rw [hls]; omega) (by rw [hll]; exact hl1) (by rw [hls]; exact hl2) H1 locs ls ⟨hP1, hS1⟩ hL
        simpa only [List.map_cons, q_rv, q_rho_hi] using this
  · cases he
theorem qg_arr_bool {l : Launch} {P : QP} {B : Nat → Nat × Nat} {own : String} {cc : ByteArray} {nL pc : Nat} (hw : Cond.arrayClass .boolean ∈ q_GW) (h : decode cc pc = .ok (.newarray .boolean, 2)) : QGoodG l P B own cc nL pc (qa_arr (pc + 2) 12) := by
  intro p e s m args below meth c R D ty tb base X CG d lc lsl s0 Q cx hCG hroom hin Rt nx L S G M r he hn cells slots hz1 hz2 hz3 hz4 H locs ls hR hL
  obtain ⟨hx, hb, hml, hown, hts, hSt⟩ := cx
  obtain ⟨r1, r2, r3, r4, r5⟩ := hroom
  unfold qa_arr at he
  split at he
  · rename_i n S1
    split at he
    · cases he
    · rename_i hneg
      obtain ⟨hl, he⟩ := q_cond he
      rw [q_app_eq] at he
      obtain ⟨hl0, hl⟩ := q_and hl
      obtain ⟨hl1, hl2⟩ := q_and hl
      have hl0 := Nat.le_of_ble_eq_true hl0
      have hl1 := Nat.le_of_ble_eq_true hl1
      have hl2 := Nat.le_of_ble_eq_true hl2
      have hls : q_sl (G ++ [(12, n.toNatClampNeg, [])]) = q_sl G + n.toNatClampNeg := by rw [q_sl_app]; rfl
      have hll : (G ++ [(12, n.toNatClampNeg, ([] : List (Option Nat)))]).length = G.length + 1 := by simp
      simp only [List.map_cons, q_rv]
      refine va_newa (atype := .boolean) (a0 := (n.toNatClampNeg, .inl (fun _ => 0))) hx hb (hts _ hw) rfl hSt.1 hR.1 q_D hR.2 (q_base_A r5) (fun _ => rfl) hneg rfl ?_ (by omega) (by omega) h (fun q cA H1 hK1 hP1 hD1 hS1 => ?_)
      · have hc8 : componentBytes (newarray.typeOf .boolean) ≤ 8 := by decide
        have := Nat.mul_le_mul hl0 hc8
        exact Nat.le_trans this (by decide)
      · refine q_size (fun hsz => ?_)
        have hq := q_place hP1 hD1 hsz (by omega)
        subst hq
        have hcA := q_tyI hSt.1 2 rfl hK1
        subst hcA
        rw [q_W_push (q := (12, n.toNatClampNeg, [])) (by rw [q_ent_z rfl]; simp only [q_zero, q_uc_eq])] at hP1
        have := hn _ _ _ _ _ he (cells + 1) (slots + n.toNatClampNeg) (by rw [hll]; omega) (by rw [hls]; omega) (by rw [hll]; exact hl1) (by rw [hls]; exact hl2) H1 locs ls ⟨hP1, hS1⟩ hL
        simpa only [List.map_cons, q_rv, q_rho_hi] using this
  · cases he
theorem qg_arq {l : Launch} {P : QP} {B : Nat → Nat × Nat} {own : String} {cc : ByteArray} {nL pc index : Nat} (hw : Cond.classLink own index "RungByHeart$Shelf" ∈ q_GW) (h : decode cc pc = .ok (.anewarray index, 3)) : QGoodG l P B own cc nL pc (qa_arq (pc + 3)) := by
  intro p e s m args below meth c R D ty tb base X CG d lc lsl s0 Q cx hCG hroom hin Rt nx L S G M r he hn cells slots hz1 hz2 hz3 hz4 H locs ls hR hL
  obtain ⟨hx, hb, hml, hown, hts, hSt⟩ := cx
  obtain ⟨r1, r2, r3, r4, r5⟩ := hroom
  unfold qa_arq at he
  split at he
  · rename_i n S1
    split at he
    · cases he
    · rename_i hneg
      obtain ⟨hl, he⟩ := q_cond he
      rw [q_app_eq] at he
      obtain ⟨hl0, hl⟩ := q_and hl
      obtain ⟨hl1, hl2⟩ := q_and hl
      have hl0 := Nat.le_of_ble_eq_true hl0
      have hl1 := Nat.le_of_ble_eq_true hl1
      have hl2 := Nat.le_of_ble_eq_true hl2
      have hls : q_sl (G ++ [(13, n.toNatClampNeg, List.replicate n.toNatClampNeg none)]) = q_sl G + n.toNatClampNeg := by rw [q_sl_app]; rfl
      have hll : (G ++ [(13, n.toNatClampNeg, List.replicate n.toNatClampNeg (none : Option Nat))]).length = G.length + 1 := by simp
      simp only [List.map_cons, q_rv]
      refine va_newq hx hb hown (hts _ hw) hSt.2.2.2.2 hSt.1 hR.1 q_D hR.2 (q_base_A r5) hneg rfl (by omega) (by omega) (by omega) h (fun q cA H1 hK1 hP1 hD1 hS1 => ?_)
      refine q_size (fun hsz => ?_)
      have hq := q_place hP1 hD1 hsz (by omega)
      subst hq
      have hcA := q_tyI hSt.1 3 rfl hK1
      subst hcA
      have hnone : (fun j => (q_nth (List.replicate n.toNatClampNeg none) j).map (q_rho tb base)) = (fun _ => none) := by
        funext j
        rw [q_nth_get, List.getElem?_replicate]
        split <;> rfl
      rw [q_W_push (q := (13, n.toNatClampNeg, List.replicate n.toNatClampNeg none)) (by rw [q_ent_q (Nat.le_refl _)]; simp only [hnone])] at hP1
      have := hn _ _ _ _ _ he (cells + 1) (slots + n.toNatClampNeg) (by rw [hll]; omega) (by rw [hls]; omega) (by rw [hll]; exact hl1) (by rw [hls]; exact hl2) H1 locs ls ⟨hP1, hS1⟩ hL
      simpa only [List.map_cons, q_rv, q_rho_hi] using this
  · cases he
theorem q_sl_set {G : QG} {i : Nat} {q q' : QCell} (h : G[i]? = some q) (hq : q'.2.1 = q.2.1) : q_sl (G.set i q') = q_sl G := by
  induction G generalizing i with
  | nil => simp at h
  | cons a t ih => cases i with
    | zero => simp at h; subst h; simp [q_sl, hq]
    | succ i => simp only [List.set_cons_succ, q_sl]; rw [ih (by simpa using h)]
theorem q_nth_set (rs : List (Option Nat)) (k j : Nat) (v : Option Nat) (hk : k < rs.length) : q_nth (rs.set k v) j = if j = k then v else q_nth rs j := by
  rw [q_nth_get, q_nth_get, List.getElem?_set]
  by_cases h : j = k
  · subst h
    simp [hk]
  · have h2 : ¬ k = j := fun q => h q.symm
    simp [h, h2]
theorem qg_putA {l : Launch} {P : QP} {B : Nat → Nat × Nat} {own : String} {cc : ByteArray} {nL pc index ci k N : Nat} {C : String} {T : u_T} {ty0 : Nat → FieldType} (hc : QCls ci C T N ty0) (hk : k < N) (hf : q_fi ci k = false) (hfin : (T k).2.2.2 = true) (hdecl : (T k).1 = own) (hown2 : own ≠ "RungByHeartLaw") {t : FieldType} (hd : parseFieldDescriptor (T k).2.2.1 = some t) (hfit : ∀ a, fits t (.ref a) = true) (hnar : ∀ a, narrow t (.ref a) = .ref a) (hl : Cond.fieldLink own index (T k).1 (T k).2.1 (T k).2.2.1 ∈ q_GW) (h : decode cc pc = .ok (.putfield index, 3)) : QGoodG l P B own cc nL pc (qa_putA (pc + 3) ci k) := by
  intro p e s m args below meth c R D ty tb base X CG d lc lsl s0 Q cx hCG hroom hin Rt nx L S G M r he hn cells slots hz1 hz2 hz3 hz4 H locs ls hR hL
  obtain ⟨hx, hb, hml, hown, hts, hSt⟩ := cx
  have hin := hin.resolve_right hown2
  unfold qa_putA at he
  split at he
  · rename_i b a S1
    split at he
    · rename_i kd nn rs hq
      obtain ⟨h1, he2⟩ := q_cond he
      clear he
      rw [q_sets_eq, q_sets_eq] at he2
      obtain ⟨h1, h2⟩ := q_and h1
      obtain ⟨i, rfl, hG, hkd⟩ := q_objAt hq h1 hc.2.1
      have h2 : k < rs.length := by simpa [Nat.blt_eq] using h2
      have hkd : kd = ci := hkd
      subst hkd
      have hat := q_W_get (ty := ty) (tb := tb) (base := base) (M := M) hG
      rw [q_ent_obj rfl hc.2.1, q_nf_of hc] at hat
      have hi : i < G.length := (List.getElem?_eq_some_iff.mp hG).1
      have hlen : k < ((List.range N).map (q_fv tb base M (i + 4) kd rs)).length := by simpa using hk
      simp only [List.map_cons, q_rv, q_rho_hi]
      refine va_putF hx hb hts hc.2.2.2.2 ty0 hc.2.2.1 hc.2.2.2.1 hown hSt.1 hR.1 q_D hR.2 i hat hc.1 k hk (hts _ hl) (fun _ h9 => h9) hfin hin hdecl hd (hnar _) (hfit _) hlen h (fun H1 locs1 hP1 _ hS1 => ?_)
      have hset : ((List.range N).map (q_fv tb base M (i + 4) kd rs)).set k (.ref (q_rho tb base b)) = (List.range N).map (q_fv tb base M (i + 4) kd (rs.set k (some b))) := by
        apply List.ext_getElem?
        intro j
        by_cases hj : k = j
        · subst hj
          rw [List.getElem?_set_self (by simpa using hk)]
          simp [List.getElem?_range, hk, q_fv, hf, q_nth_set _ _ _ _ h2, va_rf]
        · have hj' : ¬ j = k := fun q => hj q.symm
          rw [List.getElem?_set_ne hj]
          by_cases hk2 : j < N
          · simp [List.getElem?_range, hk2, q_fv, q_nth_set _ _ _ _ h2, hj']
          · rw [List.getElem?_eq_none (by simp; omega), List.getElem?_eq_none (by simp; omega)]
      rw [hset, q_W_setG (q' := (kd, nn, rs.set k (some b))) (by rw [q_ent_obj rfl hc.2.1, q_nf_of hc]) hi] at hP1
      have hsl : q_sl (G.set i (kd, nn, rs.set k (some b))) = q_sl G := q_sl_set hG rfl
      exact hn _ _ _ _ _ he2 cells slots (by rw [show i + 4 - 4 = i by omega, List.length_set]; exact hz1) (by rw [show i + 4 - 4 = i by omega, hsl]; exact hz2) (by rw [List.length_set]; exact hz3) (by rw [show i + 4 - 4 = i by omega, hsl]; exact hz4) H1 locs1 ls ⟨by rw [show i + 4 - 4 = i by omega]; exact hP1, hS1⟩ hL
    · cases he
  · cases he
theorem qg_aast {l : Launch} {P : QP} {B : Nat → Nat × Nat} {own : String} {cc : ByteArray} {nL pc : Nat} {C : String} {T : u_T} {N : Nat} (hc5 : vwCl[5]? = some ("RungByHeart$Shelf", T, N)) (h : decode cc pc = .ok (.aastore, 1)) : QGoodG l P B own cc nL pc (qa_aast (pc + 1)) := by
  intro p e s m args below meth c R D ty tb base X CG d lc lsl s0 Q cx hCG hroom hin Rt nx L S G M r he hn cells slots hz1 hz2 hz3 hz4 H locs ls hR hL
  obtain ⟨hx, hb, hml, hown, hts, hSt⟩ := cx
  unfold qa_aast at he
  split at he
  · rename_i b i a S1
    split at he
    · rename_i kd nn rs kb nb rb hq hqb
      split at he
      · cases he
      · rename_i hinn
        obtain ⟨h1, he2⟩ := q_cond he
        clear he
        rw [q_sets_eq, q_sets_eq] at he2
        obtain ⟨h1, h2⟩ := q_and h1
        obtain ⟨h2, h3⟩ := q_and h2
        obtain ⟨j, rfl, hG, hkd⟩ := q_arrAt hq h1 (by decide)
        obtain ⟨jb, rfl, hGb, hkb⟩ := q_objAt hqb h2 (by decide)
        have h3 : i.toNatClampNeg < rs.length := by simpa [Nat.blt_eq] using h3
        have hkd : kd = 13 := hkd
        subst hkd
        have hat := q_W_get (ty := ty) (tb := tb) (base := base) (M := M) hG
        rw [q_ent_q (Nat.le_refl _)] at hat
        have hatb := q_W_get (ty := ty) (tb := tb) (base := base) (M := M) hGb
        rw [q_ent_obj hkb (by decide)] at hatb
        have hi : j < G.length := (List.getElem?_eq_some_iff.mp hG).1
        simp only [List.map_cons, q_rv, q_rho_hi]
        refine va_astq hx hb hSt.1 hR.1 q_D hR.2 j 3 jb 5 hat (r := ("RungByHeart$Shelf", T, N)) rfl hatb hc5 (q_in_of hinn) h (fun H1 locs1 hP1 _ hS1 => ?_)
        rw [q_W_setG (q' := (13, nn, rs.set i.toNatClampNeg (some (jb + 4)))) (by
          rw [q_ent_q (Nat.le_refl _)]
          congr 7
          funext x
          rw [q_nth_set _ _ _ _ h3]
          unfold va_up
          split
          · simp [q_rho_hi]
          · rfl) hi] at hP1
        have hsl : q_sl (G.set j (13, nn, rs.set i.toNatClampNeg (some (jb + 4)))) = q_sl G := q_sl_set hG rfl
        exact hn _ _ _ _ _ he2 cells slots (by rw [show j + 4 - 4 = j by omega, List.length_set]; exact hz1) (by rw [show j + 4 - 4 = j by omega, hsl]; exact hz2) (by rw [List.length_set]; exact hz3) (by rw [show j + 4 - 4 = j by omega, hsl]; exact hz4) H1 locs1 ls ⟨by rw [show j + 4 - 4 = j by omega]; exact hP1, hS1⟩ hL
    · cases he
  · cases he
end
section
/-! CONSTRUCTOR CALLS, and every run of the making machine is a run of the real one -/
def QIni (P : QP) (own : String) (index k : Nat) : Prop := (Cond.methodLink own index (P k).1 ∈ q_GW ∨ ∃ host, Cond.methodLinkNest own index (P k).1 host ∈ q_NW) ∧ Cond.instanceMethod (P k).1 ∈ q_GW ∧ (P k).1.name = "<init>" ∧ (P k).2.2.2 = none
theorem qg_init {l : Launch} {P : QP} {B : Nat → Nat × Nat} {own : String} {cc : ByteArray} {nL pc index k n ci : Nat} (hcal : QCal P k n) (hini : QIni P own index k) (hlt : ci < 10) (h : decode cc pc = .ok (.invokespecial index, 3)) : QGoodG l P B own cc nL pc (qa_call B (pc + 3) k n ci) := by
  intro p e s m args below meth c R D ty tb base X CG d lc lsl s0 Q cx hCG hroom hin Rt nx L S G M r he hn cells slots hz1 hz2 hz3 hz4 H locs ls hR hL
  obtain ⟨hx, hb, hml, hown, hts, hSt⟩ := cx
  obtain ⟨r1, r2, r3, r4, r5⟩ := hroom
  obtain ⟨k1, k2, k3, k4, k5⟩ := hcal
  obtain ⟨i1, i2, i3, i4⟩ := hini
  unfold qa_call at he
  obtain ⟨as, rest, h1, rfl, he2⟩ := q_pop_of _ _ _ _ _ he
  clear he
  simp only [List.append_nil] at he2
  obtain ⟨hl, he3⟩ := q_cond he2
  obtain ⟨hcat, hl⟩ := q_and hl
  obtain ⟨hl1, hl2⟩ := q_and hl
  have hcat := Nat.le_of_ble_eq_true hcat
  have hl1 := Nat.le_of_ble_eq_true hl1
  have hl2 := Nat.le_of_ble_eq_true hl2
  obtain ⟨a, as', q, rfl, hq, hkd, he4⟩ := q_rc_of he3
  clear he2 he3
  split at he4
  · rename_i G' M' hcall
    obtain ⟨hM, g1, g2⟩ := hCG k _ G M none G' M' hcall
    obtain ⟨i, rfl, hG, hkd2⟩ := q_objAt hq hkd hlt
    refine q_size (fun hsz => ?_)
    have hGI : GoodIn q_GW (q_ws P k) := q_ws_good k1
    have hp : PreS s H (va_Pc ((.ref (i + 4) :: as').map (q_rv tb base)) (QWld D ty tb base X G M)) (.ref (base + i) :: as'.map (q_rv tb base)) :=
      ⟨q_blind _, fun U hU hW => ⟨by simp [q_rv, q_rho_hi], q_wld hSt ⟨hz1, r5⟩ hR hsz hU hW⟩⟩
    have hws : q_ws P k = Cond.code (P k).1 (P k).2.1 (P k).2.2.1 none :: q_GW := by unfold q_ws; rw [i4]
    have kk : ∀ (H1 : Heap) (locs1 : List Loc), QRel D ty tb base G' M' s.heap H1 locs1 → W p l e R s m args below meth c H1 locs1 (cells + (B k).1) (slots + (B k).2) Q (F0 m (pc + 3) ls (((none : Option Value).map (q_rv tb base)).toList ++ rest.map (q_rv tb base))) :=
      fun H1 locs1 hR1 => hn _ _ _ _ _ he4 (cells + (B k).1) (slots + (B k).2) (by rw [g1]; omega) (by rw [g2]; omega) (by rw [g1]; exact hl1) (by rw [g2]; exact hl2) H1 locs1 ls hR1 hL
    rcases i1 with i1 | ⟨host, i1⟩
    · have cw := cwI (R := R) (args := args) (s := s) (own := own) (index := index) (y := (P k).1) (bytes := (P k).2.1) (maxL := (P k).2.2.1) (ws := q_ws P k) (rm := q_rm d (B k).1 (B k).2) (mc := (B k).1) (ms := (B k).2) n hts hGI hws rfl rfl (hts _ k2) (hts _ i1) (hts _ i2) i3 ⟨k3.1, k3.2, k4⟩ ⟨by show d + 1 ≤ _; omega, by show 8 + ((P k).2.2.1 + 11) + 40 * d ≤ _; omega⟩
      have run := va_runI (rest := rest.map (q_rv tb base)) (g := F0 m pc ls ((((.ref (i + 4) :: as').reverse ++ rest)).map (q_rv tb base))) (locs := locs) (e := e) (below := below) (meth := meth) (cells := cells) (slots := slots) ⟨hx, hb, hml, hown, hts⟩ hM cw hp rfl (by simpa using h1) hL.1.1 (by simp [q_rv, q_rho_hi]) (lv_room (by rw [q_cat_eq]; exact hcat)) h ⟨by omega, by omega⟩
      exact q_after run hR.2 kk
    · have cw := va_cnB (R := R) (args := args) (s := s) (own := own) (host := host) (index := index) (y := (P k).1) (bytes := (P k).2.1) (maxL := (P k).2.2.1) (ret := none) (ws := q_ws P k) (rm := q_rm d (B k).1 (B k).2) (mc := (B k).1) (ms := (B k).2) n hts hGI hws rfl rfl (hSt.2.2.2.1 _ i1) (hts _ k2) ⟨k3.1, k3.2, k4⟩ ⟨by show d + 1 ≤ _; omega, by show 8 + ((P k).2.2.1 + 11) + 40 * d ≤ _; omega⟩
      have run := va_runIN (rest := rest.map (q_rv tb base)) (g := F0 m pc ls ((((.ref (i + 4) :: as').reverse ++ rest)).map (q_rv tb base))) (locs := locs) (e := e) (below := below) (meth := meth) (cells := cells) (slots := slots) ⟨hx, hb, hml, hown, hts⟩ hM ⟨cw, i3, hts _ i2⟩ hp rfl (by simpa using h1) hL.1.1 (by simp [q_rv, q_rho_hi]) (lv_room (by rw [q_cat_eq]; exact hcat)) h ⟨by omega, by omega⟩
      exact q_after run hR.2 kk
  · cases he4
section QGSIM
variable {p : Program} {l : Launch} {e : Env} {R : Room} {s : State} {m : MethodId} {args : Array Value} {below : List Frame} {meth : Method} {c : Code} {D : va_G} {ty : QTy} {tb : Nat → Nat} {base nL : Nat} {Q : State → Prop} {X : QX} {d : Nat} {P : QP} {own : String} {cc : ByteArray} {ret : Option FieldType} {cd : Nat → Nat → Option QE} {ct : Nat → Nat → Option (List Bool)} {CG : QGC} {B : Nat → Nat × Nat} {lc lsl s0 : Nat} {cg1 : Nat → Option QEG} {cd1 : Nat → Option QE} {ct1 : Nat → Option (List Bool)}
theorem q_gin_sim {Rt : Type} {K : Nat → QL → List Value → QG → QM → Option Rt} {rt : Option Value → QG → QM → Option Rt} {r : Rt} (hP : QProg l P cd) (hg : ∀ pc E, cd1 pc = some E → QGood l P own cc nL ret pc E) (hgg : ∀ pc E, cg1 pc = some E → (meth.name = "<init>" ∨ own = "RungByHeartLaw") ∧ QGoodG l P B own cc nL pc E)
    (cx : QCx D ty tb base X p s m args c own cc nL) (hCG : QGok l P B D ty tb base X CG d) (hroom : d + 1 ≤ R.frames ∧ 40 * (d + 1) ≤ R.locals ∧ base + lc ≤ s.heap.size + R.cells ∧ lsl ≤ s0 + R.slots ∧ base ≤ s.heap.size)
    (hK : ∀ pc L S G M, K pc L S G M = some r → QWG p l e R s m args below meth c D ty tb base nL lc lsl s0 Q pc L S G M)
    (hr : ∀ v G M, rt v G M = some r → QRG p l e R s m args below meth c D ty tb base s0 Q cc ret v G M) :
    ∀ (f pc : Nat) (L : QL) (S : List Value) (G : QG) (M : QM), q_gin P cd ct X d CG lc lsl cg1 cd1 ct1 K rt f pc L S G M = some r → QWG p l e R s m args below meth c D ty tb base nL lc lsl s0 Q pc L S G M := by
  intro f
  induction f with
  | zero => intro pc L S G M h; cases h
  | succ f ih =>
    intro pc L S G M h
    unfold q_gin at h
    split at h
    · rename_i E hE
      refine (hgg pc E hE).2 p e s m args below meth c R D ty tb base X CG d lc lsl s0 Q cx hCG hroom (hgg pc E hE).1 _ _ L S G M r h ?_
      intro pc' L' S' G' M' h'
      split at h'
      · exact ih pc' L' S' G' M' h'
      · intro cells slots z1 z2 z3 z4 H locs ls hR hL
        exact hK _ _ _ _ _ h' cells slots z1 z2 z3 z4 H locs ls hR (hL.mask _)
    · split at h
      · cases h
      · rename_i E hE
        intro cells slots z1 z2 z3 z4
        obtain ⟨r1, r2, r3, r4, r5⟩ := hroom
        refine hg pc E hE p e s m args below meth c R D ty tb base X G (q_call P cd ct G X d) d cells slots Q cx (q_sim hP d) ⟨r1, r2, by omega, by omega, z1, r5⟩ _ _ _ L S M r h ?_ ?_
        · intro pc' L' S' M' h'
          split at h'
          · exact ih pc' L' S' G M' h' cells slots z1 z2 z3 z4
          · intro H locs ls hR hL
            exact hK _ _ _ _ _ h' cells slots z1 z2 z3 z4 H locs ls hR (hL.mask _)
        · intro v M' h'
          exact hr v G M' h' cells slots z1 z2
theorem q_gout_sim {r : Option Value × QG × QM} (hP : QProg l P cd) (hg : ∀ pc E, cd1 pc = some E → QGood l P own cc nL ret pc E) (hgg : ∀ pc E, cg1 pc = some E → (meth.name = "<init>" ∨ own = "RungByHeartLaw") ∧ QGoodG l P B own cc nL pc E)
    (cx : QCx D ty tb base X p s m args c own cc nL) (hCG : QGok l P B D ty tb base X CG d) (hroom : d + 1 ≤ R.frames ∧ 40 * (d + 1) ≤ R.locals ∧ base + lc ≤ s.heap.size + R.cells ∧ lsl ≤ s0 + R.slots ∧ base ≤ s.heap.size)
    (hr : QRG p l e R s m args below meth c D ty tb base s0 Q cc ret r.1 r.2.1 r.2.2) :
    ∀ (n pc : Nat) (L : QL) (S : List Value) (G : QG) (M : QM), q_gout P cd ct X d CG lc lsl cg1 cd1 ct1 n pc L S G M = some r → QWG p l e R s m args below meth c D ty tb base nL lc lsl s0 Q pc L S G M := by
  intro n
  induction n with
  | zero => intro pc L S G M h; cases h
  | succ n ih =>
    intro pc L S G M h
    unfold q_gout at h
    refine q_gin_sim hP hg hgg cx hCG hroom ih (fun v G' M' h' => ?_) 400 pc L S G M h
    cases h'
    exact hr
end QGSIM
/-- the makers' rows are good: each is a constructor -/
def QProgG (l : Launch) (P : QP) (B : Nat → Nat × Nat) (cg : Nat → Nat → Option QEG) : Prop := ∀ k pc E, cg k pc = some E → (P k).1.name = "<init>" ∧ plainName (P k).1.cls = true ∧ QGoodG l P B (P k).1.cls (P k).2.1 (P k).2.2.1 pc E
theorem q_chk_of {o : Option (Option Value × QG × QM)} {lc lsl : Nat} {v : Option Value} {G : QG} {M : QM} (h : q_chk o lc lsl = some (v, G, M)) : o = some (v, G, M) ∧ G.length = lc ∧ q_sl G = lsl := by
  unfold q_chk at h
  split at h
  · obtain ⟨h1, h2⟩ := q_cond h
    obtain ⟨h3, h4⟩ := q_and h1
    cases h2
    exact ⟨rfl, by simpa using h3, by simpa using h4⟩
  · cases h
theorem q_gsim {l : Launch} {P : QP} {cd : Nat → Nat → Option QE} {ct : Nat → Nat → Option (List Bool)} {cg : Nat → Nat → Option QEG} {B : Nat → Nat × Nat} (hP : QProg l P cd) (hPG : QProgG l P B cg) {D : va_G} {ty : QTy} {tb : Nat → Nat} {base : Nat} {X : QX} : ∀ d : Nat, QGok l P B D ty tb base X (q_gcall P cd ct cg B X d) d := by
  intro d
  induction d with
  | zero => intro k as G M v G' M' h; cases h
  | succ d ih =>
    intro k as G M v G' M' h
    obtain ⟨hlen, h⟩ := q_cond (show cond (Nat.ble (q_args as).length (P k).2.2.1) _ none = _ from h)
    have hlen := Nat.le_of_ble_eq_true hlen
    obtain ⟨h, hg1, hg2⟩ := q_chk_of h
    refine ⟨?_, hg1, hg2⟩
    have hpl : plainName (P k).1.cls = true := by
      have h2 := h
      rw [show qN = 999999 + 1 from rfl] at h2
      unfold q_gout at h2
      rw [show (400 : Nat) = 399 + 1 from rfl] at h2
      unfold q_gin at h2
      split at h2
      · rename_i E hE
        exact (hPG k 0 E hE).2.1
      · split at h2
        · cases h2
        · rename_i E hE
          exact (hP k 0 E hE).1
    refine Met.ofW (cc := (P k).2.1) (maxL := (P k).2.2.1) (ret := (P k).2.2.2) hpl rfl ?_
    intro p e s m args below meth c s₁ BL hml hv
    obtain ⟨rfl, hSt, hPw, hsz⟩ := hv
    have hts : ∀ w ∈ q_GW, w.before _ s = true := fun w hw => atoms_spec (ws := q_ws P k) BL.pre w (List.mem_cons_of_mem _ hw)
    have hown : s.vm.findClass (P k).1.cls = some m.cls := findClass_of_methodNamed BL.named
    have hname : meth.name = (P k).1.name := (name_of_methodNamed BL.named BL.method).1
    have cx : QCx D ty tb base X p s m (as.map (q_rv tb base)).toArray c (P k).1.cls (P k).2.1 (P k).2.2.1 := ⟨BL.exec, BL.bytes, hml, hown, hts, hSt⟩
    rw [lg_entry_eq]
    refine q_gout_sim (r := (v, G', M')) (s0 := q_sl G) (ret := (P k).2.2.2) hP (fun pc E hE => (hP k pc E hE).2) (fun pc E hE => ⟨Or.inl (hname.trans (hPG k pc E hE).1), (hPG k pc E hE).2.2⟩) cx ih ⟨Nat.le_refl _, Nat.le_refl _, by show base + (G.length + (B k).1) ≤ s.heap.size + (B k).1; omega, Nat.le_refl _, by omega⟩ ?_ qN 0 (q_entry (P k).2.2.1 as) [] G M h 0 0 (by omega) (by omega) (by omega) (by omega) s.heap [] _ ⟨hPw, va_S.rf⟩ (q_entry_lr tb base _ as hlen)
    intro cells slots z1 z2 hok pcr H locs ls hR hd
    dsimp only at z1 z2 hg1 hg2
    have hcc : cells = (B k).1 := by omega
    have hss : slots = (B k).2 := by omega
    subst hcc; subst hss
    have hq : ∀ t : State, t.heap = H → s.WarmedH t.vm → QQ D ty tb base v G' M' (as.map (q_rv tb base)).toArray s (.returned (v.map (q_rv tb base))) t := fun t ht _ => ⟨rfl, by rw [ht]; exact hR.1, hR.2.F ht⟩
    cases v with
    | none => exact W.vret BL.exec BL.bytes (BL.returns.trans hok) hq hR.2.2.2 hd
    | some v =>
      cases v with
      | int x =>
        rcases hok with hok | ⟨hok, hx⟩
        · exact W.iret BL.exec BL.bytes (BL.returns.trans hok) hq hR.2.2.2 hd
        · exact W.zret BL.exec BL.bytes (BL.returns.trans hok) (q_nar hx) hq hR.2.2.2 hd
      | long x => exact W.lret BL.exec BL.bytes (BL.returns.trans hok) hq hR.2.2.2 hd
      | ref a =>
        obtain ⟨n, hok⟩ := hok
        exact W.aret BL.exec BL.bytes (BL.returns.trans hok) (Or.inl ⟨n, rfl⟩) (Or.inr ⟨_, rfl⟩) hq hR.2.2.2 hd
      | null =>
        obtain ⟨n, hok⟩ := hok
        exact W.aret BL.exec BL.bytes (BL.returns.trans hok) (Or.inl ⟨n, rfl⟩) (Or.inl rfl) hq hR.2.2.2 hd
      | _ => exact absurd hok (by intro z; exact z)
end
