section
-- ===== PART A: goes FIRST, ahead of the names: the tables' words, and 'selects' of the private methods out of them =====
/-- a private method of a class that the tables say can be made, by its rows of tables_1 -/
def lw_okq (q : MethodName × Nat) : Prop := (q.1.cls ≠ "java/lang/invoke/MethodHandle" ∧ q.1.cls ≠ "java/lang/invoke/VarHandle") ∧ Cond.instantiable q.1.cls q.2 ∈ tables_1 ∧ Cond.privateMethod q.1 ∈ tables_1 ∧ Cond.instanceMethod q.1 ∈ tables_1
theorem lw_p0 : lw_okq (⟨"BoxFlickers$Page", "beginReading", "()V"⟩, 7) := ⟨⟨by decide +kernel, by decide +kernel⟩, List.mem_of_getElem? (i := 17) (by decide +kernel), List.mem_of_getElem? (i := 23) (by decide +kernel), List.mem_of_getElem? (i := 24) (by decide +kernel)⟩
theorem lw_p1 : lw_okq (⟨"BoxFlickers$Page", "beginNumber", "()V"⟩, 7) := ⟨⟨by decide +kernel, by decide +kernel⟩, List.mem_of_getElem? (i := 17) (by decide +kernel), List.mem_of_getElem? (i := 27) (by decide +kernel), List.mem_of_getElem? (i := 28) (by decide +kernel)⟩
theorem lw_p2 : lw_okq (⟨"BoxFlickers$Page", "takes", "(I)Z"⟩, 7) := ⟨⟨by decide +kernel, by decide +kernel⟩, List.mem_of_getElem? (i := 17) (by decide +kernel), List.mem_of_getElem? (i := 184) (by decide +kernel), List.mem_of_getElem? (i := 185) (by decide +kernel)⟩
theorem lw_p3 : lw_okq (⟨"BoxFlickers$Page", "takesMinus", "()Z"⟩, 7) := ⟨⟨by decide +kernel, by decide +kernel⟩, List.mem_of_getElem? (i := 17) (by decide +kernel), List.mem_of_getElem? (i := 188) (by decide +kernel), List.mem_of_getElem? (i := 189) (by decide +kernel)⟩
theorem lw_p4 : lw_okq (⟨"BoxFlickers$Page", "takesFigure", "(I)Z"⟩, 7) := ⟨⟨by decide +kernel, by decide +kernel⟩, List.mem_of_getElem? (i := 17) (by decide +kernel), List.mem_of_getElem? (i := 192) (by decide +kernel), List.mem_of_getElem? (i := 193) (by decide +kernel)⟩
theorem lw_p5 : lw_okq (⟨"BoxFlickers$Page", "takesMark", "(I)Z"⟩, 7) := ⟨⟨by decide +kernel, by decide +kernel⟩, List.mem_of_getElem? (i := 17) (by decide +kernel), List.mem_of_getElem? (i := 196) (by decide +kernel), List.mem_of_getElem? (i := 197) (by decide +kernel)⟩
theorem lw_p6 : lw_okq (⟨"BoxFlickers$Page", "markDue", "()I"⟩, 7) := ⟨⟨by decide +kernel, by decide +kernel⟩, List.mem_of_getElem? (i := 17) (by decide +kernel), List.mem_of_getElem? (i := 200) (by decide +kernel), List.mem_of_getElem? (i := 201) (by decide +kernel)⟩
theorem lw_p7 : lw_okq (⟨"BoxFlickers$Page", "endNumber", "()V"⟩, 7) := ⟨⟨by decide +kernel, by decide +kernel⟩, List.mem_of_getElem? (i := 17) (by decide +kernel), List.mem_of_getElem? (i := 204) (by decide +kernel), List.mem_of_getElem? (i := 205) (by decide +kernel)⟩
theorem lw_p8 : lw_okq (⟨"BoxFlickers", "isThere", "(I)Z"⟩, 8) := ⟨⟨by decide +kernel, by decide +kernel⟩, List.mem_of_getElem? (i := 9) (by decide +kernel), List.mem_of_getElem? (i := 231) (by decide +kernel), List.mem_of_getElem? (i := 232) (by decide +kernel)⟩
theorem lw_p9 : lw_okq (⟨"BoxFlickers", "settle", "(II)V"⟩, 8) := ⟨⟨by decide +kernel, by decide +kernel⟩, List.mem_of_getElem? (i := 9) (by decide +kernel), List.mem_of_getElem? (i := 241) (by decide +kernel), List.mem_of_getElem? (i := 242) (by decide +kernel)⟩
theorem lw_p10 : lw_okq (⟨"BoxFlickers", "lineOf", "(I)LBoxFlickers$Line;"⟩, 8) := ⟨⟨by decide +kernel, by decide +kernel⟩, List.mem_of_getElem? (i := 9) (by decide +kernel), List.mem_of_getElem? (i := 245) (by decide +kernel), List.mem_of_getElem? (i := 246) (by decide +kernel)⟩
theorem lw_p11 : lw_okq (⟨"BoxFlickers", "rearrange", "()V"⟩, 8) := ⟨⟨by decide +kernel, by decide +kernel⟩, List.mem_of_getElem? (i := 9) (by decide +kernel), List.mem_of_getElem? (i := 257) (by decide +kernel), List.mem_of_getElem? (i := 258) (by decide +kernel)⟩
theorem lw_p12 : lw_okq (⟨"BoxFlickers$Line", "insert", "(I)V"⟩, 6) := ⟨⟨by decide +kernel, by decide +kernel⟩, List.mem_of_getElem? (i := 56) (by decide +kernel), List.mem_of_getElem? (i := 269) (by decide +kernel), List.mem_of_getElem? (i := 270) (by decide +kernel)⟩
theorem lw_p13 : lw_okq (⟨"BoxFlickers$Line", "findMeets", "(II)V"⟩, 6) := ⟨⟨by decide +kernel, by decide +kernel⟩, List.mem_of_getElem? (i := 56) (by decide +kernel), List.mem_of_getElem? (i := 290) (by decide +kernel), List.mem_of_getElem? (i := 291) (by decide +kernel)⟩
theorem lw_p14 : lw_okq (⟨"BoxFlickers", "tellEvents", "()V"⟩, 8) := ⟨⟨by decide +kernel, by decide +kernel⟩, List.mem_of_getElem? (i := 9) (by decide +kernel), List.mem_of_getElem? (i := 299) (by decide +kernel), List.mem_of_getElem? (i := 300) (by decide +kernel)⟩
theorem lw_p15 : lw_okq (⟨"BoxFlickers", "meetsOnAll", "(I)I"⟩, 8) := ⟨⟨by decide +kernel, by decide +kernel⟩, List.mem_of_getElem? (i := 9) (by decide +kernel), List.mem_of_getElem? (i := 303) (by decide +kernel), List.mem_of_getElem? (i := 304) (by decide +kernel)⟩
def lw_privs_1 : List (MethodName × Nat) := [(⟨"BoxFlickers$Page", "beginReading", "()V"⟩, 7), (⟨"BoxFlickers$Page", "beginNumber", "()V"⟩, 7), (⟨"BoxFlickers$Page", "takes", "(I)Z"⟩, 7), (⟨"BoxFlickers$Page", "takesMinus", "()Z"⟩, 7), (⟨"BoxFlickers$Page", "takesFigure", "(I)Z"⟩, 7), (⟨"BoxFlickers$Page", "takesMark", "(I)Z"⟩, 7), (⟨"BoxFlickers$Page", "markDue", "()I"⟩, 7), (⟨"BoxFlickers$Page", "endNumber", "()V"⟩, 7), (⟨"BoxFlickers", "isThere", "(I)Z"⟩, 8), (⟨"BoxFlickers", "settle", "(II)V"⟩, 8), (⟨"BoxFlickers", "lineOf", "(I)LBoxFlickers$Line;"⟩, 8), (⟨"BoxFlickers", "rearrange", "()V"⟩, 8), (⟨"BoxFlickers$Line", "insert", "(I)V"⟩, 6), (⟨"BoxFlickers$Line", "findMeets", "(II)V"⟩, 6), (⟨"BoxFlickers", "tellEvents", "()V"⟩, 8), (⟨"BoxFlickers", "meetsOnAll", "(I)I"⟩, 8)]
theorem lw_r1 : ∀ q ∈ lw_privs_1, lw_okq q := List.forall_mem_cons.mpr ⟨lw_p0, List.forall_mem_cons.mpr ⟨lw_p1, List.forall_mem_cons.mpr ⟨lw_p2, List.forall_mem_cons.mpr ⟨lw_p3, List.forall_mem_cons.mpr ⟨lw_p4, List.forall_mem_cons.mpr ⟨lw_p5, List.forall_mem_cons.mpr ⟨lw_p6, List.forall_mem_cons.mpr ⟨lw_p7, List.forall_mem_cons.mpr ⟨lw_p8, List.forall_mem_cons.mpr ⟨lw_p9, List.forall_mem_cons.mpr ⟨lw_p10, List.forall_mem_cons.mpr ⟨lw_p11, List.forall_mem_cons.mpr ⟨lw_p12, List.forall_mem_cons.mpr ⟨lw_p13, List.forall_mem_cons.mpr ⟨lw_p14, List.forall_mem_cons.mpr ⟨lw_p15, fun _ h => absurd h List.not_mem_nil⟩⟩⟩⟩⟩⟩⟩⟩⟩⟩⟩⟩⟩⟩⟩⟩
theorem lw_p16 : lw_okq (⟨"BoxFlickers", "layOn", "(IIII)V"⟩, 8) := ⟨⟨by decide +kernel, by decide +kernel⟩, List.mem_of_getElem? (i := 9) (by decide +kernel), List.mem_of_getElem? (i := 343) (by decide +kernel), List.mem_of_getElem? (i := 344) (by decide +kernel)⟩
theorem lw_p17 : lw_okq (⟨"BoxFlickers", "putRight", "(II)V"⟩, 8) := ⟨⟨by decide +kernel, by decide +kernel⟩, List.mem_of_getElem? (i := 9) (by decide +kernel), List.mem_of_getElem? (i := 348) (by decide +kernel), List.mem_of_getElem? (i := 349) (by decide +kernel)⟩
theorem lw_p18 : lw_okq (⟨"BoxFlickers", "turn", "(III)V"⟩, 8) := ⟨⟨by decide +kernel, by decide +kernel⟩, List.mem_of_getElem? (i := 9) (by decide +kernel), List.mem_of_getElem? (i := 370) (by decide +kernel), List.mem_of_getElem? (i := 371) (by decide +kernel)⟩
theorem lw_p19 : lw_okq (⟨"BoxFlickers", "meetsOnOthers", "(II)I"⟩, 8) := ⟨⟨by decide +kernel, by decide +kernel⟩, List.mem_of_getElem? (i := 9) (by decide +kernel), List.mem_of_getElem? (i := 378) (by decide +kernel), List.mem_of_getElem? (i := 379) (by decide +kernel)⟩
theorem lw_p20 : lw_okq (⟨"BoxFlickers", "groupOf", "(I)I"⟩, 8) := ⟨⟨by decide +kernel, by decide +kernel⟩, List.mem_of_getElem? (i := 9) (by decide +kernel), List.mem_of_getElem? (i := 406) (by decide +kernel), List.mem_of_getElem? (i := 407) (by decide +kernel)⟩
theorem lw_p21 : lw_okq (⟨"BoxFlickers", "groupCount", "()I"⟩, 8) := ⟨⟨by decide +kernel, by decide +kernel⟩, List.mem_of_getElem? (i := 9) (by decide +kernel), List.mem_of_getElem? (i := 459) (by decide +kernel), List.mem_of_getElem? (i := 460) (by decide +kernel)⟩
theorem lw_p22 : lw_okq (⟨"BoxFlickers", "greatestGroup", "()I"⟩, 8) := ⟨⟨by decide +kernel, by decide +kernel⟩, List.mem_of_getElem? (i := 9) (by decide +kernel), List.mem_of_getElem? (i := 463) (by decide +kernel), List.mem_of_getElem? (i := 464) (by decide +kernel)⟩
theorem lw_p23 : lw_okq (⟨"BoxFlickers", "deepest", "()I"⟩, 8) := ⟨⟨by decide +kernel, by decide +kernel⟩, List.mem_of_getElem? (i := 9) (by decide +kernel), List.mem_of_getElem? (i := 468) (by decide +kernel), List.mem_of_getElem? (i := 469) (by decide +kernel)⟩
theorem lw_p24 : lw_okq (⟨"BoxFlickers", "deepestFrom", "(IIII)I"⟩, 8) := ⟨⟨by decide +kernel, by decide +kernel⟩, List.mem_of_getElem? (i := 9) (by decide +kernel), List.mem_of_getElem? (i := 472) (by decide +kernel), List.mem_of_getElem? (i := 473) (by decide +kernel)⟩
theorem lw_p25 : lw_okq (⟨"BoxFlickers", "pairCount", "()I"⟩, 8) := ⟨⟨by decide +kernel, by decide +kernel⟩, List.mem_of_getElem? (i := 9) (by decide +kernel), List.mem_of_getElem? (i := 485) (by decide +kernel), List.mem_of_getElem? (i := 486) (by decide +kernel)⟩
theorem lw_p26 : lw_okq (⟨"BoxFlickers", "withBox", "(JI)J"⟩, 8) := ⟨⟨by decide +kernel, by decide +kernel⟩, List.mem_of_getElem? (i := 9) (by decide +kernel), List.mem_of_getElem? (i := 494) (by decide +kernel), List.mem_of_getElem? (i := 495) (by decide +kernel)⟩
theorem lw_p27 : lw_okq (⟨"BoxFlickers", "withEnds", "(JI)J"⟩, 8) := ⟨⟨by decide +kernel, by decide +kernel⟩, List.mem_of_getElem? (i := 9) (by decide +kernel), List.mem_of_getElem? (i := 504) (by decide +kernel), List.mem_of_getElem? (i := 505) (by decide +kernel)⟩
theorem lw_p28 : lw_okq (⟨"BoxFlickers", "withPairs", "(J)J"⟩, 8) := ⟨⟨by decide +kernel, by decide +kernel⟩, List.mem_of_getElem? (i := 9) (by decide +kernel), List.mem_of_getElem? (i := 509) (by decide +kernel), List.mem_of_getElem? (i := 510) (by decide +kernel)⟩
theorem lw_p29 : lw_okq (⟨"BoxFlickers", "withLatest", "(J)J"⟩, 8) := ⟨⟨by decide +kernel, by decide +kernel⟩, List.mem_of_getElem? (i := 9) (by decide +kernel), List.mem_of_getElem? (i := 513) (by decide +kernel), List.mem_of_getElem? (i := 514) (by decide +kernel)⟩
theorem lw_p30 : lw_okq (⟨"BoxFlickersModel", "read", "()I"⟩, 28) := ⟨⟨by decide +kernel, by decide +kernel⟩, List.mem_of_getElem? (i := 521) (by decide +kernel), List.mem_of_getElem? (i := 628) (by decide +kernel), List.mem_of_getElem? (i := 629) (by decide +kernel)⟩
theorem lw_p31 : lw_okq (⟨"BoxFlickersModel", "takes", "(I)Z"⟩, 28) := ⟨⟨by decide +kernel, by decide +kernel⟩, List.mem_of_getElem? (i := 521) (by decide +kernel), List.mem_of_getElem? (i := 632) (by decide +kernel), List.mem_of_getElem? (i := 633) (by decide +kernel)⟩
def lw_privs_2 : List (MethodName × Nat) := [(⟨"BoxFlickers", "layOn", "(IIII)V"⟩, 8), (⟨"BoxFlickers", "putRight", "(II)V"⟩, 8), (⟨"BoxFlickers", "turn", "(III)V"⟩, 8), (⟨"BoxFlickers", "meetsOnOthers", "(II)I"⟩, 8), (⟨"BoxFlickers", "groupOf", "(I)I"⟩, 8), (⟨"BoxFlickers", "groupCount", "()I"⟩, 8), (⟨"BoxFlickers", "greatestGroup", "()I"⟩, 8), (⟨"BoxFlickers", "deepest", "()I"⟩, 8), (⟨"BoxFlickers", "deepestFrom", "(IIII)I"⟩, 8), (⟨"BoxFlickers", "pairCount", "()I"⟩, 8), (⟨"BoxFlickers", "withBox", "(JI)J"⟩, 8), (⟨"BoxFlickers", "withEnds", "(JI)J"⟩, 8), (⟨"BoxFlickers", "withPairs", "(J)J"⟩, 8), (⟨"BoxFlickers", "withLatest", "(J)J"⟩, 8), (⟨"BoxFlickersModel", "read", "()I"⟩, 28), (⟨"BoxFlickersModel", "takes", "(I)Z"⟩, 28)]
theorem lw_r2 : ∀ q ∈ lw_privs_2, lw_okq q := List.forall_mem_cons.mpr ⟨lw_p16, List.forall_mem_cons.mpr ⟨lw_p17, List.forall_mem_cons.mpr ⟨lw_p18, List.forall_mem_cons.mpr ⟨lw_p19, List.forall_mem_cons.mpr ⟨lw_p20, List.forall_mem_cons.mpr ⟨lw_p21, List.forall_mem_cons.mpr ⟨lw_p22, List.forall_mem_cons.mpr ⟨lw_p23, List.forall_mem_cons.mpr ⟨lw_p24, List.forall_mem_cons.mpr ⟨lw_p25, List.forall_mem_cons.mpr ⟨lw_p26, List.forall_mem_cons.mpr ⟨lw_p27, List.forall_mem_cons.mpr ⟨lw_p28, List.forall_mem_cons.mpr ⟨lw_p29, List.forall_mem_cons.mpr ⟨lw_p30, List.forall_mem_cons.mpr ⟨lw_p31, fun _ h => absurd h List.not_mem_nil⟩⟩⟩⟩⟩⟩⟩⟩⟩⟩⟩⟩⟩⟩⟩⟩
theorem lw_p32 : lw_okq (⟨"BoxFlickersModel", "takesFigure", "(I)Z"⟩, 28) := ⟨⟨by decide +kernel, by decide +kernel⟩, List.mem_of_getElem? (i := 521) (by decide +kernel), List.mem_of_getElem? (i := 636) (by decide +kernel), List.mem_of_getElem? (i := 637) (by decide +kernel)⟩
theorem lw_p33 : lw_okq (⟨"BoxFlickersModel", "keepNumber", "()V"⟩, 28) := ⟨⟨by decide +kernel, by decide +kernel⟩, List.mem_of_getElem? (i := 521) (by decide +kernel), List.mem_of_getElem? (i := 640) (by decide +kernel), List.mem_of_getElem? (i := 641) (by decide +kernel)⟩
theorem lw_p34 : lw_okq (⟨"BoxFlickersModel", "isBatch", "()Z"⟩, 28) := ⟨⟨by decide +kernel, by decide +kernel⟩, List.mem_of_getElem? (i := 521) (by decide +kernel), List.mem_of_getElem? (i := 648) (by decide +kernel), List.mem_of_getElem? (i := 649) (by decide +kernel)⟩
theorem lw_p35 : lw_okq (⟨"BoxFlickersModel", "boxMany", "()I"⟩, 28) := ⟨⟨by decide +kernel, by decide +kernel⟩, List.mem_of_getElem? (i := 521) (by decide +kernel), List.mem_of_getElem? (i := 652) (by decide +kernel), List.mem_of_getElem? (i := 653) (by decide +kernel)⟩
theorem lw_p36 : lw_okq (⟨"BoxFlickersModel", "beginChange", "()V"⟩, 28) := ⟨⟨by decide +kernel, by decide +kernel⟩, List.mem_of_getElem? (i := 521) (by decide +kernel), List.mem_of_getElem? (i := 656) (by decide +kernel), List.mem_of_getElem? (i := 657) (by decide +kernel)⟩
theorem lw_p37 : lw_okq (⟨"BoxFlickersModel", "layAll", "()V"⟩, 28) := ⟨⟨by decide +kernel, by decide +kernel⟩, List.mem_of_getElem? (i := 521) (by decide +kernel), List.mem_of_getElem? (i := 663) (by decide +kernel), List.mem_of_getElem? (i := 664) (by decide +kernel)⟩
theorem lw_p38 : lw_okq (⟨"BoxFlickersModel", "layRow", "(I)V"⟩, 28) := ⟨⟨by decide +kernel, by decide +kernel⟩, List.mem_of_getElem? (i := 521) (by decide +kernel), List.mem_of_getElem? (i := 667) (by decide +kernel), List.mem_of_getElem? (i := 668) (by decide +kernel)⟩
theorem lw_p39 : lw_okq (⟨"BoxFlickersModel", "valueOf", "(II)I"⟩, 28) := ⟨⟨by decide +kernel, by decide +kernel⟩, List.mem_of_getElem? (i := 521) (by decide +kernel), List.mem_of_getElem? (i := 671) (by decide +kernel), List.mem_of_getElem? (i := 672) (by decide +kernel)⟩
theorem lw_p40 : lw_okq (⟨"BoxFlickersModel", "isAhead", "(IIII)Z"⟩, 28) := ⟨⟨by decide +kernel, by decide +kernel⟩, List.mem_of_getElem? (i := 521) (by decide +kernel), List.mem_of_getElem? (i := 675) (by decide +kernel), List.mem_of_getElem? (i := 676) (by decide +kernel)⟩
theorem lw_p41 : lw_okq (⟨"BoxFlickersModel", "areMeeting", "(III)Z"⟩, 28) := ⟨⟨by decide +kernel, by decide +kernel⟩, List.mem_of_getElem? (i := 521) (by decide +kernel), List.mem_of_getElem? (i := 679) (by decide +kernel), List.mem_of_getElem? (i := 680) (by decide +kernel)⟩
theorem lw_p42 : lw_okq (⟨"BoxFlickersModel", "lowOf", "(II)I"⟩, 28) := ⟨⟨by decide +kernel, by decide +kernel⟩, List.mem_of_getElem? (i := 521) (by decide +kernel), List.mem_of_getElem? (i := 683) (by decide +kernel), List.mem_of_getElem? (i := 684) (by decide +kernel)⟩
theorem lw_p43 : lw_okq (⟨"BoxFlickersModel", "highOf", "(II)I"⟩, 28) := ⟨⟨by decide +kernel, by decide +kernel⟩, List.mem_of_getElem? (i := 521) (by decide +kernel), List.mem_of_getElem? (i := 687) (by decide +kernel), List.mem_of_getElem? (i := 688) (by decide +kernel)⟩
theorem lw_p44 : lw_okq (⟨"BoxFlickersModel", "endChange", "(I)V"⟩, 28) := ⟨⟨by decide +kernel, by decide +kernel⟩, List.mem_of_getElem? (i := 521) (by decide +kernel), List.mem_of_getElem? (i := 691) (by decide +kernel), List.mem_of_getElem? (i := 692) (by decide +kernel)⟩
theorem lw_p45 : lw_okq (⟨"BoxFlickersModel", "areOver", "(II)Z"⟩, 28) := ⟨⟨by decide +kernel, by decide +kernel⟩, List.mem_of_getElem? (i := 521) (by decide +kernel), List.mem_of_getElem? (i := 695) (by decide +kernel), List.mem_of_getElem? (i := 696) (by decide +kernel)⟩
theorem lw_p46 : lw_okq (⟨"BoxFlickersModel", "isBox", "(I)Z"⟩, 28) := ⟨⟨by decide +kernel, by decide +kernel⟩, List.mem_of_getElem? (i := 521) (by decide +kernel), List.mem_of_getElem? (i := 711) (by decide +kernel), List.mem_of_getElem? (i := 712) (by decide +kernel)⟩
theorem lw_p47 : lw_okq (⟨"BoxFlickersModel", "canMove", "(III)Z"⟩, 28) := ⟨⟨by decide +kernel, by decide +kernel⟩, List.mem_of_getElem? (i := 521) (by decide +kernel), List.mem_of_getElem? (i := 715) (by decide +kernel), List.mem_of_getElem? (i := 716) (by decide +kernel)⟩
def lw_privs_3 : List (MethodName × Nat) := [(⟨"BoxFlickersModel", "takesFigure", "(I)Z"⟩, 28), (⟨"BoxFlickersModel", "keepNumber", "()V"⟩, 28), (⟨"BoxFlickersModel", "isBatch", "()Z"⟩, 28), (⟨"BoxFlickersModel", "boxMany", "()I"⟩, 28), (⟨"BoxFlickersModel", "beginChange", "()V"⟩, 28), (⟨"BoxFlickersModel", "layAll", "()V"⟩, 28), (⟨"BoxFlickersModel", "layRow", "(I)V"⟩, 28), (⟨"BoxFlickersModel", "valueOf", "(II)I"⟩, 28), (⟨"BoxFlickersModel", "isAhead", "(IIII)Z"⟩, 28), (⟨"BoxFlickersModel", "areMeeting", "(III)Z"⟩, 28), (⟨"BoxFlickersModel", "lowOf", "(II)I"⟩, 28), (⟨"BoxFlickersModel", "highOf", "(II)I"⟩, 28), (⟨"BoxFlickersModel", "endChange", "(I)V"⟩, 28), (⟨"BoxFlickersModel", "areOver", "(II)Z"⟩, 28), (⟨"BoxFlickersModel", "isBox", "(I)Z"⟩, 28), (⟨"BoxFlickersModel", "canMove", "(III)Z"⟩, 28)]
theorem lw_r3 : ∀ q ∈ lw_privs_3, lw_okq q := List.forall_mem_cons.mpr ⟨lw_p32, List.forall_mem_cons.mpr ⟨lw_p33, List.forall_mem_cons.mpr ⟨lw_p34, List.forall_mem_cons.mpr ⟨lw_p35, List.forall_mem_cons.mpr ⟨lw_p36, List.forall_mem_cons.mpr ⟨lw_p37, List.forall_mem_cons.mpr ⟨lw_p38, List.forall_mem_cons.mpr ⟨lw_p39, List.forall_mem_cons.mpr ⟨lw_p40, List.forall_mem_cons.mpr ⟨lw_p41, List.forall_mem_cons.mpr ⟨lw_p42, List.forall_mem_cons.mpr ⟨lw_p43, List.forall_mem_cons.mpr ⟨lw_p44, List.forall_mem_cons.mpr ⟨lw_p45, List.forall_mem_cons.mpr ⟨lw_p46, List.forall_mem_cons.mpr ⟨lw_p47, fun _ h => absurd h List.not_mem_nil⟩⟩⟩⟩⟩⟩⟩⟩⟩⟩⟩⟩⟩⟩⟩⟩
theorem lw_p48 : lw_okq (⟨"BoxFlickersModel", "layBox", "(IIII)V"⟩, 28) := ⟨⟨by decide +kernel, by decide +kernel⟩, List.mem_of_getElem? (i := 521) (by decide +kernel), List.mem_of_getElem? (i := 719) (by decide +kernel), List.mem_of_getElem? (i := 720) (by decide +kernel)⟩
theorem lw_p49 : lw_okq (⟨"BoxFlickersModel", "putRight", "(III)V"⟩, 28) := ⟨⟨by decide +kernel, by decide +kernel⟩, List.mem_of_getElem? (i := 521) (by decide +kernel), List.mem_of_getElem? (i := 723) (by decide +kernel), List.mem_of_getElem? (i := 724) (by decide +kernel)⟩
theorem lw_p50 : lw_okq (⟨"BoxFlickersModel", "swapped", "(III)V"⟩, 28) := ⟨⟨by decide +kernel, by decide +kernel⟩, List.mem_of_getElem? (i := 521) (by decide +kernel), List.mem_of_getElem? (i := 727) (by decide +kernel), List.mem_of_getElem? (i := 728) (by decide +kernel)⟩
theorem lw_p51 : lw_okq (⟨"BoxFlickersModel", "endSwaps", "()I"⟩, 28) := ⟨⟨by decide +kernel, by decide +kernel⟩, List.mem_of_getElem? (i := 521) (by decide +kernel), List.mem_of_getElem? (i := 731) (by decide +kernel), List.mem_of_getElem? (i := 732) (by decide +kernel)⟩
theorem lw_p52 : lw_okq (⟨"BoxFlickersModel", "boxNow", "(II)I"⟩, 28) := ⟨⟨by decide +kernel, by decide +kernel⟩, List.mem_of_getElem? (i := 521) (by decide +kernel), List.mem_of_getElem? (i := 749) (by decide +kernel), List.mem_of_getElem? (i := 750) (by decide +kernel)⟩
theorem lw_p53 : lw_okq (⟨"BoxFlickersModel", "overBits", "(I)I"⟩, 28) := ⟨⟨by decide +kernel, by decide +kernel⟩, List.mem_of_getElem? (i := 521) (by decide +kernel), List.mem_of_getElem? (i := 753) (by decide +kernel), List.mem_of_getElem? (i := 754) (by decide +kernel)⟩
theorem lw_p54 : lw_okq (⟨"BoxFlickersModel", "groupOf", "(I)I"⟩, 28) := ⟨⟨by decide +kernel, by decide +kernel⟩, List.mem_of_getElem? (i := 521) (by decide +kernel), List.mem_of_getElem? (i := 760) (by decide +kernel), List.mem_of_getElem? (i := 761) (by decide +kernel)⟩
theorem lw_p55 : lw_okq (⟨"BoxFlickersModel", "endNow", "(III)I"⟩, 28) := ⟨⟨by decide +kernel, by decide +kernel⟩, List.mem_of_getElem? (i := 521) (by decide +kernel), List.mem_of_getElem? (i := 771) (by decide +kernel), List.mem_of_getElem? (i := 772) (by decide +kernel)⟩
theorem lw_p56 : lw_okq (⟨"BoxFlickersModel", "layPairs", "()V"⟩, 28) := ⟨⟨by decide +kernel, by decide +kernel⟩, List.mem_of_getElem? (i := 521) (by decide +kernel), List.mem_of_getElem? (i := 783) (by decide +kernel), List.mem_of_getElem? (i := 784) (by decide +kernel)⟩
theorem lw_p57 : lw_okq (⟨"BoxFlickersModel", "latestNow", "(I)I"⟩, 28) := ⟨⟨by decide +kernel, by decide +kernel⟩, List.mem_of_getElem? (i := 521) (by decide +kernel), List.mem_of_getElem? (i := 795) (by decide +kernel), List.mem_of_getElem? (i := 796) (by decide +kernel)⟩
theorem lw_p58 : lw_okq (⟨"BoxFlickersModel", "letNow", "(III)I"⟩, 28) := ⟨⟨by decide +kernel, by decide +kernel⟩, List.mem_of_getElem? (i := 521) (by decide +kernel), List.mem_of_getElem? (i := 803) (by decide +kernel), List.mem_of_getElem? (i := 804) (by decide +kernel)⟩
theorem lw_p59 : lw_okq (⟨"BoxFlickersModel", "letBy", "(IIII)I"⟩, 28) := ⟨⟨by decide +kernel, by decide +kernel⟩, List.mem_of_getElem? (i := 521) (by decide +kernel), List.mem_of_getElem? (i := 807) (by decide +kernel), List.mem_of_getElem? (i := 808) (by decide +kernel)⟩
theorem lw_p60 : lw_okq (⟨"BoxFlickersModel", "heapNow", "(I)I"⟩, 28) := ⟨⟨by decide +kernel, by decide +kernel⟩, List.mem_of_getElem? (i := 521) (by decide +kernel), List.mem_of_getElem? (i := 815) (by decide +kernel), List.mem_of_getElem? (i := 816) (by decide +kernel)⟩
theorem lw_p61 : lw_okq (⟨"BoxFlickersModel", "groups", "()I"⟩, 28) := ⟨⟨by decide +kernel, by decide +kernel⟩, List.mem_of_getElem? (i := 521) (by decide +kernel), List.mem_of_getElem? (i := 819) (by decide +kernel), List.mem_of_getElem? (i := 820) (by decide +kernel)⟩
theorem lw_p62 : lw_okq (⟨"BoxFlickersModel", "greatest", "()I"⟩, 28) := ⟨⟨by decide +kernel, by decide +kernel⟩, List.mem_of_getElem? (i := 521) (by decide +kernel), List.mem_of_getElem? (i := 823) (by decide +kernel), List.mem_of_getElem? (i := 824) (by decide +kernel)⟩
theorem lw_p63 : lw_okq (⟨"BoxFlickersModel", "deepest", "()I"⟩, 28) := ⟨⟨by decide +kernel, by decide +kernel⟩, List.mem_of_getElem? (i := 521) (by decide +kernel), List.mem_of_getElem? (i := 827) (by decide +kernel), List.mem_of_getElem? (i := 828) (by decide +kernel)⟩
def lw_privs_4 : List (MethodName × Nat) := [(⟨"BoxFlickersModel", "layBox", "(IIII)V"⟩, 28), (⟨"BoxFlickersModel", "putRight", "(III)V"⟩, 28), (⟨"BoxFlickersModel", "swapped", "(III)V"⟩, 28), (⟨"BoxFlickersModel", "endSwaps", "()I"⟩, 28), (⟨"BoxFlickersModel", "boxNow", "(II)I"⟩, 28), (⟨"BoxFlickersModel", "overBits", "(I)I"⟩, 28), (⟨"BoxFlickersModel", "groupOf", "(I)I"⟩, 28), (⟨"BoxFlickersModel", "endNow", "(III)I"⟩, 28), (⟨"BoxFlickersModel", "layPairs", "()V"⟩, 28), (⟨"BoxFlickersModel", "latestNow", "(I)I"⟩, 28), (⟨"BoxFlickersModel", "letNow", "(III)I"⟩, 28), (⟨"BoxFlickersModel", "letBy", "(IIII)I"⟩, 28), (⟨"BoxFlickersModel", "heapNow", "(I)I"⟩, 28), (⟨"BoxFlickersModel", "groups", "()I"⟩, 28), (⟨"BoxFlickersModel", "greatest", "()I"⟩, 28), (⟨"BoxFlickersModel", "deepest", "()I"⟩, 28)]
theorem lw_r4 : ∀ q ∈ lw_privs_4, lw_okq q := List.forall_mem_cons.mpr ⟨lw_p48, List.forall_mem_cons.mpr ⟨lw_p49, List.forall_mem_cons.mpr ⟨lw_p50, List.forall_mem_cons.mpr ⟨lw_p51, List.forall_mem_cons.mpr ⟨lw_p52, List.forall_mem_cons.mpr ⟨lw_p53, List.forall_mem_cons.mpr ⟨lw_p54, List.forall_mem_cons.mpr ⟨lw_p55, List.forall_mem_cons.mpr ⟨lw_p56, List.forall_mem_cons.mpr ⟨lw_p57, List.forall_mem_cons.mpr ⟨lw_p58, List.forall_mem_cons.mpr ⟨lw_p59, List.forall_mem_cons.mpr ⟨lw_p60, List.forall_mem_cons.mpr ⟨lw_p61, List.forall_mem_cons.mpr ⟨lw_p62, List.forall_mem_cons.mpr ⟨lw_p63, fun _ h => absurd h List.not_mem_nil⟩⟩⟩⟩⟩⟩⟩⟩⟩⟩⟩⟩⟩⟩⟩⟩
theorem lw_p64 : lw_okq (⟨"BoxFlickersModel", "isHeap", "(I)Z"⟩, 28) := ⟨⟨by decide +kernel, by decide +kernel⟩, List.mem_of_getElem? (i := 521) (by decide +kernel), List.mem_of_getElem? (i := 831) (by decide +kernel), List.mem_of_getElem? (i := 832) (by decide +kernel)⟩
theorem lw_p65 : lw_okq (⟨"BoxFlickersModel", "probed", "(IIII)I"⟩, 28) := ⟨⟨by decide +kernel, by decide +kernel⟩, List.mem_of_getElem? (i := 521) (by decide +kernel), List.mem_of_getElem? (i := 839) (by decide +kernel), List.mem_of_getElem? (i := 840) (by decide +kernel)⟩
theorem lw_p66 : lw_okq (⟨"BoxFlickersModel", "howMany", "(I)I"⟩, 28) := ⟨⟨by decide +kernel, by decide +kernel⟩, List.mem_of_getElem? (i := 521) (by decide +kernel), List.mem_of_getElem? (i := 847) (by decide +kernel), List.mem_of_getElem? (i := 848) (by decide +kernel)⟩
theorem lw_p67 : lw_okq (⟨"BoxFlickersModel", "pairMany", "()I"⟩, 28) := ⟨⟨by decide +kernel, by decide +kernel⟩, List.mem_of_getElem? (i := 521) (by decide +kernel), List.mem_of_getElem? (i := 851) (by decide +kernel), List.mem_of_getElem? (i := 852) (by decide +kernel)⟩
theorem lw_p68 : lw_okq (⟨"BoxFlickersModel", "mixBox", "(I)V"⟩, 28) := ⟨⟨by decide +kernel, by decide +kernel⟩, List.mem_of_getElem? (i := 521) (by decide +kernel), List.mem_of_getElem? (i := 860) (by decide +kernel), List.mem_of_getElem? (i := 861) (by decide +kernel)⟩
theorem lw_p69 : lw_okq (⟨"BoxFlickersModel", "mix", "(J)V"⟩, 28) := ⟨⟨by decide +kernel, by decide +kernel⟩, List.mem_of_getElem? (i := 521) (by decide +kernel), List.mem_of_getElem? (i := 864) (by decide +kernel), List.mem_of_getElem? (i := 865) (by decide +kernel)⟩
def lw_privs_5 : List (MethodName × Nat) := [(⟨"BoxFlickersModel", "isHeap", "(I)Z"⟩, 28), (⟨"BoxFlickersModel", "probed", "(IIII)I"⟩, 28), (⟨"BoxFlickersModel", "howMany", "(I)I"⟩, 28), (⟨"BoxFlickersModel", "pairMany", "()I"⟩, 28), (⟨"BoxFlickersModel", "mixBox", "(I)V"⟩, 28), (⟨"BoxFlickersModel", "mix", "(J)V"⟩, 28)]
theorem lw_r5 : ∀ q ∈ lw_privs_5, lw_okq q := List.forall_mem_cons.mpr ⟨lw_p64, List.forall_mem_cons.mpr ⟨lw_p65, List.forall_mem_cons.mpr ⟨lw_p66, List.forall_mem_cons.mpr ⟨lw_p67, List.forall_mem_cons.mpr ⟨lw_p68, List.forall_mem_cons.mpr ⟨lw_p69, fun _ h => absurd h List.not_mem_nil⟩⟩⟩⟩⟩⟩
def lw_privs : List (MethodName × Nat) := lw_privs_1 ++ (lw_privs_2 ++ (lw_privs_3 ++ (lw_privs_4 ++ (lw_privs_5))))
def lw_tbl : List Cond := k2_sels lw_privs ++ tables_1
theorem lw_privs_ok : ∀ q ∈ lw_privs, lw_okq q := by
  show ∀ q ∈ lw_privs_1 ++ (lw_privs_2 ++ (lw_privs_3 ++ (lw_privs_4 ++ (lw_privs_5)))), lw_okq q
  exact List.forall_mem_append.mpr ⟨lw_r1, List.forall_mem_append.mpr ⟨lw_r2, List.forall_mem_append.mpr ⟨lw_r3, List.forall_mem_append.mpr ⟨lw_r4, lw_r5⟩⟩⟩⟩
end
section
def RX0 : String := "BoxFlickers$Ledger"
def TX0 : u_T := fun k => match k with
  | 0 => ("BoxFlickers$Ledger", "events", "[I", true)
  | 1 => ("BoxFlickers$Ledger", "swaps", "[I", true)
  | 2 => ("BoxFlickers$Ledger", "begun", "I", false)
  | 3 => ("BoxFlickers$Ledger", "ended", "I", false)
  | 4 => ("BoxFlickers$Ledger", "flickers", "I", false)
  | 5 => ("BoxFlickers$Ledger", "begunEver", "I", false)
  | 6 => ("BoxFlickers$Ledger", "endedEver", "I", false)
  | 7 => ("BoxFlickers$Ledger", "swapsEver", "I", false)
  | 8 => ("BoxFlickers$Ledger", "flickersEver", "I", false)
  | 9 => ("BoxFlickers$Ledger", "changesEver", "I", false)
  | _ => ("BoxFlickers$Ledger", "turns", "I", false)
def tyX0 : Nat → FieldType := fun k => match k with
  | 0 => .array .int
  | 1 => .array .int
  | 2 => .int
  | 3 => .int
  | 4 => .int
  | 5 => .int
  | 6 => .int
  | 7 => .int
  | 8 => .int
  | 9 => .int
  | _ => .int
abbrev wsX00 : List Cond := u_ws RX0 TX0 11
theorem nmX0 : ∀ a, a < 11 → ∀ b, b < 11 → a ≠ b → (TX0 a).2.1 ≠ (TX0 b).2.1 := by decide +kernel
theorem tyX0_ok : ∀ k, k < 11 → parseFieldDescriptor (TX0 k).2.2.1 = some (tyX0 k) := by decide +kernel
abbrev cX0_init : ByteArray := prog_2_method_1_code
def yX0_init : MethodName := ⟨RX0, "<init>", "()V"⟩
abbrev cX0_open : ByteArray := prog_2_method_2_code
def yX0_open : MethodName := ⟨RX0, "open", "()V"⟩
abbrev cX0_addSwap : ByteArray := prog_2_method_3_code
def yX0_addSwap : MethodName := ⟨RX0, "addSwap", "(I)V"⟩
abbrev cX0_addTurn : ByteArray := prog_2_method_4_code
def yX0_addTurn : MethodName := ⟨RX0, "addTurn", "()V"⟩
abbrev cX0_addEvent : ByteArray := prog_2_method_5_code
def yX0_addEvent : MethodName := ⟨RX0, "addEvent", "(IZ)V"⟩
abbrev cX0_close : ByteArray := prog_2_method_6_code
def yX0_close : MethodName := ⟨RX0, "close", "()V"⟩
abbrev cX0_eventCount : ByteArray := prog_2_method_7_code
def yX0_eventCount : MethodName := ⟨RX0, "eventCount", "()I"⟩
abbrev cX0_eventPair : ByteArray := prog_2_method_8_code
def yX0_eventPair : MethodName := ⟨RX0, "eventPair", "(I)I"⟩
abbrev cX0_eventBegan : ByteArray := prog_2_method_9_code
def yX0_eventBegan : MethodName := ⟨RX0, "eventBegan", "(I)Z"⟩
abbrev cX0_allSwaps : ByteArray := prog_2_method_10_code
def yX0_allSwaps : MethodName := ⟨RX0, "allSwaps", "()I"⟩
def RX1 : String := "BoxFlickers$Line"
def TX1 : u_T := fun k => match k with
  | 0 => ("BoxFlickers$Line", "low", "[I", true)
  | 1 => ("BoxFlickers$Line", "high", "[I", true)
  | 2 => ("BoxFlickers$Line", "order", "[I", true)
  | 3 => ("BoxFlickers$Line", "meets", "[I", true)
  | 4 => ("BoxFlickers$Line", "used", "I", false)
  | _ => ("BoxFlickers$Line", "touching", "Z", false)
def tyX1 : Nat → FieldType := fun k => match k with
  | 0 => .array .int
  | 1 => .array .int
  | 2 => .array .int
  | 3 => .array .int
  | 4 => .int
  | _ => .boolean
abbrev wsX10 : List Cond := u_ws RX1 TX1 6
theorem nmX1 : ∀ a, a < 6 → ∀ b, b < 6 → a ≠ b → (TX1 a).2.1 ≠ (TX1 b).2.1 := by decide +kernel
theorem tyX1_ok : ∀ k, k < 6 → parseFieldDescriptor (TX1 k).2.2.1 = some (tyX1 k) := by decide +kernel
abbrev cX1_init : ByteArray := prog_3_method_1_code
def yX1_init : MethodName := ⟨RX1, "<init>", "()V"⟩
abbrev cX1_lowEnd : ByteArray := prog_3_method_2_code
def yX1_lowEnd : MethodName := ⟨RX1, "lowEnd", "(I)I"⟩
abbrev cX1_highEnd : ByteArray := prog_3_method_3_code
def yX1_highEnd : MethodName := ⟨RX1, "highEnd", "(I)I"⟩
abbrev cX1_boxOf : ByteArray := prog_3_method_4_code
def yX1_boxOf : MethodName := ⟨RX1, "boxOf", "(I)I"⟩
abbrev cX1_isHigh : ByteArray := prog_3_method_5_code
def yX1_isHigh : MethodName := ⟨RX1, "isHigh", "(I)Z"⟩
abbrev cX1_valueOf : ByteArray := prog_3_method_6_code
def yX1_valueOf : MethodName := ⟨RX1, "valueOf", "(I)I"⟩
abbrev cX1_isAhead : ByteArray := prog_3_method_7_code
def yX1_isAhead : MethodName := ⟨RX1, "isAhead", "(II)Z"⟩
abbrev cX1_canShift : ByteArray := prog_3_method_8_code
def yX1_canShift : MethodName := ⟨RX1, "canShift", "(II)Z"⟩
abbrev cX1_spanMeets : ByteArray := prog_3_method_9_code
def yX1_spanMeets : MethodName := ⟨RX1, "spanMeets", "(III)Z"⟩
abbrev cX1_arrange : ByteArray := prog_3_method_10_code
def yX1_arrange : MethodName := ⟨RX1, "arrange", "(IZ)V"⟩
abbrev cX1_insert : ByteArray := prog_3_method_11_code
def yX1_insert : MethodName := ⟨RX1, "insert", "(I)V"⟩
abbrev cX1_findMeets : ByteArray := prog_3_method_12_code
def yX1_findMeets : MethodName := ⟨RX1, "findMeets", "(II)V"⟩
abbrev cX1_turnMeeting : ByteArray := prog_3_method_13_code
def yX1_turnMeeting : MethodName := ⟨RX1, "turnMeeting", "(II)V"⟩
abbrev cX1_placeOf : ByteArray := prog_3_method_14_code
def yX1_placeOf : MethodName := ⟨RX1, "placeOf", "(I)I"⟩
abbrev cX1_sideToGo : ByteArray := prog_3_method_15_code
def yX1_sideToGo : MethodName := ⟨RX1, "sideToGo", "(I)I"⟩
abbrev cX1_swapWithNext : ByteArray := prog_3_method_16_code
def yX1_swapWithNext : MethodName := ⟨RX1, "swapWithNext", "(I)V"⟩
abbrev cX1_room : ByteArray := prog_3_method_17_code
def yX1_room : MethodName := ⟨RX1, "room", "(II)I"⟩
abbrev cX1_distanceToTurn : ByteArray := prog_3_method_18_code
def yX1_distanceToTurn : MethodName := ⟨RX1, "distanceToTurn", "(III)I"⟩
def RX2 : String := "BoxFlickers$Page"
def TX2 : u_T := fun k => match k with
  | 0 => ("BoxFlickers$Page", "codes", "[I", true)
  | 1 => ("BoxFlickers$Page", "size", "I", false)
  | 2 => ("BoxFlickers$Page", "numbers", "[I", true)
  | 3 => ("BoxFlickers$Page", "numbersRead", "I", false)
  | 4 => ("BoxFlickers$Page", "figures", "I", false)
  | 5 => ("BoxFlickers$Page", "value", "I", false)
  | _ => ("BoxFlickers$Page", "belowZero", "Z", false)
def tyX2 : Nat → FieldType := fun k => match k with
  | 0 => .array .int
  | 1 => .int
  | 2 => .array .int
  | 3 => .int
  | 4 => .int
  | 5 => .int
  | _ => .boolean
abbrev wsX20 : List Cond := u_ws RX2 TX2 7
theorem nmX2 : ∀ a, a < 7 → ∀ b, b < 7 → a ≠ b → (TX2 a).2.1 ≠ (TX2 b).2.1 := by decide +kernel
theorem tyX2_ok : ∀ k, k < 7 → parseFieldDescriptor (TX2 k).2.2.1 = some (tyX2 k) := by decide +kernel
abbrev cX2_init : ByteArray := prog_4_method_1_code
def yX2_init : MethodName := ⟨RX2, "<init>", "()V"⟩
abbrev cX2_append : ByteArray := prog_4_method_2_code
def yX2_append : MethodName := ⟨RX2, "append", "(I)Z"⟩
abbrev cX2_clear : ByteArray := prog_4_method_3_code
def yX2_clear : MethodName := ⟨RX2, "clear", "()V"⟩
abbrev cX2_firstWrong : ByteArray := prog_4_method_4_code
def yX2_firstWrong : MethodName := ⟨RX2, "firstWrong", "()I"⟩
abbrev cX2_isBatch : ByteArray := prog_4_method_5_code
def yX2_isBatch : MethodName := ⟨RX2, "isBatch", "()Z"⟩
abbrev cX2_batchSize : ByteArray := prog_4_method_6_code
def yX2_batchSize : MethodName := ⟨RX2, "batchSize", "()I"⟩
abbrev cX2_lowOf : ByteArray := prog_4_method_7_code
def yX2_lowOf : MethodName := ⟨RX2, "lowOf", "(II)I"⟩
abbrev cX2_highOf : ByteArray := prog_4_method_8_code
def yX2_highOf : MethodName := ⟨RX2, "highOf", "(II)I"⟩
abbrev cX2_beginReading : ByteArray := prog_4_method_9_code
def yX2_beginReading : MethodName := ⟨RX2, "beginReading", "()V"⟩
abbrev cX2_beginNumber : ByteArray := prog_4_method_10_code
def yX2_beginNumber : MethodName := ⟨RX2, "beginNumber", "()V"⟩
abbrev cX2_endNumber : ByteArray := prog_4_method_11_code
def yX2_endNumber : MethodName := ⟨RX2, "endNumber", "()V"⟩
abbrev cX2_takes : ByteArray := prog_4_method_12_code
def yX2_takes : MethodName := ⟨RX2, "takes", "(I)Z"⟩
abbrev cX2_takesMinus : ByteArray := prog_4_method_13_code
def yX2_takesMinus : MethodName := ⟨RX2, "takesMinus", "()Z"⟩
abbrev cX2_takesFigure : ByteArray := prog_4_method_14_code
def yX2_takesFigure : MethodName := ⟨RX2, "takesFigure", "(I)Z"⟩
abbrev cX2_takesMark : ByteArray := prog_4_method_15_code
def yX2_takesMark : MethodName := ⟨RX2, "takesMark", "(I)Z"⟩
abbrev cX2_markDue : ByteArray := prog_4_method_16_code
def yX2_markDue : MethodName := ⟨RX2, "markDue", "()I"⟩
def RX3 : String := "BoxFlickers"
def TX3 : u_T := fun k => match k with
  | 0 => ("BoxFlickers", "page", "LBoxFlickers$Page;", true)
  | 1 => ("BoxFlickers", "lineX", "LBoxFlickers$Line;", true)
  | 2 => ("BoxFlickers", "lineY", "LBoxFlickers$Line;", true)
  | 3 => ("BoxFlickers", "lineZ", "LBoxFlickers$Line;", true)
  | 4 => ("BoxFlickers", "ledger", "LBoxFlickers$Ledger;", true)
  | 5 => ("BoxFlickers", "overlaps", "[I", true)
  | 6 => ("BoxFlickers", "there", "I", false)
  | _ => ("BoxFlickers", "touching", "Z", false)
def tyX3 : Nat → FieldType := fun k => match k with
  | 0 => .object "BoxFlickers$Page"
  | 1 => .object "BoxFlickers$Line"
  | 2 => .object "BoxFlickers$Line"
  | 3 => .object "BoxFlickers$Line"
  | 4 => .object "BoxFlickers$Ledger"
  | 5 => .array .int
  | 6 => .int
  | _ => .boolean
abbrev wsX30 : List Cond := u_ws RX3 TX3 8
theorem nmX3 : ∀ a, a < 8 → ∀ b, b < 8 → a ≠ b → (TX3 a).2.1 ≠ (TX3 b).2.1 := by decide +kernel
theorem tyX3_ok : ∀ k, k < 8 → parseFieldDescriptor (TX3 k).2.2.1 = some (tyX3 k) := by decide +kernel
abbrev cX3_init : ByteArray := prog_1_method_1_code
def yX3_init : MethodName := ⟨RX3, "<init>", "()V"⟩
abbrev cX3_letter : ByteArray := prog_1_method_2_code
def yX3_letter : MethodName := ⟨RX3, "letter", "(I)I"⟩
abbrev cX3_blank : ByteArray := prog_1_method_3_code
def yX3_blank : MethodName := ⟨RX3, "blank", "()I"⟩
abbrev cX3_fault : ByteArray := prog_1_method_4_code
def yX3_fault : MethodName := ⟨RX3, "fault", "()I"⟩
abbrev cX3_boxes : ByteArray := prog_1_method_5_code
def yX3_boxes : MethodName := ⟨RX3, "boxes", "()I"⟩
abbrev cX3_remove : ByteArray := prog_1_method_6_code
def yX3_remove : MethodName := ⟨RX3, "remove", "(I)I"⟩
abbrev cX3_move : ByteArray := prog_1_method_7_code
def yX3_move : MethodName := ⟨RX3, "move", "(IIII)I"⟩
abbrev cX3_lay : ByteArray := prog_1_method_8_code
def yX3_lay : MethodName := ⟨RX3, "lay", "(IIII)I"⟩
abbrev cX3_touch : ByteArray := prog_1_method_9_code
def yX3_touch : MethodName := ⟨RX3, "touch", "(Z)I"⟩
abbrev cX3_box : ByteArray := prog_1_method_10_code
def yX3_box : MethodName := ⟨RX3, "box", "(II)I"⟩
abbrev cX3_end : ByteArray := prog_1_method_11_code
def yX3_end : MethodName := ⟨RX3, "end", "(III)I"⟩
abbrev cX3_meet : ByteArray := prog_1_method_12_code
def yX3_meet : MethodName := ⟨RX3, "meet", "(II)I"⟩
abbrev cX3_pair : ByteArray := prog_1_method_13_code
def yX3_pair : MethodName := ⟨RX3, "pair", "(I)I"⟩
abbrev cX3_event : ByteArray := prog_1_method_14_code
def yX3_event : MethodName := ⟨RX3, "event", "(II)I"⟩
abbrev cX3_latest : ByteArray := prog_1_method_15_code
def yX3_latest : MethodName := ⟨RX3, "latest", "(I)I"⟩
abbrev cX3_let : ByteArray := prog_1_method_16_code
def yX3_let : MethodName := ⟨RX3, "let", "(III)I"⟩
abbrev cX3_heap : ByteArray := prog_1_method_17_code
def yX3_heap : MethodName := ⟨RX3, "heap", "(I)I"⟩
abbrev cX3_probe : ByteArray := prog_1_method_18_code
def yX3_probe : MethodName := ⟨RX3, "probe", "(IIIIII)I"⟩
abbrev cX3_count : ByteArray := prog_1_method_19_code
def yX3_count : MethodName := ⟨RX3, "count", "(I)I"⟩
abbrev cX3_digest : ByteArray := prog_1_method_20_code
def yX3_digest : MethodName := ⟨RX3, "digest", "()J"⟩
abbrev cX3_with : ByteArray := prog_1_method_21_code
def yX3_with : MethodName := ⟨RX3, "with", "(JJ)J"⟩
abbrev cX3_withBox : ByteArray := prog_1_method_22_code
def yX3_withBox : MethodName := ⟨RX3, "withBox", "(JI)J"⟩
abbrev cX3_withEnds : ByteArray := prog_1_method_23_code
def yX3_withEnds : MethodName := ⟨RX3, "withEnds", "(JI)J"⟩
abbrev cX3_withPairs : ByteArray := prog_1_method_24_code
def yX3_withPairs : MethodName := ⟨RX3, "withPairs", "(J)J"⟩
abbrev cX3_withLatest : ByteArray := prog_1_method_25_code
def yX3_withLatest : MethodName := ⟨RX3, "withLatest", "(J)J"⟩
abbrev cX3_bit : ByteArray := prog_1_method_26_code
def yX3_bit : MethodName := ⟨RX3, "bit", "(I)I"⟩
abbrev cX3_holds : ByteArray := prog_1_method_27_code
def yX3_holds : MethodName := ⟨RX3, "holds", "(II)Z"⟩
abbrev cX3_isAxis : ByteArray := prog_1_method_28_code
def yX3_isAxis : MethodName := ⟨RX3, "isAxis", "(I)Z"⟩
abbrev cX3_isSpan : ByteArray := prog_1_method_29_code
def yX3_isSpan : MethodName := ⟨RX3, "isSpan", "(II)Z"⟩
abbrev cX3_pairCode : ByteArray := prog_1_method_30_code
def yX3_pairCode : MethodName := ⟨RX3, "pairCode", "(II)I"⟩
abbrev cX3_isThere : ByteArray := prog_1_method_31_code
def yX3_isThere : MethodName := ⟨RX3, "isThere", "(I)Z"⟩
abbrev cX3_lineOf : ByteArray := prog_1_method_32_code
def yX3_lineOf : MethodName := ⟨RX3, "lineOf", "(I)LBoxFlickers$Line;"⟩
abbrev cX3_meetsOnAll : ByteArray := prog_1_method_33_code
def yX3_meetsOnAll : MethodName := ⟨RX3, "meetsOnAll", "(I)I"⟩
abbrev cX3_meetsOnOthers : ByteArray := prog_1_method_34_code
def yX3_meetsOnOthers : MethodName := ⟨RX3, "meetsOnOthers", "(II)I"⟩
abbrev cX3_pairCount : ByteArray := prog_1_method_35_code
def yX3_pairCount : MethodName := ⟨RX3, "pairCount", "()I"⟩
abbrev cX3_settle : ByteArray := prog_1_method_36_code
def yX3_settle : MethodName := ⟨RX3, "settle", "(II)V"⟩
abbrev cX3_rearrange : ByteArray := prog_1_method_37_code
def yX3_rearrange : MethodName := ⟨RX3, "rearrange", "()V"⟩
abbrev cX3_layOn : ByteArray := prog_1_method_38_code
def yX3_layOn : MethodName := ⟨RX3, "layOn", "(IIII)V"⟩
abbrev cX3_putRight : ByteArray := prog_1_method_39_code
def yX3_putRight : MethodName := ⟨RX3, "putRight", "(II)V"⟩
abbrev cX3_turn : ByteArray := prog_1_method_40_code
def yX3_turn : MethodName := ⟨RX3, "turn", "(III)V"⟩
abbrev cX3_tellEvents : ByteArray := prog_1_method_41_code
def yX3_tellEvents : MethodName := ⟨RX3, "tellEvents", "()V"⟩
abbrev cX3_groupOf : ByteArray := prog_1_method_42_code
def yX3_groupOf : MethodName := ⟨RX3, "groupOf", "(I)I"⟩
abbrev cX3_leastOf : ByteArray := prog_1_method_43_code
def yX3_leastOf : MethodName := ⟨RX3, "leastOf", "(I)I"⟩
abbrev cX3_groupCount : ByteArray := prog_1_method_44_code
def yX3_groupCount : MethodName := ⟨RX3, "groupCount", "()I"⟩
abbrev cX3_greatestGroup : ByteArray := prog_1_method_45_code
def yX3_greatestGroup : MethodName := ⟨RX3, "greatestGroup", "()I"⟩
abbrev cX3_deepest : ByteArray := prog_1_method_46_code
def yX3_deepest : MethodName := ⟨RX3, "deepest", "()I"⟩
abbrev cX3_deepestFrom : ByteArray := prog_1_method_47_code
def yX3_deepestFrom : MethodName := ⟨RX3, "deepestFrom", "(IIII)I"⟩
def RX4 : String := "BoxFlickersModel"
def TX4 : u_T := fun k => match k with
  | 0 => ("BoxFlickersModel", "pageLength", "I", false)
  | 1 => ("BoxFlickersModel", "page", "[I", true)
  | 2 => ("BoxFlickersModel", "there", "I", false)
  | 3 => ("BoxFlickersModel", "isTouching", "Z", false)
  | 4 => ("BoxFlickersModel", "lies", "[I", true)
  | 5 => ("BoxFlickersModel", "endMany", "I", false)
  | 6 => ("BoxFlickersModel", "rows", "[I", true)
  | 7 => ("BoxFlickersModel", "meets", "[I", true)
  | 8 => ("BoxFlickersModel", "events", "I", false)
  | 9 => ("BoxFlickersModel", "eventPair", "[I", true)
  | 10 => ("BoxFlickersModel", "eventSort", "[I", true)
  | 11 => ("BoxFlickersModel", "begunNow", "I", false)
  | 12 => ("BoxFlickersModel", "flickersNow", "I", false)
  | 13 => ("BoxFlickersModel", "swapsNow", "[I", true)
  | 14 => ("BoxFlickersModel", "begunEver", "I", false)
  | 15 => ("BoxFlickersModel", "endedEver", "I", false)
  | 16 => ("BoxFlickersModel", "swapsEver", "I", false)
  | 17 => ("BoxFlickersModel", "flickersEver", "I", false)
  | 18 => ("BoxFlickersModel", "changes", "I", false)
  | 19 => ("BoxFlickersModel", "newMany", "I", false)
  | 20 => ("BoxFlickersModel", "news", "[I", true)
  | 21 => ("BoxFlickersModel", "figures", "I", false)
  | 22 => ("BoxFlickersModel", "isBelow", "Z", false)
  | 23 => ("BoxFlickersModel", "wasOver", "[Z", true)
  | 24 => ("BoxFlickersModel", "flips", "I", false)
  | 25 => ("BoxFlickersModel", "pairs", "I", false)
  | 26 => ("BoxFlickersModel", "pairAt", "[I", true)
  | _ => ("BoxFlickersModel", "h", "J", false)
def tyX4 : Nat → FieldType := fun k => match k with
  | 0 => .int
  | 1 => .array .int
  | 2 => .int
  | 3 => .boolean
  | 4 => .array .int
  | 5 => .int
  | 6 => .array .int
  | 7 => .array .int
  | 8 => .int
  | 9 => .array .int
  | 10 => .array .int
  | 11 => .int
  | 12 => .int
  | 13 => .array .int
  | 14 => .int
  | 15 => .int
  | 16 => .int
  | 17 => .int
  | 18 => .int
  | 19 => .int
  | 20 => .array .int
  | 21 => .int
  | 22 => .boolean
  | 23 => .array .boolean
  | 24 => .int
  | 25 => .int
  | 26 => .array .int
  | _ => .long
abbrev wsX40 : List Cond := u_ws RX4 TX4 28
theorem nmX4 : ∀ a, a < 28 → ∀ b, b < 28 → a ≠ b → (TX4 a).2.1 ≠ (TX4 b).2.1 := by decide +kernel
theorem tyX4_ok : ∀ k, k < 28 → parseFieldDescriptor (TX4 k).2.2.1 = some (tyX4 k) := by decide +kernel
abbrev cX4_init : ByteArray := prog_6_method_1_code
def yX4_init : MethodName := ⟨RX4, "<init>", "()V"⟩
abbrev cX4_within : ByteArray := prog_6_method_3_code
def yX4_within : MethodName := ⟨RX4, "within", "(III)Z"⟩
abbrev cX4_has : ByteArray := prog_6_method_4_code
def yX4_has : MethodName := ⟨RX4, "has", "(II)Z"⟩
abbrev cX4_letter : ByteArray := prog_6_method_5_code
def yX4_letter : MethodName := ⟨RX4, "letter", "(I)I"⟩
abbrev cX4_blank : ByteArray := prog_6_method_6_code
def yX4_blank : MethodName := ⟨RX4, "blank", "()I"⟩
abbrev cX4_takesFigure : ByteArray := prog_6_method_7_code
def yX4_takesFigure : MethodName := ⟨RX4, "takesFigure", "(I)Z"⟩
abbrev cX4_takes : ByteArray := prog_6_method_8_code
def yX4_takes : MethodName := ⟨RX4, "takes", "(I)Z"⟩
abbrev cX4_keepNumber : ByteArray := prog_6_method_9_code
def yX4_keepNumber : MethodName := ⟨RX4, "keepNumber", "()V"⟩
abbrev cX4_read : ByteArray := prog_6_method_10_code
def yX4_read : MethodName := ⟨RX4, "read", "()I"⟩
abbrev cX4_fault : ByteArray := prog_6_method_11_code
def yX4_fault : MethodName := ⟨RX4, "fault", "()I"⟩
abbrev cX4_isBatch : ByteArray := prog_6_method_12_code
def yX4_isBatch : MethodName := ⟨RX4, "isBatch", "()Z"⟩
abbrev cX4_boxMany : ByteArray := prog_6_method_13_code
def yX4_boxMany : MethodName := ⟨RX4, "boxMany", "()I"⟩
abbrev cX4_boxes : ByteArray := prog_6_method_14_code
def yX4_boxes : MethodName := ⟨RX4, "boxes", "()I"⟩
abbrev cX4_lowOf : ByteArray := prog_6_method_15_code
def yX4_lowOf : MethodName := ⟨RX4, "lowOf", "(II)I"⟩
abbrev cX4_highOf : ByteArray := prog_6_method_16_code
def yX4_highOf : MethodName := ⟨RX4, "highOf", "(II)I"⟩
abbrev cX4_valueOf : ByteArray := prog_6_method_17_code
def yX4_valueOf : MethodName := ⟨RX4, "valueOf", "(II)I"⟩
abbrev cX4_isAhead : ByteArray := prog_6_method_18_code
def yX4_isAhead : MethodName := ⟨RX4, "isAhead", "(IIII)Z"⟩
abbrev cX4_areMeeting : ByteArray := prog_6_method_19_code
def yX4_areMeeting : MethodName := ⟨RX4, "areMeeting", "(III)Z"⟩
abbrev cX4_layRow : ByteArray := prog_6_method_20_code
def yX4_layRow : MethodName := ⟨RX4, "layRow", "(I)V"⟩
abbrev cX4_layAll : ByteArray := prog_6_method_21_code
def yX4_layAll : MethodName := ⟨RX4, "layAll", "()V"⟩
abbrev cX4_areOver : ByteArray := prog_6_method_22_code
def yX4_areOver : MethodName := ⟨RX4, "areOver", "(II)Z"⟩
abbrev cX4_beginChange : ByteArray := prog_6_method_23_code
def yX4_beginChange : MethodName := ⟨RX4, "beginChange", "()V"⟩
abbrev cX4_endChange : ByteArray := prog_6_method_24_code
def yX4_endChange : MethodName := ⟨RX4, "endChange", "(I)V"⟩
abbrev cX4_remove : ByteArray := prog_6_method_25_code
def yX4_remove : MethodName := ⟨RX4, "remove", "(I)I"⟩
abbrev cX4_touch : ByteArray := prog_6_method_26_code
def yX4_touch : MethodName := ⟨RX4, "touch", "(Z)I"⟩
abbrev cX4_swapped : ByteArray := prog_6_method_27_code
def yX4_swapped : MethodName := ⟨RX4, "swapped", "(III)V"⟩
abbrev cX4_putRight : ByteArray := prog_6_method_28_code
def yX4_putRight : MethodName := ⟨RX4, "putRight", "(III)V"⟩
abbrev cX4_layBox : ByteArray := prog_6_method_29_code
def yX4_layBox : MethodName := ⟨RX4, "layBox", "(IIII)V"⟩
abbrev cX4_isBox : ByteArray := prog_6_method_30_code
def yX4_isBox : MethodName := ⟨RX4, "isBox", "(I)Z"⟩
abbrev cX4_canMove : ByteArray := prog_6_method_31_code
def yX4_canMove : MethodName := ⟨RX4, "canMove", "(III)Z"⟩
abbrev cX4_endSwaps : ByteArray := prog_6_method_32_code
def yX4_endSwaps : MethodName := ⟨RX4, "endSwaps", "()I"⟩
abbrev cX4_move : ByteArray := prog_6_method_33_code
def yX4_move : MethodName := ⟨RX4, "move", "(IIII)I"⟩
abbrev cX4_isAxis : ByteArray := prog_6_method_34_code
def yX4_isAxis : MethodName := ⟨RX4, "isAxis", "(I)Z"⟩
abbrev cX4_areEnds : ByteArray := prog_6_method_35_code
def yX4_areEnds : MethodName := ⟨RX4, "areEnds", "(II)Z"⟩
abbrev cX4_lay : ByteArray := prog_6_method_36_code
def yX4_lay : MethodName := ⟨RX4, "lay", "(IIII)I"⟩
abbrev cX4_overBits : ByteArray := prog_6_method_37_code
def yX4_overBits : MethodName := ⟨RX4, "overBits", "(I)I"⟩
abbrev cX4_ones : ByteArray := prog_6_method_38_code
def yX4_ones : MethodName := ⟨RX4, "ones", "(I)I"⟩
abbrev cX4_groupOf : ByteArray := prog_6_method_39_code
def yX4_groupOf : MethodName := ⟨RX4, "groupOf", "(I)I"⟩
abbrev cX4_least : ByteArray := prog_6_method_40_code
def yX4_least : MethodName := ⟨RX4, "least", "(I)I"⟩
abbrev cX4_boxNow : ByteArray := prog_6_method_41_code
def yX4_boxNow : MethodName := ⟨RX4, "boxNow", "(II)I"⟩
abbrev cX4_box : ByteArray := prog_6_method_42_code
def yX4_box : MethodName := ⟨RX4, "box", "(II)I"⟩
abbrev cX4_endNow : ByteArray := prog_6_method_43_code
def yX4_endNow : MethodName := ⟨RX4, "endNow", "(III)I"⟩
abbrev cX4_end : ByteArray := prog_6_method_44_code
def yX4_end : MethodName := ⟨RX4, "end", "(III)I"⟩
abbrev cX4_meet : ByteArray := prog_6_method_45_code
def yX4_meet : MethodName := ⟨RX4, "meet", "(II)I"⟩
abbrev cX4_layPairs : ByteArray := prog_6_method_46_code
def yX4_layPairs : MethodName := ⟨RX4, "layPairs", "()V"⟩
abbrev cX4_pair : ByteArray := prog_6_method_47_code
def yX4_pair : MethodName := ⟨RX4, "pair", "(I)I"⟩
abbrev cX4_event : ByteArray := prog_6_method_48_code
def yX4_event : MethodName := ⟨RX4, "event", "(II)I"⟩
abbrev cX4_latestNow : ByteArray := prog_6_method_49_code
def yX4_latestNow : MethodName := ⟨RX4, "latestNow", "(I)I"⟩
abbrev cX4_latest : ByteArray := prog_6_method_50_code
def yX4_latest : MethodName := ⟨RX4, "latest", "(I)I"⟩
abbrev cX4_letBy : ByteArray := prog_6_method_51_code
def yX4_letBy : MethodName := ⟨RX4, "letBy", "(IIII)I"⟩
abbrev cX4_letNow : ByteArray := prog_6_method_52_code
def yX4_letNow : MethodName := ⟨RX4, "letNow", "(III)I"⟩
abbrev cX4_let : ByteArray := prog_6_method_53_code
def yX4_let : MethodName := ⟨RX4, "let", "(III)I"⟩
abbrev cX4_isHeap : ByteArray := prog_6_method_54_code
def yX4_isHeap : MethodName := ⟨RX4, "isHeap", "(I)Z"⟩
abbrev cX4_deepest : ByteArray := prog_6_method_55_code
def yX4_deepest : MethodName := ⟨RX4, "deepest", "()I"⟩
abbrev cX4_groups : ByteArray := prog_6_method_56_code
def yX4_groups : MethodName := ⟨RX4, "groups", "()I"⟩
abbrev cX4_greatest : ByteArray := prog_6_method_57_code
def yX4_greatest : MethodName := ⟨RX4, "greatest", "()I"⟩
abbrev cX4_heapNow : ByteArray := prog_6_method_58_code
def yX4_heapNow : MethodName := ⟨RX4, "heapNow", "(I)I"⟩
abbrev cX4_heap : ByteArray := prog_6_method_59_code
def yX4_heap : MethodName := ⟨RX4, "heap", "(I)I"⟩
abbrev cX4_probed : ByteArray := prog_6_method_60_code
def yX4_probed : MethodName := ⟨RX4, "probed", "(IIII)I"⟩
abbrev cX4_probe : ByteArray := prog_6_method_61_code
def yX4_probe : MethodName := ⟨RX4, "probe", "(IIIIII)I"⟩
abbrev cX4_pairMany : ByteArray := prog_6_method_62_code
def yX4_pairMany : MethodName := ⟨RX4, "pairMany", "()I"⟩
abbrev cX4_howMany : ByteArray := prog_6_method_63_code
def yX4_howMany : MethodName := ⟨RX4, "howMany", "(I)I"⟩
abbrev cX4_count : ByteArray := prog_6_method_64_code
def yX4_count : MethodName := ⟨RX4, "count", "(I)I"⟩
abbrev cX4_mix : ByteArray := prog_6_method_65_code
def yX4_mix : MethodName := ⟨RX4, "mix", "(J)V"⟩
abbrev cX4_mixBox : ByteArray := prog_6_method_66_code
def yX4_mixBox : MethodName := ⟨RX4, "mixBox", "(I)V"⟩
abbrev cX4_digest : ByteArray := prog_6_method_67_code
def yX4_digest : MethodName := ⟨RX4, "digest", "()J"⟩
def RJ6 : String := "java/lang/Integer"
def TJ6 : u_T := fun k => match k with
  | _ => ("", "", "", false)
def tyJ6 : Nat → FieldType := fun k => match k with
  | _ => .int
abbrev wsJ60 : List Cond := u_ws RJ6 TJ6 0
theorem nmJ6 : ∀ a, a < 0 → ∀ b, b < 0 → a ≠ b → (TJ6 a).2.1 ≠ (TJ6 b).2.1 := by decide +kernel
theorem tyJ6_ok : ∀ k, k < 0 → parseFieldDescriptor (TJ6 k).2.2.1 = some (tyJ6 k) := by decide +kernel
abbrev cJ6_bitCount_0f7a4 : ByteArray := prog_7_method_49_code
def yJ6_bitCount_0f7a4 : MethodName := ⟨RJ6, "bitCount", "(I)I"⟩
def RJ9 : String := "java/lang/Math"
def TJ9 : u_T := fun k => match k with
  | _ => ("", "", "", false)
def tyJ9 : Nat → FieldType := fun k => match k with
  | _ => .int
abbrev wsJ90 : List Cond := u_ws RJ9 TJ9 0
theorem nmJ9 : ∀ a, a < 0 → ∀ b, b < 0 → a ≠ b → (TJ9 a).2.1 ≠ (TJ9 b).2.1 := by decide +kernel
theorem tyJ9_ok : ∀ k, k < 0 → parseFieldDescriptor (TJ9 k).2.2.1 = some (tyJ9 k) := by decide +kernel
abbrev cJ9_max_7cf53 : ByteArray := prog_8_method_65_code
def yJ9_max_7cf53 : MethodName := ⟨RJ9, "max", "(II)I"⟩
def RL : String := "BoxFlickersLaw"
abbrev cL_law : ByteArray := code
def yL_law : MethodName := ⟨RL, "law", "([I)Z"⟩
abbrev vwCl : List vw_C := [(RX0, TX0, 11), (RX1, TX1, 6), (RX2, TX2, 7), (RX3, TX3, 8), (RX4, TX4, 28)]
end
section
theorem dX0_init_0 : decode cX0_init 0 = .ok (.aload_n 0, 1) := by decide +kernel
theorem dX0_init_1 : decode cX0_init 1 = .ok (.invokespecial 3, 3) := by decide +kernel
theorem dX0_init_4 : decode cX0_init 4 = .ok (.aload_n 0, 1) := by decide +kernel
theorem dX0_init_5 : decode cX0_init 5 = .ok (.bipush 66, 2) := by decide +kernel
theorem dX0_init_7 : decode cX0_init 7 = .ok (.newarray .int, 2) := by decide +kernel
theorem dX0_init_9 : decode cX0_init 9 = .ok (.putfield 11, 3) := by decide +kernel
theorem dX0_init_12 : decode cX0_init 12 = .ok (.aload_n 0, 1) := by decide +kernel
theorem dX0_init_13 : decode cX0_init 13 = .ok (.iconst 3, 1) := by decide +kernel
theorem dX0_init_14 : decode cX0_init 14 = .ok (.newarray .int, 2) := by decide +kernel
theorem dX0_init_16 : decode cX0_init 16 = .ok (.putfield 15, 3) := by decide +kernel
theorem dX0_init_19 : decode cX0_init 19 = .ok (.return_, 1) := by decide +kernel
theorem dX0_open_0 : decode cX0_open 0 = .ok (.aload_n 0, 1) := by decide +kernel
theorem dX0_open_1 : decode cX0_open 1 = .ok (.iconst 0, 1) := by decide +kernel
theorem dX0_open_2 : decode cX0_open 2 = .ok (.putfield 18, 3) := by decide +kernel
theorem dX0_open_5 : decode cX0_open 5 = .ok (.aload_n 0, 1) := by decide +kernel
theorem dX0_open_6 : decode cX0_open 6 = .ok (.iconst 0, 1) := by decide +kernel
theorem dX0_open_7 : decode cX0_open 7 = .ok (.putfield 22, 3) := by decide +kernel
theorem dX0_open_10 : decode cX0_open 10 = .ok (.aload_n 0, 1) := by decide +kernel
theorem dX0_open_11 : decode cX0_open 11 = .ok (.iconst 0, 1) := by decide +kernel
theorem dX0_open_12 : decode cX0_open 12 = .ok (.putfield 25, 3) := by decide +kernel
theorem dX0_open_15 : decode cX0_open 15 = .ok (.iconst 0, 1) := by decide +kernel
theorem dX0_open_16 : decode cX0_open 16 = .ok (.istore_n 1, 1) := by decide +kernel
theorem dX0_open_17 : decode cX0_open 17 = .ok (.iload_n 1, 1) := by decide +kernel
theorem dX0_open_18 : decode cX0_open 18 = .ok (.iconst 3, 1) := by decide +kernel
theorem dX0_open_19 : decode cX0_open 19 = .ok (.if_icmp .ge 16, 3) := by decide +kernel
theorem dX0_open_22 : decode cX0_open 22 = .ok (.aload_n 0, 1) := by decide +kernel
theorem dX0_open_23 : decode cX0_open 23 = .ok (.getfield 15, 3) := by decide +kernel
theorem dX0_open_26 : decode cX0_open 26 = .ok (.iload_n 1, 1) := by decide +kernel
theorem dX0_open_27 : decode cX0_open 27 = .ok (.iconst 0, 1) := by decide +kernel
theorem dX0_open_28 : decode cX0_open 28 = .ok (.iastore, 1) := by decide +kernel
theorem dX0_open_29 : decode cX0_open 29 = .ok (.iinc 1 1, 3) := by decide +kernel
theorem dX0_open_32 : decode cX0_open 32 = .ok (.goto (-15), 3) := by decide +kernel
theorem dX0_open_35 : decode cX0_open 35 = .ok (.return_, 1) := by decide +kernel
theorem dX0_addSwap_0 : decode cX0_addSwap 0 = .ok (.aload_n 0, 1) := by decide +kernel
theorem dX0_addSwap_1 : decode cX0_addSwap 1 = .ok (.getfield 15, 3) := by decide +kernel
theorem dX0_addSwap_4 : decode cX0_addSwap 4 = .ok (.iload_n 1, 1) := by decide +kernel
theorem dX0_addSwap_5 : decode cX0_addSwap 5 = .ok (.dup2, 1) := by decide +kernel
theorem dX0_addSwap_6 : decode cX0_addSwap 6 = .ok (.iaload, 1) := by decide +kernel
theorem dX0_addSwap_7 : decode cX0_addSwap 7 = .ok (.iconst 1, 1) := by decide +kernel
theorem dX0_addSwap_8 : decode cX0_addSwap 8 = .ok (.iadd, 1) := by decide +kernel
theorem dX0_addSwap_9 : decode cX0_addSwap 9 = .ok (.iastore, 1) := by decide +kernel
theorem dX0_addSwap_10 : decode cX0_addSwap 10 = .ok (.return_, 1) := by decide +kernel
theorem dX0_addTurn_0 : decode cX0_addTurn 0 = .ok (.aload_n 0, 1) := by decide +kernel
theorem dX0_addTurn_1 : decode cX0_addTurn 1 = .ok (.dup, 1) := by decide +kernel
theorem dX0_addTurn_2 : decode cX0_addTurn 2 = .ok (.getfield 25, 3) := by decide +kernel
theorem dX0_addTurn_5 : decode cX0_addTurn 5 = .ok (.iconst 1, 1) := by decide +kernel
theorem dX0_addTurn_6 : decode cX0_addTurn 6 = .ok (.iadd, 1) := by decide +kernel
theorem dX0_addTurn_7 : decode cX0_addTurn 7 = .ok (.putfield 25, 3) := by decide +kernel
theorem dX0_addTurn_10 : decode cX0_addTurn 10 = .ok (.return_, 1) := by decide +kernel
theorem dX0_addEvent_0 : decode cX0_addEvent 0 = .ok (.aload_n 0, 1) := by decide +kernel
theorem dX0_addEvent_1 : decode cX0_addEvent 1 = .ok (.invokevirtual 28, 3) := by decide +kernel
theorem dX0_addEvent_4 : decode cX0_addEvent 4 = .ok (.istore_n 3, 1) := by decide +kernel
theorem dX0_addEvent_5 : decode cX0_addEvent 5 = .ok (.iload_n 3, 1) := by decide +kernel
theorem dX0_addEvent_6 : decode cX0_addEvent 6 = .ok (.bipush 66, 2) := by decide +kernel
theorem dX0_addEvent_8 : decode cX0_addEvent 8 = .ok (.if_icmp .lt 4, 3) := by decide +kernel
theorem dX0_addEvent_11 : decode cX0_addEvent 11 = .ok (.return_, 1) := by decide +kernel
theorem dX0_addEvent_12 : decode cX0_addEvent 12 = .ok (.aload_n 0, 1) := by decide +kernel
theorem dX0_addEvent_13 : decode cX0_addEvent 13 = .ok (.getfield 11, 3) := by decide +kernel
theorem dX0_addEvent_16 : decode cX0_addEvent 16 = .ok (.iload_n 3, 1) := by decide +kernel
theorem dX0_addEvent_17 : decode cX0_addEvent 17 = .ok (.iload_n 2, 1) := by decide +kernel
theorem dX0_addEvent_18 : decode cX0_addEvent 18 = .ok (.ifCond .eq 11, 3) := by decide +kernel
theorem dX0_addEvent_21 : decode cX0_addEvent 21 = .ok (.iconst 2, 1) := by decide +kernel
theorem dX0_addEvent_22 : decode cX0_addEvent 22 = .ok (.iload_n 1, 1) := by decide +kernel
theorem dX0_addEvent_23 : decode cX0_addEvent 23 = .ok (.imul, 1) := by decide +kernel
theorem dX0_addEvent_24 : decode cX0_addEvent 24 = .ok (.iconst 1, 1) := by decide +kernel
theorem dX0_addEvent_25 : decode cX0_addEvent 25 = .ok (.iadd, 1) := by decide +kernel
theorem dX0_addEvent_26 : decode cX0_addEvent 26 = .ok (.goto 6, 3) := by decide +kernel
theorem dX0_addEvent_29 : decode cX0_addEvent 29 = .ok (.iconst 2, 1) := by decide +kernel
theorem dX0_addEvent_30 : decode cX0_addEvent 30 = .ok (.iload_n 1, 1) := by decide +kernel
theorem dX0_addEvent_31 : decode cX0_addEvent 31 = .ok (.imul, 1) := by decide +kernel
theorem dX0_addEvent_32 : decode cX0_addEvent 32 = .ok (.iastore, 1) := by decide +kernel
theorem dX0_addEvent_33 : decode cX0_addEvent 33 = .ok (.iload_n 2, 1) := by decide +kernel
theorem dX0_addEvent_34 : decode cX0_addEvent 34 = .ok (.ifCond .eq 16, 3) := by decide +kernel
theorem dX0_addEvent_37 : decode cX0_addEvent 37 = .ok (.aload_n 0, 1) := by decide +kernel
theorem dX0_addEvent_38 : decode cX0_addEvent 38 = .ok (.dup, 1) := by decide +kernel
theorem dX0_addEvent_39 : decode cX0_addEvent 39 = .ok (.getfield 18, 3) := by decide +kernel
theorem dX0_addEvent_42 : decode cX0_addEvent 42 = .ok (.iconst 1, 1) := by decide +kernel
theorem dX0_addEvent_43 : decode cX0_addEvent 43 = .ok (.iadd, 1) := by decide +kernel
theorem dX0_addEvent_44 : decode cX0_addEvent 44 = .ok (.putfield 18, 3) := by decide +kernel
theorem dX0_addEvent_47 : decode cX0_addEvent 47 = .ok (.goto 13, 3) := by decide +kernel
theorem dX0_addEvent_50 : decode cX0_addEvent 50 = .ok (.aload_n 0, 1) := by decide +kernel
theorem dX0_addEvent_51 : decode cX0_addEvent 51 = .ok (.dup, 1) := by decide +kernel
theorem dX0_addEvent_52 : decode cX0_addEvent 52 = .ok (.getfield 22, 3) := by decide +kernel
theorem dX0_addEvent_55 : decode cX0_addEvent 55 = .ok (.iconst 1, 1) := by decide +kernel
theorem dX0_addEvent_56 : decode cX0_addEvent 56 = .ok (.iadd, 1) := by decide +kernel
theorem dX0_addEvent_57 : decode cX0_addEvent 57 = .ok (.putfield 22, 3) := by decide +kernel
theorem dX0_addEvent_60 : decode cX0_addEvent 60 = .ok (.return_, 1) := by decide +kernel
theorem dX0_close_0 : decode cX0_close 0 = .ok (.aload_n 0, 1) := by decide +kernel
theorem dX0_close_1 : decode cX0_close 1 = .ok (.iconst 0, 1) := by decide +kernel
theorem dX0_close_2 : decode cX0_close 2 = .ok (.aload_n 0, 1) := by decide +kernel
theorem dX0_close_3 : decode cX0_close 3 = .ok (.getfield 25, 3) := by decide +kernel
theorem dX0_close_6 : decode cX0_close 6 = .ok (.aload_n 0, 1) := by decide +kernel
theorem dX0_close_7 : decode cX0_close 7 = .ok (.invokevirtual 28, 3) := by decide +kernel
theorem dX0_close_10 : decode cX0_close 10 = .ok (.isub, 1) := by decide +kernel
theorem dX0_close_11 : decode cX0_close 11 = .ok (.invokestatic 32, 3) := by decide +kernel
theorem dX0_close_14 : decode cX0_close 14 = .ok (.putfield 38, 3) := by decide +kernel
theorem dX0_close_17 : decode cX0_close 17 = .ok (.aload_n 0, 1) := by decide +kernel
theorem dX0_close_18 : decode cX0_close 18 = .ok (.dup, 1) := by decide +kernel
theorem dX0_close_19 : decode cX0_close 19 = .ok (.getfield 41, 3) := by decide +kernel
theorem dX0_close_22 : decode cX0_close 22 = .ok (.aload_n 0, 1) := by decide +kernel
theorem dX0_close_23 : decode cX0_close 23 = .ok (.getfield 18, 3) := by decide +kernel
theorem dX0_close_26 : decode cX0_close 26 = .ok (.iadd, 1) := by decide +kernel
theorem dX0_close_27 : decode cX0_close 27 = .ok (.putfield 41, 3) := by decide +kernel
theorem dX0_close_30 : decode cX0_close 30 = .ok (.aload_n 0, 1) := by decide +kernel
theorem dX0_close_31 : decode cX0_close 31 = .ok (.dup, 1) := by decide +kernel
theorem dX0_close_32 : decode cX0_close 32 = .ok (.getfield 44, 3) := by decide +kernel
theorem dX0_close_35 : decode cX0_close 35 = .ok (.aload_n 0, 1) := by decide +kernel
theorem dX0_close_36 : decode cX0_close 36 = .ok (.getfield 22, 3) := by decide +kernel
theorem dX0_close_39 : decode cX0_close 39 = .ok (.iadd, 1) := by decide +kernel
theorem dX0_close_40 : decode cX0_close 40 = .ok (.putfield 44, 3) := by decide +kernel
theorem dX0_close_43 : decode cX0_close 43 = .ok (.aload_n 0, 1) := by decide +kernel
theorem dX0_close_44 : decode cX0_close 44 = .ok (.dup, 1) := by decide +kernel
theorem dX0_close_45 : decode cX0_close 45 = .ok (.getfield 47, 3) := by decide +kernel
theorem dX0_close_48 : decode cX0_close 48 = .ok (.aload_n 0, 1) := by decide +kernel
theorem dX0_close_49 : decode cX0_close 49 = .ok (.invokevirtual 50, 3) := by decide +kernel
theorem dX0_close_52 : decode cX0_close 52 = .ok (.iadd, 1) := by decide +kernel
theorem dX0_close_53 : decode cX0_close 53 = .ok (.putfield 47, 3) := by decide +kernel
theorem dX0_close_56 : decode cX0_close 56 = .ok (.aload_n 0, 1) := by decide +kernel
theorem dX0_close_57 : decode cX0_close 57 = .ok (.dup, 1) := by decide +kernel
theorem dX0_close_58 : decode cX0_close 58 = .ok (.getfield 53, 3) := by decide +kernel
theorem dX0_close_61 : decode cX0_close 61 = .ok (.aload_n 0, 1) := by decide +kernel
theorem dX0_close_62 : decode cX0_close 62 = .ok (.getfield 38, 3) := by decide +kernel
theorem dX0_close_65 : decode cX0_close 65 = .ok (.iadd, 1) := by decide +kernel
theorem dX0_close_66 : decode cX0_close 66 = .ok (.putfield 53, 3) := by decide +kernel
theorem dX0_close_69 : decode cX0_close 69 = .ok (.aload_n 0, 1) := by decide +kernel
theorem dX0_close_70 : decode cX0_close 70 = .ok (.dup, 1) := by decide +kernel
theorem dX0_close_71 : decode cX0_close 71 = .ok (.getfield 56, 3) := by decide +kernel
theorem dX0_close_74 : decode cX0_close 74 = .ok (.iconst 1, 1) := by decide +kernel
theorem dX0_close_75 : decode cX0_close 75 = .ok (.iadd, 1) := by decide +kernel
theorem dX0_close_76 : decode cX0_close 76 = .ok (.putfield 56, 3) := by decide +kernel
theorem dX0_close_79 : decode cX0_close 79 = .ok (.return_, 1) := by decide +kernel
theorem dX0_eventCount_0 : decode cX0_eventCount 0 = .ok (.aload_n 0, 1) := by decide +kernel
theorem dX0_eventCount_1 : decode cX0_eventCount 1 = .ok (.getfield 18, 3) := by decide +kernel
theorem dX0_eventCount_4 : decode cX0_eventCount 4 = .ok (.aload_n 0, 1) := by decide +kernel
theorem dX0_eventCount_5 : decode cX0_eventCount 5 = .ok (.getfield 22, 3) := by decide +kernel
theorem dX0_eventCount_8 : decode cX0_eventCount 8 = .ok (.iadd, 1) := by decide +kernel
theorem dX0_eventCount_9 : decode cX0_eventCount 9 = .ok (.ireturn, 1) := by decide +kernel
theorem dX0_eventPair_0 : decode cX0_eventPair 0 = .ok (.aload_n 0, 1) := by decide +kernel
theorem dX0_eventPair_1 : decode cX0_eventPair 1 = .ok (.getfield 11, 3) := by decide +kernel
theorem dX0_eventPair_4 : decode cX0_eventPair 4 = .ok (.iload_n 1, 1) := by decide +kernel
theorem dX0_eventPair_5 : decode cX0_eventPair 5 = .ok (.iaload, 1) := by decide +kernel
theorem dX0_eventPair_6 : decode cX0_eventPair 6 = .ok (.iconst 1, 1) := by decide +kernel
theorem dX0_eventPair_7 : decode cX0_eventPair 7 = .ok (.ishr, 1) := by decide +kernel
theorem dX0_eventPair_8 : decode cX0_eventPair 8 = .ok (.ireturn, 1) := by decide +kernel
theorem dX0_eventBegan_0 : decode cX0_eventBegan 0 = .ok (.aload_n 0, 1) := by decide +kernel
theorem dX0_eventBegan_1 : decode cX0_eventBegan 1 = .ok (.getfield 11, 3) := by decide +kernel
theorem dX0_eventBegan_4 : decode cX0_eventBegan 4 = .ok (.iload_n 1, 1) := by decide +kernel
theorem dX0_eventBegan_5 : decode cX0_eventBegan 5 = .ok (.iaload, 1) := by decide +kernel
theorem dX0_eventBegan_6 : decode cX0_eventBegan 6 = .ok (.iconst 1, 1) := by decide +kernel
theorem dX0_eventBegan_7 : decode cX0_eventBegan 7 = .ok (.iand, 1) := by decide +kernel
theorem dX0_eventBegan_8 : decode cX0_eventBegan 8 = .ok (.iconst 1, 1) := by decide +kernel
theorem dX0_eventBegan_9 : decode cX0_eventBegan 9 = .ok (.if_icmp .ne 7, 3) := by decide +kernel
theorem dX0_eventBegan_12 : decode cX0_eventBegan 12 = .ok (.iconst 1, 1) := by decide +kernel
theorem dX0_eventBegan_13 : decode cX0_eventBegan 13 = .ok (.goto 4, 3) := by decide +kernel
theorem dX0_eventBegan_16 : decode cX0_eventBegan 16 = .ok (.iconst 0, 1) := by decide +kernel
theorem dX0_eventBegan_17 : decode cX0_eventBegan 17 = .ok (.ireturn, 1) := by decide +kernel
theorem dX0_allSwaps_0 : decode cX0_allSwaps 0 = .ok (.aload_n 0, 1) := by decide +kernel
theorem dX0_allSwaps_1 : decode cX0_allSwaps 1 = .ok (.getfield 15, 3) := by decide +kernel
theorem dX0_allSwaps_4 : decode cX0_allSwaps 4 = .ok (.iconst 0, 1) := by decide +kernel
theorem dX0_allSwaps_5 : decode cX0_allSwaps 5 = .ok (.iaload, 1) := by decide +kernel
theorem dX0_allSwaps_6 : decode cX0_allSwaps 6 = .ok (.aload_n 0, 1) := by decide +kernel
theorem dX0_allSwaps_7 : decode cX0_allSwaps 7 = .ok (.getfield 15, 3) := by decide +kernel
theorem dX0_allSwaps_10 : decode cX0_allSwaps 10 = .ok (.iconst 1, 1) := by decide +kernel
theorem dX0_allSwaps_11 : decode cX0_allSwaps 11 = .ok (.iaload, 1) := by decide +kernel
theorem dX0_allSwaps_12 : decode cX0_allSwaps 12 = .ok (.iadd, 1) := by decide +kernel
theorem dX0_allSwaps_13 : decode cX0_allSwaps 13 = .ok (.aload_n 0, 1) := by decide +kernel
theorem dX0_allSwaps_14 : decode cX0_allSwaps 14 = .ok (.getfield 15, 3) := by decide +kernel
theorem dX0_allSwaps_17 : decode cX0_allSwaps 17 = .ok (.iconst 2, 1) := by decide +kernel
theorem dX0_allSwaps_18 : decode cX0_allSwaps 18 = .ok (.iaload, 1) := by decide +kernel
theorem dX0_allSwaps_19 : decode cX0_allSwaps 19 = .ok (.iadd, 1) := by decide +kernel
theorem dX0_allSwaps_20 : decode cX0_allSwaps 20 = .ok (.ireturn, 1) := by decide +kernel
theorem dX1_init_0 : decode cX1_init 0 = .ok (.aload_n 0, 1) := by decide +kernel
theorem dX1_init_1 : decode cX1_init 1 = .ok (.invokespecial 3, 3) := by decide +kernel
theorem dX1_init_4 : decode cX1_init 4 = .ok (.aload_n 0, 1) := by decide +kernel
theorem dX1_init_5 : decode cX1_init 5 = .ok (.bipush 12, 2) := by decide +kernel
theorem dX1_init_7 : decode cX1_init 7 = .ok (.newarray .int, 2) := by decide +kernel
theorem dX1_init_9 : decode cX1_init 9 = .ok (.putfield 9, 3) := by decide +kernel
theorem dX1_init_12 : decode cX1_init 12 = .ok (.aload_n 0, 1) := by decide +kernel
theorem dX1_init_13 : decode cX1_init 13 = .ok (.bipush 12, 2) := by decide +kernel
theorem dX1_init_15 : decode cX1_init 15 = .ok (.newarray .int, 2) := by decide +kernel
theorem dX1_init_17 : decode cX1_init 17 = .ok (.putfield 15, 3) := by decide +kernel
theorem dX1_init_20 : decode cX1_init 20 = .ok (.aload_n 0, 1) := by decide +kernel
theorem dX1_init_21 : decode cX1_init 21 = .ok (.bipush 24, 2) := by decide +kernel
theorem dX1_init_23 : decode cX1_init 23 = .ok (.newarray .int, 2) := by decide +kernel
theorem dX1_init_25 : decode cX1_init 25 = .ok (.putfield 18, 3) := by decide +kernel
theorem dX1_init_28 : decode cX1_init 28 = .ok (.aload_n 0, 1) := by decide +kernel
theorem dX1_init_29 : decode cX1_init 29 = .ok (.bipush 12, 2) := by decide +kernel
theorem dX1_init_31 : decode cX1_init 31 = .ok (.newarray .int, 2) := by decide +kernel
theorem dX1_init_33 : decode cX1_init 33 = .ok (.putfield 21, 3) := by decide +kernel
theorem dX1_init_36 : decode cX1_init 36 = .ok (.aload_n 0, 1) := by decide +kernel
theorem dX1_init_37 : decode cX1_init 37 = .ok (.iconst 0, 1) := by decide +kernel
theorem dX1_init_38 : decode cX1_init 38 = .ok (.putfield 24, 3) := by decide +kernel
theorem dX1_init_41 : decode cX1_init 41 = .ok (.aload_n 0, 1) := by decide +kernel
theorem dX1_init_42 : decode cX1_init 42 = .ok (.iconst 0, 1) := by decide +kernel
theorem dX1_init_43 : decode cX1_init 43 = .ok (.putfield 28, 3) := by decide +kernel
theorem dX1_init_46 : decode cX1_init 46 = .ok (.return_, 1) := by decide +kernel
theorem dX1_lowEnd_0 : decode cX1_lowEnd 0 = .ok (.iconst 2, 1) := by decide +kernel
theorem dX1_lowEnd_1 : decode cX1_lowEnd 1 = .ok (.iload_n 0, 1) := by decide +kernel
theorem dX1_lowEnd_2 : decode cX1_lowEnd 2 = .ok (.imul, 1) := by decide +kernel
theorem dX1_lowEnd_3 : decode cX1_lowEnd 3 = .ok (.ireturn, 1) := by decide +kernel
theorem dX1_highEnd_0 : decode cX1_highEnd 0 = .ok (.iconst 2, 1) := by decide +kernel
theorem dX1_highEnd_1 : decode cX1_highEnd 1 = .ok (.iload_n 0, 1) := by decide +kernel
theorem dX1_highEnd_2 : decode cX1_highEnd 2 = .ok (.imul, 1) := by decide +kernel
theorem dX1_highEnd_3 : decode cX1_highEnd 3 = .ok (.iconst 1, 1) := by decide +kernel
theorem dX1_highEnd_4 : decode cX1_highEnd 4 = .ok (.iadd, 1) := by decide +kernel
theorem dX1_highEnd_5 : decode cX1_highEnd 5 = .ok (.ireturn, 1) := by decide +kernel
theorem dX1_boxOf_0 : decode cX1_boxOf 0 = .ok (.iload_n 0, 1) := by decide +kernel
theorem dX1_boxOf_1 : decode cX1_boxOf 1 = .ok (.iconst 1, 1) := by decide +kernel
theorem dX1_boxOf_2 : decode cX1_boxOf 2 = .ok (.ishr, 1) := by decide +kernel
theorem dX1_boxOf_3 : decode cX1_boxOf 3 = .ok (.ireturn, 1) := by decide +kernel
theorem dX1_isHigh_0 : decode cX1_isHigh 0 = .ok (.iload_n 0, 1) := by decide +kernel
theorem dX1_isHigh_1 : decode cX1_isHigh 1 = .ok (.iconst 1, 1) := by decide +kernel
theorem dX1_isHigh_2 : decode cX1_isHigh 2 = .ok (.iand, 1) := by decide +kernel
theorem dX1_isHigh_3 : decode cX1_isHigh 3 = .ok (.iconst 1, 1) := by decide +kernel
theorem dX1_isHigh_4 : decode cX1_isHigh 4 = .ok (.if_icmp .ne 7, 3) := by decide +kernel
theorem dX1_isHigh_7 : decode cX1_isHigh 7 = .ok (.iconst 1, 1) := by decide +kernel
theorem dX1_isHigh_8 : decode cX1_isHigh 8 = .ok (.goto 4, 3) := by decide +kernel
theorem dX1_isHigh_11 : decode cX1_isHigh 11 = .ok (.iconst 0, 1) := by decide +kernel
theorem dX1_isHigh_12 : decode cX1_isHigh 12 = .ok (.ireturn, 1) := by decide +kernel
theorem dX1_valueOf_0 : decode cX1_valueOf 0 = .ok (.iload_n 1, 1) := by decide +kernel
theorem dX1_valueOf_1 : decode cX1_valueOf 1 = .ok (.invokestatic 32, 3) := by decide +kernel
theorem dX1_valueOf_4 : decode cX1_valueOf 4 = .ok (.ifCond .eq 15, 3) := by decide +kernel
theorem dX1_valueOf_7 : decode cX1_valueOf 7 = .ok (.aload_n 0, 1) := by decide +kernel
theorem dX1_valueOf_8 : decode cX1_valueOf 8 = .ok (.getfield 15, 3) := by decide +kernel
theorem dX1_valueOf_11 : decode cX1_valueOf 11 = .ok (.iload_n 1, 1) := by decide +kernel
theorem dX1_valueOf_12 : decode cX1_valueOf 12 = .ok (.invokestatic 36, 3) := by decide +kernel
theorem dX1_valueOf_15 : decode cX1_valueOf 15 = .ok (.iaload, 1) := by decide +kernel
theorem dX1_valueOf_16 : decode cX1_valueOf 16 = .ok (.goto 12, 3) := by decide +kernel
theorem dX1_valueOf_19 : decode cX1_valueOf 19 = .ok (.aload_n 0, 1) := by decide +kernel
theorem dX1_valueOf_20 : decode cX1_valueOf 20 = .ok (.getfield 9, 3) := by decide +kernel
theorem dX1_valueOf_23 : decode cX1_valueOf 23 = .ok (.iload_n 1, 1) := by decide +kernel
theorem dX1_valueOf_24 : decode cX1_valueOf 24 = .ok (.invokestatic 36, 3) := by decide +kernel
theorem dX1_valueOf_27 : decode cX1_valueOf 27 = .ok (.iaload, 1) := by decide +kernel
theorem dX1_valueOf_28 : decode cX1_valueOf 28 = .ok (.ireturn, 1) := by decide +kernel
theorem dX1_isAhead_0 : decode cX1_isAhead 0 = .ok (.aload_n 0, 1) := by decide +kernel
theorem dX1_isAhead_1 : decode cX1_isAhead 1 = .ok (.iload_n 1, 1) := by decide +kernel
theorem dX1_isAhead_2 : decode cX1_isAhead 2 = .ok (.invokevirtual 40, 3) := by decide +kernel
theorem dX1_isAhead_5 : decode cX1_isAhead 5 = .ok (.istore_n 3, 1) := by decide +kernel
theorem dX1_isAhead_6 : decode cX1_isAhead 6 = .ok (.aload_n 0, 1) := by decide +kernel
theorem dX1_isAhead_7 : decode cX1_isAhead 7 = .ok (.iload_n 2, 1) := by decide +kernel
theorem dX1_isAhead_8 : decode cX1_isAhead 8 = .ok (.invokevirtual 40, 3) := by decide +kernel
theorem dX1_isAhead_11 : decode cX1_isAhead 11 = .ok (.istore 4, 2) := by decide +kernel
theorem dX1_isAhead_13 : decode cX1_isAhead 13 = .ok (.iload_n 3, 1) := by decide +kernel
theorem dX1_isAhead_14 : decode cX1_isAhead 14 = .ok (.iload 4, 2) := by decide +kernel
theorem dX1_isAhead_16 : decode cX1_isAhead 16 = .ok (.if_icmp .eq 15, 3) := by decide +kernel
theorem dX1_isAhead_19 : decode cX1_isAhead 19 = .ok (.iload_n 3, 1) := by decide +kernel
theorem dX1_isAhead_20 : decode cX1_isAhead 20 = .ok (.iload 4, 2) := by decide +kernel
theorem dX1_isAhead_22 : decode cX1_isAhead 22 = .ok (.if_icmp .ge 7, 3) := by decide +kernel
theorem dX1_isAhead_25 : decode cX1_isAhead 25 = .ok (.iconst 1, 1) := by decide +kernel
theorem dX1_isAhead_26 : decode cX1_isAhead 26 = .ok (.goto 4, 3) := by decide +kernel
theorem dX1_isAhead_29 : decode cX1_isAhead 29 = .ok (.iconst 0, 1) := by decide +kernel
theorem dX1_isAhead_30 : decode cX1_isAhead 30 = .ok (.ireturn, 1) := by decide +kernel
theorem dX1_isAhead_31 : decode cX1_isAhead 31 = .ok (.iload_n 1, 1) := by decide +kernel
theorem dX1_isAhead_32 : decode cX1_isAhead 32 = .ok (.invokestatic 32, 3) := by decide +kernel
theorem dX1_isAhead_35 : decode cX1_isAhead 35 = .ok (.iload_n 2, 1) := by decide +kernel
theorem dX1_isAhead_36 : decode cX1_isAhead 36 = .ok (.invokestatic 32, 3) := by decide +kernel
theorem dX1_isAhead_39 : decode cX1_isAhead 39 = .ok (.if_icmp .eq 20, 3) := by decide +kernel
theorem dX1_isAhead_42 : decode cX1_isAhead 42 = .ok (.iload_n 1, 1) := by decide +kernel
theorem dX1_isAhead_43 : decode cX1_isAhead 43 = .ok (.invokestatic 32, 3) := by decide +kernel
theorem dX1_isAhead_46 : decode cX1_isAhead 46 = .ok (.aload_n 0, 1) := by decide +kernel
theorem dX1_isAhead_47 : decode cX1_isAhead 47 = .ok (.getfield 28, 3) := by decide +kernel
theorem dX1_isAhead_50 : decode cX1_isAhead 50 = .ok (.if_icmp .eq 7, 3) := by decide +kernel
theorem dX1_isAhead_53 : decode cX1_isAhead 53 = .ok (.iconst 1, 1) := by decide +kernel
theorem dX1_isAhead_54 : decode cX1_isAhead 54 = .ok (.goto 4, 3) := by decide +kernel
theorem dX1_isAhead_57 : decode cX1_isAhead 57 = .ok (.iconst 0, 1) := by decide +kernel
theorem dX1_isAhead_58 : decode cX1_isAhead 58 = .ok (.ireturn, 1) := by decide +kernel
theorem dX1_isAhead_59 : decode cX1_isAhead 59 = .ok (.iload_n 1, 1) := by decide +kernel
theorem dX1_isAhead_60 : decode cX1_isAhead 60 = .ok (.invokestatic 36, 3) := by decide +kernel
theorem dX1_isAhead_63 : decode cX1_isAhead 63 = .ok (.iload_n 2, 1) := by decide +kernel
theorem dX1_isAhead_64 : decode cX1_isAhead 64 = .ok (.invokestatic 36, 3) := by decide +kernel
theorem dX1_isAhead_67 : decode cX1_isAhead 67 = .ok (.if_icmp .ge 7, 3) := by decide +kernel
theorem dX1_isAhead_70 : decode cX1_isAhead 70 = .ok (.iconst 1, 1) := by decide +kernel
theorem dX1_isAhead_71 : decode cX1_isAhead 71 = .ok (.goto 4, 3) := by decide +kernel
theorem dX1_isAhead_74 : decode cX1_isAhead 74 = .ok (.iconst 0, 1) := by decide +kernel
theorem dX1_isAhead_75 : decode cX1_isAhead 75 = .ok (.ireturn, 1) := by decide +kernel
theorem dX1_canShift_0 : decode cX1_canShift 0 = .ok (.aload_n 0, 1) := by decide +kernel
theorem dX1_canShift_1 : decode cX1_canShift 1 = .ok (.getfield 9, 3) := by decide +kernel
theorem dX1_canShift_4 : decode cX1_canShift 4 = .ok (.iload_n 1, 1) := by decide +kernel
theorem dX1_canShift_5 : decode cX1_canShift 5 = .ok (.iaload, 1) := by decide +kernel
theorem dX1_canShift_6 : decode cX1_canShift 6 = .ok (.i2l, 1) := by decide +kernel
theorem dX1_canShift_7 : decode cX1_canShift 7 = .ok (.iload_n 2, 1) := by decide +kernel
theorem dX1_canShift_8 : decode cX1_canShift 8 = .ok (.i2l, 1) := by decide +kernel
theorem dX1_canShift_9 : decode cX1_canShift 9 = .ok (.ladd, 1) := by decide +kernel
theorem dX1_canShift_10 : decode cX1_canShift 10 = .ok (.ldc2_w 43, 3) := by decide +kernel
theorem dX1_canShift_13 : decode cX1_canShift 13 = .ok (.lcmp, 1) := by decide +kernel
theorem dX1_canShift_14 : decode cX1_canShift 14 = .ok (.ifCond .lt 24, 3) := by decide +kernel
theorem dX1_canShift_17 : decode cX1_canShift 17 = .ok (.aload_n 0, 1) := by decide +kernel
theorem dX1_canShift_18 : decode cX1_canShift 18 = .ok (.getfield 15, 3) := by decide +kernel
theorem dX1_canShift_21 : decode cX1_canShift 21 = .ok (.iload_n 1, 1) := by decide +kernel
theorem dX1_canShift_22 : decode cX1_canShift 22 = .ok (.iaload, 1) := by decide +kernel
theorem dX1_canShift_23 : decode cX1_canShift 23 = .ok (.i2l, 1) := by decide +kernel
theorem dX1_canShift_24 : decode cX1_canShift 24 = .ok (.iload_n 2, 1) := by decide +kernel
theorem dX1_canShift_25 : decode cX1_canShift 25 = .ok (.i2l, 1) := by decide +kernel
theorem dX1_canShift_26 : decode cX1_canShift 26 = .ok (.ladd, 1) := by decide +kernel
theorem dX1_canShift_27 : decode cX1_canShift 27 = .ok (.ldc2_w 45, 3) := by decide +kernel
theorem dX1_canShift_30 : decode cX1_canShift 30 = .ok (.lcmp, 1) := by decide +kernel
theorem dX1_canShift_31 : decode cX1_canShift 31 = .ok (.ifCond .gt 7, 3) := by decide +kernel
theorem dX1_canShift_34 : decode cX1_canShift 34 = .ok (.iconst 1, 1) := by decide +kernel
theorem dX1_canShift_35 : decode cX1_canShift 35 = .ok (.goto 4, 3) := by decide +kernel
theorem dX1_canShift_38 : decode cX1_canShift 38 = .ok (.iconst 0, 1) := by decide +kernel
theorem dX1_canShift_39 : decode cX1_canShift 39 = .ok (.ireturn, 1) := by decide +kernel
theorem dX1_spanMeets_0 : decode cX1_spanMeets 0 = .ok (.aload_n 0, 1) := by decide +kernel
theorem dX1_spanMeets_1 : decode cX1_spanMeets 1 = .ok (.getfield 28, 3) := by decide +kernel
theorem dX1_spanMeets_4 : decode cX1_spanMeets 4 = .ok (.ifCond .eq 29, 3) := by decide +kernel
theorem dX1_spanMeets_7 : decode cX1_spanMeets 7 = .ok (.aload_n 0, 1) := by decide +kernel
theorem dX1_spanMeets_8 : decode cX1_spanMeets 8 = .ok (.getfield 9, 3) := by decide +kernel
theorem dX1_spanMeets_11 : decode cX1_spanMeets 11 = .ok (.iload_n 1, 1) := by decide +kernel
theorem dX1_spanMeets_12 : decode cX1_spanMeets 12 = .ok (.iaload, 1) := by decide +kernel
theorem dX1_spanMeets_13 : decode cX1_spanMeets 13 = .ok (.iload_n 3, 1) := by decide +kernel
theorem dX1_spanMeets_14 : decode cX1_spanMeets 14 = .ok (.if_icmp .gt 17, 3) := by decide +kernel
theorem dX1_spanMeets_17 : decode cX1_spanMeets 17 = .ok (.iload_n 2, 1) := by decide +kernel
theorem dX1_spanMeets_18 : decode cX1_spanMeets 18 = .ok (.aload_n 0, 1) := by decide +kernel
theorem dX1_spanMeets_19 : decode cX1_spanMeets 19 = .ok (.getfield 15, 3) := by decide +kernel
theorem dX1_spanMeets_22 : decode cX1_spanMeets 22 = .ok (.iload_n 1, 1) := by decide +kernel
theorem dX1_spanMeets_23 : decode cX1_spanMeets 23 = .ok (.iaload, 1) := by decide +kernel
theorem dX1_spanMeets_24 : decode cX1_spanMeets 24 = .ok (.if_icmp .gt 7, 3) := by decide +kernel
theorem dX1_spanMeets_27 : decode cX1_spanMeets 27 = .ok (.iconst 1, 1) := by decide +kernel
theorem dX1_spanMeets_28 : decode cX1_spanMeets 28 = .ok (.goto 4, 3) := by decide +kernel
theorem dX1_spanMeets_31 : decode cX1_spanMeets 31 = .ok (.iconst 0, 1) := by decide +kernel
theorem dX1_spanMeets_32 : decode cX1_spanMeets 32 = .ok (.ireturn, 1) := by decide +kernel
theorem dX1_spanMeets_33 : decode cX1_spanMeets 33 = .ok (.aload_n 0, 1) := by decide +kernel
theorem dX1_spanMeets_34 : decode cX1_spanMeets 34 = .ok (.getfield 9, 3) := by decide +kernel
theorem dX1_spanMeets_37 : decode cX1_spanMeets 37 = .ok (.iload_n 1, 1) := by decide +kernel
theorem dX1_spanMeets_38 : decode cX1_spanMeets 38 = .ok (.iaload, 1) := by decide +kernel
theorem dX1_spanMeets_39 : decode cX1_spanMeets 39 = .ok (.iload_n 3, 1) := by decide +kernel
theorem dX1_spanMeets_40 : decode cX1_spanMeets 40 = .ok (.if_icmp .ge 17, 3) := by decide +kernel
theorem dX1_spanMeets_43 : decode cX1_spanMeets 43 = .ok (.iload_n 2, 1) := by decide +kernel
theorem dX1_spanMeets_44 : decode cX1_spanMeets 44 = .ok (.aload_n 0, 1) := by decide +kernel
theorem dX1_spanMeets_45 : decode cX1_spanMeets 45 = .ok (.getfield 15, 3) := by decide +kernel
theorem dX1_spanMeets_48 : decode cX1_spanMeets 48 = .ok (.iload_n 1, 1) := by decide +kernel
theorem dX1_spanMeets_49 : decode cX1_spanMeets 49 = .ok (.iaload, 1) := by decide +kernel
theorem dX1_spanMeets_50 : decode cX1_spanMeets 50 = .ok (.if_icmp .ge 7, 3) := by decide +kernel
theorem dX1_spanMeets_53 : decode cX1_spanMeets 53 = .ok (.iconst 1, 1) := by decide +kernel
theorem dX1_spanMeets_54 : decode cX1_spanMeets 54 = .ok (.goto 4, 3) := by decide +kernel
theorem dX1_spanMeets_57 : decode cX1_spanMeets 57 = .ok (.iconst 0, 1) := by decide +kernel
theorem dX1_spanMeets_58 : decode cX1_spanMeets 58 = .ok (.ireturn, 1) := by decide +kernel
theorem dX1_arrange_0 : decode cX1_arrange 0 = .ok (.aload_n 0, 1) := by decide +kernel
theorem dX1_arrange_1 : decode cX1_arrange 1 = .ok (.iload_n 2, 1) := by decide +kernel
theorem dX1_arrange_2 : decode cX1_arrange 2 = .ok (.putfield 28, 3) := by decide +kernel
theorem dX1_arrange_5 : decode cX1_arrange 5 = .ok (.aload_n 0, 1) := by decide +kernel
theorem dX1_arrange_6 : decode cX1_arrange 6 = .ok (.iconst 0, 1) := by decide +kernel
theorem dX1_arrange_7 : decode cX1_arrange 7 = .ok (.putfield 24, 3) := by decide +kernel
theorem dX1_arrange_10 : decode cX1_arrange 10 = .ok (.iconst 0, 1) := by decide +kernel
theorem dX1_arrange_11 : decode cX1_arrange 11 = .ok (.istore_n 3, 1) := by decide +kernel
theorem dX1_arrange_12 : decode cX1_arrange 12 = .ok (.iload_n 3, 1) := by decide +kernel
theorem dX1_arrange_13 : decode cX1_arrange 13 = .ok (.bipush 12, 2) := by decide +kernel
theorem dX1_arrange_15 : decode cX1_arrange 15 = .ok (.if_icmp .ge 46, 3) := by decide +kernel
theorem dX1_arrange_18 : decode cX1_arrange 18 = .ok (.aload_n 0, 1) := by decide +kernel
theorem dX1_arrange_19 : decode cX1_arrange 19 = .ok (.getfield 21, 3) := by decide +kernel
theorem dX1_arrange_22 : decode cX1_arrange 22 = .ok (.iload_n 3, 1) := by decide +kernel
theorem dX1_arrange_23 : decode cX1_arrange 23 = .ok (.iconst 0, 1) := by decide +kernel
theorem dX1_arrange_24 : decode cX1_arrange 24 = .ok (.iastore, 1) := by decide +kernel
theorem dX1_arrange_25 : decode cX1_arrange 25 = .ok (.iload_n 1, 1) := by decide +kernel
theorem dX1_arrange_26 : decode cX1_arrange 26 = .ok (.iload_n 3, 1) := by decide +kernel
theorem dX1_arrange_27 : decode cX1_arrange 27 = .ok (.invokestatic 47, 3) := by decide +kernel
theorem dX1_arrange_30 : decode cX1_arrange 30 = .ok (.ifCond .eq 25, 3) := by decide +kernel
theorem dX1_arrange_33 : decode cX1_arrange 33 = .ok (.aload_n 0, 1) := by decide +kernel
theorem dX1_arrange_34 : decode cX1_arrange 34 = .ok (.iload_n 3, 1) := by decide +kernel
theorem dX1_arrange_35 : decode cX1_arrange 35 = .ok (.invokestatic 51, 3) := by decide +kernel
theorem dX1_arrange_38 : decode cX1_arrange 38 = .ok (.invokevirtual 54, 3) := by decide +kernel
theorem dX1_arrange_41 : decode cX1_arrange 41 = .ok (.aload_n 0, 1) := by decide +kernel
theorem dX1_arrange_42 : decode cX1_arrange 42 = .ok (.iload_n 3, 1) := by decide +kernel
theorem dX1_arrange_43 : decode cX1_arrange 43 = .ok (.invokestatic 58, 3) := by decide +kernel
theorem dX1_arrange_46 : decode cX1_arrange 46 = .ok (.invokevirtual 54, 3) := by decide +kernel
theorem dX1_arrange_49 : decode cX1_arrange 49 = .ok (.aload_n 0, 1) := by decide +kernel
theorem dX1_arrange_50 : decode cX1_arrange 50 = .ok (.iload_n 1, 1) := by decide +kernel
theorem dX1_arrange_51 : decode cX1_arrange 51 = .ok (.iload_n 3, 1) := by decide +kernel
theorem dX1_arrange_52 : decode cX1_arrange 52 = .ok (.invokevirtual 61, 3) := by decide +kernel
theorem dX1_arrange_55 : decode cX1_arrange 55 = .ok (.iinc 3 1, 3) := by decide +kernel
theorem dX1_arrange_58 : decode cX1_arrange 58 = .ok (.goto (-46), 3) := by decide +kernel
theorem dX1_arrange_61 : decode cX1_arrange 61 = .ok (.return_, 1) := by decide +kernel
theorem dX1_insert_0 : decode cX1_insert 0 = .ok (.aload_n 0, 1) := by decide +kernel
theorem dX1_insert_1 : decode cX1_insert 1 = .ok (.getfield 24, 3) := by decide +kernel
theorem dX1_insert_4 : decode cX1_insert 4 = .ok (.istore_n 2, 1) := by decide +kernel
theorem dX1_insert_5 : decode cX1_insert 5 = .ok (.iload_n 2, 1) := by decide +kernel
theorem dX1_insert_6 : decode cX1_insert 6 = .ok (.ifCond .le 39, 3) := by decide +kernel
theorem dX1_insert_9 : decode cX1_insert 9 = .ok (.aload_n 0, 1) := by decide +kernel
theorem dX1_insert_10 : decode cX1_insert 10 = .ok (.iload_n 1, 1) := by decide +kernel
theorem dX1_insert_11 : decode cX1_insert 11 = .ok (.aload_n 0, 1) := by decide +kernel
theorem dX1_insert_12 : decode cX1_insert 12 = .ok (.getfield 18, 3) := by decide +kernel
theorem dX1_insert_15 : decode cX1_insert 15 = .ok (.iload_n 2, 1) := by decide +kernel
theorem dX1_insert_16 : decode cX1_insert 16 = .ok (.iconst 1, 1) := by decide +kernel
theorem dX1_insert_17 : decode cX1_insert 17 = .ok (.isub, 1) := by decide +kernel
theorem dX1_insert_18 : decode cX1_insert 18 = .ok (.iaload, 1) := by decide +kernel
theorem dX1_insert_19 : decode cX1_insert 19 = .ok (.invokevirtual 65, 3) := by decide +kernel
theorem dX1_insert_22 : decode cX1_insert 22 = .ok (.ifCond .eq 23, 3) := by decide +kernel
theorem dX1_insert_25 : decode cX1_insert 25 = .ok (.aload_n 0, 1) := by decide +kernel
theorem dX1_insert_26 : decode cX1_insert 26 = .ok (.getfield 18, 3) := by decide +kernel
theorem dX1_insert_29 : decode cX1_insert 29 = .ok (.iload_n 2, 1) := by decide +kernel
theorem dX1_insert_30 : decode cX1_insert 30 = .ok (.aload_n 0, 1) := by decide +kernel
theorem dX1_insert_31 : decode cX1_insert 31 = .ok (.getfield 18, 3) := by decide +kernel
theorem dX1_insert_34 : decode cX1_insert 34 = .ok (.iload_n 2, 1) := by decide +kernel
theorem dX1_insert_35 : decode cX1_insert 35 = .ok (.iconst 1, 1) := by decide +kernel
theorem dX1_insert_36 : decode cX1_insert 36 = .ok (.isub, 1) := by decide +kernel
theorem dX1_insert_37 : decode cX1_insert 37 = .ok (.iaload, 1) := by decide +kernel
theorem dX1_insert_38 : decode cX1_insert 38 = .ok (.iastore, 1) := by decide +kernel
theorem dX1_insert_39 : decode cX1_insert 39 = .ok (.iinc 2 (-1), 3) := by decide +kernel
theorem dX1_insert_42 : decode cX1_insert 42 = .ok (.goto (-37), 3) := by decide +kernel
theorem dX1_insert_45 : decode cX1_insert 45 = .ok (.aload_n 0, 1) := by decide +kernel
theorem dX1_insert_46 : decode cX1_insert 46 = .ok (.getfield 18, 3) := by decide +kernel
theorem dX1_insert_49 : decode cX1_insert 49 = .ok (.iload_n 2, 1) := by decide +kernel
theorem dX1_insert_50 : decode cX1_insert 50 = .ok (.iload_n 1, 1) := by decide +kernel
theorem dX1_insert_51 : decode cX1_insert 51 = .ok (.iastore, 1) := by decide +kernel
theorem dX1_insert_52 : decode cX1_insert 52 = .ok (.aload_n 0, 1) := by decide +kernel
theorem dX1_insert_53 : decode cX1_insert 53 = .ok (.dup, 1) := by decide +kernel
theorem dX1_insert_54 : decode cX1_insert 54 = .ok (.getfield 24, 3) := by decide +kernel
theorem dX1_insert_57 : decode cX1_insert 57 = .ok (.iconst 1, 1) := by decide +kernel
theorem dX1_insert_58 : decode cX1_insert 58 = .ok (.iadd, 1) := by decide +kernel
theorem dX1_insert_59 : decode cX1_insert 59 = .ok (.putfield 24, 3) := by decide +kernel
theorem dX1_insert_62 : decode cX1_insert 62 = .ok (.return_, 1) := by decide +kernel
theorem dX1_findMeets_0 : decode cX1_findMeets 0 = .ok (.iconst 0, 1) := by decide +kernel
theorem dX1_findMeets_1 : decode cX1_findMeets 1 = .ok (.istore_n 3, 1) := by decide +kernel
theorem dX1_findMeets_2 : decode cX1_findMeets 2 = .ok (.iload_n 3, 1) := by decide +kernel
theorem dX1_findMeets_3 : decode cX1_findMeets 3 = .ok (.bipush 12, 2) := by decide +kernel
theorem dX1_findMeets_5 : decode cX1_findMeets 5 = .ok (.if_icmp .ge 55, 3) := by decide +kernel
theorem dX1_findMeets_8 : decode cX1_findMeets 8 = .ok (.iload_n 3, 1) := by decide +kernel
theorem dX1_findMeets_9 : decode cX1_findMeets 9 = .ok (.iload_n 2, 1) := by decide +kernel
theorem dX1_findMeets_10 : decode cX1_findMeets 10 = .ok (.if_icmp .eq 44, 3) := by decide +kernel
theorem dX1_findMeets_13 : decode cX1_findMeets 13 = .ok (.iload_n 1, 1) := by decide +kernel
theorem dX1_findMeets_14 : decode cX1_findMeets 14 = .ok (.iload_n 3, 1) := by decide +kernel
theorem dX1_findMeets_15 : decode cX1_findMeets 15 = .ok (.invokestatic 47, 3) := by decide +kernel
theorem dX1_findMeets_18 : decode cX1_findMeets 18 = .ok (.ifCond .eq 36, 3) := by decide +kernel
theorem dX1_findMeets_21 : decode cX1_findMeets 21 = .ok (.aload_n 0, 1) := by decide +kernel
theorem dX1_findMeets_22 : decode cX1_findMeets 22 = .ok (.iload_n 2, 1) := by decide +kernel
theorem dX1_findMeets_23 : decode cX1_findMeets 23 = .ok (.aload_n 0, 1) := by decide +kernel
theorem dX1_findMeets_24 : decode cX1_findMeets 24 = .ok (.getfield 9, 3) := by decide +kernel
theorem dX1_findMeets_27 : decode cX1_findMeets 27 = .ok (.iload_n 3, 1) := by decide +kernel
theorem dX1_findMeets_28 : decode cX1_findMeets 28 = .ok (.iaload, 1) := by decide +kernel
theorem dX1_findMeets_29 : decode cX1_findMeets 29 = .ok (.aload_n 0, 1) := by decide +kernel
theorem dX1_findMeets_30 : decode cX1_findMeets 30 = .ok (.getfield 15, 3) := by decide +kernel
theorem dX1_findMeets_33 : decode cX1_findMeets 33 = .ok (.iload_n 3, 1) := by decide +kernel
theorem dX1_findMeets_34 : decode cX1_findMeets 34 = .ok (.iaload, 1) := by decide +kernel
theorem dX1_findMeets_35 : decode cX1_findMeets 35 = .ok (.invokevirtual 68, 3) := by decide +kernel
theorem dX1_findMeets_38 : decode cX1_findMeets 38 = .ok (.ifCond .eq 16, 3) := by decide +kernel
theorem dX1_findMeets_41 : decode cX1_findMeets 41 = .ok (.aload_n 0, 1) := by decide +kernel
theorem dX1_findMeets_42 : decode cX1_findMeets 42 = .ok (.getfield 21, 3) := by decide +kernel
theorem dX1_findMeets_45 : decode cX1_findMeets 45 = .ok (.iload_n 2, 1) := by decide +kernel
theorem dX1_findMeets_46 : decode cX1_findMeets 46 = .ok (.dup2, 1) := by decide +kernel
theorem dX1_findMeets_47 : decode cX1_findMeets 47 = .ok (.iaload, 1) := by decide +kernel
theorem dX1_findMeets_48 : decode cX1_findMeets 48 = .ok (.iload_n 3, 1) := by decide +kernel
theorem dX1_findMeets_49 : decode cX1_findMeets 49 = .ok (.invokestatic 72, 3) := by decide +kernel
theorem dX1_findMeets_52 : decode cX1_findMeets 52 = .ok (.ior, 1) := by decide +kernel
theorem dX1_findMeets_53 : decode cX1_findMeets 53 = .ok (.iastore, 1) := by decide +kernel
theorem dX1_findMeets_54 : decode cX1_findMeets 54 = .ok (.iinc 3 1, 3) := by decide +kernel
theorem dX1_findMeets_57 : decode cX1_findMeets 57 = .ok (.goto (-55), 3) := by decide +kernel
theorem dX1_findMeets_60 : decode cX1_findMeets 60 = .ok (.return_, 1) := by decide +kernel
theorem dX1_turnMeeting_0 : decode cX1_turnMeeting 0 = .ok (.aload_n 0, 1) := by decide +kernel
theorem dX1_turnMeeting_1 : decode cX1_turnMeeting 1 = .ok (.getfield 21, 3) := by decide +kernel
theorem dX1_turnMeeting_4 : decode cX1_turnMeeting 4 = .ok (.iload_n 1, 1) := by decide +kernel
theorem dX1_turnMeeting_5 : decode cX1_turnMeeting 5 = .ok (.dup2, 1) := by decide +kernel
theorem dX1_turnMeeting_6 : decode cX1_turnMeeting 6 = .ok (.iaload, 1) := by decide +kernel
theorem dX1_turnMeeting_7 : decode cX1_turnMeeting 7 = .ok (.iload_n 2, 1) := by decide +kernel
theorem dX1_turnMeeting_8 : decode cX1_turnMeeting 8 = .ok (.invokestatic 72, 3) := by decide +kernel
theorem dX1_turnMeeting_11 : decode cX1_turnMeeting 11 = .ok (.ixor, 1) := by decide +kernel
theorem dX1_turnMeeting_12 : decode cX1_turnMeeting 12 = .ok (.iastore, 1) := by decide +kernel
theorem dX1_turnMeeting_13 : decode cX1_turnMeeting 13 = .ok (.aload_n 0, 1) := by decide +kernel
theorem dX1_turnMeeting_14 : decode cX1_turnMeeting 14 = .ok (.getfield 21, 3) := by decide +kernel
theorem dX1_turnMeeting_17 : decode cX1_turnMeeting 17 = .ok (.iload_n 2, 1) := by decide +kernel
theorem dX1_turnMeeting_18 : decode cX1_turnMeeting 18 = .ok (.dup2, 1) := by decide +kernel
theorem dX1_turnMeeting_19 : decode cX1_turnMeeting 19 = .ok (.iaload, 1) := by decide +kernel
theorem dX1_turnMeeting_20 : decode cX1_turnMeeting 20 = .ok (.iload_n 1, 1) := by decide +kernel
theorem dX1_turnMeeting_21 : decode cX1_turnMeeting 21 = .ok (.invokestatic 72, 3) := by decide +kernel
theorem dX1_turnMeeting_24 : decode cX1_turnMeeting 24 = .ok (.ixor, 1) := by decide +kernel
theorem dX1_turnMeeting_25 : decode cX1_turnMeeting 25 = .ok (.iastore, 1) := by decide +kernel
theorem dX1_turnMeeting_26 : decode cX1_turnMeeting 26 = .ok (.return_, 1) := by decide +kernel
theorem dX1_placeOf_0 : decode cX1_placeOf 0 = .ok (.iconst 0, 1) := by decide +kernel
theorem dX1_placeOf_1 : decode cX1_placeOf 1 = .ok (.istore_n 2, 1) := by decide +kernel
theorem dX1_placeOf_2 : decode cX1_placeOf 2 = .ok (.iload_n 2, 1) := by decide +kernel
theorem dX1_placeOf_3 : decode cX1_placeOf 3 = .ok (.aload_n 0, 1) := by decide +kernel
theorem dX1_placeOf_4 : decode cX1_placeOf 4 = .ok (.getfield 24, 3) := by decide +kernel
theorem dX1_placeOf_7 : decode cX1_placeOf 7 = .ok (.iconst 1, 1) := by decide +kernel
theorem dX1_placeOf_8 : decode cX1_placeOf 8 = .ok (.isub, 1) := by decide +kernel
theorem dX1_placeOf_9 : decode cX1_placeOf 9 = .ok (.if_icmp .ge 19, 3) := by decide +kernel
theorem dX1_placeOf_12 : decode cX1_placeOf 12 = .ok (.aload_n 0, 1) := by decide +kernel
theorem dX1_placeOf_13 : decode cX1_placeOf 13 = .ok (.getfield 18, 3) := by decide +kernel
theorem dX1_placeOf_16 : decode cX1_placeOf 16 = .ok (.iload_n 2, 1) := by decide +kernel
theorem dX1_placeOf_17 : decode cX1_placeOf 17 = .ok (.iaload, 1) := by decide +kernel
theorem dX1_placeOf_18 : decode cX1_placeOf 18 = .ok (.iload_n 1, 1) := by decide +kernel
theorem dX1_placeOf_19 : decode cX1_placeOf 19 = .ok (.if_icmp .eq 9, 3) := by decide +kernel
theorem dX1_placeOf_22 : decode cX1_placeOf 22 = .ok (.iinc 2 1, 3) := by decide +kernel
theorem dX1_placeOf_25 : decode cX1_placeOf 25 = .ok (.goto (-23), 3) := by decide +kernel
theorem dX1_placeOf_28 : decode cX1_placeOf 28 = .ok (.iload_n 2, 1) := by decide +kernel
theorem dX1_placeOf_29 : decode cX1_placeOf 29 = .ok (.ireturn, 1) := by decide +kernel
theorem dX1_sideToGo_0 : decode cX1_sideToGo 0 = .ok (.iload_n 1, 1) := by decide +kernel
theorem dX1_sideToGo_1 : decode cX1_sideToGo 1 = .ok (.iconst 1, 1) := by decide +kernel
theorem dX1_sideToGo_2 : decode cX1_sideToGo 2 = .ok (.iadd, 1) := by decide +kernel
theorem dX1_sideToGo_3 : decode cX1_sideToGo 3 = .ok (.aload_n 0, 1) := by decide +kernel
theorem dX1_sideToGo_4 : decode cX1_sideToGo 4 = .ok (.getfield 24, 3) := by decide +kernel
theorem dX1_sideToGo_7 : decode cX1_sideToGo 7 = .ok (.if_icmp .ge 26, 3) := by decide +kernel
theorem dX1_sideToGo_10 : decode cX1_sideToGo 10 = .ok (.aload_n 0, 1) := by decide +kernel
theorem dX1_sideToGo_11 : decode cX1_sideToGo 11 = .ok (.aload_n 0, 1) := by decide +kernel
theorem dX1_sideToGo_12 : decode cX1_sideToGo 12 = .ok (.getfield 18, 3) := by decide +kernel
theorem dX1_sideToGo_15 : decode cX1_sideToGo 15 = .ok (.iload_n 1, 1) := by decide +kernel
theorem dX1_sideToGo_16 : decode cX1_sideToGo 16 = .ok (.iconst 1, 1) := by decide +kernel
theorem dX1_sideToGo_17 : decode cX1_sideToGo 17 = .ok (.iadd, 1) := by decide +kernel
theorem dX1_sideToGo_18 : decode cX1_sideToGo 18 = .ok (.iaload, 1) := by decide +kernel
theorem dX1_sideToGo_19 : decode cX1_sideToGo 19 = .ok (.aload_n 0, 1) := by decide +kernel
theorem dX1_sideToGo_20 : decode cX1_sideToGo 20 = .ok (.getfield 18, 3) := by decide +kernel
theorem dX1_sideToGo_23 : decode cX1_sideToGo 23 = .ok (.iload_n 1, 1) := by decide +kernel
theorem dX1_sideToGo_24 : decode cX1_sideToGo 24 = .ok (.iaload, 1) := by decide +kernel
theorem dX1_sideToGo_25 : decode cX1_sideToGo 25 = .ok (.invokevirtual 65, 3) := by decide +kernel
theorem dX1_sideToGo_28 : decode cX1_sideToGo 28 = .ok (.ifCond .eq 5, 3) := by decide +kernel
theorem dX1_sideToGo_31 : decode cX1_sideToGo 31 = .ok (.iconst 1, 1) := by decide +kernel
theorem dX1_sideToGo_32 : decode cX1_sideToGo 32 = .ok (.ireturn, 1) := by decide +kernel
theorem dX1_sideToGo_33 : decode cX1_sideToGo 33 = .ok (.iload_n 1, 1) := by decide +kernel
theorem dX1_sideToGo_34 : decode cX1_sideToGo 34 = .ok (.ifCond .le 26, 3) := by decide +kernel
theorem dX1_sideToGo_37 : decode cX1_sideToGo 37 = .ok (.aload_n 0, 1) := by decide +kernel
theorem dX1_sideToGo_38 : decode cX1_sideToGo 38 = .ok (.aload_n 0, 1) := by decide +kernel
theorem dX1_sideToGo_39 : decode cX1_sideToGo 39 = .ok (.getfield 18, 3) := by decide +kernel
theorem dX1_sideToGo_42 : decode cX1_sideToGo 42 = .ok (.iload_n 1, 1) := by decide +kernel
theorem dX1_sideToGo_43 : decode cX1_sideToGo 43 = .ok (.iaload, 1) := by decide +kernel
theorem dX1_sideToGo_44 : decode cX1_sideToGo 44 = .ok (.aload_n 0, 1) := by decide +kernel
theorem dX1_sideToGo_45 : decode cX1_sideToGo 45 = .ok (.getfield 18, 3) := by decide +kernel
theorem dX1_sideToGo_48 : decode cX1_sideToGo 48 = .ok (.iload_n 1, 1) := by decide +kernel
theorem dX1_sideToGo_49 : decode cX1_sideToGo 49 = .ok (.iconst 1, 1) := by decide +kernel
theorem dX1_sideToGo_50 : decode cX1_sideToGo 50 = .ok (.isub, 1) := by decide +kernel
theorem dX1_sideToGo_51 : decode cX1_sideToGo 51 = .ok (.iaload, 1) := by decide +kernel
theorem dX1_sideToGo_52 : decode cX1_sideToGo 52 = .ok (.invokevirtual 65, 3) := by decide +kernel
theorem dX1_sideToGo_55 : decode cX1_sideToGo 55 = .ok (.ifCond .eq 5, 3) := by decide +kernel
theorem dX1_sideToGo_58 : decode cX1_sideToGo 58 = .ok (.iconst (-1), 1) := by decide +kernel
theorem dX1_sideToGo_59 : decode cX1_sideToGo 59 = .ok (.ireturn, 1) := by decide +kernel
theorem dX1_sideToGo_60 : decode cX1_sideToGo 60 = .ok (.iconst 0, 1) := by decide +kernel
theorem dX1_sideToGo_61 : decode cX1_sideToGo 61 = .ok (.ireturn, 1) := by decide +kernel
theorem dX1_swapWithNext_0 : decode cX1_swapWithNext 0 = .ok (.aload_n 0, 1) := by decide +kernel
theorem dX1_swapWithNext_1 : decode cX1_swapWithNext 1 = .ok (.getfield 18, 3) := by decide +kernel
theorem dX1_swapWithNext_4 : decode cX1_swapWithNext 4 = .ok (.iload_n 1, 1) := by decide +kernel
theorem dX1_swapWithNext_5 : decode cX1_swapWithNext 5 = .ok (.iaload, 1) := by decide +kernel
theorem dX1_swapWithNext_6 : decode cX1_swapWithNext 6 = .ok (.istore_n 2, 1) := by decide +kernel
theorem dX1_swapWithNext_7 : decode cX1_swapWithNext 7 = .ok (.aload_n 0, 1) := by decide +kernel
theorem dX1_swapWithNext_8 : decode cX1_swapWithNext 8 = .ok (.getfield 18, 3) := by decide +kernel
theorem dX1_swapWithNext_11 : decode cX1_swapWithNext 11 = .ok (.iload_n 1, 1) := by decide +kernel
theorem dX1_swapWithNext_12 : decode cX1_swapWithNext 12 = .ok (.aload_n 0, 1) := by decide +kernel
theorem dX1_swapWithNext_13 : decode cX1_swapWithNext 13 = .ok (.getfield 18, 3) := by decide +kernel
theorem dX1_swapWithNext_16 : decode cX1_swapWithNext 16 = .ok (.iload_n 1, 1) := by decide +kernel
theorem dX1_swapWithNext_17 : decode cX1_swapWithNext 17 = .ok (.iconst 1, 1) := by decide +kernel
theorem dX1_swapWithNext_18 : decode cX1_swapWithNext 18 = .ok (.iadd, 1) := by decide +kernel
theorem dX1_swapWithNext_19 : decode cX1_swapWithNext 19 = .ok (.iaload, 1) := by decide +kernel
theorem dX1_swapWithNext_20 : decode cX1_swapWithNext 20 = .ok (.iastore, 1) := by decide +kernel
theorem dX1_swapWithNext_21 : decode cX1_swapWithNext 21 = .ok (.aload_n 0, 1) := by decide +kernel
theorem dX1_swapWithNext_22 : decode cX1_swapWithNext 22 = .ok (.getfield 18, 3) := by decide +kernel
theorem dX1_swapWithNext_25 : decode cX1_swapWithNext 25 = .ok (.iload_n 1, 1) := by decide +kernel
theorem dX1_swapWithNext_26 : decode cX1_swapWithNext 26 = .ok (.iconst 1, 1) := by decide +kernel
theorem dX1_swapWithNext_27 : decode cX1_swapWithNext 27 = .ok (.iadd, 1) := by decide +kernel
theorem dX1_swapWithNext_28 : decode cX1_swapWithNext 28 = .ok (.iload_n 2, 1) := by decide +kernel
theorem dX1_swapWithNext_29 : decode cX1_swapWithNext 29 = .ok (.iastore, 1) := by decide +kernel
theorem dX1_swapWithNext_30 : decode cX1_swapWithNext 30 = .ok (.return_, 1) := by decide +kernel
theorem dX1_room_0 : decode cX1_room 0 = .ok (.iload_n 2, 1) := by decide +kernel
theorem dX1_room_1 : decode cX1_room 1 = .ok (.ifCond .le 16, 3) := by decide +kernel
theorem dX1_room_4 : decode cX1_room 4 = .ok (.sipush 999, 3) := by decide +kernel
theorem dX1_room_7 : decode cX1_room 7 = .ok (.aload_n 0, 1) := by decide +kernel
theorem dX1_room_8 : decode cX1_room 8 = .ok (.getfield 15, 3) := by decide +kernel
theorem dX1_room_11 : decode cX1_room 11 = .ok (.iload_n 1, 1) := by decide +kernel
theorem dX1_room_12 : decode cX1_room 12 = .ok (.iaload, 1) := by decide +kernel
theorem dX1_room_13 : decode cX1_room 13 = .ok (.isub, 1) := by decide +kernel
theorem dX1_room_14 : decode cX1_room 14 = .ok (.goto 13, 3) := by decide +kernel
theorem dX1_room_17 : decode cX1_room 17 = .ok (.aload_n 0, 1) := by decide +kernel
theorem dX1_room_18 : decode cX1_room 18 = .ok (.getfield 9, 3) := by decide +kernel
theorem dX1_room_21 : decode cX1_room 21 = .ok (.iload_n 1, 1) := by decide +kernel
theorem dX1_room_22 : decode cX1_room 22 = .ok (.iaload, 1) := by decide +kernel
theorem dX1_room_23 : decode cX1_room 23 = .ok (.sipush 999, 3) := by decide +kernel
theorem dX1_room_26 : decode cX1_room 26 = .ok (.iadd, 1) := by decide +kernel
theorem dX1_room_27 : decode cX1_room 27 = .ok (.ireturn, 1) := by decide +kernel
theorem dX1_distanceToTurn_0 : decode cX1_distanceToTurn 0 = .ok (.aload_n 0, 1) := by decide +kernel
theorem dX1_distanceToTurn_1 : decode cX1_distanceToTurn 1 = .ok (.getfield 21, 3) := by decide +kernel
theorem dX1_distanceToTurn_4 : decode cX1_distanceToTurn 4 = .ok (.iload_n 1, 1) := by decide +kernel
theorem dX1_distanceToTurn_5 : decode cX1_distanceToTurn 5 = .ok (.iaload, 1) := by decide +kernel
theorem dX1_distanceToTurn_6 : decode cX1_distanceToTurn 6 = .ok (.iload_n 2, 1) := by decide +kernel
theorem dX1_distanceToTurn_7 : decode cX1_distanceToTurn 7 = .ok (.invokestatic 47, 3) := by decide +kernel
theorem dX1_distanceToTurn_10 : decode cX1_distanceToTurn 10 = .ok (.ifCond .eq 55, 3) := by decide +kernel
theorem dX1_distanceToTurn_13 : decode cX1_distanceToTurn 13 = .ok (.iload_n 3, 1) := by decide +kernel
theorem dX1_distanceToTurn_14 : decode cX1_distanceToTurn 14 = .ok (.ifCond .le 19, 3) := by decide +kernel
theorem dX1_distanceToTurn_17 : decode cX1_distanceToTurn 17 = .ok (.aload_n 0, 1) := by decide +kernel
theorem dX1_distanceToTurn_18 : decode cX1_distanceToTurn 18 = .ok (.getfield 15, 3) := by decide +kernel
theorem dX1_distanceToTurn_21 : decode cX1_distanceToTurn 21 = .ok (.iload_n 2, 1) := by decide +kernel
theorem dX1_distanceToTurn_22 : decode cX1_distanceToTurn 22 = .ok (.iaload, 1) := by decide +kernel
theorem dX1_distanceToTurn_23 : decode cX1_distanceToTurn 23 = .ok (.aload_n 0, 1) := by decide +kernel
theorem dX1_distanceToTurn_24 : decode cX1_distanceToTurn 24 = .ok (.getfield 9, 3) := by decide +kernel
theorem dX1_distanceToTurn_27 : decode cX1_distanceToTurn 27 = .ok (.iload_n 1, 1) := by decide +kernel
theorem dX1_distanceToTurn_28 : decode cX1_distanceToTurn 28 = .ok (.iaload, 1) := by decide +kernel
theorem dX1_distanceToTurn_29 : decode cX1_distanceToTurn 29 = .ok (.isub, 1) := by decide +kernel
theorem dX1_distanceToTurn_30 : decode cX1_distanceToTurn 30 = .ok (.goto 16, 3) := by decide +kernel
theorem dX1_distanceToTurn_33 : decode cX1_distanceToTurn 33 = .ok (.aload_n 0, 1) := by decide +kernel
theorem dX1_distanceToTurn_34 : decode cX1_distanceToTurn 34 = .ok (.getfield 15, 3) := by decide +kernel
theorem dX1_distanceToTurn_37 : decode cX1_distanceToTurn 37 = .ok (.iload_n 1, 1) := by decide +kernel
theorem dX1_distanceToTurn_38 : decode cX1_distanceToTurn 38 = .ok (.iaload, 1) := by decide +kernel
theorem dX1_distanceToTurn_39 : decode cX1_distanceToTurn 39 = .ok (.aload_n 0, 1) := by decide +kernel
theorem dX1_distanceToTurn_40 : decode cX1_distanceToTurn 40 = .ok (.getfield 9, 3) := by decide +kernel
theorem dX1_distanceToTurn_43 : decode cX1_distanceToTurn 43 = .ok (.iload_n 2, 1) := by decide +kernel
theorem dX1_distanceToTurn_44 : decode cX1_distanceToTurn 44 = .ok (.iaload, 1) := by decide +kernel
theorem dX1_distanceToTurn_45 : decode cX1_distanceToTurn 45 = .ok (.isub, 1) := by decide +kernel
theorem dX1_distanceToTurn_46 : decode cX1_distanceToTurn 46 = .ok (.istore 4, 2) := by decide +kernel
theorem dX1_distanceToTurn_48 : decode cX1_distanceToTurn 48 = .ok (.aload_n 0, 1) := by decide +kernel
theorem dX1_distanceToTurn_49 : decode cX1_distanceToTurn 49 = .ok (.getfield 28, 3) := by decide +kernel
theorem dX1_distanceToTurn_52 : decode cX1_distanceToTurn 52 = .ok (.ifCond .eq 10, 3) := by decide +kernel
theorem dX1_distanceToTurn_55 : decode cX1_distanceToTurn 55 = .ok (.iload 4, 2) := by decide +kernel
theorem dX1_distanceToTurn_57 : decode cX1_distanceToTurn 57 = .ok (.iconst 1, 1) := by decide +kernel
theorem dX1_distanceToTurn_58 : decode cX1_distanceToTurn 58 = .ok (.iadd, 1) := by decide +kernel
theorem dX1_distanceToTurn_59 : decode cX1_distanceToTurn 59 = .ok (.goto 5, 3) := by decide +kernel
theorem dX1_distanceToTurn_62 : decode cX1_distanceToTurn 62 = .ok (.iload 4, 2) := by decide +kernel
theorem dX1_distanceToTurn_64 : decode cX1_distanceToTurn 64 = .ok (.ireturn, 1) := by decide +kernel
theorem dX1_distanceToTurn_65 : decode cX1_distanceToTurn 65 = .ok (.iload_n 3, 1) := by decide +kernel
theorem dX1_distanceToTurn_66 : decode cX1_distanceToTurn 66 = .ok (.ifCond .le 19, 3) := by decide +kernel
theorem dX1_distanceToTurn_69 : decode cX1_distanceToTurn 69 = .ok (.aload_n 0, 1) := by decide +kernel
theorem dX1_distanceToTurn_70 : decode cX1_distanceToTurn 70 = .ok (.getfield 9, 3) := by decide +kernel
theorem dX1_distanceToTurn_73 : decode cX1_distanceToTurn 73 = .ok (.iload_n 2, 1) := by decide +kernel
theorem dX1_distanceToTurn_74 : decode cX1_distanceToTurn 74 = .ok (.iaload, 1) := by decide +kernel
theorem dX1_distanceToTurn_75 : decode cX1_distanceToTurn 75 = .ok (.aload_n 0, 1) := by decide +kernel
theorem dX1_distanceToTurn_76 : decode cX1_distanceToTurn 76 = .ok (.getfield 15, 3) := by decide +kernel
theorem dX1_distanceToTurn_79 : decode cX1_distanceToTurn 79 = .ok (.iload_n 1, 1) := by decide +kernel
theorem dX1_distanceToTurn_80 : decode cX1_distanceToTurn 80 = .ok (.iaload, 1) := by decide +kernel
theorem dX1_distanceToTurn_81 : decode cX1_distanceToTurn 81 = .ok (.isub, 1) := by decide +kernel
theorem dX1_distanceToTurn_82 : decode cX1_distanceToTurn 82 = .ok (.goto 16, 3) := by decide +kernel
theorem dX1_distanceToTurn_85 : decode cX1_distanceToTurn 85 = .ok (.aload_n 0, 1) := by decide +kernel
theorem dX1_distanceToTurn_86 : decode cX1_distanceToTurn 86 = .ok (.getfield 9, 3) := by decide +kernel
theorem dX1_distanceToTurn_89 : decode cX1_distanceToTurn 89 = .ok (.iload_n 1, 1) := by decide +kernel
theorem dX1_distanceToTurn_90 : decode cX1_distanceToTurn 90 = .ok (.iaload, 1) := by decide +kernel
theorem dX1_distanceToTurn_91 : decode cX1_distanceToTurn 91 = .ok (.aload_n 0, 1) := by decide +kernel
theorem dX1_distanceToTurn_92 : decode cX1_distanceToTurn 92 = .ok (.getfield 15, 3) := by decide +kernel
theorem dX1_distanceToTurn_95 : decode cX1_distanceToTurn 95 = .ok (.iload_n 2, 1) := by decide +kernel
theorem dX1_distanceToTurn_96 : decode cX1_distanceToTurn 96 = .ok (.iaload, 1) := by decide +kernel
theorem dX1_distanceToTurn_97 : decode cX1_distanceToTurn 97 = .ok (.isub, 1) := by decide +kernel
theorem dX1_distanceToTurn_98 : decode cX1_distanceToTurn 98 = .ok (.istore 4, 2) := by decide +kernel
theorem dX1_distanceToTurn_100 : decode cX1_distanceToTurn 100 = .ok (.aload_n 0, 1) := by decide +kernel
theorem dX1_distanceToTurn_101 : decode cX1_distanceToTurn 101 = .ok (.getfield 28, 3) := by decide +kernel
theorem dX1_distanceToTurn_104 : decode cX1_distanceToTurn 104 = .ok (.ifCond .eq 8, 3) := by decide +kernel
theorem dX1_distanceToTurn_107 : decode cX1_distanceToTurn 107 = .ok (.iload 4, 2) := by decide +kernel
theorem dX1_distanceToTurn_109 : decode cX1_distanceToTurn 109 = .ok (.goto 7, 3) := by decide +kernel
theorem dX1_distanceToTurn_112 : decode cX1_distanceToTurn 112 = .ok (.iload 4, 2) := by decide +kernel
theorem dX1_distanceToTurn_114 : decode cX1_distanceToTurn 114 = .ok (.iconst 1, 1) := by decide +kernel
theorem dX1_distanceToTurn_115 : decode cX1_distanceToTurn 115 = .ok (.iadd, 1) := by decide +kernel
theorem dX1_distanceToTurn_116 : decode cX1_distanceToTurn 116 = .ok (.ireturn, 1) := by decide +kernel
theorem dX2_init_0 : decode cX2_init 0 = .ok (.aload_n 0, 1) := by decide +kernel
theorem dX2_init_1 : decode cX2_init 1 = .ok (.invokespecial 5, 3) := by decide +kernel
theorem dX2_init_4 : decode cX2_init 4 = .ok (.aload_n 0, 1) := by decide +kernel
theorem dX2_init_5 : decode cX2_init 5 = .ok (.bipush 60, 2) := by decide +kernel
theorem dX2_init_7 : decode cX2_init 7 = .ok (.newarray .int, 2) := by decide +kernel
theorem dX2_init_9 : decode cX2_init 9 = .ok (.putfield 11, 3) := by decide +kernel
theorem dX2_init_12 : decode cX2_init 12 = .ok (.aload_n 0, 1) := by decide +kernel
theorem dX2_init_13 : decode cX2_init 13 = .ok (.bipush 24, 2) := by decide +kernel
theorem dX2_init_15 : decode cX2_init 15 = .ok (.newarray .int, 2) := by decide +kernel
theorem dX2_init_17 : decode cX2_init 17 = .ok (.putfield 15, 3) := by decide +kernel
theorem dX2_init_20 : decode cX2_init 20 = .ok (.aload_n 0, 1) := by decide +kernel
theorem dX2_init_21 : decode cX2_init 21 = .ok (.iconst 0, 1) := by decide +kernel
theorem dX2_init_22 : decode cX2_init 22 = .ok (.putfield 18, 3) := by decide +kernel
theorem dX2_init_25 : decode cX2_init 25 = .ok (.aload_n 0, 1) := by decide +kernel
theorem dX2_init_26 : decode cX2_init 26 = .ok (.invokevirtual 22, 3) := by decide +kernel
theorem dX2_init_29 : decode cX2_init 29 = .ok (.return_, 1) := by decide +kernel
theorem dX2_append_0 : decode cX2_append 0 = .ok (.aload_n 0, 1) := by decide +kernel
theorem dX2_append_1 : decode cX2_append 1 = .ok (.getfield 18, 3) := by decide +kernel
theorem dX2_append_4 : decode cX2_append 4 = .ok (.bipush 60, 2) := by decide +kernel
theorem dX2_append_6 : decode cX2_append 6 = .ok (.if_icmp .lt 5, 3) := by decide +kernel
theorem dX2_append_9 : decode cX2_append 9 = .ok (.iconst 0, 1) := by decide +kernel
theorem dX2_append_10 : decode cX2_append 10 = .ok (.ireturn, 1) := by decide +kernel
theorem dX2_append_11 : decode cX2_append 11 = .ok (.aload_n 0, 1) := by decide +kernel
theorem dX2_append_12 : decode cX2_append 12 = .ok (.getfield 11, 3) := by decide +kernel
theorem dX2_append_15 : decode cX2_append 15 = .ok (.aload_n 0, 1) := by decide +kernel
theorem dX2_append_16 : decode cX2_append 16 = .ok (.getfield 18, 3) := by decide +kernel
theorem dX2_append_19 : decode cX2_append 19 = .ok (.iload_n 1, 1) := by decide +kernel
theorem dX2_append_20 : decode cX2_append 20 = .ok (.iastore, 1) := by decide +kernel
theorem dX2_append_21 : decode cX2_append 21 = .ok (.aload_n 0, 1) := by decide +kernel
theorem dX2_append_22 : decode cX2_append 22 = .ok (.dup, 1) := by decide +kernel
theorem dX2_append_23 : decode cX2_append 23 = .ok (.getfield 18, 3) := by decide +kernel
theorem dX2_append_26 : decode cX2_append 26 = .ok (.iconst 1, 1) := by decide +kernel
theorem dX2_append_27 : decode cX2_append 27 = .ok (.iadd, 1) := by decide +kernel
theorem dX2_append_28 : decode cX2_append 28 = .ok (.putfield 18, 3) := by decide +kernel
theorem dX2_append_31 : decode cX2_append 31 = .ok (.iconst 1, 1) := by decide +kernel
theorem dX2_append_32 : decode cX2_append 32 = .ok (.ireturn, 1) := by decide +kernel
end
section
theorem dX2_clear_0 : decode cX2_clear 0 = .ok (.aload_n 0, 1) := by decide +kernel
theorem dX2_clear_1 : decode cX2_clear 1 = .ok (.iconst 0, 1) := by decide +kernel
theorem dX2_clear_2 : decode cX2_clear 2 = .ok (.putfield 18, 3) := by decide +kernel
theorem dX2_clear_5 : decode cX2_clear 5 = .ok (.return_, 1) := by decide +kernel
theorem dX2_firstWrong_0 : decode cX2_firstWrong 0 = .ok (.aload_n 0, 1) := by decide +kernel
theorem dX2_firstWrong_1 : decode cX2_firstWrong 1 = .ok (.invokevirtual 22, 3) := by decide +kernel
theorem dX2_firstWrong_4 : decode cX2_firstWrong 4 = .ok (.iconst 0, 1) := by decide +kernel
theorem dX2_firstWrong_5 : decode cX2_firstWrong 5 = .ok (.istore_n 1, 1) := by decide +kernel
theorem dX2_firstWrong_6 : decode cX2_firstWrong 6 = .ok (.iload_n 1, 1) := by decide +kernel
theorem dX2_firstWrong_7 : decode cX2_firstWrong 7 = .ok (.aload_n 0, 1) := by decide +kernel
theorem dX2_firstWrong_8 : decode cX2_firstWrong 8 = .ok (.getfield 18, 3) := by decide +kernel
theorem dX2_firstWrong_11 : decode cX2_firstWrong 11 = .ok (.if_icmp .ge 24, 3) := by decide +kernel
theorem dX2_firstWrong_14 : decode cX2_firstWrong 14 = .ok (.aload_n 0, 1) := by decide +kernel
theorem dX2_firstWrong_15 : decode cX2_firstWrong 15 = .ok (.aload_n 0, 1) := by decide +kernel
theorem dX2_firstWrong_16 : decode cX2_firstWrong 16 = .ok (.getfield 11, 3) := by decide +kernel
theorem dX2_firstWrong_19 : decode cX2_firstWrong 19 = .ok (.iload_n 1, 1) := by decide +kernel
theorem dX2_firstWrong_20 : decode cX2_firstWrong 20 = .ok (.iaload, 1) := by decide +kernel
theorem dX2_firstWrong_21 : decode cX2_firstWrong 21 = .ok (.invokevirtual 25, 3) := by decide +kernel
theorem dX2_firstWrong_24 : decode cX2_firstWrong 24 = .ok (.ifCond .ne 5, 3) := by decide +kernel
theorem dX2_firstWrong_27 : decode cX2_firstWrong 27 = .ok (.iload_n 1, 1) := by decide +kernel
theorem dX2_firstWrong_28 : decode cX2_firstWrong 28 = .ok (.ireturn, 1) := by decide +kernel
theorem dX2_firstWrong_29 : decode cX2_firstWrong 29 = .ok (.iinc 1 1, 3) := by decide +kernel
theorem dX2_firstWrong_32 : decode cX2_firstWrong 32 = .ok (.goto (-26), 3) := by decide +kernel
theorem dX2_firstWrong_35 : decode cX2_firstWrong 35 = .ok (.aload_n 0, 1) := by decide +kernel
theorem dX2_firstWrong_36 : decode cX2_firstWrong 36 = .ok (.getfield 18, 3) := by decide +kernel
theorem dX2_firstWrong_39 : decode cX2_firstWrong 39 = .ok (.ireturn, 1) := by decide +kernel
theorem dX2_isBatch_0 : decode cX2_isBatch 0 = .ok (.aload_n 0, 1) := by decide +kernel
theorem dX2_isBatch_1 : decode cX2_isBatch 1 = .ok (.invokevirtual 29, 3) := by decide +kernel
theorem dX2_isBatch_4 : decode cX2_isBatch 4 = .ok (.aload_n 0, 1) := by decide +kernel
theorem dX2_isBatch_5 : decode cX2_isBatch 5 = .ok (.getfield 18, 3) := by decide +kernel
theorem dX2_isBatch_8 : decode cX2_isBatch 8 = .ok (.if_icmp .lt 10, 3) := by decide +kernel
theorem dX2_isBatch_11 : decode cX2_isBatch 11 = .ok (.aload_n 0, 1) := by decide +kernel
theorem dX2_isBatch_12 : decode cX2_isBatch 12 = .ok (.getfield 33, 3) := by decide +kernel
theorem dX2_isBatch_15 : decode cX2_isBatch 15 = .ok (.ifCond .ne 5, 3) := by decide +kernel
theorem dX2_isBatch_18 : decode cX2_isBatch 18 = .ok (.iconst 0, 1) := by decide +kernel
theorem dX2_isBatch_19 : decode cX2_isBatch 19 = .ok (.ireturn, 1) := by decide +kernel
theorem dX2_isBatch_20 : decode cX2_isBatch 20 = .ok (.aload_n 0, 1) := by decide +kernel
theorem dX2_isBatch_21 : decode cX2_isBatch 21 = .ok (.invokevirtual 36, 3) := by decide +kernel
theorem dX2_isBatch_24 : decode cX2_isBatch 24 = .ok (.aload_n 0, 1) := by decide +kernel
theorem dX2_isBatch_25 : decode cX2_isBatch 25 = .ok (.getfield 39, 3) := by decide +kernel
theorem dX2_isBatch_28 : decode cX2_isBatch 28 = .ok (.bipush 6, 2) := by decide +kernel
theorem dX2_isBatch_30 : decode cX2_isBatch 30 = .ok (.irem, 1) := by decide +kernel
theorem dX2_isBatch_31 : decode cX2_isBatch 31 = .ok (.ifCond .eq 5, 3) := by decide +kernel
theorem dX2_isBatch_34 : decode cX2_isBatch 34 = .ok (.iconst 0, 1) := by decide +kernel
theorem dX2_isBatch_35 : decode cX2_isBatch 35 = .ok (.ireturn, 1) := by decide +kernel
theorem dX2_isBatch_36 : decode cX2_isBatch 36 = .ok (.iconst 0, 1) := by decide +kernel
theorem dX2_isBatch_37 : decode cX2_isBatch 37 = .ok (.istore_n 1, 1) := by decide +kernel
theorem dX2_isBatch_38 : decode cX2_isBatch 38 = .ok (.iload_n 1, 1) := by decide +kernel
theorem dX2_isBatch_39 : decode cX2_isBatch 39 = .ok (.iconst 1, 1) := by decide +kernel
theorem dX2_isBatch_40 : decode cX2_isBatch 40 = .ok (.iadd, 1) := by decide +kernel
theorem dX2_isBatch_41 : decode cX2_isBatch 41 = .ok (.aload_n 0, 1) := by decide +kernel
theorem dX2_isBatch_42 : decode cX2_isBatch 42 = .ok (.getfield 39, 3) := by decide +kernel
theorem dX2_isBatch_45 : decode cX2_isBatch 45 = .ok (.if_icmp .ge 28, 3) := by decide +kernel
theorem dX2_isBatch_48 : decode cX2_isBatch 48 = .ok (.aload_n 0, 1) := by decide +kernel
theorem dX2_isBatch_49 : decode cX2_isBatch 49 = .ok (.getfield 15, 3) := by decide +kernel
theorem dX2_isBatch_52 : decode cX2_isBatch 52 = .ok (.iload_n 1, 1) := by decide +kernel
theorem dX2_isBatch_53 : decode cX2_isBatch 53 = .ok (.iaload, 1) := by decide +kernel
theorem dX2_isBatch_54 : decode cX2_isBatch 54 = .ok (.aload_n 0, 1) := by decide +kernel
theorem dX2_isBatch_55 : decode cX2_isBatch 55 = .ok (.getfield 15, 3) := by decide +kernel
theorem dX2_isBatch_58 : decode cX2_isBatch 58 = .ok (.iload_n 1, 1) := by decide +kernel
theorem dX2_isBatch_59 : decode cX2_isBatch 59 = .ok (.iconst 1, 1) := by decide +kernel
theorem dX2_isBatch_60 : decode cX2_isBatch 60 = .ok (.iadd, 1) := by decide +kernel
theorem dX2_isBatch_61 : decode cX2_isBatch 61 = .ok (.iaload, 1) := by decide +kernel
theorem dX2_isBatch_62 : decode cX2_isBatch 62 = .ok (.if_icmp .lt 5, 3) := by decide +kernel
theorem dX2_isBatch_65 : decode cX2_isBatch 65 = .ok (.iconst 0, 1) := by decide +kernel
theorem dX2_isBatch_66 : decode cX2_isBatch 66 = .ok (.ireturn, 1) := by decide +kernel
theorem dX2_isBatch_67 : decode cX2_isBatch 67 = .ok (.iinc 1 2, 3) := by decide +kernel
theorem dX2_isBatch_70 : decode cX2_isBatch 70 = .ok (.goto (-32), 3) := by decide +kernel
theorem dX2_isBatch_73 : decode cX2_isBatch 73 = .ok (.iconst 1, 1) := by decide +kernel
theorem dX2_isBatch_74 : decode cX2_isBatch 74 = .ok (.ireturn, 1) := by decide +kernel
theorem dX2_batchSize_0 : decode cX2_batchSize 0 = .ok (.aload_n 0, 1) := by decide +kernel
theorem dX2_batchSize_1 : decode cX2_batchSize 1 = .ok (.getfield 39, 3) := by decide +kernel
theorem dX2_batchSize_4 : decode cX2_batchSize 4 = .ok (.bipush 6, 2) := by decide +kernel
theorem dX2_batchSize_6 : decode cX2_batchSize 6 = .ok (.idiv, 1) := by decide +kernel
theorem dX2_batchSize_7 : decode cX2_batchSize 7 = .ok (.ireturn, 1) := by decide +kernel
theorem dX2_lowOf_0 : decode cX2_lowOf 0 = .ok (.aload_n 0, 1) := by decide +kernel
theorem dX2_lowOf_1 : decode cX2_lowOf 1 = .ok (.getfield 15, 3) := by decide +kernel
theorem dX2_lowOf_4 : decode cX2_lowOf 4 = .ok (.iload_n 1, 1) := by decide +kernel
theorem dX2_lowOf_5 : decode cX2_lowOf 5 = .ok (.bipush 6, 2) := by decide +kernel
theorem dX2_lowOf_7 : decode cX2_lowOf 7 = .ok (.imul, 1) := by decide +kernel
theorem dX2_lowOf_8 : decode cX2_lowOf 8 = .ok (.iconst 2, 1) := by decide +kernel
theorem dX2_lowOf_9 : decode cX2_lowOf 9 = .ok (.iload_n 2, 1) := by decide +kernel
theorem dX2_lowOf_10 : decode cX2_lowOf 10 = .ok (.imul, 1) := by decide +kernel
theorem dX2_lowOf_11 : decode cX2_lowOf 11 = .ok (.iadd, 1) := by decide +kernel
theorem dX2_lowOf_12 : decode cX2_lowOf 12 = .ok (.iaload, 1) := by decide +kernel
theorem dX2_lowOf_13 : decode cX2_lowOf 13 = .ok (.ireturn, 1) := by decide +kernel
theorem dX2_highOf_0 : decode cX2_highOf 0 = .ok (.aload_n 0, 1) := by decide +kernel
theorem dX2_highOf_1 : decode cX2_highOf 1 = .ok (.getfield 15, 3) := by decide +kernel
theorem dX2_highOf_4 : decode cX2_highOf 4 = .ok (.iload_n 1, 1) := by decide +kernel
theorem dX2_highOf_5 : decode cX2_highOf 5 = .ok (.bipush 6, 2) := by decide +kernel
theorem dX2_highOf_7 : decode cX2_highOf 7 = .ok (.imul, 1) := by decide +kernel
theorem dX2_highOf_8 : decode cX2_highOf 8 = .ok (.iconst 2, 1) := by decide +kernel
theorem dX2_highOf_9 : decode cX2_highOf 9 = .ok (.iload_n 2, 1) := by decide +kernel
theorem dX2_highOf_10 : decode cX2_highOf 10 = .ok (.imul, 1) := by decide +kernel
theorem dX2_highOf_11 : decode cX2_highOf 11 = .ok (.iadd, 1) := by decide +kernel
theorem dX2_highOf_12 : decode cX2_highOf 12 = .ok (.iconst 1, 1) := by decide +kernel
theorem dX2_highOf_13 : decode cX2_highOf 13 = .ok (.iadd, 1) := by decide +kernel
theorem dX2_highOf_14 : decode cX2_highOf 14 = .ok (.iaload, 1) := by decide +kernel
theorem dX2_highOf_15 : decode cX2_highOf 15 = .ok (.ireturn, 1) := by decide +kernel
theorem dX2_beginReading_0 : decode cX2_beginReading 0 = .ok (.aload_n 0, 1) := by decide +kernel
theorem dX2_beginReading_1 : decode cX2_beginReading 1 = .ok (.iconst 0, 1) := by decide +kernel
theorem dX2_beginReading_2 : decode cX2_beginReading 2 = .ok (.putfield 39, 3) := by decide +kernel
theorem dX2_beginReading_5 : decode cX2_beginReading 5 = .ok (.aload_n 0, 1) := by decide +kernel
theorem dX2_beginReading_6 : decode cX2_beginReading 6 = .ok (.invokevirtual 42, 3) := by decide +kernel
theorem dX2_beginReading_9 : decode cX2_beginReading 9 = .ok (.return_, 1) := by decide +kernel
theorem dX2_beginNumber_0 : decode cX2_beginNumber 0 = .ok (.aload_n 0, 1) := by decide +kernel
theorem dX2_beginNumber_1 : decode cX2_beginNumber 1 = .ok (.iconst 0, 1) := by decide +kernel
theorem dX2_beginNumber_2 : decode cX2_beginNumber 2 = .ok (.putfield 33, 3) := by decide +kernel
theorem dX2_beginNumber_5 : decode cX2_beginNumber 5 = .ok (.aload_n 0, 1) := by decide +kernel
theorem dX2_beginNumber_6 : decode cX2_beginNumber 6 = .ok (.iconst 0, 1) := by decide +kernel
theorem dX2_beginNumber_7 : decode cX2_beginNumber 7 = .ok (.putfield 45, 3) := by decide +kernel
theorem dX2_beginNumber_10 : decode cX2_beginNumber 10 = .ok (.aload_n 0, 1) := by decide +kernel
theorem dX2_beginNumber_11 : decode cX2_beginNumber 11 = .ok (.iconst 0, 1) := by decide +kernel
theorem dX2_beginNumber_12 : decode cX2_beginNumber 12 = .ok (.putfield 48, 3) := by decide +kernel
theorem dX2_beginNumber_15 : decode cX2_beginNumber 15 = .ok (.return_, 1) := by decide +kernel
theorem dX2_endNumber_0 : decode cX2_endNumber 0 = .ok (.aload_n 0, 1) := by decide +kernel
theorem dX2_endNumber_1 : decode cX2_endNumber 1 = .ok (.getfield 39, 3) := by decide +kernel
theorem dX2_endNumber_4 : decode cX2_endNumber 4 = .ok (.bipush 24, 2) := by decide +kernel
theorem dX2_endNumber_6 : decode cX2_endNumber 6 = .ok (.if_icmp .ge 41, 3) := by decide +kernel
theorem dX2_endNumber_9 : decode cX2_endNumber 9 = .ok (.aload_n 0, 1) := by decide +kernel
theorem dX2_endNumber_10 : decode cX2_endNumber 10 = .ok (.getfield 15, 3) := by decide +kernel
theorem dX2_endNumber_13 : decode cX2_endNumber 13 = .ok (.aload_n 0, 1) := by decide +kernel
theorem dX2_endNumber_14 : decode cX2_endNumber 14 = .ok (.getfield 39, 3) := by decide +kernel
theorem dX2_endNumber_17 : decode cX2_endNumber 17 = .ok (.aload_n 0, 1) := by decide +kernel
theorem dX2_endNumber_18 : decode cX2_endNumber 18 = .ok (.getfield 48, 3) := by decide +kernel
theorem dX2_endNumber_21 : decode cX2_endNumber 21 = .ok (.ifCond .eq 11, 3) := by decide +kernel
theorem dX2_endNumber_24 : decode cX2_endNumber 24 = .ok (.aload_n 0, 1) := by decide +kernel
theorem dX2_endNumber_25 : decode cX2_endNumber 25 = .ok (.getfield 45, 3) := by decide +kernel
theorem dX2_endNumber_28 : decode cX2_endNumber 28 = .ok (.ineg, 1) := by decide +kernel
theorem dX2_endNumber_29 : decode cX2_endNumber 29 = .ok (.goto 7, 3) := by decide +kernel
theorem dX2_endNumber_32 : decode cX2_endNumber 32 = .ok (.aload_n 0, 1) := by decide +kernel
theorem dX2_endNumber_33 : decode cX2_endNumber 33 = .ok (.getfield 45, 3) := by decide +kernel
theorem dX2_endNumber_36 : decode cX2_endNumber 36 = .ok (.iastore, 1) := by decide +kernel
theorem dX2_endNumber_37 : decode cX2_endNumber 37 = .ok (.aload_n 0, 1) := by decide +kernel
theorem dX2_endNumber_38 : decode cX2_endNumber 38 = .ok (.dup, 1) := by decide +kernel
theorem dX2_endNumber_39 : decode cX2_endNumber 39 = .ok (.getfield 39, 3) := by decide +kernel
theorem dX2_endNumber_42 : decode cX2_endNumber 42 = .ok (.iconst 1, 1) := by decide +kernel
theorem dX2_endNumber_43 : decode cX2_endNumber 43 = .ok (.iadd, 1) := by decide +kernel
theorem dX2_endNumber_44 : decode cX2_endNumber 44 = .ok (.putfield 39, 3) := by decide +kernel
theorem dX2_endNumber_47 : decode cX2_endNumber 47 = .ok (.aload_n 0, 1) := by decide +kernel
theorem dX2_endNumber_48 : decode cX2_endNumber 48 = .ok (.invokevirtual 42, 3) := by decide +kernel
theorem dX2_endNumber_51 : decode cX2_endNumber 51 = .ok (.return_, 1) := by decide +kernel
theorem dX2_takes_0 : decode cX2_takes 0 = .ok (.iload_n 1, 1) := by decide +kernel
theorem dX2_takes_1 : decode cX2_takes 1 = .ok (.bipush 45, 2) := by decide +kernel
theorem dX2_takes_3 : decode cX2_takes 3 = .ok (.if_icmp .ne 8, 3) := by decide +kernel
theorem dX2_takes_6 : decode cX2_takes 6 = .ok (.aload_n 0, 1) := by decide +kernel
theorem dX2_takes_7 : decode cX2_takes 7 = .ok (.invokevirtual 52, 3) := by decide +kernel
theorem dX2_takes_10 : decode cX2_takes 10 = .ok (.ireturn, 1) := by decide +kernel
theorem dX2_takes_11 : decode cX2_takes 11 = .ok (.iload_n 1, 1) := by decide +kernel
theorem dX2_takes_12 : decode cX2_takes 12 = .ok (.bipush 48, 2) := by decide +kernel
theorem dX2_takes_14 : decode cX2_takes 14 = .ok (.if_icmp .lt 18, 3) := by decide +kernel
theorem dX2_takes_17 : decode cX2_takes 17 = .ok (.iload_n 1, 1) := by decide +kernel
theorem dX2_takes_18 : decode cX2_takes 18 = .ok (.bipush 57, 2) := by decide +kernel
theorem dX2_takes_20 : decode cX2_takes 20 = .ok (.if_icmp .gt 12, 3) := by decide +kernel
theorem dX2_takes_23 : decode cX2_takes 23 = .ok (.aload_n 0, 1) := by decide +kernel
theorem dX2_takes_24 : decode cX2_takes 24 = .ok (.iload_n 1, 1) := by decide +kernel
theorem dX2_takes_25 : decode cX2_takes 25 = .ok (.bipush 48, 2) := by decide +kernel
theorem dX2_takes_27 : decode cX2_takes 27 = .ok (.isub, 1) := by decide +kernel
theorem dX2_takes_28 : decode cX2_takes 28 = .ok (.invokevirtual 56, 3) := by decide +kernel
theorem dX2_takes_31 : decode cX2_takes 31 = .ok (.ireturn, 1) := by decide +kernel
theorem dX2_takes_32 : decode cX2_takes 32 = .ok (.aload_n 0, 1) := by decide +kernel
theorem dX2_takes_33 : decode cX2_takes 33 = .ok (.iload_n 1, 1) := by decide +kernel
theorem dX2_takes_34 : decode cX2_takes 34 = .ok (.invokevirtual 59, 3) := by decide +kernel
theorem dX2_takes_37 : decode cX2_takes 37 = .ok (.ireturn, 1) := by decide +kernel
theorem dX2_takesMinus_0 : decode cX2_takesMinus 0 = .ok (.aload_n 0, 1) := by decide +kernel
theorem dX2_takesMinus_1 : decode cX2_takesMinus 1 = .ok (.getfield 48, 3) := by decide +kernel
theorem dX2_takesMinus_4 : decode cX2_takesMinus 4 = .ok (.ifCond .ne 10, 3) := by decide +kernel
theorem dX2_takesMinus_7 : decode cX2_takesMinus 7 = .ok (.aload_n 0, 1) := by decide +kernel
theorem dX2_takesMinus_8 : decode cX2_takesMinus 8 = .ok (.getfield 33, 3) := by decide +kernel
theorem dX2_takesMinus_11 : decode cX2_takesMinus 11 = .ok (.ifCond .le 5, 3) := by decide +kernel
theorem dX2_takesMinus_14 : decode cX2_takesMinus 14 = .ok (.iconst 0, 1) := by decide +kernel
theorem dX2_takesMinus_15 : decode cX2_takesMinus 15 = .ok (.ireturn, 1) := by decide +kernel
theorem dX2_takesMinus_16 : decode cX2_takesMinus 16 = .ok (.aload_n 0, 1) := by decide +kernel
theorem dX2_takesMinus_17 : decode cX2_takesMinus 17 = .ok (.iconst 1, 1) := by decide +kernel
theorem dX2_takesMinus_18 : decode cX2_takesMinus 18 = .ok (.putfield 48, 3) := by decide +kernel
theorem dX2_takesMinus_21 : decode cX2_takesMinus 21 = .ok (.iconst 1, 1) := by decide +kernel
theorem dX2_takesMinus_22 : decode cX2_takesMinus 22 = .ok (.ireturn, 1) := by decide +kernel
theorem dX2_takesFigure_0 : decode cX2_takesFigure 0 = .ok (.aload_n 0, 1) := by decide +kernel
theorem dX2_takesFigure_1 : decode cX2_takesFigure 1 = .ok (.getfield 33, 3) := by decide +kernel
theorem dX2_takesFigure_4 : decode cX2_takesFigure 4 = .ok (.ifCond .le 14, 3) := by decide +kernel
theorem dX2_takesFigure_7 : decode cX2_takesFigure 7 = .ok (.aload_n 0, 1) := by decide +kernel
theorem dX2_takesFigure_8 : decode cX2_takesFigure 8 = .ok (.getfield 45, 3) := by decide +kernel
theorem dX2_takesFigure_11 : decode cX2_takesFigure 11 = .ok (.ifCond .ne 7, 3) := by decide +kernel
theorem dX2_takesFigure_14 : decode cX2_takesFigure 14 = .ok (.iconst 1, 1) := by decide +kernel
theorem dX2_takesFigure_15 : decode cX2_takesFigure 15 = .ok (.goto 4, 3) := by decide +kernel
theorem dX2_takesFigure_18 : decode cX2_takesFigure 18 = .ok (.iconst 0, 1) := by decide +kernel
theorem dX2_takesFigure_19 : decode cX2_takesFigure 19 = .ok (.istore_n 2, 1) := by decide +kernel
theorem dX2_takesFigure_20 : decode cX2_takesFigure 20 = .ok (.aload_n 0, 1) := by decide +kernel
theorem dX2_takesFigure_21 : decode cX2_takesFigure 21 = .ok (.getfield 48, 3) := by decide +kernel
theorem dX2_takesFigure_24 : decode cX2_takesFigure 24 = .ok (.ifCond .eq 18, 3) := by decide +kernel
theorem dX2_takesFigure_27 : decode cX2_takesFigure 27 = .ok (.aload_n 0, 1) := by decide +kernel
theorem dX2_takesFigure_28 : decode cX2_takesFigure 28 = .ok (.getfield 33, 3) := by decide +kernel
theorem dX2_takesFigure_31 : decode cX2_takesFigure 31 = .ok (.ifCond .ne 11, 3) := by decide +kernel
theorem dX2_takesFigure_34 : decode cX2_takesFigure 34 = .ok (.iload_n 1, 1) := by decide +kernel
theorem dX2_takesFigure_35 : decode cX2_takesFigure 35 = .ok (.ifCond .ne 7, 3) := by decide +kernel
theorem dX2_takesFigure_38 : decode cX2_takesFigure 38 = .ok (.iconst 1, 1) := by decide +kernel
theorem dX2_takesFigure_39 : decode cX2_takesFigure 39 = .ok (.goto 4, 3) := by decide +kernel
theorem dX2_takesFigure_42 : decode cX2_takesFigure 42 = .ok (.iconst 0, 1) := by decide +kernel
theorem dX2_takesFigure_43 : decode cX2_takesFigure 43 = .ok (.istore_n 3, 1) := by decide +kernel
theorem dX2_takesFigure_44 : decode cX2_takesFigure 44 = .ok (.bipush 10, 2) := by decide +kernel
theorem dX2_takesFigure_46 : decode cX2_takesFigure 46 = .ok (.aload_n 0, 1) := by decide +kernel
theorem dX2_takesFigure_47 : decode cX2_takesFigure 47 = .ok (.getfield 45, 3) := by decide +kernel
theorem dX2_takesFigure_50 : decode cX2_takesFigure 50 = .ok (.imul, 1) := by decide +kernel
theorem dX2_takesFigure_51 : decode cX2_takesFigure 51 = .ok (.iload_n 1, 1) := by decide +kernel
theorem dX2_takesFigure_52 : decode cX2_takesFigure 52 = .ok (.iadd, 1) := by decide +kernel
theorem dX2_takesFigure_53 : decode cX2_takesFigure 53 = .ok (.istore 4, 2) := by decide +kernel
theorem dX2_takesFigure_55 : decode cX2_takesFigure 55 = .ok (.iload_n 2, 1) := by decide +kernel
theorem dX2_takesFigure_56 : decode cX2_takesFigure 56 = .ok (.ifCond .ne 15, 3) := by decide +kernel
theorem dX2_takesFigure_59 : decode cX2_takesFigure 59 = .ok (.iload_n 3, 1) := by decide +kernel
theorem dX2_takesFigure_60 : decode cX2_takesFigure 60 = .ok (.ifCond .ne 11, 3) := by decide +kernel
theorem dX2_takesFigure_63 : decode cX2_takesFigure 63 = .ok (.iload 4, 2) := by decide +kernel
theorem dX2_takesFigure_65 : decode cX2_takesFigure 65 = .ok (.sipush 999, 3) := by decide +kernel
theorem dX2_takesFigure_68 : decode cX2_takesFigure 68 = .ok (.if_icmp .le 5, 3) := by decide +kernel
theorem dX2_takesFigure_71 : decode cX2_takesFigure 71 = .ok (.iconst 0, 1) := by decide +kernel
theorem dX2_takesFigure_72 : decode cX2_takesFigure 72 = .ok (.ireturn, 1) := by decide +kernel
theorem dX2_takesFigure_73 : decode cX2_takesFigure 73 = .ok (.aload_n 0, 1) := by decide +kernel
theorem dX2_takesFigure_74 : decode cX2_takesFigure 74 = .ok (.iload 4, 2) := by decide +kernel
theorem dX2_takesFigure_76 : decode cX2_takesFigure 76 = .ok (.putfield 45, 3) := by decide +kernel
theorem dX2_takesFigure_79 : decode cX2_takesFigure 79 = .ok (.aload_n 0, 1) := by decide +kernel
theorem dX2_takesFigure_80 : decode cX2_takesFigure 80 = .ok (.dup, 1) := by decide +kernel
theorem dX2_takesFigure_81 : decode cX2_takesFigure 81 = .ok (.getfield 33, 3) := by decide +kernel
theorem dX2_takesFigure_84 : decode cX2_takesFigure 84 = .ok (.iconst 1, 1) := by decide +kernel
theorem dX2_takesFigure_85 : decode cX2_takesFigure 85 = .ok (.iadd, 1) := by decide +kernel
theorem dX2_takesFigure_86 : decode cX2_takesFigure 86 = .ok (.putfield 33, 3) := by decide +kernel
theorem dX2_takesFigure_89 : decode cX2_takesFigure 89 = .ok (.iconst 1, 1) := by decide +kernel
theorem dX2_takesFigure_90 : decode cX2_takesFigure 90 = .ok (.ireturn, 1) := by decide +kernel
theorem dX2_takesMark_0 : decode cX2_takesMark 0 = .ok (.aload_n 0, 1) := by decide +kernel
theorem dX2_takesMark_1 : decode cX2_takesMark 1 = .ok (.getfield 33, 3) := by decide +kernel
theorem dX2_takesMark_4 : decode cX2_takesMark 4 = .ok (.ifCond .eq 11, 3) := by decide +kernel
theorem dX2_takesMark_7 : decode cX2_takesMark 7 = .ok (.iload_n 1, 1) := by decide +kernel
theorem dX2_takesMark_8 : decode cX2_takesMark 8 = .ok (.aload_n 0, 1) := by decide +kernel
theorem dX2_takesMark_9 : decode cX2_takesMark 9 = .ok (.invokevirtual 62, 3) := by decide +kernel
theorem dX2_takesMark_12 : decode cX2_takesMark 12 = .ok (.if_icmp .eq 5, 3) := by decide +kernel
theorem dX2_takesMark_15 : decode cX2_takesMark 15 = .ok (.iconst 0, 1) := by decide +kernel
theorem dX2_takesMark_16 : decode cX2_takesMark 16 = .ok (.ireturn, 1) := by decide +kernel
theorem dX2_takesMark_17 : decode cX2_takesMark 17 = .ok (.aload_n 0, 1) := by decide +kernel
theorem dX2_takesMark_18 : decode cX2_takesMark 18 = .ok (.invokevirtual 36, 3) := by decide +kernel
theorem dX2_takesMark_21 : decode cX2_takesMark 21 = .ok (.iconst 1, 1) := by decide +kernel
theorem dX2_takesMark_22 : decode cX2_takesMark 22 = .ok (.ireturn, 1) := by decide +kernel
theorem dX2_markDue_0 : decode cX2_markDue 0 = .ok (.aload_n 0, 1) := by decide +kernel
theorem dX2_markDue_1 : decode cX2_markDue 1 = .ok (.getfield 39, 3) := by decide +kernel
theorem dX2_markDue_4 : decode cX2_markDue 4 = .ok (.iconst 2, 1) := by decide +kernel
theorem dX2_markDue_5 : decode cX2_markDue 5 = .ok (.irem, 1) := by decide +kernel
theorem dX2_markDue_6 : decode cX2_markDue 6 = .ok (.ifCond .ne 6, 3) := by decide +kernel
theorem dX2_markDue_9 : decode cX2_markDue 9 = .ok (.bipush 58, 2) := by decide +kernel
theorem dX2_markDue_11 : decode cX2_markDue 11 = .ok (.ireturn, 1) := by decide +kernel
theorem dX2_markDue_12 : decode cX2_markDue 12 = .ok (.aload_n 0, 1) := by decide +kernel
theorem dX2_markDue_13 : decode cX2_markDue 13 = .ok (.getfield 39, 3) := by decide +kernel
theorem dX2_markDue_16 : decode cX2_markDue 16 = .ok (.iconst 1, 1) := by decide +kernel
theorem dX2_markDue_17 : decode cX2_markDue 17 = .ok (.iadd, 1) := by decide +kernel
theorem dX2_markDue_18 : decode cX2_markDue 18 = .ok (.bipush 6, 2) := by decide +kernel
theorem dX2_markDue_20 : decode cX2_markDue 20 = .ok (.irem, 1) := by decide +kernel
theorem dX2_markDue_21 : decode cX2_markDue 21 = .ok (.ifCond .eq 6, 3) := by decide +kernel
theorem dX2_markDue_24 : decode cX2_markDue 24 = .ok (.bipush 44, 2) := by decide +kernel
theorem dX2_markDue_26 : decode cX2_markDue 26 = .ok (.ireturn, 1) := by decide +kernel
theorem dX2_markDue_27 : decode cX2_markDue 27 = .ok (.aload_n 0, 1) := by decide +kernel
theorem dX2_markDue_28 : decode cX2_markDue 28 = .ok (.getfield 39, 3) := by decide +kernel
theorem dX2_markDue_31 : decode cX2_markDue 31 = .ok (.iconst 1, 1) := by decide +kernel
theorem dX2_markDue_32 : decode cX2_markDue 32 = .ok (.iadd, 1) := by decide +kernel
theorem dX2_markDue_33 : decode cX2_markDue 33 = .ok (.bipush 24, 2) := by decide +kernel
theorem dX2_markDue_35 : decode cX2_markDue 35 = .ok (.if_icmp .ge 8, 3) := by decide +kernel
theorem dX2_markDue_38 : decode cX2_markDue 38 = .ok (.bipush 59, 2) := by decide +kernel
theorem dX2_markDue_40 : decode cX2_markDue 40 = .ok (.goto 4, 3) := by decide +kernel
theorem dX2_markDue_43 : decode cX2_markDue 43 = .ok (.iconst 0, 1) := by decide +kernel
theorem dX2_markDue_44 : decode cX2_markDue 44 = .ok (.ireturn, 1) := by decide +kernel
theorem dX3_init_0 : decode cX3_init 0 = .ok (.aload_n 0, 1) := by decide +kernel
theorem dX3_init_1 : decode cX3_init 1 = .ok (.invokespecial 1, 3) := by decide +kernel
theorem dX3_init_4 : decode cX3_init 4 = .ok (.aload_n 0, 1) := by decide +kernel
theorem dX3_init_5 : decode cX3_init 5 = .ok (.new 7, 3) := by decide +kernel
theorem dX3_init_8 : decode cX3_init 8 = .ok (.dup, 1) := by decide +kernel
theorem dX3_init_9 : decode cX3_init 9 = .ok (.invokespecial 9, 3) := by decide +kernel
theorem dX3_init_12 : decode cX3_init 12 = .ok (.putfield 10, 3) := by decide +kernel
theorem dX3_init_15 : decode cX3_init 15 = .ok (.aload_n 0, 1) := by decide +kernel
theorem dX3_init_16 : decode cX3_init 16 = .ok (.new 16, 3) := by decide +kernel
theorem dX3_init_19 : decode cX3_init 19 = .ok (.dup, 1) := by decide +kernel
theorem dX3_init_20 : decode cX3_init 20 = .ok (.invokespecial 18, 3) := by decide +kernel
theorem dX3_init_23 : decode cX3_init 23 = .ok (.putfield 19, 3) := by decide +kernel
theorem dX3_init_26 : decode cX3_init 26 = .ok (.aload_n 0, 1) := by decide +kernel
theorem dX3_init_27 : decode cX3_init 27 = .ok (.new 16, 3) := by decide +kernel
theorem dX3_init_30 : decode cX3_init 30 = .ok (.dup, 1) := by decide +kernel
theorem dX3_init_31 : decode cX3_init 31 = .ok (.invokespecial 18, 3) := by decide +kernel
theorem dX3_init_34 : decode cX3_init 34 = .ok (.putfield 23, 3) := by decide +kernel
theorem dX3_init_37 : decode cX3_init 37 = .ok (.aload_n 0, 1) := by decide +kernel
theorem dX3_init_38 : decode cX3_init 38 = .ok (.new 16, 3) := by decide +kernel
theorem dX3_init_41 : decode cX3_init 41 = .ok (.dup, 1) := by decide +kernel
theorem dX3_init_42 : decode cX3_init 42 = .ok (.invokespecial 18, 3) := by decide +kernel
theorem dX3_init_45 : decode cX3_init 45 = .ok (.putfield 26, 3) := by decide +kernel
theorem dX3_init_48 : decode cX3_init 48 = .ok (.aload_n 0, 1) := by decide +kernel
theorem dX3_init_49 : decode cX3_init 49 = .ok (.new 29, 3) := by decide +kernel
theorem dX3_init_52 : decode cX3_init 52 = .ok (.dup, 1) := by decide +kernel
theorem dX3_init_53 : decode cX3_init 53 = .ok (.invokespecial 31, 3) := by decide +kernel
theorem dX3_init_56 : decode cX3_init 56 = .ok (.putfield 32, 3) := by decide +kernel
theorem dX3_init_59 : decode cX3_init 59 = .ok (.aload_n 0, 1) := by decide +kernel
theorem dX3_init_60 : decode cX3_init 60 = .ok (.bipush 12, 2) := by decide +kernel
theorem dX3_init_62 : decode cX3_init 62 = .ok (.newarray .int, 2) := by decide +kernel
theorem dX3_init_64 : decode cX3_init 64 = .ok (.putfield 36, 3) := by decide +kernel
theorem dX3_init_67 : decode cX3_init 67 = .ok (.aload_n 0, 1) := by decide +kernel
theorem dX3_init_68 : decode cX3_init 68 = .ok (.iconst 0, 1) := by decide +kernel
theorem dX3_init_69 : decode cX3_init 69 = .ok (.putfield 40, 3) := by decide +kernel
theorem dX3_init_72 : decode cX3_init 72 = .ok (.aload_n 0, 1) := by decide +kernel
theorem dX3_init_73 : decode cX3_init 73 = .ok (.iconst 0, 1) := by decide +kernel
theorem dX3_init_74 : decode cX3_init 74 = .ok (.putfield 44, 3) := by decide +kernel
theorem dX3_init_77 : decode cX3_init 77 = .ok (.return_, 1) := by decide +kernel
theorem dX3_letter_0 : decode cX3_letter 0 = .ok (.iload_n 1, 1) := by decide +kernel
theorem dX3_letter_1 : decode cX3_letter 1 = .ok (.bipush 32, 2) := by decide +kernel
theorem dX3_letter_3 : decode cX3_letter 3 = .ok (.if_icmp .lt 9, 3) := by decide +kernel
theorem dX3_letter_6 : decode cX3_letter 6 = .ok (.iload_n 1, 1) := by decide +kernel
theorem dX3_letter_7 : decode cX3_letter 7 = .ok (.bipush 126, 2) := by decide +kernel
theorem dX3_letter_9 : decode cX3_letter 9 = .ok (.if_icmp .le 7, 3) := by decide +kernel
theorem dX3_letter_12 : decode cX3_letter 12 = .ok (.sipush (-10003), 3) := by decide +kernel
theorem dX3_letter_15 : decode cX3_letter 15 = .ok (.ireturn, 1) := by decide +kernel
theorem dX3_letter_16 : decode cX3_letter 16 = .ok (.aload_n 0, 1) := by decide +kernel
theorem dX3_letter_17 : decode cX3_letter 17 = .ok (.getfield 10, 3) := by decide +kernel
theorem dX3_letter_20 : decode cX3_letter 20 = .ok (.iload_n 1, 1) := by decide +kernel
theorem dX3_letter_21 : decode cX3_letter 21 = .ok (.invokevirtual 48, 3) := by decide +kernel
theorem dX3_letter_24 : decode cX3_letter 24 = .ok (.ifCond .ne 7, 3) := by decide +kernel
theorem dX3_letter_27 : decode cX3_letter 27 = .ok (.sipush (-10005), 3) := by decide +kernel
theorem dX3_letter_30 : decode cX3_letter 30 = .ok (.ireturn, 1) := by decide +kernel
theorem dX3_letter_31 : decode cX3_letter 31 = .ok (.aload_n 0, 1) := by decide +kernel
theorem dX3_letter_32 : decode cX3_letter 32 = .ok (.getfield 10, 3) := by decide +kernel
theorem dX3_letter_35 : decode cX3_letter 35 = .ok (.getfield 52, 3) := by decide +kernel
theorem dX3_letter_38 : decode cX3_letter 38 = .ok (.ireturn, 1) := by decide +kernel
theorem dX3_blank_0 : decode cX3_blank 0 = .ok (.aload_n 0, 1) := by decide +kernel
theorem dX3_blank_1 : decode cX3_blank 1 = .ok (.getfield 10, 3) := by decide +kernel
theorem dX3_blank_4 : decode cX3_blank 4 = .ok (.getfield 52, 3) := by decide +kernel
theorem dX3_blank_7 : decode cX3_blank 7 = .ok (.istore_n 1, 1) := by decide +kernel
theorem dX3_blank_8 : decode cX3_blank 8 = .ok (.aload_n 0, 1) := by decide +kernel
theorem dX3_blank_9 : decode cX3_blank 9 = .ok (.getfield 10, 3) := by decide +kernel
theorem dX3_blank_12 : decode cX3_blank 12 = .ok (.invokevirtual 55, 3) := by decide +kernel
theorem dX3_blank_15 : decode cX3_blank 15 = .ok (.iload_n 1, 1) := by decide +kernel
theorem dX3_blank_16 : decode cX3_blank 16 = .ok (.ireturn, 1) := by decide +kernel
theorem dX3_fault_0 : decode cX3_fault 0 = .ok (.aload_n 0, 1) := by decide +kernel
theorem dX3_fault_1 : decode cX3_fault 1 = .ok (.getfield 10, 3) := by decide +kernel
theorem dX3_fault_4 : decode cX3_fault 4 = .ok (.invokevirtual 58, 3) := by decide +kernel
theorem dX3_fault_7 : decode cX3_fault 7 = .ok (.ireturn, 1) := by decide +kernel
theorem dX3_boxes_0 : decode cX3_boxes 0 = .ok (.aload_n 0, 1) := by decide +kernel
theorem dX3_boxes_1 : decode cX3_boxes 1 = .ok (.getfield 10, 3) := by decide +kernel
theorem dX3_boxes_4 : decode cX3_boxes 4 = .ok (.invokevirtual 62, 3) := by decide +kernel
theorem dX3_boxes_7 : decode cX3_boxes 7 = .ok (.ifCond .ne 7, 3) := by decide +kernel
theorem dX3_boxes_10 : decode cX3_boxes 10 = .ok (.sipush (-10004), 3) := by decide +kernel
theorem dX3_boxes_13 : decode cX3_boxes 13 = .ok (.ireturn, 1) := by decide +kernel
theorem dX3_boxes_14 : decode cX3_boxes 14 = .ok (.aload_n 0, 1) := by decide +kernel
theorem dX3_boxes_15 : decode cX3_boxes 15 = .ok (.getfield 10, 3) := by decide +kernel
theorem dX3_boxes_18 : decode cX3_boxes 18 = .ok (.invokevirtual 66, 3) := by decide +kernel
theorem dX3_boxes_21 : decode cX3_boxes 21 = .ok (.istore_n 1, 1) := by decide +kernel
theorem dX3_boxes_22 : decode cX3_boxes 22 = .ok (.aload_n 0, 1) := by decide +kernel
theorem dX3_boxes_23 : decode cX3_boxes 23 = .ok (.getfield 40, 3) := by decide +kernel
theorem dX3_boxes_26 : decode cX3_boxes 26 = .ok (.invokestatic 69, 3) := by decide +kernel
theorem dX3_boxes_29 : decode cX3_boxes 29 = .ok (.iload_n 1, 1) := by decide +kernel
theorem dX3_boxes_30 : decode cX3_boxes 30 = .ok (.iadd, 1) := by decide +kernel
theorem dX3_boxes_31 : decode cX3_boxes 31 = .ok (.bipush 12, 2) := by decide +kernel
theorem dX3_boxes_33 : decode cX3_boxes 33 = .ok (.if_icmp .le 7, 3) := by decide +kernel
theorem dX3_boxes_36 : decode cX3_boxes 36 = .ok (.sipush (-10005), 3) := by decide +kernel
theorem dX3_boxes_39 : decode cX3_boxes 39 = .ok (.ireturn, 1) := by decide +kernel
theorem dX3_boxes_40 : decode cX3_boxes 40 = .ok (.aload_n 0, 1) := by decide +kernel
theorem dX3_boxes_41 : decode cX3_boxes 41 = .ok (.getfield 32, 3) := by decide +kernel
theorem dX3_boxes_44 : decode cX3_boxes 44 = .ok (.invokevirtual 75, 3) := by decide +kernel
theorem dX3_boxes_47 : decode cX3_boxes 47 = .ok (.iconst 0, 1) := by decide +kernel
theorem dX3_boxes_48 : decode cX3_boxes 48 = .ok (.istore_n 2, 1) := by decide +kernel
theorem dX3_boxes_49 : decode cX3_boxes 49 = .ok (.iconst 0, 1) := by decide +kernel
theorem dX3_boxes_50 : decode cX3_boxes 50 = .ok (.istore_n 3, 1) := by decide +kernel
theorem dX3_boxes_51 : decode cX3_boxes 51 = .ok (.iload_n 3, 1) := by decide +kernel
theorem dX3_boxes_52 : decode cX3_boxes 52 = .ok (.bipush 12, 2) := by decide +kernel
theorem dX3_boxes_54 : decode cX3_boxes 54 = .ok (.if_icmp .ge 31, 3) := by decide +kernel
theorem dX3_boxes_57 : decode cX3_boxes 57 = .ok (.iload_n 2, 1) := by decide +kernel
theorem dX3_boxes_58 : decode cX3_boxes 58 = .ok (.iload_n 1, 1) := by decide +kernel
theorem dX3_boxes_59 : decode cX3_boxes 59 = .ok (.if_icmp .ge 26, 3) := by decide +kernel
theorem dX3_boxes_62 : decode cX3_boxes 62 = .ok (.aload_n 0, 1) := by decide +kernel
theorem dX3_boxes_63 : decode cX3_boxes 63 = .ok (.iload_n 3, 1) := by decide +kernel
theorem dX3_boxes_64 : decode cX3_boxes 64 = .ok (.invokevirtual 78, 3) := by decide +kernel
theorem dX3_boxes_67 : decode cX3_boxes 67 = .ok (.ifCond .ne 12, 3) := by decide +kernel
theorem dX3_boxes_70 : decode cX3_boxes 70 = .ok (.aload_n 0, 1) := by decide +kernel
theorem dX3_boxes_71 : decode cX3_boxes 71 = .ok (.iload_n 3, 1) := by decide +kernel
theorem dX3_boxes_72 : decode cX3_boxes 72 = .ok (.iload_n 2, 1) := by decide +kernel
theorem dX3_boxes_73 : decode cX3_boxes 73 = .ok (.invokevirtual 81, 3) := by decide +kernel
theorem dX3_boxes_76 : decode cX3_boxes 76 = .ok (.iinc 2 1, 3) := by decide +kernel
theorem dX3_boxes_79 : decode cX3_boxes 79 = .ok (.iinc 3 1, 3) := by decide +kernel
theorem dX3_boxes_82 : decode cX3_boxes 82 = .ok (.goto (-31), 3) := by decide +kernel
theorem dX3_boxes_85 : decode cX3_boxes 85 = .ok (.aload_n 0, 1) := by decide +kernel
theorem dX3_boxes_86 : decode cX3_boxes 86 = .ok (.getfield 10, 3) := by decide +kernel
theorem dX3_boxes_89 : decode cX3_boxes 89 = .ok (.invokevirtual 55, 3) := by decide +kernel
theorem dX3_boxes_92 : decode cX3_boxes 92 = .ok (.aload_n 0, 1) := by decide +kernel
theorem dX3_boxes_93 : decode cX3_boxes 93 = .ok (.invokevirtual 85, 3) := by decide +kernel
theorem dX3_boxes_96 : decode cX3_boxes 96 = .ok (.iload_n 1, 1) := by decide +kernel
theorem dX3_boxes_97 : decode cX3_boxes 97 = .ok (.ireturn, 1) := by decide +kernel
theorem dX3_remove_0 : decode cX3_remove 0 = .ok (.iload_n 1, 1) := by decide +kernel
theorem dX3_remove_1 : decode cX3_remove 1 = .ok (.ifCond .eq 14, 3) := by decide +kernel
theorem dX3_remove_4 : decode cX3_remove 4 = .ok (.iload_n 1, 1) := by decide +kernel
theorem dX3_remove_5 : decode cX3_remove 5 = .ok (.aload_n 0, 1) := by decide +kernel
theorem dX3_remove_6 : decode cX3_remove 6 = .ok (.getfield 40, 3) := by decide +kernel
theorem dX3_remove_9 : decode cX3_remove 9 = .ok (.iconst (-1), 1) := by decide +kernel
theorem dX3_remove_10 : decode cX3_remove 10 = .ok (.ixor, 1) := by decide +kernel
theorem dX3_remove_11 : decode cX3_remove 11 = .ok (.iand, 1) := by decide +kernel
theorem dX3_remove_12 : decode cX3_remove 12 = .ok (.ifCond .eq 7, 3) := by decide +kernel
theorem dX3_remove_15 : decode cX3_remove 15 = .ok (.sipush (-10003), 3) := by decide +kernel
theorem dX3_remove_18 : decode cX3_remove 18 = .ok (.ireturn, 1) := by decide +kernel
theorem dX3_remove_19 : decode cX3_remove 19 = .ok (.aload_n 0, 1) := by decide +kernel
theorem dX3_remove_20 : decode cX3_remove 20 = .ok (.getfield 32, 3) := by decide +kernel
theorem dX3_remove_23 : decode cX3_remove 23 = .ok (.invokevirtual 75, 3) := by decide +kernel
theorem dX3_remove_26 : decode cX3_remove 26 = .ok (.aload_n 0, 1) := by decide +kernel
theorem dX3_remove_27 : decode cX3_remove 27 = .ok (.dup, 1) := by decide +kernel
theorem dX3_remove_28 : decode cX3_remove 28 = .ok (.getfield 40, 3) := by decide +kernel
theorem dX3_remove_31 : decode cX3_remove 31 = .ok (.iload_n 1, 1) := by decide +kernel
theorem dX3_remove_32 : decode cX3_remove 32 = .ok (.iconst (-1), 1) := by decide +kernel
theorem dX3_remove_33 : decode cX3_remove 33 = .ok (.ixor, 1) := by decide +kernel
theorem dX3_remove_34 : decode cX3_remove 34 = .ok (.iand, 1) := by decide +kernel
theorem dX3_remove_35 : decode cX3_remove 35 = .ok (.putfield 40, 3) := by decide +kernel
theorem dX3_remove_38 : decode cX3_remove 38 = .ok (.aload_n 0, 1) := by decide +kernel
theorem dX3_remove_39 : decode cX3_remove 39 = .ok (.invokevirtual 85, 3) := by decide +kernel
theorem dX3_remove_42 : decode cX3_remove 42 = .ok (.iload_n 1, 1) := by decide +kernel
theorem dX3_remove_43 : decode cX3_remove 43 = .ok (.invokestatic 69, 3) := by decide +kernel
theorem dX3_remove_46 : decode cX3_remove 46 = .ok (.ireturn, 1) := by decide +kernel
theorem dX3_move_0 : decode cX3_move 0 = .ok (.aload_n 0, 1) := by decide +kernel
theorem dX3_move_1 : decode cX3_move 1 = .ok (.iload_n 1, 1) := by decide +kernel
theorem dX3_move_2 : decode cX3_move 2 = .ok (.invokevirtual 78, 3) := by decide +kernel
theorem dX3_move_5 : decode cX3_move 5 = .ok (.ifCond .ne 7, 3) := by decide +kernel
theorem dX3_move_8 : decode cX3_move 8 = .ok (.sipush (-10002), 3) := by decide +kernel
theorem dX3_move_11 : decode cX3_move 11 = .ok (.ireturn, 1) := by decide +kernel
theorem dX3_move_12 : decode cX3_move 12 = .ok (.aload_n 0, 1) := by decide +kernel
theorem dX3_move_13 : decode cX3_move 13 = .ok (.getfield 19, 3) := by decide +kernel
theorem dX3_move_16 : decode cX3_move 16 = .ok (.iload_n 1, 1) := by decide +kernel
theorem dX3_move_17 : decode cX3_move 17 = .ok (.iload_n 2, 1) := by decide +kernel
theorem dX3_move_18 : decode cX3_move 18 = .ok (.invokevirtual 88, 3) := by decide +kernel
theorem dX3_move_21 : decode cX3_move 21 = .ok (.ifCond .eq 28, 3) := by decide +kernel
theorem dX3_move_24 : decode cX3_move 24 = .ok (.aload_n 0, 1) := by decide +kernel
theorem dX3_move_25 : decode cX3_move 25 = .ok (.getfield 23, 3) := by decide +kernel
theorem dX3_move_28 : decode cX3_move 28 = .ok (.iload_n 1, 1) := by decide +kernel
theorem dX3_move_29 : decode cX3_move 29 = .ok (.iload_n 3, 1) := by decide +kernel
theorem dX3_move_30 : decode cX3_move 30 = .ok (.invokevirtual 88, 3) := by decide +kernel
theorem dX3_move_33 : decode cX3_move 33 = .ok (.ifCond .eq 16, 3) := by decide +kernel
theorem dX3_move_36 : decode cX3_move 36 = .ok (.aload_n 0, 1) := by decide +kernel
theorem dX3_move_37 : decode cX3_move 37 = .ok (.getfield 26, 3) := by decide +kernel
theorem dX3_move_40 : decode cX3_move 40 = .ok (.iload_n 1, 1) := by decide +kernel
theorem dX3_move_41 : decode cX3_move 41 = .ok (.iload 4, 2) := by decide +kernel
theorem dX3_move_43 : decode cX3_move 43 = .ok (.invokevirtual 88, 3) := by decide +kernel
theorem dX3_move_46 : decode cX3_move 46 = .ok (.ifCond .ne 7, 3) := by decide +kernel
theorem dX3_move_49 : decode cX3_move 49 = .ok (.sipush (-10003), 3) := by decide +kernel
theorem dX3_move_52 : decode cX3_move 52 = .ok (.ireturn, 1) := by decide +kernel
theorem dX3_move_53 : decode cX3_move 53 = .ok (.aload_n 0, 1) := by decide +kernel
theorem dX3_move_54 : decode cX3_move 54 = .ok (.getfield 32, 3) := by decide +kernel
theorem dX3_move_57 : decode cX3_move 57 = .ok (.invokevirtual 75, 3) := by decide +kernel
theorem dX3_move_60 : decode cX3_move 60 = .ok (.aload_n 0, 1) := by decide +kernel
theorem dX3_move_61 : decode cX3_move 61 = .ok (.iconst 0, 1) := by decide +kernel
theorem dX3_move_62 : decode cX3_move 62 = .ok (.iload_n 1, 1) := by decide +kernel
theorem dX3_move_63 : decode cX3_move 63 = .ok (.aload_n 0, 1) := by decide +kernel
theorem dX3_move_64 : decode cX3_move 64 = .ok (.getfield 19, 3) := by decide +kernel
theorem dX3_move_67 : decode cX3_move 67 = .ok (.getfield 92, 3) := by decide +kernel
theorem dX3_move_70 : decode cX3_move 70 = .ok (.iload_n 1, 1) := by decide +kernel
theorem dX3_move_71 : decode cX3_move 71 = .ok (.iaload, 1) := by decide +kernel
theorem dX3_move_72 : decode cX3_move 72 = .ok (.iload_n 2, 1) := by decide +kernel
theorem dX3_move_73 : decode cX3_move 73 = .ok (.iadd, 1) := by decide +kernel
theorem dX3_move_74 : decode cX3_move 74 = .ok (.aload_n 0, 1) := by decide +kernel
theorem dX3_move_75 : decode cX3_move 75 = .ok (.getfield 19, 3) := by decide +kernel
theorem dX3_move_78 : decode cX3_move 78 = .ok (.getfield 95, 3) := by decide +kernel
theorem dX3_move_81 : decode cX3_move 81 = .ok (.iload_n 1, 1) := by decide +kernel
theorem dX3_move_82 : decode cX3_move 82 = .ok (.iaload, 1) := by decide +kernel
theorem dX3_move_83 : decode cX3_move 83 = .ok (.iload_n 2, 1) := by decide +kernel
theorem dX3_move_84 : decode cX3_move 84 = .ok (.iadd, 1) := by decide +kernel
theorem dX3_move_85 : decode cX3_move 85 = .ok (.invokevirtual 98, 3) := by decide +kernel
theorem dX3_move_88 : decode cX3_move 88 = .ok (.aload_n 0, 1) := by decide +kernel
theorem dX3_move_89 : decode cX3_move 89 = .ok (.iconst 1, 1) := by decide +kernel
theorem dX3_move_90 : decode cX3_move 90 = .ok (.iload_n 1, 1) := by decide +kernel
theorem dX3_move_91 : decode cX3_move 91 = .ok (.aload_n 0, 1) := by decide +kernel
theorem dX3_move_92 : decode cX3_move 92 = .ok (.getfield 23, 3) := by decide +kernel
theorem dX3_move_95 : decode cX3_move 95 = .ok (.getfield 92, 3) := by decide +kernel
theorem dX3_move_98 : decode cX3_move 98 = .ok (.iload_n 1, 1) := by decide +kernel
theorem dX3_move_99 : decode cX3_move 99 = .ok (.iaload, 1) := by decide +kernel
theorem dX3_move_100 : decode cX3_move 100 = .ok (.iload_n 3, 1) := by decide +kernel
theorem dX3_move_101 : decode cX3_move 101 = .ok (.iadd, 1) := by decide +kernel
theorem dX3_move_102 : decode cX3_move 102 = .ok (.aload_n 0, 1) := by decide +kernel
theorem dX3_move_103 : decode cX3_move 103 = .ok (.getfield 23, 3) := by decide +kernel
theorem dX3_move_106 : decode cX3_move 106 = .ok (.getfield 95, 3) := by decide +kernel
theorem dX3_move_109 : decode cX3_move 109 = .ok (.iload_n 1, 1) := by decide +kernel
theorem dX3_move_110 : decode cX3_move 110 = .ok (.iaload, 1) := by decide +kernel
theorem dX3_move_111 : decode cX3_move 111 = .ok (.iload_n 3, 1) := by decide +kernel
theorem dX3_move_112 : decode cX3_move 112 = .ok (.iadd, 1) := by decide +kernel
theorem dX3_move_113 : decode cX3_move 113 = .ok (.invokevirtual 98, 3) := by decide +kernel
theorem dX3_move_116 : decode cX3_move 116 = .ok (.aload_n 0, 1) := by decide +kernel
theorem dX3_move_117 : decode cX3_move 117 = .ok (.iconst 2, 1) := by decide +kernel
theorem dX3_move_118 : decode cX3_move 118 = .ok (.iload_n 1, 1) := by decide +kernel
theorem dX3_move_119 : decode cX3_move 119 = .ok (.aload_n 0, 1) := by decide +kernel
theorem dX3_move_120 : decode cX3_move 120 = .ok (.getfield 26, 3) := by decide +kernel
theorem dX3_move_123 : decode cX3_move 123 = .ok (.getfield 92, 3) := by decide +kernel
theorem dX3_move_126 : decode cX3_move 126 = .ok (.iload_n 1, 1) := by decide +kernel
theorem dX3_move_127 : decode cX3_move 127 = .ok (.iaload, 1) := by decide +kernel
theorem dX3_move_128 : decode cX3_move 128 = .ok (.iload 4, 2) := by decide +kernel
theorem dX3_move_130 : decode cX3_move 130 = .ok (.iadd, 1) := by decide +kernel
theorem dX3_move_131 : decode cX3_move 131 = .ok (.aload_n 0, 1) := by decide +kernel
theorem dX3_move_132 : decode cX3_move 132 = .ok (.getfield 26, 3) := by decide +kernel
theorem dX3_move_135 : decode cX3_move 135 = .ok (.getfield 95, 3) := by decide +kernel
theorem dX3_move_138 : decode cX3_move 138 = .ok (.iload_n 1, 1) := by decide +kernel
theorem dX3_move_139 : decode cX3_move 139 = .ok (.iaload, 1) := by decide +kernel
theorem dX3_move_140 : decode cX3_move 140 = .ok (.iload 4, 2) := by decide +kernel
theorem dX3_move_142 : decode cX3_move 142 = .ok (.iadd, 1) := by decide +kernel
theorem dX3_move_143 : decode cX3_move 143 = .ok (.invokevirtual 98, 3) := by decide +kernel
theorem dX3_move_146 : decode cX3_move 146 = .ok (.aload_n 0, 1) := by decide +kernel
theorem dX3_move_147 : decode cX3_move 147 = .ok (.invokevirtual 102, 3) := by decide +kernel
theorem dX3_move_150 : decode cX3_move 150 = .ok (.aload_n 0, 1) := by decide +kernel
theorem dX3_move_151 : decode cX3_move 151 = .ok (.getfield 32, 3) := by decide +kernel
theorem dX3_move_154 : decode cX3_move 154 = .ok (.invokevirtual 105, 3) := by decide +kernel
theorem dX3_move_157 : decode cX3_move 157 = .ok (.ireturn, 1) := by decide +kernel
theorem dX3_lay_0 : decode cX3_lay 0 = .ok (.aload_n 0, 1) := by decide +kernel
theorem dX3_lay_1 : decode cX3_lay 1 = .ok (.iload_n 1, 1) := by decide +kernel
theorem dX3_lay_2 : decode cX3_lay 2 = .ok (.invokevirtual 78, 3) := by decide +kernel
theorem dX3_lay_5 : decode cX3_lay 5 = .ok (.ifCond .eq 10, 3) := by decide +kernel
theorem dX3_lay_8 : decode cX3_lay 8 = .ok (.iload_n 2, 1) := by decide +kernel
theorem dX3_lay_9 : decode cX3_lay 9 = .ok (.invokestatic 108, 3) := by decide +kernel
theorem dX3_lay_12 : decode cX3_lay 12 = .ok (.ifCond .ne 7, 3) := by decide +kernel
theorem dX3_lay_15 : decode cX3_lay 15 = .ok (.sipush (-10002), 3) := by decide +kernel
theorem dX3_lay_18 : decode cX3_lay 18 = .ok (.ireturn, 1) := by decide +kernel
theorem dX3_lay_19 : decode cX3_lay 19 = .ok (.iload_n 3, 1) := by decide +kernel
theorem dX3_lay_20 : decode cX3_lay 20 = .ok (.iload 4, 2) := by decide +kernel
theorem dX3_lay_22 : decode cX3_lay 22 = .ok (.invokestatic 111, 3) := by decide +kernel
theorem dX3_lay_25 : decode cX3_lay 25 = .ok (.ifCond .ne 7, 3) := by decide +kernel
theorem dX3_lay_28 : decode cX3_lay 28 = .ok (.sipush (-10003), 3) := by decide +kernel
theorem dX3_lay_31 : decode cX3_lay 31 = .ok (.ireturn, 1) := by decide +kernel
theorem dX3_lay_32 : decode cX3_lay 32 = .ok (.aload_n 0, 1) := by decide +kernel
theorem dX3_lay_33 : decode cX3_lay 33 = .ok (.getfield 32, 3) := by decide +kernel
theorem dX3_lay_36 : decode cX3_lay 36 = .ok (.invokevirtual 75, 3) := by decide +kernel
theorem dX3_lay_39 : decode cX3_lay 39 = .ok (.aload_n 0, 1) := by decide +kernel
theorem dX3_lay_40 : decode cX3_lay 40 = .ok (.iload_n 2, 1) := by decide +kernel
theorem dX3_lay_41 : decode cX3_lay 41 = .ok (.iload_n 1, 1) := by decide +kernel
theorem dX3_lay_42 : decode cX3_lay 42 = .ok (.iload_n 3, 1) := by decide +kernel
theorem dX3_lay_43 : decode cX3_lay 43 = .ok (.iload 4, 2) := by decide +kernel
theorem dX3_lay_45 : decode cX3_lay 45 = .ok (.invokevirtual 98, 3) := by decide +kernel
theorem dX3_lay_48 : decode cX3_lay 48 = .ok (.aload_n 0, 1) := by decide +kernel
theorem dX3_lay_49 : decode cX3_lay 49 = .ok (.invokevirtual 102, 3) := by decide +kernel
theorem dX3_lay_52 : decode cX3_lay 52 = .ok (.aload_n 0, 1) := by decide +kernel
theorem dX3_lay_53 : decode cX3_lay 53 = .ok (.getfield 32, 3) := by decide +kernel
theorem dX3_lay_56 : decode cX3_lay 56 = .ok (.invokevirtual 105, 3) := by decide +kernel
theorem dX3_lay_59 : decode cX3_lay 59 = .ok (.ireturn, 1) := by decide +kernel
theorem dX3_touch_0 : decode cX3_touch 0 = .ok (.aload_n 0, 1) := by decide +kernel
theorem dX3_touch_1 : decode cX3_touch 1 = .ok (.getfield 44, 3) := by decide +kernel
theorem dX3_touch_4 : decode cX3_touch 4 = .ok (.ifCond .eq 7, 3) := by decide +kernel
theorem dX3_touch_7 : decode cX3_touch 7 = .ok (.iconst 1, 1) := by decide +kernel
theorem dX3_touch_8 : decode cX3_touch 8 = .ok (.goto 4, 3) := by decide +kernel
theorem dX3_touch_11 : decode cX3_touch 11 = .ok (.iconst 0, 1) := by decide +kernel
theorem dX3_touch_12 : decode cX3_touch 12 = .ok (.istore_n 2, 1) := by decide +kernel
theorem dX3_touch_13 : decode cX3_touch 13 = .ok (.aload_n 0, 1) := by decide +kernel
theorem dX3_touch_14 : decode cX3_touch 14 = .ok (.getfield 32, 3) := by decide +kernel
theorem dX3_touch_17 : decode cX3_touch 17 = .ok (.invokevirtual 75, 3) := by decide +kernel
theorem dX3_touch_20 : decode cX3_touch 20 = .ok (.aload_n 0, 1) := by decide +kernel
theorem dX3_touch_21 : decode cX3_touch 21 = .ok (.iload_n 1, 1) := by decide +kernel
theorem dX3_touch_22 : decode cX3_touch 22 = .ok (.putfield 44, 3) := by decide +kernel
theorem dX3_touch_25 : decode cX3_touch 25 = .ok (.aload_n 0, 1) := by decide +kernel
theorem dX3_touch_26 : decode cX3_touch 26 = .ok (.invokevirtual 85, 3) := by decide +kernel
theorem dX3_touch_29 : decode cX3_touch 29 = .ok (.iload_n 2, 1) := by decide +kernel
theorem dX3_touch_30 : decode cX3_touch 30 = .ok (.ireturn, 1) := by decide +kernel
theorem dX3_box_0 : decode cX3_box 0 = .ok (.aload_n 0, 1) := by decide +kernel
theorem dX3_box_1 : decode cX3_box 1 = .ok (.iload_n 1, 1) := by decide +kernel
theorem dX3_box_2 : decode cX3_box 2 = .ok (.invokevirtual 78, 3) := by decide +kernel
theorem dX3_box_5 : decode cX3_box 5 = .ok (.ifCond .ne 7, 3) := by decide +kernel
theorem dX3_box_8 : decode cX3_box 8 = .ok (.sipush (-10002), 3) := by decide +kernel
theorem dX3_box_11 : decode cX3_box 11 = .ok (.ireturn, 1) := by decide +kernel
theorem dX3_box_12 : decode cX3_box 12 = .ok (.iload_n 2, 1) := by decide +kernel
theorem dX3_box_13 : decode cX3_box 13 = .ok (.tableswitch 137 0 8 #[51, 61, 71, 81, 91, 101, 111, 121, 128], 51) := by decide +kernel
theorem dX3_box_64 : decode cX3_box 64 = .ok (.aload_n 0, 1) := by decide +kernel
theorem dX3_box_65 : decode cX3_box 65 = .ok (.getfield 19, 3) := by decide +kernel
theorem dX3_box_68 : decode cX3_box 68 = .ok (.getfield 92, 3) := by decide +kernel
theorem dX3_box_71 : decode cX3_box 71 = .ok (.iload_n 1, 1) := by decide +kernel
theorem dX3_box_72 : decode cX3_box 72 = .ok (.iaload, 1) := by decide +kernel
theorem dX3_box_73 : decode cX3_box 73 = .ok (.ireturn, 1) := by decide +kernel
theorem dX3_box_74 : decode cX3_box 74 = .ok (.aload_n 0, 1) := by decide +kernel
theorem dX3_box_75 : decode cX3_box 75 = .ok (.getfield 19, 3) := by decide +kernel
theorem dX3_box_78 : decode cX3_box 78 = .ok (.getfield 95, 3) := by decide +kernel
theorem dX3_box_81 : decode cX3_box 81 = .ok (.iload_n 1, 1) := by decide +kernel
theorem dX3_box_82 : decode cX3_box 82 = .ok (.iaload, 1) := by decide +kernel
theorem dX3_box_83 : decode cX3_box 83 = .ok (.ireturn, 1) := by decide +kernel
theorem dX3_box_84 : decode cX3_box 84 = .ok (.aload_n 0, 1) := by decide +kernel
theorem dX3_box_85 : decode cX3_box 85 = .ok (.getfield 23, 3) := by decide +kernel
theorem dX3_box_88 : decode cX3_box 88 = .ok (.getfield 92, 3) := by decide +kernel
theorem dX3_box_91 : decode cX3_box 91 = .ok (.iload_n 1, 1) := by decide +kernel
theorem dX3_box_92 : decode cX3_box 92 = .ok (.iaload, 1) := by decide +kernel
theorem dX3_box_93 : decode cX3_box 93 = .ok (.ireturn, 1) := by decide +kernel
theorem dX3_box_94 : decode cX3_box 94 = .ok (.aload_n 0, 1) := by decide +kernel
theorem dX3_box_95 : decode cX3_box 95 = .ok (.getfield 23, 3) := by decide +kernel
theorem dX3_box_98 : decode cX3_box 98 = .ok (.getfield 95, 3) := by decide +kernel
theorem dX3_box_101 : decode cX3_box 101 = .ok (.iload_n 1, 1) := by decide +kernel
theorem dX3_box_102 : decode cX3_box 102 = .ok (.iaload, 1) := by decide +kernel
theorem dX3_box_103 : decode cX3_box 103 = .ok (.ireturn, 1) := by decide +kernel
theorem dX3_box_104 : decode cX3_box 104 = .ok (.aload_n 0, 1) := by decide +kernel
theorem dX3_box_105 : decode cX3_box 105 = .ok (.getfield 26, 3) := by decide +kernel
theorem dX3_box_108 : decode cX3_box 108 = .ok (.getfield 92, 3) := by decide +kernel
theorem dX3_box_111 : decode cX3_box 111 = .ok (.iload_n 1, 1) := by decide +kernel
theorem dX3_box_112 : decode cX3_box 112 = .ok (.iaload, 1) := by decide +kernel
theorem dX3_box_113 : decode cX3_box 113 = .ok (.ireturn, 1) := by decide +kernel
theorem dX3_box_114 : decode cX3_box 114 = .ok (.aload_n 0, 1) := by decide +kernel
theorem dX3_box_115 : decode cX3_box 115 = .ok (.getfield 26, 3) := by decide +kernel
theorem dX3_box_118 : decode cX3_box 118 = .ok (.getfield 95, 3) := by decide +kernel
theorem dX3_box_121 : decode cX3_box 121 = .ok (.iload_n 1, 1) := by decide +kernel
theorem dX3_box_122 : decode cX3_box 122 = .ok (.iaload, 1) := by decide +kernel
theorem dX3_box_123 : decode cX3_box 123 = .ok (.ireturn, 1) := by decide +kernel
theorem dX3_box_124 : decode cX3_box 124 = .ok (.aload_n 0, 1) := by decide +kernel
theorem dX3_box_125 : decode cX3_box 125 = .ok (.getfield 36, 3) := by decide +kernel
theorem dX3_box_128 : decode cX3_box 128 = .ok (.iload_n 1, 1) := by decide +kernel
theorem dX3_box_129 : decode cX3_box 129 = .ok (.iaload, 1) := by decide +kernel
theorem dX3_box_130 : decode cX3_box 130 = .ok (.invokestatic 69, 3) := by decide +kernel
theorem dX3_box_133 : decode cX3_box 133 = .ok (.ireturn, 1) := by decide +kernel
theorem dX3_box_134 : decode cX3_box 134 = .ok (.aload_n 0, 1) := by decide +kernel
theorem dX3_box_135 : decode cX3_box 135 = .ok (.getfield 36, 3) := by decide +kernel
theorem dX3_box_138 : decode cX3_box 138 = .ok (.iload_n 1, 1) := by decide +kernel
theorem dX3_box_139 : decode cX3_box 139 = .ok (.iaload, 1) := by decide +kernel
theorem dX3_box_140 : decode cX3_box 140 = .ok (.ireturn, 1) := by decide +kernel
theorem dX3_box_141 : decode cX3_box 141 = .ok (.aload_n 0, 1) := by decide +kernel
theorem dX3_box_142 : decode cX3_box 142 = .ok (.iload_n 1, 1) := by decide +kernel
theorem dX3_box_143 : decode cX3_box 143 = .ok (.invokevirtual 114, 3) := by decide +kernel
theorem dX3_box_146 : decode cX3_box 146 = .ok (.invokestatic 117, 3) := by decide +kernel
theorem dX3_box_149 : decode cX3_box 149 = .ok (.ireturn, 1) := by decide +kernel
theorem dX3_box_150 : decode cX3_box 150 = .ok (.sipush (-10003), 3) := by decide +kernel
theorem dX3_box_153 : decode cX3_box 153 = .ok (.ireturn, 1) := by decide +kernel
theorem dX3_end_0 : decode cX3_end 0 = .ok (.iload_n 1, 1) := by decide +kernel
theorem dX3_end_1 : decode cX3_end 1 = .ok (.invokestatic 108, 3) := by decide +kernel
theorem dX3_end_4 : decode cX3_end 4 = .ok (.ifCond .eq 19, 3) := by decide +kernel
theorem dX3_end_7 : decode cX3_end 7 = .ok (.iload_n 2, 1) := by decide +kernel
theorem dX3_end_8 : decode cX3_end 8 = .ok (.ifCond .lt 15, 3) := by decide +kernel
theorem dX3_end_11 : decode cX3_end 11 = .ok (.iload_n 2, 1) := by decide +kernel
theorem dX3_end_12 : decode cX3_end 12 = .ok (.aload_n 0, 1) := by decide +kernel
theorem dX3_end_13 : decode cX3_end 13 = .ok (.iload_n 1, 1) := by decide +kernel
theorem dX3_end_14 : decode cX3_end 14 = .ok (.invokevirtual 120, 3) := by decide +kernel
theorem dX3_end_17 : decode cX3_end 17 = .ok (.getfield 124, 3) := by decide +kernel
theorem dX3_end_20 : decode cX3_end 20 = .ok (.if_icmp .lt 7, 3) := by decide +kernel
theorem dX3_end_23 : decode cX3_end 23 = .ok (.sipush (-10002), 3) := by decide +kernel
theorem dX3_end_26 : decode cX3_end 26 = .ok (.ireturn, 1) := by decide +kernel
theorem dX3_end_27 : decode cX3_end 27 = .ok (.aload_n 0, 1) := by decide +kernel
theorem dX3_end_28 : decode cX3_end 28 = .ok (.iload_n 1, 1) := by decide +kernel
theorem dX3_end_29 : decode cX3_end 29 = .ok (.invokevirtual 120, 3) := by decide +kernel
theorem dX3_end_32 : decode cX3_end 32 = .ok (.getfield 127, 3) := by decide +kernel
theorem dX3_end_35 : decode cX3_end 35 = .ok (.iload_n 2, 1) := by decide +kernel
theorem dX3_end_36 : decode cX3_end 36 = .ok (.iaload, 1) := by decide +kernel
theorem dX3_end_37 : decode cX3_end 37 = .ok (.istore 4, 2) := by decide +kernel
theorem dX3_end_39 : decode cX3_end 39 = .ok (.iload_n 3, 1) := by decide +kernel
theorem dX3_end_40 : decode cX3_end 40 = .ok (.tableswitch 59 0 2 #[28, 34, 48], 28) := by decide +kernel
theorem dX3_end_68 : decode cX3_end 68 = .ok (.iload 4, 2) := by decide +kernel
theorem dX3_end_70 : decode cX3_end 70 = .ok (.invokestatic 130, 3) := by decide +kernel
theorem dX3_end_73 : decode cX3_end 73 = .ok (.ireturn, 1) := by decide +kernel
theorem dX3_end_74 : decode cX3_end 74 = .ok (.iload 4, 2) := by decide +kernel
theorem dX3_end_76 : decode cX3_end 76 = .ok (.invokestatic 133, 3) := by decide +kernel
theorem dX3_end_79 : decode cX3_end 79 = .ok (.ifCond .eq 7, 3) := by decide +kernel
theorem dX3_end_82 : decode cX3_end 82 = .ok (.iconst 1, 1) := by decide +kernel
theorem dX3_end_83 : decode cX3_end 83 = .ok (.goto 4, 3) := by decide +kernel
theorem dX3_end_86 : decode cX3_end 86 = .ok (.iconst 0, 1) := by decide +kernel
theorem dX3_end_87 : decode cX3_end 87 = .ok (.ireturn, 1) := by decide +kernel
theorem dX3_end_88 : decode cX3_end 88 = .ok (.aload_n 0, 1) := by decide +kernel
theorem dX3_end_89 : decode cX3_end 89 = .ok (.iload_n 1, 1) := by decide +kernel
theorem dX3_end_90 : decode cX3_end 90 = .ok (.invokevirtual 120, 3) := by decide +kernel
theorem dX3_end_93 : decode cX3_end 93 = .ok (.iload 4, 2) := by decide +kernel
theorem dX3_end_95 : decode cX3_end 95 = .ok (.invokevirtual 136, 3) := by decide +kernel
theorem dX3_end_98 : decode cX3_end 98 = .ok (.ireturn, 1) := by decide +kernel
theorem dX3_end_99 : decode cX3_end 99 = .ok (.sipush (-10003), 3) := by decide +kernel
theorem dX3_end_102 : decode cX3_end 102 = .ok (.ireturn, 1) := by decide +kernel
theorem dX3_meet_0 : decode cX3_meet 0 = .ok (.aload_n 0, 1) := by decide +kernel
theorem dX3_meet_1 : decode cX3_meet 1 = .ok (.iload_n 1, 1) := by decide +kernel
theorem dX3_meet_2 : decode cX3_meet 2 = .ok (.invokevirtual 78, 3) := by decide +kernel
theorem dX3_meet_5 : decode cX3_meet 5 = .ok (.ifCond .eq 16, 3) := by decide +kernel
theorem dX3_meet_8 : decode cX3_meet 8 = .ok (.aload_n 0, 1) := by decide +kernel
theorem dX3_meet_9 : decode cX3_meet 9 = .ok (.iload_n 2, 1) := by decide +kernel
theorem dX3_meet_10 : decode cX3_meet 10 = .ok (.invokevirtual 78, 3) := by decide +kernel
theorem dX3_meet_13 : decode cX3_meet 13 = .ok (.ifCond .eq 8, 3) := by decide +kernel
theorem dX3_meet_16 : decode cX3_meet 16 = .ok (.iload_n 1, 1) := by decide +kernel
theorem dX3_meet_17 : decode cX3_meet 17 = .ok (.iload_n 2, 1) := by decide +kernel
theorem dX3_meet_18 : decode cX3_meet 18 = .ok (.if_icmp .ne 7, 3) := by decide +kernel
theorem dX3_meet_21 : decode cX3_meet 21 = .ok (.sipush (-10002), 3) := by decide +kernel
theorem dX3_meet_24 : decode cX3_meet 24 = .ok (.ireturn, 1) := by decide +kernel
theorem dX3_meet_25 : decode cX3_meet 25 = .ok (.iconst 0, 1) := by decide +kernel
theorem dX3_meet_26 : decode cX3_meet 26 = .ok (.istore_n 3, 1) := by decide +kernel
theorem dX3_meet_27 : decode cX3_meet 27 = .ok (.iconst 0, 1) := by decide +kernel
theorem dX3_meet_28 : decode cX3_meet 28 = .ok (.istore 4, 2) := by decide +kernel
theorem dX3_meet_30 : decode cX3_meet 30 = .ok (.iload 4, 2) := by decide +kernel
theorem dX3_meet_32 : decode cX3_meet 32 = .ok (.iconst 3, 1) := by decide +kernel
theorem dX3_meet_33 : decode cX3_meet 33 = .ok (.if_icmp .ge 30, 3) := by decide +kernel
theorem dX3_meet_36 : decode cX3_meet 36 = .ok (.aload_n 0, 1) := by decide +kernel
theorem dX3_meet_37 : decode cX3_meet 37 = .ok (.iload 4, 2) := by decide +kernel
theorem dX3_meet_39 : decode cX3_meet 39 = .ok (.invokevirtual 120, 3) := by decide +kernel
theorem dX3_meet_42 : decode cX3_meet 42 = .ok (.getfield 139, 3) := by decide +kernel
theorem dX3_meet_45 : decode cX3_meet 45 = .ok (.iload_n 1, 1) := by decide +kernel
theorem dX3_meet_46 : decode cX3_meet 46 = .ok (.iaload, 1) := by decide +kernel
theorem dX3_meet_47 : decode cX3_meet 47 = .ok (.iload_n 2, 1) := by decide +kernel
theorem dX3_meet_48 : decode cX3_meet 48 = .ok (.invokestatic 142, 3) := by decide +kernel
theorem dX3_meet_51 : decode cX3_meet 51 = .ok (.ifCond .eq 6, 3) := by decide +kernel
theorem dX3_meet_54 : decode cX3_meet 54 = .ok (.iinc 3 1, 3) := by decide +kernel
theorem dX3_meet_57 : decode cX3_meet 57 = .ok (.iinc 4 1, 3) := by decide +kernel
theorem dX3_meet_60 : decode cX3_meet 60 = .ok (.goto (-30), 3) := by decide +kernel
theorem dX3_meet_63 : decode cX3_meet 63 = .ok (.iload_n 3, 1) := by decide +kernel
theorem dX3_meet_64 : decode cX3_meet 64 = .ok (.ireturn, 1) := by decide +kernel
end
section
theorem dX3_pair_0 : decode cX3_pair 0 = .ok (.iload_n 1, 1) := by decide +kernel
theorem dX3_pair_1 : decode cX3_pair 1 = .ok (.ifCond .ge 7, 3) := by decide +kernel
theorem dX3_pair_4 : decode cX3_pair 4 = .ok (.sipush (-10002), 3) := by decide +kernel
theorem dX3_pair_7 : decode cX3_pair 7 = .ok (.ireturn, 1) := by decide +kernel
theorem dX3_pair_8 : decode cX3_pair 8 = .ok (.iconst 0, 1) := by decide +kernel
theorem dX3_pair_9 : decode cX3_pair 9 = .ok (.istore_n 2, 1) := by decide +kernel
theorem dX3_pair_10 : decode cX3_pair 10 = .ok (.iconst 0, 1) := by decide +kernel
theorem dX3_pair_11 : decode cX3_pair 11 = .ok (.istore_n 3, 1) := by decide +kernel
theorem dX3_pair_12 : decode cX3_pair 12 = .ok (.iload_n 3, 1) := by decide +kernel
theorem dX3_pair_13 : decode cX3_pair 13 = .ok (.bipush 12, 2) := by decide +kernel
theorem dX3_pair_15 : decode cX3_pair 15 = .ok (.if_icmp .ge 56, 3) := by decide +kernel
theorem dX3_pair_18 : decode cX3_pair 18 = .ok (.iload_n 3, 1) := by decide +kernel
theorem dX3_pair_19 : decode cX3_pair 19 = .ok (.iconst 1, 1) := by decide +kernel
theorem dX3_pair_20 : decode cX3_pair 20 = .ok (.iadd, 1) := by decide +kernel
theorem dX3_pair_21 : decode cX3_pair 21 = .ok (.istore 4, 2) := by decide +kernel
theorem dX3_pair_23 : decode cX3_pair 23 = .ok (.iload 4, 2) := by decide +kernel
theorem dX3_pair_25 : decode cX3_pair 25 = .ok (.bipush 12, 2) := by decide +kernel
theorem dX3_pair_27 : decode cX3_pair 27 = .ok (.if_icmp .ge 38, 3) := by decide +kernel
theorem dX3_pair_30 : decode cX3_pair 30 = .ok (.aload_n 0, 1) := by decide +kernel
theorem dX3_pair_31 : decode cX3_pair 31 = .ok (.getfield 36, 3) := by decide +kernel
theorem dX3_pair_34 : decode cX3_pair 34 = .ok (.iload_n 3, 1) := by decide +kernel
theorem dX3_pair_35 : decode cX3_pair 35 = .ok (.iaload, 1) := by decide +kernel
theorem dX3_pair_36 : decode cX3_pair 36 = .ok (.iload 4, 2) := by decide +kernel
theorem dX3_pair_38 : decode cX3_pair 38 = .ok (.invokestatic 142, 3) := by decide +kernel
theorem dX3_pair_41 : decode cX3_pair 41 = .ok (.ifCond .eq 18, 3) := by decide +kernel
theorem dX3_pair_44 : decode cX3_pair 44 = .ok (.iload_n 2, 1) := by decide +kernel
theorem dX3_pair_45 : decode cX3_pair 45 = .ok (.iload_n 1, 1) := by decide +kernel
theorem dX3_pair_46 : decode cX3_pair 46 = .ok (.if_icmp .ne 10, 3) := by decide +kernel
theorem dX3_pair_49 : decode cX3_pair 49 = .ok (.iload_n 3, 1) := by decide +kernel
theorem dX3_pair_50 : decode cX3_pair 50 = .ok (.iload 4, 2) := by decide +kernel
theorem dX3_pair_52 : decode cX3_pair 52 = .ok (.invokestatic 145, 3) := by decide +kernel
theorem dX3_pair_55 : decode cX3_pair 55 = .ok (.ireturn, 1) := by decide +kernel
theorem dX3_pair_56 : decode cX3_pair 56 = .ok (.iinc 2 1, 3) := by decide +kernel
theorem dX3_pair_59 : decode cX3_pair 59 = .ok (.iinc 4 1, 3) := by decide +kernel
theorem dX3_pair_62 : decode cX3_pair 62 = .ok (.goto (-39), 3) := by decide +kernel
theorem dX3_pair_65 : decode cX3_pair 65 = .ok (.iinc 3 1, 3) := by decide +kernel
theorem dX3_pair_68 : decode cX3_pair 68 = .ok (.goto (-56), 3) := by decide +kernel
theorem dX3_pair_71 : decode cX3_pair 71 = .ok (.sipush (-10002), 3) := by decide +kernel
theorem dX3_pair_74 : decode cX3_pair 74 = .ok (.ireturn, 1) := by decide +kernel
theorem dX3_event_0 : decode cX3_event 0 = .ok (.iload_n 1, 1) := by decide +kernel
theorem dX3_event_1 : decode cX3_event 1 = .ok (.ifCond .lt 14, 3) := by decide +kernel
theorem dX3_event_4 : decode cX3_event 4 = .ok (.iload_n 1, 1) := by decide +kernel
theorem dX3_event_5 : decode cX3_event 5 = .ok (.aload_n 0, 1) := by decide +kernel
theorem dX3_event_6 : decode cX3_event 6 = .ok (.getfield 32, 3) := by decide +kernel
theorem dX3_event_9 : decode cX3_event 9 = .ok (.invokevirtual 149, 3) := by decide +kernel
theorem dX3_event_12 : decode cX3_event 12 = .ok (.if_icmp .lt 7, 3) := by decide +kernel
theorem dX3_event_15 : decode cX3_event 15 = .ok (.sipush (-10002), 3) := by decide +kernel
theorem dX3_event_18 : decode cX3_event 18 = .ok (.ireturn, 1) := by decide +kernel
theorem dX3_event_19 : decode cX3_event 19 = .ok (.iload_n 2, 1) := by decide +kernel
theorem dX3_event_20 : decode cX3_event 20 = .ok (.lookupswitch 54 #[(0, 28), (1, 37)], 28) := by decide +kernel
theorem dX3_event_48 : decode cX3_event 48 = .ok (.aload_n 0, 1) := by decide +kernel
theorem dX3_event_49 : decode cX3_event 49 = .ok (.getfield 32, 3) := by decide +kernel
theorem dX3_event_52 : decode cX3_event 52 = .ok (.iload_n 1, 1) := by decide +kernel
theorem dX3_event_53 : decode cX3_event 53 = .ok (.invokevirtual 152, 3) := by decide +kernel
theorem dX3_event_56 : decode cX3_event 56 = .ok (.ireturn, 1) := by decide +kernel
theorem dX3_event_57 : decode cX3_event 57 = .ok (.aload_n 0, 1) := by decide +kernel
theorem dX3_event_58 : decode cX3_event 58 = .ok (.getfield 32, 3) := by decide +kernel
theorem dX3_event_61 : decode cX3_event 61 = .ok (.iload_n 1, 1) := by decide +kernel
theorem dX3_event_62 : decode cX3_event 62 = .ok (.invokevirtual 155, 3) := by decide +kernel
theorem dX3_event_65 : decode cX3_event 65 = .ok (.ifCond .eq 7, 3) := by decide +kernel
theorem dX3_event_68 : decode cX3_event 68 = .ok (.iconst 1, 1) := by decide +kernel
theorem dX3_event_69 : decode cX3_event 69 = .ok (.goto 4, 3) := by decide +kernel
theorem dX3_event_72 : decode cX3_event 72 = .ok (.iconst 0, 1) := by decide +kernel
theorem dX3_event_73 : decode cX3_event 73 = .ok (.ireturn, 1) := by decide +kernel
theorem dX3_event_74 : decode cX3_event 74 = .ok (.sipush (-10003), 3) := by decide +kernel
theorem dX3_event_77 : decode cX3_event 77 = .ok (.ireturn, 1) := by decide +kernel
theorem dX3_latest_0 : decode cX3_latest 0 = .ok (.iload_n 1, 1) := by decide +kernel
theorem dX3_latest_1 : decode cX3_latest 1 = .ok (.tableswitch 105 0 6 #[43, 51, 59, 67, 75, 85, 95], 43) := by decide +kernel
theorem dX3_latest_44 : decode cX3_latest 44 = .ok (.aload_n 0, 1) := by decide +kernel
theorem dX3_latest_45 : decode cX3_latest 45 = .ok (.getfield 32, 3) := by decide +kernel
theorem dX3_latest_48 : decode cX3_latest 48 = .ok (.invokevirtual 149, 3) := by decide +kernel
theorem dX3_latest_51 : decode cX3_latest 51 = .ok (.ireturn, 1) := by decide +kernel
theorem dX3_latest_52 : decode cX3_latest 52 = .ok (.aload_n 0, 1) := by decide +kernel
theorem dX3_latest_53 : decode cX3_latest 53 = .ok (.getfield 32, 3) := by decide +kernel
theorem dX3_latest_56 : decode cX3_latest 56 = .ok (.getfield 158, 3) := by decide +kernel
theorem dX3_latest_59 : decode cX3_latest 59 = .ok (.ireturn, 1) := by decide +kernel
theorem dX3_latest_60 : decode cX3_latest 60 = .ok (.aload_n 0, 1) := by decide +kernel
theorem dX3_latest_61 : decode cX3_latest 61 = .ok (.getfield 32, 3) := by decide +kernel
theorem dX3_latest_64 : decode cX3_latest 64 = .ok (.getfield 161, 3) := by decide +kernel
theorem dX3_latest_67 : decode cX3_latest 67 = .ok (.ireturn, 1) := by decide +kernel
theorem dX3_latest_68 : decode cX3_latest 68 = .ok (.aload_n 0, 1) := by decide +kernel
theorem dX3_latest_69 : decode cX3_latest 69 = .ok (.getfield 32, 3) := by decide +kernel
theorem dX3_latest_72 : decode cX3_latest 72 = .ok (.getfield 164, 3) := by decide +kernel
theorem dX3_latest_75 : decode cX3_latest 75 = .ok (.ireturn, 1) := by decide +kernel
theorem dX3_latest_76 : decode cX3_latest 76 = .ok (.aload_n 0, 1) := by decide +kernel
theorem dX3_latest_77 : decode cX3_latest 77 = .ok (.getfield 32, 3) := by decide +kernel
theorem dX3_latest_80 : decode cX3_latest 80 = .ok (.getfield 167, 3) := by decide +kernel
theorem dX3_latest_83 : decode cX3_latest 83 = .ok (.iconst 0, 1) := by decide +kernel
theorem dX3_latest_84 : decode cX3_latest 84 = .ok (.iaload, 1) := by decide +kernel
theorem dX3_latest_85 : decode cX3_latest 85 = .ok (.ireturn, 1) := by decide +kernel
theorem dX3_latest_86 : decode cX3_latest 86 = .ok (.aload_n 0, 1) := by decide +kernel
theorem dX3_latest_87 : decode cX3_latest 87 = .ok (.getfield 32, 3) := by decide +kernel
theorem dX3_latest_90 : decode cX3_latest 90 = .ok (.getfield 167, 3) := by decide +kernel
theorem dX3_latest_93 : decode cX3_latest 93 = .ok (.iconst 1, 1) := by decide +kernel
theorem dX3_latest_94 : decode cX3_latest 94 = .ok (.iaload, 1) := by decide +kernel
theorem dX3_latest_95 : decode cX3_latest 95 = .ok (.ireturn, 1) := by decide +kernel
theorem dX3_latest_96 : decode cX3_latest 96 = .ok (.aload_n 0, 1) := by decide +kernel
theorem dX3_latest_97 : decode cX3_latest 97 = .ok (.getfield 32, 3) := by decide +kernel
theorem dX3_latest_100 : decode cX3_latest 100 = .ok (.getfield 167, 3) := by decide +kernel
theorem dX3_latest_103 : decode cX3_latest 103 = .ok (.iconst 2, 1) := by decide +kernel
theorem dX3_latest_104 : decode cX3_latest 104 = .ok (.iaload, 1) := by decide +kernel
theorem dX3_latest_105 : decode cX3_latest 105 = .ok (.ireturn, 1) := by decide +kernel
theorem dX3_latest_106 : decode cX3_latest 106 = .ok (.sipush (-10003), 3) := by decide +kernel
theorem dX3_latest_109 : decode cX3_latest 109 = .ok (.ireturn, 1) := by decide +kernel
theorem dX3_let_0 : decode cX3_let 0 = .ok (.aload_n 0, 1) := by decide +kernel
theorem dX3_let_1 : decode cX3_let 1 = .ok (.iload_n 1, 1) := by decide +kernel
theorem dX3_let_2 : decode cX3_let 2 = .ok (.invokevirtual 78, 3) := by decide +kernel
theorem dX3_let_5 : decode cX3_let 5 = .ok (.ifCond .eq 10, 3) := by decide +kernel
theorem dX3_let_8 : decode cX3_let 8 = .ok (.iload_n 2, 1) := by decide +kernel
theorem dX3_let_9 : decode cX3_let 9 = .ok (.invokestatic 108, 3) := by decide +kernel
theorem dX3_let_12 : decode cX3_let 12 = .ok (.ifCond .ne 7, 3) := by decide +kernel
theorem dX3_let_15 : decode cX3_let 15 = .ok (.sipush (-10002), 3) := by decide +kernel
theorem dX3_let_18 : decode cX3_let 18 = .ok (.ireturn, 1) := by decide +kernel
theorem dX3_let_19 : decode cX3_let 19 = .ok (.iload_n 3, 1) := by decide +kernel
theorem dX3_let_20 : decode cX3_let 20 = .ok (.iconst 1, 1) := by decide +kernel
theorem dX3_let_21 : decode cX3_let 21 = .ok (.if_icmp .eq 12, 3) := by decide +kernel
theorem dX3_let_24 : decode cX3_let 24 = .ok (.iload_n 3, 1) := by decide +kernel
theorem dX3_let_25 : decode cX3_let 25 = .ok (.iconst (-1), 1) := by decide +kernel
theorem dX3_let_26 : decode cX3_let 26 = .ok (.if_icmp .eq 7, 3) := by decide +kernel
theorem dX3_let_29 : decode cX3_let 29 = .ok (.sipush (-10003), 3) := by decide +kernel
theorem dX3_let_32 : decode cX3_let 32 = .ok (.ireturn, 1) := by decide +kernel
theorem dX3_let_33 : decode cX3_let 33 = .ok (.aload_n 0, 1) := by decide +kernel
theorem dX3_let_34 : decode cX3_let 34 = .ok (.iload_n 2, 1) := by decide +kernel
theorem dX3_let_35 : decode cX3_let 35 = .ok (.invokevirtual 120, 3) := by decide +kernel
theorem dX3_let_38 : decode cX3_let 38 = .ok (.astore 4, 2) := by decide +kernel
theorem dX3_let_40 : decode cX3_let 40 = .ok (.aload_n 0, 1) := by decide +kernel
theorem dX3_let_41 : decode cX3_let 41 = .ok (.iload_n 2, 1) := by decide +kernel
theorem dX3_let_42 : decode cX3_let 42 = .ok (.iload_n 1, 1) := by decide +kernel
theorem dX3_let_43 : decode cX3_let 43 = .ok (.invokevirtual 170, 3) := by decide +kernel
theorem dX3_let_46 : decode cX3_let 46 = .ok (.istore 5, 2) := by decide +kernel
theorem dX3_let_48 : decode cX3_let 48 = .ok (.aload 4, 2) := by decide +kernel
theorem dX3_let_50 : decode cX3_let 50 = .ok (.iload_n 1, 1) := by decide +kernel
theorem dX3_let_51 : decode cX3_let 51 = .ok (.iload_n 3, 1) := by decide +kernel
theorem dX3_let_52 : decode cX3_let 52 = .ok (.invokevirtual 173, 3) := by decide +kernel
theorem dX3_let_55 : decode cX3_let 55 = .ok (.iconst 1, 1) := by decide +kernel
theorem dX3_let_56 : decode cX3_let 56 = .ok (.iadd, 1) := by decide +kernel
theorem dX3_let_57 : decode cX3_let 57 = .ok (.istore 6, 2) := by decide +kernel
theorem dX3_let_59 : decode cX3_let 59 = .ok (.iconst 0, 1) := by decide +kernel
theorem dX3_let_60 : decode cX3_let 60 = .ok (.istore 7, 2) := by decide +kernel
theorem dX3_let_62 : decode cX3_let 62 = .ok (.iconst 0, 1) := by decide +kernel
theorem dX3_let_63 : decode cX3_let 63 = .ok (.istore 8, 2) := by decide +kernel
theorem dX3_let_65 : decode cX3_let 65 = .ok (.iload 8, 2) := by decide +kernel
theorem dX3_let_67 : decode cX3_let 67 = .ok (.bipush 12, 2) := by decide +kernel
theorem dX3_let_69 : decode cX3_let 69 = .ok (.if_icmp .ge 49, 3) := by decide +kernel
theorem dX3_let_72 : decode cX3_let 72 = .ok (.iload 5, 2) := by decide +kernel
theorem dX3_let_74 : decode cX3_let 74 = .ok (.iload 8, 2) := by decide +kernel
theorem dX3_let_76 : decode cX3_let 76 = .ok (.invokestatic 142, 3) := by decide +kernel
theorem dX3_let_79 : decode cX3_let 79 = .ok (.ifCond .eq 33, 3) := by decide +kernel
theorem dX3_let_82 : decode cX3_let 82 = .ok (.aload 4, 2) := by decide +kernel
theorem dX3_let_84 : decode cX3_let 84 = .ok (.iload_n 1, 1) := by decide +kernel
theorem dX3_let_85 : decode cX3_let 85 = .ok (.iload 8, 2) := by decide +kernel
theorem dX3_let_87 : decode cX3_let 87 = .ok (.iload_n 3, 1) := by decide +kernel
theorem dX3_let_88 : decode cX3_let 88 = .ok (.invokevirtual 176, 3) := by decide +kernel
theorem dX3_let_91 : decode cX3_let 91 = .ok (.istore 9, 2) := by decide +kernel
theorem dX3_let_93 : decode cX3_let 93 = .ok (.iload 9, 2) := by decide +kernel
theorem dX3_let_95 : decode cX3_let 95 = .ok (.ifCond .le 17, 3) := by decide +kernel
theorem dX3_let_98 : decode cX3_let 98 = .ok (.iload 9, 2) := by decide +kernel
theorem dX3_let_100 : decode cX3_let 100 = .ok (.iload 6, 2) := by decide +kernel
theorem dX3_let_102 : decode cX3_let 102 = .ok (.if_icmp .ge 10, 3) := by decide +kernel
theorem dX3_let_105 : decode cX3_let 105 = .ok (.iload 9, 2) := by decide +kernel
theorem dX3_let_107 : decode cX3_let 107 = .ok (.istore 6, 2) := by decide +kernel
theorem dX3_let_109 : decode cX3_let 109 = .ok (.iconst 1, 1) := by decide +kernel
theorem dX3_let_110 : decode cX3_let 110 = .ok (.istore 7, 2) := by decide +kernel
theorem dX3_let_112 : decode cX3_let 112 = .ok (.iinc 8 1, 3) := by decide +kernel
theorem dX3_let_115 : decode cX3_let 115 = .ok (.goto (-50), 3) := by decide +kernel
theorem dX3_let_118 : decode cX3_let 118 = .ok (.iload 7, 2) := by decide +kernel
theorem dX3_let_120 : decode cX3_let 120 = .ok (.ifCond .eq 8, 3) := by decide +kernel
theorem dX3_let_123 : decode cX3_let 123 = .ok (.iload 6, 2) := by decide +kernel
theorem dX3_let_125 : decode cX3_let 125 = .ok (.goto 6, 3) := by decide +kernel
theorem dX3_let_128 : decode cX3_let 128 = .ok (.sipush (-10001), 3) := by decide +kernel
theorem dX3_let_131 : decode cX3_let 131 = .ok (.ireturn, 1) := by decide +kernel
theorem dX3_heap_0 : decode cX3_heap 0 = .ok (.iload_n 1, 1) := by decide +kernel
theorem dX3_heap_1 : decode cX3_heap 1 = .ok (.tableswitch 54 0 3 #[31, 36, 41, 46], 31) := by decide +kernel
theorem dX3_heap_32 : decode cX3_heap 32 = .ok (.aload_n 0, 1) := by decide +kernel
theorem dX3_heap_33 : decode cX3_heap 33 = .ok (.invokevirtual 180, 3) := by decide +kernel
theorem dX3_heap_36 : decode cX3_heap 36 = .ok (.ireturn, 1) := by decide +kernel
theorem dX3_heap_37 : decode cX3_heap 37 = .ok (.aload_n 0, 1) := by decide +kernel
theorem dX3_heap_38 : decode cX3_heap 38 = .ok (.invokevirtual 183, 3) := by decide +kernel
theorem dX3_heap_41 : decode cX3_heap 41 = .ok (.ireturn, 1) := by decide +kernel
theorem dX3_heap_42 : decode cX3_heap 42 = .ok (.aload_n 0, 1) := by decide +kernel
theorem dX3_heap_43 : decode cX3_heap 43 = .ok (.invokevirtual 186, 3) := by decide +kernel
theorem dX3_heap_46 : decode cX3_heap 46 = .ok (.ireturn, 1) := by decide +kernel
theorem dX3_heap_47 : decode cX3_heap 47 = .ok (.aload_n 0, 1) := by decide +kernel
theorem dX3_heap_48 : decode cX3_heap 48 = .ok (.invokevirtual 186, 3) := by decide +kernel
theorem dX3_heap_51 : decode cX3_heap 51 = .ok (.invokestatic 69, 3) := by decide +kernel
theorem dX3_heap_54 : decode cX3_heap 54 = .ok (.ireturn, 1) := by decide +kernel
theorem dX3_heap_55 : decode cX3_heap 55 = .ok (.sipush (-10003), 3) := by decide +kernel
theorem dX3_heap_58 : decode cX3_heap 58 = .ok (.ireturn, 1) := by decide +kernel
theorem dX3_probe_0 : decode cX3_probe 0 = .ok (.iload_n 1, 1) := by decide +kernel
theorem dX3_probe_1 : decode cX3_probe 1 = .ok (.iload_n 2, 1) := by decide +kernel
theorem dX3_probe_2 : decode cX3_probe 2 = .ok (.invokestatic 111, 3) := by decide +kernel
theorem dX3_probe_5 : decode cX3_probe 5 = .ok (.ifCond .eq 22, 3) := by decide +kernel
theorem dX3_probe_8 : decode cX3_probe 8 = .ok (.iload_n 3, 1) := by decide +kernel
theorem dX3_probe_9 : decode cX3_probe 9 = .ok (.iload 4, 2) := by decide +kernel
theorem dX3_probe_11 : decode cX3_probe 11 = .ok (.invokestatic 111, 3) := by decide +kernel
theorem dX3_probe_14 : decode cX3_probe 14 = .ok (.ifCond .eq 13, 3) := by decide +kernel
theorem dX3_probe_17 : decode cX3_probe 17 = .ok (.iload 5, 2) := by decide +kernel
theorem dX3_probe_19 : decode cX3_probe 19 = .ok (.iload 6, 2) := by decide +kernel
theorem dX3_probe_21 : decode cX3_probe 21 = .ok (.invokestatic 111, 3) := by decide +kernel
theorem dX3_probe_24 : decode cX3_probe 24 = .ok (.ifCond .ne 7, 3) := by decide +kernel
theorem dX3_probe_27 : decode cX3_probe 27 = .ok (.sipush (-10003), 3) := by decide +kernel
theorem dX3_probe_30 : decode cX3_probe 30 = .ok (.ireturn, 1) := by decide +kernel
theorem dX3_probe_31 : decode cX3_probe 31 = .ok (.iconst 0, 1) := by decide +kernel
theorem dX3_probe_32 : decode cX3_probe 32 = .ok (.istore 7, 2) := by decide +kernel
theorem dX3_probe_34 : decode cX3_probe 34 = .ok (.iconst 0, 1) := by decide +kernel
theorem dX3_probe_35 : decode cX3_probe 35 = .ok (.istore 8, 2) := by decide +kernel
theorem dX3_probe_37 : decode cX3_probe 37 = .ok (.iload 8, 2) := by decide +kernel
theorem dX3_probe_39 : decode cX3_probe 39 = .ok (.bipush 12, 2) := by decide +kernel
theorem dX3_probe_41 : decode cX3_probe 41 = .ok (.if_icmp .ge 73, 3) := by decide +kernel
theorem dX3_probe_44 : decode cX3_probe 44 = .ok (.aload_n 0, 1) := by decide +kernel
theorem dX3_probe_45 : decode cX3_probe 45 = .ok (.iload 8, 2) := by decide +kernel
theorem dX3_probe_47 : decode cX3_probe 47 = .ok (.invokevirtual 78, 3) := by decide +kernel
theorem dX3_probe_50 : decode cX3_probe 50 = .ok (.ifCond .eq 58, 3) := by decide +kernel
theorem dX3_probe_53 : decode cX3_probe 53 = .ok (.aload_n 0, 1) := by decide +kernel
theorem dX3_probe_54 : decode cX3_probe 54 = .ok (.getfield 19, 3) := by decide +kernel
theorem dX3_probe_57 : decode cX3_probe 57 = .ok (.iload 8, 2) := by decide +kernel
theorem dX3_probe_59 : decode cX3_probe 59 = .ok (.iload_n 1, 1) := by decide +kernel
theorem dX3_probe_60 : decode cX3_probe 60 = .ok (.iload_n 2, 1) := by decide +kernel
theorem dX3_probe_61 : decode cX3_probe 61 = .ok (.invokevirtual 189, 3) := by decide +kernel
theorem dX3_probe_64 : decode cX3_probe 64 = .ok (.ifCond .eq 44, 3) := by decide +kernel
theorem dX3_probe_67 : decode cX3_probe 67 = .ok (.aload_n 0, 1) := by decide +kernel
theorem dX3_probe_68 : decode cX3_probe 68 = .ok (.getfield 23, 3) := by decide +kernel
theorem dX3_probe_71 : decode cX3_probe 71 = .ok (.iload 8, 2) := by decide +kernel
theorem dX3_probe_73 : decode cX3_probe 73 = .ok (.iload_n 3, 1) := by decide +kernel
theorem dX3_probe_74 : decode cX3_probe 74 = .ok (.iload 4, 2) := by decide +kernel
theorem dX3_probe_76 : decode cX3_probe 76 = .ok (.invokevirtual 189, 3) := by decide +kernel
theorem dX3_probe_79 : decode cX3_probe 79 = .ok (.ifCond .eq 29, 3) := by decide +kernel
theorem dX3_probe_82 : decode cX3_probe 82 = .ok (.aload_n 0, 1) := by decide +kernel
theorem dX3_probe_83 : decode cX3_probe 83 = .ok (.getfield 26, 3) := by decide +kernel
theorem dX3_probe_86 : decode cX3_probe 86 = .ok (.iload 8, 2) := by decide +kernel
theorem dX3_probe_88 : decode cX3_probe 88 = .ok (.iload 5, 2) := by decide +kernel
theorem dX3_probe_90 : decode cX3_probe 90 = .ok (.iload 6, 2) := by decide +kernel
theorem dX3_probe_92 : decode cX3_probe 92 = .ok (.invokevirtual 189, 3) := by decide +kernel
theorem dX3_probe_95 : decode cX3_probe 95 = .ok (.ifCond .eq 13, 3) := by decide +kernel
theorem dX3_probe_98 : decode cX3_probe 98 = .ok (.iload 7, 2) := by decide +kernel
theorem dX3_probe_100 : decode cX3_probe 100 = .ok (.iload 8, 2) := by decide +kernel
theorem dX3_probe_102 : decode cX3_probe 102 = .ok (.invokestatic 193, 3) := by decide +kernel
theorem dX3_probe_105 : decode cX3_probe 105 = .ok (.ior, 1) := by decide +kernel
theorem dX3_probe_106 : decode cX3_probe 106 = .ok (.istore 7, 2) := by decide +kernel
theorem dX3_probe_108 : decode cX3_probe 108 = .ok (.iinc 8 1, 3) := by decide +kernel
theorem dX3_probe_111 : decode cX3_probe 111 = .ok (.goto (-74), 3) := by decide +kernel
theorem dX3_probe_114 : decode cX3_probe 114 = .ok (.iload 7, 2) := by decide +kernel
theorem dX3_probe_116 : decode cX3_probe 116 = .ok (.ireturn, 1) := by decide +kernel
theorem dX3_count_0 : decode cX3_count 0 = .ok (.iload_n 1, 1) := by decide +kernel
theorem dX3_count_1 : decode cX3_count 1 = .ok (.tableswitch 134 0 9 #[55, 63, 71, 76, 84, 92, 100, 108, 116, 129], 55) := by decide +kernel
theorem dX3_count_56 : decode cX3_count 56 = .ok (.aload_n 0, 1) := by decide +kernel
theorem dX3_count_57 : decode cX3_count 57 = .ok (.getfield 10, 3) := by decide +kernel
theorem dX3_count_60 : decode cX3_count 60 = .ok (.getfield 52, 3) := by decide +kernel
theorem dX3_count_63 : decode cX3_count 63 = .ok (.ireturn, 1) := by decide +kernel
theorem dX3_count_64 : decode cX3_count 64 = .ok (.aload_n 0, 1) := by decide +kernel
theorem dX3_count_65 : decode cX3_count 65 = .ok (.getfield 40, 3) := by decide +kernel
theorem dX3_count_68 : decode cX3_count 68 = .ok (.invokestatic 69, 3) := by decide +kernel
theorem dX3_count_71 : decode cX3_count 71 = .ok (.ireturn, 1) := by decide +kernel
theorem dX3_count_72 : decode cX3_count 72 = .ok (.aload_n 0, 1) := by decide +kernel
theorem dX3_count_73 : decode cX3_count 73 = .ok (.invokevirtual 196, 3) := by decide +kernel
theorem dX3_count_76 : decode cX3_count 76 = .ok (.ireturn, 1) := by decide +kernel
theorem dX3_count_77 : decode cX3_count 77 = .ok (.aload_n 0, 1) := by decide +kernel
theorem dX3_count_78 : decode cX3_count 78 = .ok (.getfield 32, 3) := by decide +kernel
theorem dX3_count_81 : decode cX3_count 81 = .ok (.getfield 199, 3) := by decide +kernel
theorem dX3_count_84 : decode cX3_count 84 = .ok (.ireturn, 1) := by decide +kernel
theorem dX3_count_85 : decode cX3_count 85 = .ok (.aload_n 0, 1) := by decide +kernel
theorem dX3_count_86 : decode cX3_count 86 = .ok (.getfield 32, 3) := by decide +kernel
theorem dX3_count_89 : decode cX3_count 89 = .ok (.getfield 202, 3) := by decide +kernel
theorem dX3_count_92 : decode cX3_count 92 = .ok (.ireturn, 1) := by decide +kernel
theorem dX3_count_93 : decode cX3_count 93 = .ok (.aload_n 0, 1) := by decide +kernel
theorem dX3_count_94 : decode cX3_count 94 = .ok (.getfield 32, 3) := by decide +kernel
theorem dX3_count_97 : decode cX3_count 97 = .ok (.getfield 205, 3) := by decide +kernel
theorem dX3_count_100 : decode cX3_count 100 = .ok (.ireturn, 1) := by decide +kernel
theorem dX3_count_101 : decode cX3_count 101 = .ok (.aload_n 0, 1) := by decide +kernel
theorem dX3_count_102 : decode cX3_count 102 = .ok (.getfield 32, 3) := by decide +kernel
theorem dX3_count_105 : decode cX3_count 105 = .ok (.getfield 208, 3) := by decide +kernel
theorem dX3_count_108 : decode cX3_count 108 = .ok (.ireturn, 1) := by decide +kernel
theorem dX3_count_109 : decode cX3_count 109 = .ok (.aload_n 0, 1) := by decide +kernel
theorem dX3_count_110 : decode cX3_count 110 = .ok (.getfield 32, 3) := by decide +kernel
theorem dX3_count_113 : decode cX3_count 113 = .ok (.getfield 211, 3) := by decide +kernel
theorem dX3_count_116 : decode cX3_count 116 = .ok (.ireturn, 1) := by decide +kernel
theorem dX3_count_117 : decode cX3_count 117 = .ok (.aload_n 0, 1) := by decide +kernel
theorem dX3_count_118 : decode cX3_count 118 = .ok (.getfield 44, 3) := by decide +kernel
theorem dX3_count_121 : decode cX3_count 121 = .ok (.ifCond .eq 7, 3) := by decide +kernel
theorem dX3_count_124 : decode cX3_count 124 = .ok (.iconst 1, 1) := by decide +kernel
theorem dX3_count_125 : decode cX3_count 125 = .ok (.goto 4, 3) := by decide +kernel
theorem dX3_count_128 : decode cX3_count 128 = .ok (.iconst 0, 1) := by decide +kernel
theorem dX3_count_129 : decode cX3_count 129 = .ok (.ireturn, 1) := by decide +kernel
theorem dX3_count_130 : decode cX3_count 130 = .ok (.aload_n 0, 1) := by decide +kernel
theorem dX3_count_131 : decode cX3_count 131 = .ok (.getfield 40, 3) := by decide +kernel
theorem dX3_count_134 : decode cX3_count 134 = .ok (.ireturn, 1) := by decide +kernel
theorem dX3_count_135 : decode cX3_count 135 = .ok (.sipush (-10003), 3) := by decide +kernel
theorem dX3_count_138 : decode cX3_count 138 = .ok (.ireturn, 1) := by decide +kernel
theorem dX3_digest_0 : decode cX3_digest 0 = .ok (.ldc2_w 214, 3) := by decide +kernel
theorem dX3_digest_3 : decode cX3_digest 3 = .ok (.lstore_n 1, 1) := by decide +kernel
theorem dX3_digest_4 : decode cX3_digest 4 = .ok (.iconst 0, 1) := by decide +kernel
theorem dX3_digest_5 : decode cX3_digest 5 = .ok (.istore_n 3, 1) := by decide +kernel
theorem dX3_digest_6 : decode cX3_digest 6 = .ok (.iload_n 3, 1) := by decide +kernel
theorem dX3_digest_7 : decode cX3_digest 7 = .ok (.bipush 12, 2) := by decide +kernel
theorem dX3_digest_9 : decode cX3_digest 9 = .ok (.if_icmp .ge 24, 3) := by decide +kernel
theorem dX3_digest_12 : decode cX3_digest 12 = .ok (.aload_n 0, 1) := by decide +kernel
theorem dX3_digest_13 : decode cX3_digest 13 = .ok (.iload_n 3, 1) := by decide +kernel
theorem dX3_digest_14 : decode cX3_digest 14 = .ok (.invokevirtual 78, 3) := by decide +kernel
theorem dX3_digest_17 : decode cX3_digest 17 = .ok (.ifCond .eq 10, 3) := by decide +kernel
theorem dX3_digest_20 : decode cX3_digest 20 = .ok (.aload_n 0, 1) := by decide +kernel
theorem dX3_digest_21 : decode cX3_digest 21 = .ok (.lload_n 1, 1) := by decide +kernel
theorem dX3_digest_22 : decode cX3_digest 22 = .ok (.iload_n 3, 1) := by decide +kernel
theorem dX3_digest_23 : decode cX3_digest 23 = .ok (.invokevirtual 216, 3) := by decide +kernel
theorem dX3_digest_26 : decode cX3_digest 26 = .ok (.lstore_n 1, 1) := by decide +kernel
theorem dX3_digest_27 : decode cX3_digest 27 = .ok (.iinc 3 1, 3) := by decide +kernel
theorem dX3_digest_30 : decode cX3_digest 30 = .ok (.goto (-24), 3) := by decide +kernel
theorem dX3_digest_33 : decode cX3_digest 33 = .ok (.iconst 0, 1) := by decide +kernel
theorem dX3_digest_34 : decode cX3_digest 34 = .ok (.istore_n 3, 1) := by decide +kernel
theorem dX3_digest_35 : decode cX3_digest 35 = .ok (.iload_n 3, 1) := by decide +kernel
theorem dX3_digest_36 : decode cX3_digest 36 = .ok (.iconst 3, 1) := by decide +kernel
theorem dX3_digest_37 : decode cX3_digest 37 = .ok (.if_icmp .ge 16, 3) := by decide +kernel
theorem dX3_digest_40 : decode cX3_digest 40 = .ok (.aload_n 0, 1) := by decide +kernel
theorem dX3_digest_41 : decode cX3_digest 41 = .ok (.lload_n 1, 1) := by decide +kernel
theorem dX3_digest_42 : decode cX3_digest 42 = .ok (.iload_n 3, 1) := by decide +kernel
theorem dX3_digest_43 : decode cX3_digest 43 = .ok (.invokevirtual 220, 3) := by decide +kernel
theorem dX3_digest_46 : decode cX3_digest 46 = .ok (.lstore_n 1, 1) := by decide +kernel
theorem dX3_digest_47 : decode cX3_digest 47 = .ok (.iinc 3 1, 3) := by decide +kernel
theorem dX3_digest_50 : decode cX3_digest 50 = .ok (.goto (-15), 3) := by decide +kernel
theorem dX3_digest_53 : decode cX3_digest 53 = .ok (.aload_n 0, 1) := by decide +kernel
theorem dX3_digest_54 : decode cX3_digest 54 = .ok (.lload_n 1, 1) := by decide +kernel
theorem dX3_digest_55 : decode cX3_digest 55 = .ok (.invokevirtual 223, 3) := by decide +kernel
theorem dX3_digest_58 : decode cX3_digest 58 = .ok (.lstore_n 1, 1) := by decide +kernel
theorem dX3_digest_59 : decode cX3_digest 59 = .ok (.aload_n 0, 1) := by decide +kernel
theorem dX3_digest_60 : decode cX3_digest 60 = .ok (.lload_n 1, 1) := by decide +kernel
theorem dX3_digest_61 : decode cX3_digest 61 = .ok (.invokevirtual 227, 3) := by decide +kernel
theorem dX3_digest_64 : decode cX3_digest 64 = .ok (.lstore_n 1, 1) := by decide +kernel
theorem dX3_digest_65 : decode cX3_digest 65 = .ok (.iconst 0, 1) := by decide +kernel
theorem dX3_digest_66 : decode cX3_digest 66 = .ok (.istore_n 3, 1) := by decide +kernel
theorem dX3_digest_67 : decode cX3_digest 67 = .ok (.iload_n 3, 1) := by decide +kernel
theorem dX3_digest_68 : decode cX3_digest 68 = .ok (.iconst 3, 1) := by decide +kernel
theorem dX3_digest_69 : decode cX3_digest 69 = .ok (.if_icmp .gt 20, 3) := by decide +kernel
theorem dX3_digest_72 : decode cX3_digest 72 = .ok (.lload_n 1, 1) := by decide +kernel
theorem dX3_digest_73 : decode cX3_digest 73 = .ok (.aload_n 0, 1) := by decide +kernel
theorem dX3_digest_74 : decode cX3_digest 74 = .ok (.iload_n 3, 1) := by decide +kernel
theorem dX3_digest_75 : decode cX3_digest 75 = .ok (.invokevirtual 230, 3) := by decide +kernel
theorem dX3_digest_78 : decode cX3_digest 78 = .ok (.i2l, 1) := by decide +kernel
theorem dX3_digest_79 : decode cX3_digest 79 = .ok (.invokestatic 233, 3) := by decide +kernel
theorem dX3_digest_82 : decode cX3_digest 82 = .ok (.lstore_n 1, 1) := by decide +kernel
theorem dX3_digest_83 : decode cX3_digest 83 = .ok (.iinc 3 1, 3) := by decide +kernel
theorem dX3_digest_86 : decode cX3_digest 86 = .ok (.goto (-19), 3) := by decide +kernel
theorem dX3_digest_89 : decode cX3_digest 89 = .ok (.iconst 0, 1) := by decide +kernel
theorem dX3_digest_90 : decode cX3_digest 90 = .ok (.istore_n 3, 1) := by decide +kernel
theorem dX3_digest_91 : decode cX3_digest 91 = .ok (.iload_n 3, 1) := by decide +kernel
theorem dX3_digest_92 : decode cX3_digest 92 = .ok (.aload_n 0, 1) := by decide +kernel
theorem dX3_digest_93 : decode cX3_digest 93 = .ok (.getfield 10, 3) := by decide +kernel
theorem dX3_digest_96 : decode cX3_digest 96 = .ok (.getfield 52, 3) := by decide +kernel
theorem dX3_digest_99 : decode cX3_digest 99 = .ok (.if_icmp .ge 24, 3) := by decide +kernel
theorem dX3_digest_102 : decode cX3_digest 102 = .ok (.lload_n 1, 1) := by decide +kernel
theorem dX3_digest_103 : decode cX3_digest 103 = .ok (.aload_n 0, 1) := by decide +kernel
theorem dX3_digest_104 : decode cX3_digest 104 = .ok (.getfield 10, 3) := by decide +kernel
theorem dX3_digest_107 : decode cX3_digest 107 = .ok (.getfield 237, 3) := by decide +kernel
theorem dX3_digest_110 : decode cX3_digest 110 = .ok (.iload_n 3, 1) := by decide +kernel
theorem dX3_digest_111 : decode cX3_digest 111 = .ok (.iaload, 1) := by decide +kernel
theorem dX3_digest_112 : decode cX3_digest 112 = .ok (.i2l, 1) := by decide +kernel
theorem dX3_digest_113 : decode cX3_digest 113 = .ok (.invokestatic 233, 3) := by decide +kernel
theorem dX3_digest_116 : decode cX3_digest 116 = .ok (.lstore_n 1, 1) := by decide +kernel
theorem dX3_digest_117 : decode cX3_digest 117 = .ok (.iinc 3 1, 3) := by decide +kernel
theorem dX3_digest_120 : decode cX3_digest 120 = .ok (.goto (-29), 3) := by decide +kernel
theorem dX3_digest_123 : decode cX3_digest 123 = .ok (.iconst 0, 1) := by decide +kernel
theorem dX3_digest_124 : decode cX3_digest 124 = .ok (.istore_n 3, 1) := by decide +kernel
theorem dX3_digest_125 : decode cX3_digest 125 = .ok (.iload_n 3, 1) := by decide +kernel
theorem dX3_digest_126 : decode cX3_digest 126 = .ok (.bipush 9, 2) := by decide +kernel
theorem dX3_digest_128 : decode cX3_digest 128 = .ok (.if_icmp .gt 20, 3) := by decide +kernel
theorem dX3_digest_131 : decode cX3_digest 131 = .ok (.lload_n 1, 1) := by decide +kernel
theorem dX3_digest_132 : decode cX3_digest 132 = .ok (.aload_n 0, 1) := by decide +kernel
theorem dX3_digest_133 : decode cX3_digest 133 = .ok (.iload_n 3, 1) := by decide +kernel
theorem dX3_digest_134 : decode cX3_digest 134 = .ok (.invokevirtual 240, 3) := by decide +kernel
theorem dX3_digest_137 : decode cX3_digest 137 = .ok (.i2l, 1) := by decide +kernel
theorem dX3_digest_138 : decode cX3_digest 138 = .ok (.invokestatic 233, 3) := by decide +kernel
theorem dX3_digest_141 : decode cX3_digest 141 = .ok (.lstore_n 1, 1) := by decide +kernel
theorem dX3_digest_142 : decode cX3_digest 142 = .ok (.iinc 3 1, 3) := by decide +kernel
theorem dX3_digest_145 : decode cX3_digest 145 = .ok (.goto (-20), 3) := by decide +kernel
theorem dX3_digest_148 : decode cX3_digest 148 = .ok (.lload_n 1, 1) := by decide +kernel
theorem dX3_digest_149 : decode cX3_digest 149 = .ok (.lreturn, 1) := by decide +kernel
theorem dX3_with_0 : decode cX3_with 0 = .ok (.ldc2_w 243, 3) := by decide +kernel
theorem dX3_with_3 : decode cX3_with 3 = .ok (.lload_n 0, 1) := by decide +kernel
theorem dX3_with_4 : decode cX3_with 4 = .ok (.lmul, 1) := by decide +kernel
theorem dX3_with_5 : decode cX3_with 5 = .ok (.lload_n 2, 1) := by decide +kernel
theorem dX3_with_6 : decode cX3_with 6 = .ok (.ladd, 1) := by decide +kernel
theorem dX3_with_7 : decode cX3_with 7 = .ok (.lreturn, 1) := by decide +kernel
theorem dX3_withBox_0 : decode cX3_withBox 0 = .ok (.lload_n 1, 1) := by decide +kernel
theorem dX3_withBox_1 : decode cX3_withBox 1 = .ok (.iload_n 3, 1) := by decide +kernel
theorem dX3_withBox_2 : decode cX3_withBox 2 = .ok (.i2l, 1) := by decide +kernel
theorem dX3_withBox_3 : decode cX3_withBox 3 = .ok (.invokestatic 233, 3) := by decide +kernel
theorem dX3_withBox_6 : decode cX3_withBox 6 = .ok (.lstore 4, 2) := by decide +kernel
theorem dX3_withBox_8 : decode cX3_withBox 8 = .ok (.iconst 0, 1) := by decide +kernel
theorem dX3_withBox_9 : decode cX3_withBox 9 = .ok (.istore 6, 2) := by decide +kernel
theorem dX3_withBox_11 : decode cX3_withBox 11 = .ok (.iload 6, 2) := by decide +kernel
theorem dX3_withBox_13 : decode cX3_withBox 13 = .ok (.bipush 8, 2) := by decide +kernel
theorem dX3_withBox_15 : decode cX3_withBox 15 = .ok (.if_icmp .gt 24, 3) := by decide +kernel
theorem dX3_withBox_18 : decode cX3_withBox 18 = .ok (.lload 4, 2) := by decide +kernel
theorem dX3_withBox_20 : decode cX3_withBox 20 = .ok (.aload_n 0, 1) := by decide +kernel
theorem dX3_withBox_21 : decode cX3_withBox 21 = .ok (.iload_n 3, 1) := by decide +kernel
theorem dX3_withBox_22 : decode cX3_withBox 22 = .ok (.iload 6, 2) := by decide +kernel
theorem dX3_withBox_24 : decode cX3_withBox 24 = .ok (.invokevirtual 245, 3) := by decide +kernel
theorem dX3_withBox_27 : decode cX3_withBox 27 = .ok (.i2l, 1) := by decide +kernel
theorem dX3_withBox_28 : decode cX3_withBox 28 = .ok (.invokestatic 233, 3) := by decide +kernel
theorem dX3_withBox_31 : decode cX3_withBox 31 = .ok (.lstore 4, 2) := by decide +kernel
theorem dX3_withBox_33 : decode cX3_withBox 33 = .ok (.iinc 6 1, 3) := by decide +kernel
theorem dX3_withBox_36 : decode cX3_withBox 36 = .ok (.goto (-25), 3) := by decide +kernel
theorem dX3_withBox_39 : decode cX3_withBox 39 = .ok (.iconst 0, 1) := by decide +kernel
theorem dX3_withBox_40 : decode cX3_withBox 40 = .ok (.istore 6, 2) := by decide +kernel
theorem dX3_withBox_42 : decode cX3_withBox 42 = .ok (.iload 6, 2) := by decide +kernel
theorem dX3_withBox_44 : decode cX3_withBox 44 = .ok (.iconst 3, 1) := by decide +kernel
theorem dX3_withBox_45 : decode cX3_withBox 45 = .ok (.if_icmp .ge 41, 3) := by decide +kernel
theorem dX3_withBox_48 : decode cX3_withBox 48 = .ok (.lload 4, 2) := by decide +kernel
theorem dX3_withBox_50 : decode cX3_withBox 50 = .ok (.aload_n 0, 1) := by decide +kernel
theorem dX3_withBox_51 : decode cX3_withBox 51 = .ok (.iload_n 3, 1) := by decide +kernel
theorem dX3_withBox_52 : decode cX3_withBox 52 = .ok (.iload 6, 2) := by decide +kernel
theorem dX3_withBox_54 : decode cX3_withBox 54 = .ok (.iconst (-1), 1) := by decide +kernel
theorem dX3_withBox_55 : decode cX3_withBox 55 = .ok (.invokevirtual 248, 3) := by decide +kernel
theorem dX3_withBox_58 : decode cX3_withBox 58 = .ok (.i2l, 1) := by decide +kernel
theorem dX3_withBox_59 : decode cX3_withBox 59 = .ok (.invokestatic 233, 3) := by decide +kernel
theorem dX3_withBox_62 : decode cX3_withBox 62 = .ok (.lstore 4, 2) := by decide +kernel
theorem dX3_withBox_64 : decode cX3_withBox 64 = .ok (.lload 4, 2) := by decide +kernel
theorem dX3_withBox_66 : decode cX3_withBox 66 = .ok (.aload_n 0, 1) := by decide +kernel
theorem dX3_withBox_67 : decode cX3_withBox 67 = .ok (.iload_n 3, 1) := by decide +kernel
theorem dX3_withBox_68 : decode cX3_withBox 68 = .ok (.iload 6, 2) := by decide +kernel
theorem dX3_withBox_70 : decode cX3_withBox 70 = .ok (.iconst 1, 1) := by decide +kernel
theorem dX3_withBox_71 : decode cX3_withBox 71 = .ok (.invokevirtual 248, 3) := by decide +kernel
theorem dX3_withBox_74 : decode cX3_withBox 74 = .ok (.i2l, 1) := by decide +kernel
theorem dX3_withBox_75 : decode cX3_withBox 75 = .ok (.invokestatic 233, 3) := by decide +kernel
theorem dX3_withBox_78 : decode cX3_withBox 78 = .ok (.lstore 4, 2) := by decide +kernel
theorem dX3_withBox_80 : decode cX3_withBox 80 = .ok (.iinc 6 1, 3) := by decide +kernel
theorem dX3_withBox_83 : decode cX3_withBox 83 = .ok (.goto (-41), 3) := by decide +kernel
theorem dX3_withBox_86 : decode cX3_withBox 86 = .ok (.lload 4, 2) := by decide +kernel
theorem dX3_withBox_88 : decode cX3_withBox 88 = .ok (.lreturn, 1) := by decide +kernel
theorem dX3_withEnds_0 : decode cX3_withEnds 0 = .ok (.lload_n 1, 1) := by decide +kernel
theorem dX3_withEnds_1 : decode cX3_withEnds 1 = .ok (.lstore 4, 2) := by decide +kernel
theorem dX3_withEnds_3 : decode cX3_withEnds 3 = .ok (.aload_n 0, 1) := by decide +kernel
theorem dX3_withEnds_4 : decode cX3_withEnds 4 = .ok (.iload_n 3, 1) := by decide +kernel
theorem dX3_withEnds_5 : decode cX3_withEnds 5 = .ok (.invokevirtual 120, 3) := by decide +kernel
theorem dX3_withEnds_8 : decode cX3_withEnds 8 = .ok (.getfield 124, 3) := by decide +kernel
theorem dX3_withEnds_11 : decode cX3_withEnds 11 = .ok (.istore 6, 2) := by decide +kernel
theorem dX3_withEnds_13 : decode cX3_withEnds 13 = .ok (.iconst 0, 1) := by decide +kernel
theorem dX3_withEnds_14 : decode cX3_withEnds 14 = .ok (.istore 7, 2) := by decide +kernel
theorem dX3_withEnds_16 : decode cX3_withEnds 16 = .ok (.iload 7, 2) := by decide +kernel
theorem dX3_withEnds_18 : decode cX3_withEnds 18 = .ok (.iload 6, 2) := by decide +kernel
theorem dX3_withEnds_20 : decode cX3_withEnds 20 = .ok (.if_icmp .ge 41, 3) := by decide +kernel
theorem dX3_withEnds_23 : decode cX3_withEnds 23 = .ok (.iconst 0, 1) := by decide +kernel
theorem dX3_withEnds_24 : decode cX3_withEnds 24 = .ok (.istore 8, 2) := by decide +kernel
theorem dX3_withEnds_26 : decode cX3_withEnds 26 = .ok (.iload 8, 2) := by decide +kernel
theorem dX3_withEnds_28 : decode cX3_withEnds 28 = .ok (.iconst 2, 1) := by decide +kernel
theorem dX3_withEnds_29 : decode cX3_withEnds 29 = .ok (.if_icmp .gt 26, 3) := by decide +kernel
theorem dX3_withEnds_32 : decode cX3_withEnds 32 = .ok (.lload 4, 2) := by decide +kernel
theorem dX3_withEnds_34 : decode cX3_withEnds 34 = .ok (.aload_n 0, 1) := by decide +kernel
theorem dX3_withEnds_35 : decode cX3_withEnds 35 = .ok (.iload_n 3, 1) := by decide +kernel
theorem dX3_withEnds_36 : decode cX3_withEnds 36 = .ok (.iload 7, 2) := by decide +kernel
theorem dX3_withEnds_38 : decode cX3_withEnds 38 = .ok (.iload 8, 2) := by decide +kernel
theorem dX3_withEnds_40 : decode cX3_withEnds 40 = .ok (.invokevirtual 251, 3) := by decide +kernel
theorem dX3_withEnds_43 : decode cX3_withEnds 43 = .ok (.i2l, 1) := by decide +kernel
theorem dX3_withEnds_44 : decode cX3_withEnds 44 = .ok (.invokestatic 233, 3) := by decide +kernel
theorem dX3_withEnds_47 : decode cX3_withEnds 47 = .ok (.lstore 4, 2) := by decide +kernel
theorem dX3_withEnds_49 : decode cX3_withEnds 49 = .ok (.iinc 8 1, 3) := by decide +kernel
theorem dX3_withEnds_52 : decode cX3_withEnds 52 = .ok (.goto (-26), 3) := by decide +kernel
theorem dX3_withEnds_55 : decode cX3_withEnds 55 = .ok (.iinc 7 1, 3) := by decide +kernel
theorem dX3_withEnds_58 : decode cX3_withEnds 58 = .ok (.goto (-42), 3) := by decide +kernel
theorem dX3_withEnds_61 : decode cX3_withEnds 61 = .ok (.lload 4, 2) := by decide +kernel
theorem dX3_withEnds_63 : decode cX3_withEnds 63 = .ok (.lreturn, 1) := by decide +kernel
theorem dX3_withPairs_0 : decode cX3_withPairs 0 = .ok (.lload_n 1, 1) := by decide +kernel
theorem dX3_withPairs_1 : decode cX3_withPairs 1 = .ok (.lstore_n 3, 1) := by decide +kernel
theorem dX3_withPairs_2 : decode cX3_withPairs 2 = .ok (.iconst 0, 1) := by decide +kernel
theorem dX3_withPairs_3 : decode cX3_withPairs 3 = .ok (.istore 5, 2) := by decide +kernel
theorem dX3_withPairs_5 : decode cX3_withPairs 5 = .ok (.iload 5, 2) := by decide +kernel
theorem dX3_withPairs_7 : decode cX3_withPairs 7 = .ok (.bipush 12, 2) := by decide +kernel
theorem dX3_withPairs_9 : decode cX3_withPairs 9 = .ok (.if_icmp .ge 56, 3) := by decide +kernel
theorem dX3_withPairs_12 : decode cX3_withPairs 12 = .ok (.iload 5, 2) := by decide +kernel
theorem dX3_withPairs_14 : decode cX3_withPairs 14 = .ok (.iconst 1, 1) := by decide +kernel
theorem dX3_withPairs_15 : decode cX3_withPairs 15 = .ok (.iadd, 1) := by decide +kernel
theorem dX3_withPairs_16 : decode cX3_withPairs 16 = .ok (.istore 6, 2) := by decide +kernel
theorem dX3_withPairs_18 : decode cX3_withPairs 18 = .ok (.iload 6, 2) := by decide +kernel
theorem dX3_withPairs_20 : decode cX3_withPairs 20 = .ok (.bipush 12, 2) := by decide +kernel
theorem dX3_withPairs_22 : decode cX3_withPairs 22 = .ok (.if_icmp .ge 37, 3) := by decide +kernel
theorem dX3_withPairs_25 : decode cX3_withPairs 25 = .ok (.aload_n 0, 1) := by decide +kernel
theorem dX3_withPairs_26 : decode cX3_withPairs 26 = .ok (.getfield 36, 3) := by decide +kernel
theorem dX3_withPairs_29 : decode cX3_withPairs 29 = .ok (.iload 5, 2) := by decide +kernel
theorem dX3_withPairs_31 : decode cX3_withPairs 31 = .ok (.iaload, 1) := by decide +kernel
theorem dX3_withPairs_32 : decode cX3_withPairs 32 = .ok (.iload 6, 2) := by decide +kernel
theorem dX3_withPairs_34 : decode cX3_withPairs 34 = .ok (.invokestatic 142, 3) := by decide +kernel
theorem dX3_withPairs_37 : decode cX3_withPairs 37 = .ok (.ifCond .eq 16, 3) := by decide +kernel
theorem dX3_withPairs_40 : decode cX3_withPairs 40 = .ok (.lload_n 3, 1) := by decide +kernel
theorem dX3_withPairs_41 : decode cX3_withPairs 41 = .ok (.iload 5, 2) := by decide +kernel
theorem dX3_withPairs_43 : decode cX3_withPairs 43 = .ok (.iload 6, 2) := by decide +kernel
theorem dX3_withPairs_45 : decode cX3_withPairs 45 = .ok (.invokestatic 145, 3) := by decide +kernel
theorem dX3_withPairs_48 : decode cX3_withPairs 48 = .ok (.i2l, 1) := by decide +kernel
theorem dX3_withPairs_49 : decode cX3_withPairs 49 = .ok (.invokestatic 233, 3) := by decide +kernel
theorem dX3_withPairs_52 : decode cX3_withPairs 52 = .ok (.lstore_n 3, 1) := by decide +kernel
theorem dX3_withPairs_53 : decode cX3_withPairs 53 = .ok (.iinc 6 1, 3) := by decide +kernel
theorem dX3_withPairs_56 : decode cX3_withPairs 56 = .ok (.goto (-38), 3) := by decide +kernel
theorem dX3_withPairs_59 : decode cX3_withPairs 59 = .ok (.iinc 5 1, 3) := by decide +kernel
theorem dX3_withPairs_62 : decode cX3_withPairs 62 = .ok (.goto (-57), 3) := by decide +kernel
theorem dX3_withPairs_65 : decode cX3_withPairs 65 = .ok (.lload_n 3, 1) := by decide +kernel
theorem dX3_withPairs_66 : decode cX3_withPairs 66 = .ok (.lreturn, 1) := by decide +kernel
theorem dX3_withLatest_0 : decode cX3_withLatest 0 = .ok (.lload_n 1, 1) := by decide +kernel
theorem dX3_withLatest_1 : decode cX3_withLatest 1 = .ok (.lstore_n 3, 1) := by decide +kernel
theorem dX3_withLatest_2 : decode cX3_withLatest 2 = .ok (.aload_n 0, 1) := by decide +kernel
theorem dX3_withLatest_3 : decode cX3_withLatest 3 = .ok (.getfield 32, 3) := by decide +kernel
theorem dX3_withLatest_6 : decode cX3_withLatest 6 = .ok (.invokevirtual 149, 3) := by decide +kernel
theorem dX3_withLatest_9 : decode cX3_withLatest 9 = .ok (.istore 5, 2) := by decide +kernel
theorem dX3_withLatest_11 : decode cX3_withLatest 11 = .ok (.iconst 0, 1) := by decide +kernel
theorem dX3_withLatest_12 : decode cX3_withLatest 12 = .ok (.istore 6, 2) := by decide +kernel
theorem dX3_withLatest_14 : decode cX3_withLatest 14 = .ok (.iload 6, 2) := by decide +kernel
theorem dX3_withLatest_16 : decode cX3_withLatest 16 = .ok (.iload 5, 2) := by decide +kernel
theorem dX3_withLatest_18 : decode cX3_withLatest 18 = .ok (.if_icmp .ge 35, 3) := by decide +kernel
theorem dX3_withLatest_21 : decode cX3_withLatest 21 = .ok (.lload_n 3, 1) := by decide +kernel
theorem dX3_withLatest_22 : decode cX3_withLatest 22 = .ok (.aload_n 0, 1) := by decide +kernel
theorem dX3_withLatest_23 : decode cX3_withLatest 23 = .ok (.iload 6, 2) := by decide +kernel
theorem dX3_withLatest_25 : decode cX3_withLatest 25 = .ok (.iconst 0, 1) := by decide +kernel
theorem dX3_withLatest_26 : decode cX3_withLatest 26 = .ok (.invokevirtual 254, 3) := by decide +kernel
theorem dX3_withLatest_29 : decode cX3_withLatest 29 = .ok (.i2l, 1) := by decide +kernel
theorem dX3_withLatest_30 : decode cX3_withLatest 30 = .ok (.invokestatic 233, 3) := by decide +kernel
theorem dX3_withLatest_33 : decode cX3_withLatest 33 = .ok (.lstore_n 3, 1) := by decide +kernel
theorem dX3_withLatest_34 : decode cX3_withLatest 34 = .ok (.lload_n 3, 1) := by decide +kernel
theorem dX3_withLatest_35 : decode cX3_withLatest 35 = .ok (.aload_n 0, 1) := by decide +kernel
theorem dX3_withLatest_36 : decode cX3_withLatest 36 = .ok (.iload 6, 2) := by decide +kernel
theorem dX3_withLatest_38 : decode cX3_withLatest 38 = .ok (.iconst 1, 1) := by decide +kernel
theorem dX3_withLatest_39 : decode cX3_withLatest 39 = .ok (.invokevirtual 254, 3) := by decide +kernel
theorem dX3_withLatest_42 : decode cX3_withLatest 42 = .ok (.i2l, 1) := by decide +kernel
theorem dX3_withLatest_43 : decode cX3_withLatest 43 = .ok (.invokestatic 233, 3) := by decide +kernel
theorem dX3_withLatest_46 : decode cX3_withLatest 46 = .ok (.lstore_n 3, 1) := by decide +kernel
theorem dX3_withLatest_47 : decode cX3_withLatest 47 = .ok (.iinc 6 1, 3) := by decide +kernel
theorem dX3_withLatest_50 : decode cX3_withLatest 50 = .ok (.goto (-36), 3) := by decide +kernel
theorem dX3_withLatest_53 : decode cX3_withLatest 53 = .ok (.iconst 0, 1) := by decide +kernel
theorem dX3_withLatest_54 : decode cX3_withLatest 54 = .ok (.istore 6, 2) := by decide +kernel
theorem dX3_withLatest_56 : decode cX3_withLatest 56 = .ok (.iload 6, 2) := by decide +kernel
theorem dX3_withLatest_58 : decode cX3_withLatest 58 = .ok (.bipush 6, 2) := by decide +kernel
theorem dX3_withLatest_60 : decode cX3_withLatest 60 = .ok (.if_icmp .gt 21, 3) := by decide +kernel
theorem dX3_withLatest_63 : decode cX3_withLatest 63 = .ok (.lload_n 3, 1) := by decide +kernel
theorem dX3_withLatest_64 : decode cX3_withLatest 64 = .ok (.aload_n 0, 1) := by decide +kernel
theorem dX3_withLatest_65 : decode cX3_withLatest 65 = .ok (.iload 6, 2) := by decide +kernel
theorem dX3_withLatest_67 : decode cX3_withLatest 67 = .ok (.invokevirtual 257, 3) := by decide +kernel
theorem dX3_withLatest_70 : decode cX3_withLatest 70 = .ok (.i2l, 1) := by decide +kernel
theorem dX3_withLatest_71 : decode cX3_withLatest 71 = .ok (.invokestatic 233, 3) := by decide +kernel
theorem dX3_withLatest_74 : decode cX3_withLatest 74 = .ok (.lstore_n 3, 1) := by decide +kernel
theorem dX3_withLatest_75 : decode cX3_withLatest 75 = .ok (.iinc 6 1, 3) := by decide +kernel
theorem dX3_withLatest_78 : decode cX3_withLatest 78 = .ok (.goto (-22), 3) := by decide +kernel
theorem dX3_withLatest_81 : decode cX3_withLatest 81 = .ok (.lload_n 3, 1) := by decide +kernel
theorem dX3_withLatest_82 : decode cX3_withLatest 82 = .ok (.lreturn, 1) := by decide +kernel
theorem dX3_bit_0 : decode cX3_bit 0 = .ok (.iconst 1, 1) := by decide +kernel
theorem dX3_bit_1 : decode cX3_bit 1 = .ok (.iload_n 0, 1) := by decide +kernel
theorem dX3_bit_2 : decode cX3_bit 2 = .ok (.ishl, 1) := by decide +kernel
theorem dX3_bit_3 : decode cX3_bit 3 = .ok (.ireturn, 1) := by decide +kernel
theorem dX3_holds_0 : decode cX3_holds 0 = .ok (.iload_n 0, 1) := by decide +kernel
theorem dX3_holds_1 : decode cX3_holds 1 = .ok (.iload_n 1, 1) := by decide +kernel
theorem dX3_holds_2 : decode cX3_holds 2 = .ok (.invokestatic 193, 3) := by decide +kernel
theorem dX3_holds_5 : decode cX3_holds 5 = .ok (.iand, 1) := by decide +kernel
theorem dX3_holds_6 : decode cX3_holds 6 = .ok (.ifCond .eq 7, 3) := by decide +kernel
theorem dX3_holds_9 : decode cX3_holds 9 = .ok (.iconst 1, 1) := by decide +kernel
theorem dX3_holds_10 : decode cX3_holds 10 = .ok (.goto 4, 3) := by decide +kernel
theorem dX3_holds_13 : decode cX3_holds 13 = .ok (.iconst 0, 1) := by decide +kernel
theorem dX3_holds_14 : decode cX3_holds 14 = .ok (.ireturn, 1) := by decide +kernel
theorem dX3_isAxis_0 : decode cX3_isAxis 0 = .ok (.iload_n 0, 1) := by decide +kernel
theorem dX3_isAxis_1 : decode cX3_isAxis 1 = .ok (.ifCond .lt 12, 3) := by decide +kernel
theorem dX3_isAxis_4 : decode cX3_isAxis 4 = .ok (.iload_n 0, 1) := by decide +kernel
theorem dX3_isAxis_5 : decode cX3_isAxis 5 = .ok (.iconst 3, 1) := by decide +kernel
theorem dX3_isAxis_6 : decode cX3_isAxis 6 = .ok (.if_icmp .ge 7, 3) := by decide +kernel
theorem dX3_isAxis_9 : decode cX3_isAxis 9 = .ok (.iconst 1, 1) := by decide +kernel
theorem dX3_isAxis_10 : decode cX3_isAxis 10 = .ok (.goto 4, 3) := by decide +kernel
theorem dX3_isAxis_13 : decode cX3_isAxis 13 = .ok (.iconst 0, 1) := by decide +kernel
theorem dX3_isAxis_14 : decode cX3_isAxis 14 = .ok (.ireturn, 1) := by decide +kernel
theorem dX3_isSpan_0 : decode cX3_isSpan 0 = .ok (.iload_n 0, 1) := by decide +kernel
theorem dX3_isSpan_1 : decode cX3_isSpan 1 = .ok (.sipush (-999), 3) := by decide +kernel
theorem dX3_isSpan_4 : decode cX3_isSpan 4 = .ok (.if_icmp .lt 19, 3) := by decide +kernel
theorem dX3_isSpan_7 : decode cX3_isSpan 7 = .ok (.iload_n 0, 1) := by decide +kernel
theorem dX3_isSpan_8 : decode cX3_isSpan 8 = .ok (.iload_n 1, 1) := by decide +kernel
theorem dX3_isSpan_9 : decode cX3_isSpan 9 = .ok (.if_icmp .ge 14, 3) := by decide +kernel
theorem dX3_isSpan_12 : decode cX3_isSpan 12 = .ok (.iload_n 1, 1) := by decide +kernel
theorem dX3_isSpan_13 : decode cX3_isSpan 13 = .ok (.sipush 999, 3) := by decide +kernel
theorem dX3_isSpan_16 : decode cX3_isSpan 16 = .ok (.if_icmp .gt 7, 3) := by decide +kernel
theorem dX3_isSpan_19 : decode cX3_isSpan 19 = .ok (.iconst 1, 1) := by decide +kernel
theorem dX3_isSpan_20 : decode cX3_isSpan 20 = .ok (.goto 4, 3) := by decide +kernel
theorem dX3_isSpan_23 : decode cX3_isSpan 23 = .ok (.iconst 0, 1) := by decide +kernel
theorem dX3_isSpan_24 : decode cX3_isSpan 24 = .ok (.ireturn, 1) := by decide +kernel
theorem dX3_pairCode_0 : decode cX3_pairCode 0 = .ok (.bipush 12, 2) := by decide +kernel
theorem dX3_pairCode_2 : decode cX3_pairCode 2 = .ok (.iload_n 0, 1) := by decide +kernel
theorem dX3_pairCode_3 : decode cX3_pairCode 3 = .ok (.imul, 1) := by decide +kernel
theorem dX3_pairCode_4 : decode cX3_pairCode 4 = .ok (.iload_n 1, 1) := by decide +kernel
theorem dX3_pairCode_5 : decode cX3_pairCode 5 = .ok (.iadd, 1) := by decide +kernel
theorem dX3_pairCode_6 : decode cX3_pairCode 6 = .ok (.ireturn, 1) := by decide +kernel
theorem dX3_isThere_0 : decode cX3_isThere 0 = .ok (.iload_n 1, 1) := by decide +kernel
theorem dX3_isThere_1 : decode cX3_isThere 1 = .ok (.ifCond .lt 24, 3) := by decide +kernel
theorem dX3_isThere_4 : decode cX3_isThere 4 = .ok (.iload_n 1, 1) := by decide +kernel
theorem dX3_isThere_5 : decode cX3_isThere 5 = .ok (.bipush 12, 2) := by decide +kernel
theorem dX3_isThere_7 : decode cX3_isThere 7 = .ok (.if_icmp .ge 18, 3) := by decide +kernel
theorem dX3_isThere_10 : decode cX3_isThere 10 = .ok (.aload_n 0, 1) := by decide +kernel
theorem dX3_isThere_11 : decode cX3_isThere 11 = .ok (.getfield 40, 3) := by decide +kernel
theorem dX3_isThere_14 : decode cX3_isThere 14 = .ok (.iload_n 1, 1) := by decide +kernel
theorem dX3_isThere_15 : decode cX3_isThere 15 = .ok (.invokestatic 142, 3) := by decide +kernel
theorem dX3_isThere_18 : decode cX3_isThere 18 = .ok (.ifCond .eq 7, 3) := by decide +kernel
theorem dX3_isThere_21 : decode cX3_isThere 21 = .ok (.iconst 1, 1) := by decide +kernel
theorem dX3_isThere_22 : decode cX3_isThere 22 = .ok (.goto 4, 3) := by decide +kernel
theorem dX3_isThere_25 : decode cX3_isThere 25 = .ok (.iconst 0, 1) := by decide +kernel
theorem dX3_isThere_26 : decode cX3_isThere 26 = .ok (.ireturn, 1) := by decide +kernel
theorem dX3_lineOf_0 : decode cX3_lineOf 0 = .ok (.iload_n 1, 1) := by decide +kernel
theorem dX3_lineOf_1 : decode cX3_lineOf 1 = .ok (.ifCond .ne 10, 3) := by decide +kernel
theorem dX3_lineOf_4 : decode cX3_lineOf 4 = .ok (.aload_n 0, 1) := by decide +kernel
theorem dX3_lineOf_5 : decode cX3_lineOf 5 = .ok (.getfield 19, 3) := by decide +kernel
theorem dX3_lineOf_8 : decode cX3_lineOf 8 = .ok (.goto 19, 3) := by decide +kernel
theorem dX3_lineOf_11 : decode cX3_lineOf 11 = .ok (.iload_n 1, 1) := by decide +kernel
theorem dX3_lineOf_12 : decode cX3_lineOf 12 = .ok (.iconst 1, 1) := by decide +kernel
theorem dX3_lineOf_13 : decode cX3_lineOf 13 = .ok (.if_icmp .ne 10, 3) := by decide +kernel
theorem dX3_lineOf_16 : decode cX3_lineOf 16 = .ok (.aload_n 0, 1) := by decide +kernel
theorem dX3_lineOf_17 : decode cX3_lineOf 17 = .ok (.getfield 23, 3) := by decide +kernel
theorem dX3_lineOf_20 : decode cX3_lineOf 20 = .ok (.goto 7, 3) := by decide +kernel
theorem dX3_lineOf_23 : decode cX3_lineOf 23 = .ok (.aload_n 0, 1) := by decide +kernel
theorem dX3_lineOf_24 : decode cX3_lineOf 24 = .ok (.getfield 26, 3) := by decide +kernel
theorem dX3_lineOf_27 : decode cX3_lineOf 27 = .ok (.areturn, 1) := by decide +kernel
theorem dX3_meetsOnAll_0 : decode cX3_meetsOnAll 0 = .ok (.aload_n 0, 1) := by decide +kernel
theorem dX3_meetsOnAll_1 : decode cX3_meetsOnAll 1 = .ok (.getfield 19, 3) := by decide +kernel
theorem dX3_meetsOnAll_4 : decode cX3_meetsOnAll 4 = .ok (.getfield 139, 3) := by decide +kernel
theorem dX3_meetsOnAll_7 : decode cX3_meetsOnAll 7 = .ok (.iload_n 1, 1) := by decide +kernel
theorem dX3_meetsOnAll_8 : decode cX3_meetsOnAll 8 = .ok (.iaload, 1) := by decide +kernel
theorem dX3_meetsOnAll_9 : decode cX3_meetsOnAll 9 = .ok (.aload_n 0, 1) := by decide +kernel
theorem dX3_meetsOnAll_10 : decode cX3_meetsOnAll 10 = .ok (.getfield 23, 3) := by decide +kernel
theorem dX3_meetsOnAll_13 : decode cX3_meetsOnAll 13 = .ok (.getfield 139, 3) := by decide +kernel
theorem dX3_meetsOnAll_16 : decode cX3_meetsOnAll 16 = .ok (.iload_n 1, 1) := by decide +kernel
theorem dX3_meetsOnAll_17 : decode cX3_meetsOnAll 17 = .ok (.iaload, 1) := by decide +kernel
theorem dX3_meetsOnAll_18 : decode cX3_meetsOnAll 18 = .ok (.iand, 1) := by decide +kernel
theorem dX3_meetsOnAll_19 : decode cX3_meetsOnAll 19 = .ok (.aload_n 0, 1) := by decide +kernel
theorem dX3_meetsOnAll_20 : decode cX3_meetsOnAll 20 = .ok (.getfield 26, 3) := by decide +kernel
theorem dX3_meetsOnAll_23 : decode cX3_meetsOnAll 23 = .ok (.getfield 139, 3) := by decide +kernel
theorem dX3_meetsOnAll_26 : decode cX3_meetsOnAll 26 = .ok (.iload_n 1, 1) := by decide +kernel
theorem dX3_meetsOnAll_27 : decode cX3_meetsOnAll 27 = .ok (.iaload, 1) := by decide +kernel
theorem dX3_meetsOnAll_28 : decode cX3_meetsOnAll 28 = .ok (.iand, 1) := by decide +kernel
theorem dX3_meetsOnAll_29 : decode cX3_meetsOnAll 29 = .ok (.ireturn, 1) := by decide +kernel
theorem dX3_meetsOnOthers_0 : decode cX3_meetsOnOthers 0 = .ok (.aload_n 0, 1) := by decide +kernel
theorem dX3_meetsOnOthers_1 : decode cX3_meetsOnOthers 1 = .ok (.getfield 40, 3) := by decide +kernel
theorem dX3_meetsOnOthers_4 : decode cX3_meetsOnOthers 4 = .ok (.istore_n 3, 1) := by decide +kernel
theorem dX3_meetsOnOthers_5 : decode cX3_meetsOnOthers 5 = .ok (.iconst 0, 1) := by decide +kernel
theorem dX3_meetsOnOthers_6 : decode cX3_meetsOnOthers 6 = .ok (.istore 4, 2) := by decide +kernel
theorem dX3_meetsOnOthers_8 : decode cX3_meetsOnOthers 8 = .ok (.iload 4, 2) := by decide +kernel
theorem dX3_meetsOnOthers_10 : decode cX3_meetsOnOthers 10 = .ok (.iconst 3, 1) := by decide +kernel
theorem dX3_meetsOnOthers_11 : decode cX3_meetsOnOthers 11 = .ok (.if_icmp .ge 29, 3) := by decide +kernel
theorem dX3_meetsOnOthers_14 : decode cX3_meetsOnOthers 14 = .ok (.iload 4, 2) := by decide +kernel
theorem dX3_meetsOnOthers_16 : decode cX3_meetsOnOthers 16 = .ok (.iload_n 1, 1) := by decide +kernel
theorem dX3_meetsOnOthers_17 : decode cX3_meetsOnOthers 17 = .ok (.if_icmp .eq 17, 3) := by decide +kernel
theorem dX3_meetsOnOthers_20 : decode cX3_meetsOnOthers 20 = .ok (.iload_n 3, 1) := by decide +kernel
theorem dX3_meetsOnOthers_21 : decode cX3_meetsOnOthers 21 = .ok (.aload_n 0, 1) := by decide +kernel
theorem dX3_meetsOnOthers_22 : decode cX3_meetsOnOthers 22 = .ok (.iload 4, 2) := by decide +kernel
theorem dX3_meetsOnOthers_24 : decode cX3_meetsOnOthers 24 = .ok (.invokevirtual 120, 3) := by decide +kernel
theorem dX3_meetsOnOthers_27 : decode cX3_meetsOnOthers 27 = .ok (.getfield 139, 3) := by decide +kernel
theorem dX3_meetsOnOthers_30 : decode cX3_meetsOnOthers 30 = .ok (.iload_n 2, 1) := by decide +kernel
theorem dX3_meetsOnOthers_31 : decode cX3_meetsOnOthers 31 = .ok (.iaload, 1) := by decide +kernel
theorem dX3_meetsOnOthers_32 : decode cX3_meetsOnOthers 32 = .ok (.iand, 1) := by decide +kernel
theorem dX3_meetsOnOthers_33 : decode cX3_meetsOnOthers 33 = .ok (.istore_n 3, 1) := by decide +kernel
theorem dX3_meetsOnOthers_34 : decode cX3_meetsOnOthers 34 = .ok (.iinc 4 1, 3) := by decide +kernel
theorem dX3_meetsOnOthers_37 : decode cX3_meetsOnOthers 37 = .ok (.goto (-29), 3) := by decide +kernel
theorem dX3_meetsOnOthers_40 : decode cX3_meetsOnOthers 40 = .ok (.iload_n 3, 1) := by decide +kernel
theorem dX3_meetsOnOthers_41 : decode cX3_meetsOnOthers 41 = .ok (.ireturn, 1) := by decide +kernel
theorem dX3_pairCount_0 : decode cX3_pairCount 0 = .ok (.iconst 0, 1) := by decide +kernel
theorem dX3_pairCount_1 : decode cX3_pairCount 1 = .ok (.istore_n 1, 1) := by decide +kernel
theorem dX3_pairCount_2 : decode cX3_pairCount 2 = .ok (.iconst 0, 1) := by decide +kernel
theorem dX3_pairCount_3 : decode cX3_pairCount 3 = .ok (.istore_n 2, 1) := by decide +kernel
theorem dX3_pairCount_4 : decode cX3_pairCount 4 = .ok (.iload_n 2, 1) := by decide +kernel
theorem dX3_pairCount_5 : decode cX3_pairCount 5 = .ok (.bipush 12, 2) := by decide +kernel
theorem dX3_pairCount_7 : decode cX3_pairCount 7 = .ok (.if_icmp .ge 21, 3) := by decide +kernel
theorem dX3_pairCount_10 : decode cX3_pairCount 10 = .ok (.iload_n 1, 1) := by decide +kernel
theorem dX3_pairCount_11 : decode cX3_pairCount 11 = .ok (.aload_n 0, 1) := by decide +kernel
theorem dX3_pairCount_12 : decode cX3_pairCount 12 = .ok (.getfield 36, 3) := by decide +kernel
theorem dX3_pairCount_15 : decode cX3_pairCount 15 = .ok (.iload_n 2, 1) := by decide +kernel
theorem dX3_pairCount_16 : decode cX3_pairCount 16 = .ok (.iaload, 1) := by decide +kernel
theorem dX3_pairCount_17 : decode cX3_pairCount 17 = .ok (.invokestatic 69, 3) := by decide +kernel
theorem dX3_pairCount_20 : decode cX3_pairCount 20 = .ok (.iadd, 1) := by decide +kernel
theorem dX3_pairCount_21 : decode cX3_pairCount 21 = .ok (.istore_n 1, 1) := by decide +kernel
theorem dX3_pairCount_22 : decode cX3_pairCount 22 = .ok (.iinc 2 1, 3) := by decide +kernel
theorem dX3_pairCount_25 : decode cX3_pairCount 25 = .ok (.goto (-21), 3) := by decide +kernel
theorem dX3_pairCount_28 : decode cX3_pairCount 28 = .ok (.iload_n 1, 1) := by decide +kernel
theorem dX3_pairCount_29 : decode cX3_pairCount 29 = .ok (.iconst 2, 1) := by decide +kernel
theorem dX3_pairCount_30 : decode cX3_pairCount 30 = .ok (.idiv, 1) := by decide +kernel
theorem dX3_pairCount_31 : decode cX3_pairCount 31 = .ok (.ireturn, 1) := by decide +kernel
end
section
theorem dX3_settle_0 : decode cX3_settle 0 = .ok (.aload_n 0, 1) := by decide +kernel
theorem dX3_settle_1 : decode cX3_settle 1 = .ok (.dup, 1) := by decide +kernel
theorem dX3_settle_2 : decode cX3_settle 2 = .ok (.getfield 40, 3) := by decide +kernel
theorem dX3_settle_5 : decode cX3_settle 5 = .ok (.iload_n 1, 1) := by decide +kernel
theorem dX3_settle_6 : decode cX3_settle 6 = .ok (.invokestatic 193, 3) := by decide +kernel
theorem dX3_settle_9 : decode cX3_settle 9 = .ok (.ior, 1) := by decide +kernel
theorem dX3_settle_10 : decode cX3_settle 10 = .ok (.putfield 40, 3) := by decide +kernel
theorem dX3_settle_13 : decode cX3_settle 13 = .ok (.iconst 0, 1) := by decide +kernel
theorem dX3_settle_14 : decode cX3_settle 14 = .ok (.istore_n 3, 1) := by decide +kernel
theorem dX3_settle_15 : decode cX3_settle 15 = .ok (.iload_n 3, 1) := by decide +kernel
theorem dX3_settle_16 : decode cX3_settle 16 = .ok (.iconst 3, 1) := by decide +kernel
theorem dX3_settle_17 : decode cX3_settle 17 = .ok (.if_icmp .ge 47, 3) := by decide +kernel
theorem dX3_settle_20 : decode cX3_settle 20 = .ok (.aload_n 0, 1) := by decide +kernel
theorem dX3_settle_21 : decode cX3_settle 21 = .ok (.iload_n 3, 1) := by decide +kernel
theorem dX3_settle_22 : decode cX3_settle 22 = .ok (.invokevirtual 120, 3) := by decide +kernel
theorem dX3_settle_25 : decode cX3_settle 25 = .ok (.getfield 92, 3) := by decide +kernel
theorem dX3_settle_28 : decode cX3_settle 28 = .ok (.iload_n 1, 1) := by decide +kernel
theorem dX3_settle_29 : decode cX3_settle 29 = .ok (.aload_n 0, 1) := by decide +kernel
theorem dX3_settle_30 : decode cX3_settle 30 = .ok (.getfield 10, 3) := by decide +kernel
theorem dX3_settle_33 : decode cX3_settle 33 = .ok (.iload_n 2, 1) := by decide +kernel
theorem dX3_settle_34 : decode cX3_settle 34 = .ok (.iload_n 3, 1) := by decide +kernel
theorem dX3_settle_35 : decode cX3_settle 35 = .ok (.invokevirtual 260, 3) := by decide +kernel
theorem dX3_settle_38 : decode cX3_settle 38 = .ok (.iastore, 1) := by decide +kernel
theorem dX3_settle_39 : decode cX3_settle 39 = .ok (.aload_n 0, 1) := by decide +kernel
theorem dX3_settle_40 : decode cX3_settle 40 = .ok (.iload_n 3, 1) := by decide +kernel
theorem dX3_settle_41 : decode cX3_settle 41 = .ok (.invokevirtual 120, 3) := by decide +kernel
theorem dX3_settle_44 : decode cX3_settle 44 = .ok (.getfield 95, 3) := by decide +kernel
theorem dX3_settle_47 : decode cX3_settle 47 = .ok (.iload_n 1, 1) := by decide +kernel
theorem dX3_settle_48 : decode cX3_settle 48 = .ok (.aload_n 0, 1) := by decide +kernel
theorem dX3_settle_49 : decode cX3_settle 49 = .ok (.getfield 10, 3) := by decide +kernel
theorem dX3_settle_52 : decode cX3_settle 52 = .ok (.iload_n 2, 1) := by decide +kernel
theorem dX3_settle_53 : decode cX3_settle 53 = .ok (.iload_n 3, 1) := by decide +kernel
theorem dX3_settle_54 : decode cX3_settle 54 = .ok (.invokevirtual 263, 3) := by decide +kernel
theorem dX3_settle_57 : decode cX3_settle 57 = .ok (.iastore, 1) := by decide +kernel
theorem dX3_settle_58 : decode cX3_settle 58 = .ok (.iinc 3 1, 3) := by decide +kernel
theorem dX3_settle_61 : decode cX3_settle 61 = .ok (.goto (-46), 3) := by decide +kernel
theorem dX3_settle_64 : decode cX3_settle 64 = .ok (.return_, 1) := by decide +kernel
theorem dX3_rearrange_0 : decode cX3_rearrange 0 = .ok (.iconst 0, 1) := by decide +kernel
theorem dX3_rearrange_1 : decode cX3_rearrange 1 = .ok (.istore_n 1, 1) := by decide +kernel
theorem dX3_rearrange_2 : decode cX3_rearrange 2 = .ok (.iload_n 1, 1) := by decide +kernel
theorem dX3_rearrange_3 : decode cX3_rearrange 3 = .ok (.iconst 3, 1) := by decide +kernel
theorem dX3_rearrange_4 : decode cX3_rearrange 4 = .ok (.if_icmp .ge 25, 3) := by decide +kernel
theorem dX3_rearrange_7 : decode cX3_rearrange 7 = .ok (.aload_n 0, 1) := by decide +kernel
theorem dX3_rearrange_8 : decode cX3_rearrange 8 = .ok (.iload_n 1, 1) := by decide +kernel
theorem dX3_rearrange_9 : decode cX3_rearrange 9 = .ok (.invokevirtual 120, 3) := by decide +kernel
theorem dX3_rearrange_12 : decode cX3_rearrange 12 = .ok (.aload_n 0, 1) := by decide +kernel
theorem dX3_rearrange_13 : decode cX3_rearrange 13 = .ok (.getfield 40, 3) := by decide +kernel
theorem dX3_rearrange_16 : decode cX3_rearrange 16 = .ok (.aload_n 0, 1) := by decide +kernel
theorem dX3_rearrange_17 : decode cX3_rearrange 17 = .ok (.getfield 44, 3) := by decide +kernel
theorem dX3_rearrange_20 : decode cX3_rearrange 20 = .ok (.invokevirtual 266, 3) := by decide +kernel
theorem dX3_rearrange_23 : decode cX3_rearrange 23 = .ok (.iinc 1 1, 3) := by decide +kernel
theorem dX3_rearrange_26 : decode cX3_rearrange 26 = .ok (.goto (-24), 3) := by decide +kernel
theorem dX3_rearrange_29 : decode cX3_rearrange 29 = .ok (.aload_n 0, 1) := by decide +kernel
theorem dX3_rearrange_30 : decode cX3_rearrange 30 = .ok (.invokevirtual 102, 3) := by decide +kernel
theorem dX3_rearrange_33 : decode cX3_rearrange 33 = .ok (.return_, 1) := by decide +kernel
theorem dX3_layOn_0 : decode cX3_layOn 0 = .ok (.aload_n 0, 1) := by decide +kernel
theorem dX3_layOn_1 : decode cX3_layOn 1 = .ok (.iload_n 1, 1) := by decide +kernel
theorem dX3_layOn_2 : decode cX3_layOn 2 = .ok (.invokevirtual 120, 3) := by decide +kernel
theorem dX3_layOn_5 : decode cX3_layOn 5 = .ok (.astore 5, 2) := by decide +kernel
theorem dX3_layOn_7 : decode cX3_layOn 7 = .ok (.iload_n 3, 1) := by decide +kernel
theorem dX3_layOn_8 : decode cX3_layOn 8 = .ok (.aload 5, 2) := by decide +kernel
theorem dX3_layOn_10 : decode cX3_layOn 10 = .ok (.getfield 92, 3) := by decide +kernel
theorem dX3_layOn_13 : decode cX3_layOn 13 = .ok (.iload_n 2, 1) := by decide +kernel
theorem dX3_layOn_14 : decode cX3_layOn 14 = .ok (.iaload, 1) := by decide +kernel
theorem dX3_layOn_15 : decode cX3_layOn 15 = .ok (.if_icmp .le 41, 3) := by decide +kernel
theorem dX3_layOn_18 : decode cX3_layOn 18 = .ok (.aload 5, 2) := by decide +kernel
theorem dX3_layOn_20 : decode cX3_layOn 20 = .ok (.getfield 95, 3) := by decide +kernel
theorem dX3_layOn_23 : decode cX3_layOn 23 = .ok (.iload_n 2, 1) := by decide +kernel
theorem dX3_layOn_24 : decode cX3_layOn 24 = .ok (.iload 4, 2) := by decide +kernel
theorem dX3_layOn_26 : decode cX3_layOn 26 = .ok (.iastore, 1) := by decide +kernel
theorem dX3_layOn_27 : decode cX3_layOn 27 = .ok (.aload_n 0, 1) := by decide +kernel
theorem dX3_layOn_28 : decode cX3_layOn 28 = .ok (.iload_n 1, 1) := by decide +kernel
theorem dX3_layOn_29 : decode cX3_layOn 29 = .ok (.iload_n 2, 1) := by decide +kernel
theorem dX3_layOn_30 : decode cX3_layOn 30 = .ok (.invokestatic 270, 3) := by decide +kernel
theorem dX3_layOn_33 : decode cX3_layOn 33 = .ok (.invokevirtual 273, 3) := by decide +kernel
theorem dX3_layOn_36 : decode cX3_layOn 36 = .ok (.aload 5, 2) := by decide +kernel
theorem dX3_layOn_38 : decode cX3_layOn 38 = .ok (.getfield 92, 3) := by decide +kernel
theorem dX3_layOn_41 : decode cX3_layOn 41 = .ok (.iload_n 2, 1) := by decide +kernel
theorem dX3_layOn_42 : decode cX3_layOn 42 = .ok (.iload_n 3, 1) := by decide +kernel
theorem dX3_layOn_43 : decode cX3_layOn 43 = .ok (.iastore, 1) := by decide +kernel
theorem dX3_layOn_44 : decode cX3_layOn 44 = .ok (.aload_n 0, 1) := by decide +kernel
theorem dX3_layOn_45 : decode cX3_layOn 45 = .ok (.iload_n 1, 1) := by decide +kernel
theorem dX3_layOn_46 : decode cX3_layOn 46 = .ok (.iload_n 2, 1) := by decide +kernel
theorem dX3_layOn_47 : decode cX3_layOn 47 = .ok (.invokestatic 276, 3) := by decide +kernel
theorem dX3_layOn_50 : decode cX3_layOn 50 = .ok (.invokevirtual 273, 3) := by decide +kernel
theorem dX3_layOn_53 : decode cX3_layOn 53 = .ok (.goto 38, 3) := by decide +kernel
theorem dX3_layOn_56 : decode cX3_layOn 56 = .ok (.aload 5, 2) := by decide +kernel
theorem dX3_layOn_58 : decode cX3_layOn 58 = .ok (.getfield 92, 3) := by decide +kernel
theorem dX3_layOn_61 : decode cX3_layOn 61 = .ok (.iload_n 2, 1) := by decide +kernel
theorem dX3_layOn_62 : decode cX3_layOn 62 = .ok (.iload_n 3, 1) := by decide +kernel
theorem dX3_layOn_63 : decode cX3_layOn 63 = .ok (.iastore, 1) := by decide +kernel
theorem dX3_layOn_64 : decode cX3_layOn 64 = .ok (.aload_n 0, 1) := by decide +kernel
theorem dX3_layOn_65 : decode cX3_layOn 65 = .ok (.iload_n 1, 1) := by decide +kernel
theorem dX3_layOn_66 : decode cX3_layOn 66 = .ok (.iload_n 2, 1) := by decide +kernel
theorem dX3_layOn_67 : decode cX3_layOn 67 = .ok (.invokestatic 276, 3) := by decide +kernel
theorem dX3_layOn_70 : decode cX3_layOn 70 = .ok (.invokevirtual 273, 3) := by decide +kernel
theorem dX3_layOn_73 : decode cX3_layOn 73 = .ok (.aload 5, 2) := by decide +kernel
theorem dX3_layOn_75 : decode cX3_layOn 75 = .ok (.getfield 95, 3) := by decide +kernel
theorem dX3_layOn_78 : decode cX3_layOn 78 = .ok (.iload_n 2, 1) := by decide +kernel
theorem dX3_layOn_79 : decode cX3_layOn 79 = .ok (.iload 4, 2) := by decide +kernel
theorem dX3_layOn_81 : decode cX3_layOn 81 = .ok (.iastore, 1) := by decide +kernel
theorem dX3_layOn_82 : decode cX3_layOn 82 = .ok (.aload_n 0, 1) := by decide +kernel
theorem dX3_layOn_83 : decode cX3_layOn 83 = .ok (.iload_n 1, 1) := by decide +kernel
theorem dX3_layOn_84 : decode cX3_layOn 84 = .ok (.iload_n 2, 1) := by decide +kernel
theorem dX3_layOn_85 : decode cX3_layOn 85 = .ok (.invokestatic 270, 3) := by decide +kernel
theorem dX3_layOn_88 : decode cX3_layOn 88 = .ok (.invokevirtual 273, 3) := by decide +kernel
theorem dX3_layOn_91 : decode cX3_layOn 91 = .ok (.return_, 1) := by decide +kernel
theorem dX3_putRight_0 : decode cX3_putRight 0 = .ok (.aload_n 0, 1) := by decide +kernel
theorem dX3_putRight_1 : decode cX3_putRight 1 = .ok (.iload_n 1, 1) := by decide +kernel
theorem dX3_putRight_2 : decode cX3_putRight 2 = .ok (.invokevirtual 120, 3) := by decide +kernel
theorem dX3_putRight_5 : decode cX3_putRight 5 = .ok (.astore_n 3, 1) := by decide +kernel
theorem dX3_putRight_6 : decode cX3_putRight 6 = .ok (.aload_n 3, 1) := by decide +kernel
theorem dX3_putRight_7 : decode cX3_putRight 7 = .ok (.iload_n 2, 1) := by decide +kernel
theorem dX3_putRight_8 : decode cX3_putRight 8 = .ok (.invokevirtual 279, 3) := by decide +kernel
theorem dX3_putRight_11 : decode cX3_putRight 11 = .ok (.istore 4, 2) := by decide +kernel
theorem dX3_putRight_13 : decode cX3_putRight 13 = .ok (.aload_n 3, 1) := by decide +kernel
theorem dX3_putRight_14 : decode cX3_putRight 14 = .ok (.iload 4, 2) := by decide +kernel
theorem dX3_putRight_16 : decode cX3_putRight 16 = .ok (.invokevirtual 282, 3) := by decide +kernel
theorem dX3_putRight_19 : decode cX3_putRight 19 = .ok (.istore 5, 2) := by decide +kernel
theorem dX3_putRight_21 : decode cX3_putRight 21 = .ok (.iconst 0, 1) := by decide +kernel
theorem dX3_putRight_22 : decode cX3_putRight 22 = .ok (.istore 6, 2) := by decide +kernel
theorem dX3_putRight_24 : decode cX3_putRight 24 = .ok (.iload 6, 2) := by decide +kernel
theorem dX3_putRight_26 : decode cX3_putRight 26 = .ok (.bipush 24, 2) := by decide +kernel
theorem dX3_putRight_28 : decode cX3_putRight 28 = .ok (.if_icmp .ge 93, 3) := by decide +kernel
theorem dX3_putRight_31 : decode cX3_putRight 31 = .ok (.iload 5, 2) := by decide +kernel
theorem dX3_putRight_33 : decode cX3_putRight 33 = .ok (.ifCond .eq 88, 3) := by decide +kernel
theorem dX3_putRight_36 : decode cX3_putRight 36 = .ok (.aload_n 3, 1) := by decide +kernel
theorem dX3_putRight_37 : decode cX3_putRight 37 = .ok (.getfield 127, 3) := by decide +kernel
theorem dX3_putRight_40 : decode cX3_putRight 40 = .ok (.iload 4, 2) := by decide +kernel
theorem dX3_putRight_42 : decode cX3_putRight 42 = .ok (.iload 5, 2) := by decide +kernel
theorem dX3_putRight_44 : decode cX3_putRight 44 = .ok (.iadd, 1) := by decide +kernel
theorem dX3_putRight_45 : decode cX3_putRight 45 = .ok (.iaload, 1) := by decide +kernel
theorem dX3_putRight_46 : decode cX3_putRight 46 = .ok (.istore 7, 2) := by decide +kernel
theorem dX3_putRight_48 : decode cX3_putRight 48 = .ok (.aload_n 3, 1) := by decide +kernel
theorem dX3_putRight_49 : decode cX3_putRight 49 = .ok (.iload 5, 2) := by decide +kernel
theorem dX3_putRight_51 : decode cX3_putRight 51 = .ok (.ifCond .le 8, 3) := by decide +kernel
theorem dX3_putRight_54 : decode cX3_putRight 54 = .ok (.iload 4, 2) := by decide +kernel
theorem dX3_putRight_56 : decode cX3_putRight 56 = .ok (.goto 7, 3) := by decide +kernel
theorem dX3_putRight_59 : decode cX3_putRight 59 = .ok (.iload 4, 2) := by decide +kernel
theorem dX3_putRight_61 : decode cX3_putRight 61 = .ok (.iconst 1, 1) := by decide +kernel
theorem dX3_putRight_62 : decode cX3_putRight 62 = .ok (.isub, 1) := by decide +kernel
theorem dX3_putRight_63 : decode cX3_putRight 63 = .ok (.invokevirtual 285, 3) := by decide +kernel
theorem dX3_putRight_66 : decode cX3_putRight 66 = .ok (.aload_n 0, 1) := by decide +kernel
theorem dX3_putRight_67 : decode cX3_putRight 67 = .ok (.getfield 32, 3) := by decide +kernel
theorem dX3_putRight_70 : decode cX3_putRight 70 = .ok (.iload_n 1, 1) := by decide +kernel
theorem dX3_putRight_71 : decode cX3_putRight 71 = .ok (.invokevirtual 289, 3) := by decide +kernel
theorem dX3_putRight_74 : decode cX3_putRight 74 = .ok (.iload 7, 2) := by decide +kernel
theorem dX3_putRight_76 : decode cX3_putRight 76 = .ok (.invokestatic 133, 3) := by decide +kernel
theorem dX3_putRight_79 : decode cX3_putRight 79 = .ok (.iload_n 2, 1) := by decide +kernel
theorem dX3_putRight_80 : decode cX3_putRight 80 = .ok (.invokestatic 133, 3) := by decide +kernel
theorem dX3_putRight_83 : decode cX3_putRight 83 = .ok (.if_icmp .eq 17, 3) := by decide +kernel
theorem dX3_putRight_86 : decode cX3_putRight 86 = .ok (.aload_n 0, 1) := by decide +kernel
theorem dX3_putRight_87 : decode cX3_putRight 87 = .ok (.iload_n 1, 1) := by decide +kernel
theorem dX3_putRight_88 : decode cX3_putRight 88 = .ok (.iload_n 2, 1) := by decide +kernel
theorem dX3_putRight_89 : decode cX3_putRight 89 = .ok (.invokestatic 130, 3) := by decide +kernel
theorem dX3_putRight_92 : decode cX3_putRight 92 = .ok (.iload 7, 2) := by decide +kernel
theorem dX3_putRight_94 : decode cX3_putRight 94 = .ok (.invokestatic 130, 3) := by decide +kernel
theorem dX3_putRight_97 : decode cX3_putRight 97 = .ok (.invokevirtual 292, 3) := by decide +kernel
theorem dX3_putRight_100 : decode cX3_putRight 100 = .ok (.iload 4, 2) := by decide +kernel
theorem dX3_putRight_102 : decode cX3_putRight 102 = .ok (.iload 5, 2) := by decide +kernel
theorem dX3_putRight_104 : decode cX3_putRight 104 = .ok (.iadd, 1) := by decide +kernel
theorem dX3_putRight_105 : decode cX3_putRight 105 = .ok (.istore 4, 2) := by decide +kernel
theorem dX3_putRight_107 : decode cX3_putRight 107 = .ok (.aload_n 3, 1) := by decide +kernel
theorem dX3_putRight_108 : decode cX3_putRight 108 = .ok (.iload 4, 2) := by decide +kernel
theorem dX3_putRight_110 : decode cX3_putRight 110 = .ok (.invokevirtual 282, 3) := by decide +kernel
theorem dX3_putRight_113 : decode cX3_putRight 113 = .ok (.istore 5, 2) := by decide +kernel
theorem dX3_putRight_115 : decode cX3_putRight 115 = .ok (.iinc 6 1, 3) := by decide +kernel
theorem dX3_putRight_118 : decode cX3_putRight 118 = .ok (.goto (-94), 3) := by decide +kernel
theorem dX3_putRight_121 : decode cX3_putRight 121 = .ok (.return_, 1) := by decide +kernel
theorem dX3_turn_0 : decode cX3_turn 0 = .ok (.aload_n 0, 1) := by decide +kernel
theorem dX3_turn_1 : decode cX3_turn 1 = .ok (.iload_n 1, 1) := by decide +kernel
theorem dX3_turn_2 : decode cX3_turn 2 = .ok (.invokevirtual 120, 3) := by decide +kernel
theorem dX3_turn_5 : decode cX3_turn 5 = .ok (.iload_n 2, 1) := by decide +kernel
theorem dX3_turn_6 : decode cX3_turn 6 = .ok (.iload_n 3, 1) := by decide +kernel
theorem dX3_turn_7 : decode cX3_turn 7 = .ok (.invokevirtual 296, 3) := by decide +kernel
theorem dX3_turn_10 : decode cX3_turn 10 = .ok (.aload_n 0, 1) := by decide +kernel
theorem dX3_turn_11 : decode cX3_turn 11 = .ok (.iload_n 1, 1) := by decide +kernel
theorem dX3_turn_12 : decode cX3_turn 12 = .ok (.iload_n 2, 1) := by decide +kernel
theorem dX3_turn_13 : decode cX3_turn 13 = .ok (.invokevirtual 170, 3) := by decide +kernel
theorem dX3_turn_16 : decode cX3_turn 16 = .ok (.iload_n 3, 1) := by decide +kernel
theorem dX3_turn_17 : decode cX3_turn 17 = .ok (.invokestatic 142, 3) := by decide +kernel
theorem dX3_turn_20 : decode cX3_turn 20 = .ok (.ifCond .eq 10, 3) := by decide +kernel
theorem dX3_turn_23 : decode cX3_turn 23 = .ok (.aload_n 0, 1) := by decide +kernel
theorem dX3_turn_24 : decode cX3_turn 24 = .ok (.getfield 32, 3) := by decide +kernel
theorem dX3_turn_27 : decode cX3_turn 27 = .ok (.invokevirtual 299, 3) := by decide +kernel
theorem dX3_turn_30 : decode cX3_turn 30 = .ok (.return_, 1) := by decide +kernel
theorem dX3_tellEvents_0 : decode cX3_tellEvents 0 = .ok (.iconst 0, 1) := by decide +kernel
theorem dX3_tellEvents_1 : decode cX3_tellEvents 1 = .ok (.istore_n 1, 1) := by decide +kernel
theorem dX3_tellEvents_2 : decode cX3_tellEvents 2 = .ok (.iload_n 1, 1) := by decide +kernel
theorem dX3_tellEvents_3 : decode cX3_tellEvents 3 = .ok (.bipush 12, 2) := by decide +kernel
theorem dX3_tellEvents_5 : decode cX3_tellEvents 5 = .ok (.if_icmp .ge 70, 3) := by decide +kernel
theorem dX3_tellEvents_8 : decode cX3_tellEvents 8 = .ok (.aload_n 0, 1) := by decide +kernel
theorem dX3_tellEvents_9 : decode cX3_tellEvents 9 = .ok (.iload_n 1, 1) := by decide +kernel
theorem dX3_tellEvents_10 : decode cX3_tellEvents 10 = .ok (.invokevirtual 302, 3) := by decide +kernel
theorem dX3_tellEvents_13 : decode cX3_tellEvents 13 = .ok (.istore_n 2, 1) := by decide +kernel
theorem dX3_tellEvents_14 : decode cX3_tellEvents 14 = .ok (.iload_n 1, 1) := by decide +kernel
theorem dX3_tellEvents_15 : decode cX3_tellEvents 15 = .ok (.iconst 1, 1) := by decide +kernel
theorem dX3_tellEvents_16 : decode cX3_tellEvents 16 = .ok (.iadd, 1) := by decide +kernel
theorem dX3_tellEvents_17 : decode cX3_tellEvents 17 = .ok (.istore_n 3, 1) := by decide +kernel
theorem dX3_tellEvents_18 : decode cX3_tellEvents 18 = .ok (.iload_n 3, 1) := by decide +kernel
theorem dX3_tellEvents_19 : decode cX3_tellEvents 19 = .ok (.bipush 12, 2) := by decide +kernel
theorem dX3_tellEvents_21 : decode cX3_tellEvents 21 = .ok (.if_icmp .ge 41, 3) := by decide +kernel
theorem dX3_tellEvents_24 : decode cX3_tellEvents 24 = .ok (.iload_n 2, 1) := by decide +kernel
theorem dX3_tellEvents_25 : decode cX3_tellEvents 25 = .ok (.aload_n 0, 1) := by decide +kernel
theorem dX3_tellEvents_26 : decode cX3_tellEvents 26 = .ok (.getfield 36, 3) := by decide +kernel
theorem dX3_tellEvents_29 : decode cX3_tellEvents 29 = .ok (.iload_n 1, 1) := by decide +kernel
theorem dX3_tellEvents_30 : decode cX3_tellEvents 30 = .ok (.iaload, 1) := by decide +kernel
theorem dX3_tellEvents_31 : decode cX3_tellEvents 31 = .ok (.ixor, 1) := by decide +kernel
theorem dX3_tellEvents_32 : decode cX3_tellEvents 32 = .ok (.iload_n 3, 1) := by decide +kernel
theorem dX3_tellEvents_33 : decode cX3_tellEvents 33 = .ok (.invokestatic 142, 3) := by decide +kernel
theorem dX3_tellEvents_36 : decode cX3_tellEvents 36 = .ok (.ifCond .eq 20, 3) := by decide +kernel
theorem dX3_tellEvents_39 : decode cX3_tellEvents 39 = .ok (.aload_n 0, 1) := by decide +kernel
theorem dX3_tellEvents_40 : decode cX3_tellEvents 40 = .ok (.getfield 32, 3) := by decide +kernel
theorem dX3_tellEvents_43 : decode cX3_tellEvents 43 = .ok (.iload_n 1, 1) := by decide +kernel
theorem dX3_tellEvents_44 : decode cX3_tellEvents 44 = .ok (.iload_n 3, 1) := by decide +kernel
theorem dX3_tellEvents_45 : decode cX3_tellEvents 45 = .ok (.invokestatic 145, 3) := by decide +kernel
theorem dX3_tellEvents_48 : decode cX3_tellEvents 48 = .ok (.iload_n 2, 1) := by decide +kernel
theorem dX3_tellEvents_49 : decode cX3_tellEvents 49 = .ok (.iload_n 3, 1) := by decide +kernel
theorem dX3_tellEvents_50 : decode cX3_tellEvents 50 = .ok (.invokestatic 142, 3) := by decide +kernel
theorem dX3_tellEvents_53 : decode cX3_tellEvents 53 = .ok (.invokevirtual 305, 3) := by decide +kernel
theorem dX3_tellEvents_56 : decode cX3_tellEvents 56 = .ok (.iinc 3 1, 3) := by decide +kernel
theorem dX3_tellEvents_59 : decode cX3_tellEvents 59 = .ok (.goto (-41), 3) := by decide +kernel
theorem dX3_tellEvents_62 : decode cX3_tellEvents 62 = .ok (.aload_n 0, 1) := by decide +kernel
theorem dX3_tellEvents_63 : decode cX3_tellEvents 63 = .ok (.getfield 36, 3) := by decide +kernel
theorem dX3_tellEvents_66 : decode cX3_tellEvents 66 = .ok (.iload_n 1, 1) := by decide +kernel
theorem dX3_tellEvents_67 : decode cX3_tellEvents 67 = .ok (.iload_n 2, 1) := by decide +kernel
theorem dX3_tellEvents_68 : decode cX3_tellEvents 68 = .ok (.iastore, 1) := by decide +kernel
theorem dX3_tellEvents_69 : decode cX3_tellEvents 69 = .ok (.iinc 1 1, 3) := by decide +kernel
theorem dX3_tellEvents_72 : decode cX3_tellEvents 72 = .ok (.goto (-70), 3) := by decide +kernel
theorem dX3_tellEvents_75 : decode cX3_tellEvents 75 = .ok (.aload_n 0, 1) := by decide +kernel
theorem dX3_tellEvents_76 : decode cX3_tellEvents 76 = .ok (.getfield 32, 3) := by decide +kernel
theorem dX3_tellEvents_79 : decode cX3_tellEvents 79 = .ok (.invokevirtual 308, 3) := by decide +kernel
theorem dX3_tellEvents_82 : decode cX3_tellEvents 82 = .ok (.return_, 1) := by decide +kernel
theorem dX3_groupOf_0 : decode cX3_groupOf 0 = .ok (.iload_n 1, 1) := by decide +kernel
theorem dX3_groupOf_1 : decode cX3_groupOf 1 = .ok (.invokestatic 193, 3) := by decide +kernel
theorem dX3_groupOf_4 : decode cX3_groupOf 4 = .ok (.istore_n 2, 1) := by decide +kernel
theorem dX3_groupOf_5 : decode cX3_groupOf 5 = .ok (.iconst 0, 1) := by decide +kernel
theorem dX3_groupOf_6 : decode cX3_groupOf 6 = .ok (.istore_n 3, 1) := by decide +kernel
theorem dX3_groupOf_7 : decode cX3_groupOf 7 = .ok (.iload_n 3, 1) := by decide +kernel
theorem dX3_groupOf_8 : decode cX3_groupOf 8 = .ok (.bipush 12, 2) := by decide +kernel
theorem dX3_groupOf_10 : decode cX3_groupOf 10 = .ok (.if_icmp .ge 61, 3) := by decide +kernel
theorem dX3_groupOf_13 : decode cX3_groupOf 13 = .ok (.iload_n 2, 1) := by decide +kernel
theorem dX3_groupOf_14 : decode cX3_groupOf 14 = .ok (.istore 4, 2) := by decide +kernel
theorem dX3_groupOf_16 : decode cX3_groupOf 16 = .ok (.iconst 0, 1) := by decide +kernel
theorem dX3_groupOf_17 : decode cX3_groupOf 17 = .ok (.istore 5, 2) := by decide +kernel
theorem dX3_groupOf_19 : decode cX3_groupOf 19 = .ok (.iload 5, 2) := by decide +kernel
theorem dX3_groupOf_21 : decode cX3_groupOf 21 = .ok (.bipush 12, 2) := by decide +kernel
theorem dX3_groupOf_23 : decode cX3_groupOf 23 = .ok (.if_icmp .ge 30, 3) := by decide +kernel
theorem dX3_groupOf_26 : decode cX3_groupOf 26 = .ok (.iload_n 2, 1) := by decide +kernel
theorem dX3_groupOf_27 : decode cX3_groupOf 27 = .ok (.iload 5, 2) := by decide +kernel
theorem dX3_groupOf_29 : decode cX3_groupOf 29 = .ok (.invokestatic 142, 3) := by decide +kernel
theorem dX3_groupOf_32 : decode cX3_groupOf 32 = .ok (.ifCond .eq 15, 3) := by decide +kernel
theorem dX3_groupOf_35 : decode cX3_groupOf 35 = .ok (.iload 4, 2) := by decide +kernel
theorem dX3_groupOf_37 : decode cX3_groupOf 37 = .ok (.aload_n 0, 1) := by decide +kernel
theorem dX3_groupOf_38 : decode cX3_groupOf 38 = .ok (.getfield 36, 3) := by decide +kernel
theorem dX3_groupOf_41 : decode cX3_groupOf 41 = .ok (.iload 5, 2) := by decide +kernel
theorem dX3_groupOf_43 : decode cX3_groupOf 43 = .ok (.iaload, 1) := by decide +kernel
theorem dX3_groupOf_44 : decode cX3_groupOf 44 = .ok (.ior, 1) := by decide +kernel
theorem dX3_groupOf_45 : decode cX3_groupOf 45 = .ok (.istore 4, 2) := by decide +kernel
theorem dX3_groupOf_47 : decode cX3_groupOf 47 = .ok (.iinc 5 1, 3) := by decide +kernel
theorem dX3_groupOf_50 : decode cX3_groupOf 50 = .ok (.goto (-31), 3) := by decide +kernel
theorem dX3_groupOf_53 : decode cX3_groupOf 53 = .ok (.iload 4, 2) := by decide +kernel
theorem dX3_groupOf_55 : decode cX3_groupOf 55 = .ok (.iload_n 2, 1) := by decide +kernel
theorem dX3_groupOf_56 : decode cX3_groupOf 56 = .ok (.if_icmp .ne 6, 3) := by decide +kernel
theorem dX3_groupOf_59 : decode cX3_groupOf 59 = .ok (.goto 12, 3) := by decide +kernel
theorem dX3_groupOf_62 : decode cX3_groupOf 62 = .ok (.iload 4, 2) := by decide +kernel
theorem dX3_groupOf_64 : decode cX3_groupOf 64 = .ok (.istore_n 2, 1) := by decide +kernel
theorem dX3_groupOf_65 : decode cX3_groupOf 65 = .ok (.iinc 3 1, 3) := by decide +kernel
theorem dX3_groupOf_68 : decode cX3_groupOf 68 = .ok (.goto (-61), 3) := by decide +kernel
theorem dX3_groupOf_71 : decode cX3_groupOf 71 = .ok (.iload_n 2, 1) := by decide +kernel
theorem dX3_groupOf_72 : decode cX3_groupOf 72 = .ok (.ireturn, 1) := by decide +kernel
theorem dX3_leastOf_0 : decode cX3_leastOf 0 = .ok (.iconst 0, 1) := by decide +kernel
theorem dX3_leastOf_1 : decode cX3_leastOf 1 = .ok (.istore_n 1, 1) := by decide +kernel
theorem dX3_leastOf_2 : decode cX3_leastOf 2 = .ok (.iload_n 1, 1) := by decide +kernel
theorem dX3_leastOf_3 : decode cX3_leastOf 3 = .ok (.bipush 12, 2) := by decide +kernel
theorem dX3_leastOf_5 : decode cX3_leastOf 5 = .ok (.if_icmp .ge 17, 3) := by decide +kernel
theorem dX3_leastOf_8 : decode cX3_leastOf 8 = .ok (.iload_n 0, 1) := by decide +kernel
theorem dX3_leastOf_9 : decode cX3_leastOf 9 = .ok (.iload_n 1, 1) := by decide +kernel
theorem dX3_leastOf_10 : decode cX3_leastOf 10 = .ok (.invokestatic 142, 3) := by decide +kernel
theorem dX3_leastOf_13 : decode cX3_leastOf 13 = .ok (.ifCond .ne 9, 3) := by decide +kernel
theorem dX3_leastOf_16 : decode cX3_leastOf 16 = .ok (.iinc 1 1, 3) := by decide +kernel
theorem dX3_leastOf_19 : decode cX3_leastOf 19 = .ok (.goto (-17), 3) := by decide +kernel
theorem dX3_leastOf_22 : decode cX3_leastOf 22 = .ok (.iload_n 1, 1) := by decide +kernel
theorem dX3_leastOf_23 : decode cX3_leastOf 23 = .ok (.ireturn, 1) := by decide +kernel
theorem dX3_groupCount_0 : decode cX3_groupCount 0 = .ok (.iconst 0, 1) := by decide +kernel
theorem dX3_groupCount_1 : decode cX3_groupCount 1 = .ok (.istore_n 1, 1) := by decide +kernel
theorem dX3_groupCount_2 : decode cX3_groupCount 2 = .ok (.aload_n 0, 1) := by decide +kernel
theorem dX3_groupCount_3 : decode cX3_groupCount 3 = .ok (.getfield 40, 3) := by decide +kernel
theorem dX3_groupCount_6 : decode cX3_groupCount 6 = .ok (.istore_n 2, 1) := by decide +kernel
theorem dX3_groupCount_7 : decode cX3_groupCount 7 = .ok (.iconst 0, 1) := by decide +kernel
theorem dX3_groupCount_8 : decode cX3_groupCount 8 = .ok (.istore_n 3, 1) := by decide +kernel
theorem dX3_groupCount_9 : decode cX3_groupCount 9 = .ok (.iload_n 3, 1) := by decide +kernel
theorem dX3_groupCount_10 : decode cX3_groupCount 10 = .ok (.bipush 12, 2) := by decide +kernel
theorem dX3_groupCount_12 : decode cX3_groupCount 12 = .ok (.if_icmp .ge 30, 3) := by decide +kernel
theorem dX3_groupCount_15 : decode cX3_groupCount 15 = .ok (.iload_n 2, 1) := by decide +kernel
theorem dX3_groupCount_16 : decode cX3_groupCount 16 = .ok (.iload_n 3, 1) := by decide +kernel
theorem dX3_groupCount_17 : decode cX3_groupCount 17 = .ok (.invokestatic 142, 3) := by decide +kernel
theorem dX3_groupCount_20 : decode cX3_groupCount 20 = .ok (.ifCond .eq 16, 3) := by decide +kernel
theorem dX3_groupCount_23 : decode cX3_groupCount 23 = .ok (.iload_n 2, 1) := by decide +kernel
theorem dX3_groupCount_24 : decode cX3_groupCount 24 = .ok (.aload_n 0, 1) := by decide +kernel
theorem dX3_groupCount_25 : decode cX3_groupCount 25 = .ok (.iload_n 3, 1) := by decide +kernel
theorem dX3_groupCount_26 : decode cX3_groupCount 26 = .ok (.invokevirtual 114, 3) := by decide +kernel
theorem dX3_groupCount_29 : decode cX3_groupCount 29 = .ok (.iconst (-1), 1) := by decide +kernel
theorem dX3_groupCount_30 : decode cX3_groupCount 30 = .ok (.ixor, 1) := by decide +kernel
theorem dX3_groupCount_31 : decode cX3_groupCount 31 = .ok (.iand, 1) := by decide +kernel
theorem dX3_groupCount_32 : decode cX3_groupCount 32 = .ok (.istore_n 2, 1) := by decide +kernel
theorem dX3_groupCount_33 : decode cX3_groupCount 33 = .ok (.iinc 1 1, 3) := by decide +kernel
theorem dX3_groupCount_36 : decode cX3_groupCount 36 = .ok (.iinc 3 1, 3) := by decide +kernel
theorem dX3_groupCount_39 : decode cX3_groupCount 39 = .ok (.goto (-30), 3) := by decide +kernel
theorem dX3_groupCount_42 : decode cX3_groupCount 42 = .ok (.iload_n 1, 1) := by decide +kernel
theorem dX3_groupCount_43 : decode cX3_groupCount 43 = .ok (.ireturn, 1) := by decide +kernel
theorem dX3_greatestGroup_0 : decode cX3_greatestGroup 0 = .ok (.iconst 0, 1) := by decide +kernel
theorem dX3_greatestGroup_1 : decode cX3_greatestGroup 1 = .ok (.istore_n 1, 1) := by decide +kernel
theorem dX3_greatestGroup_2 : decode cX3_greatestGroup 2 = .ok (.aload_n 0, 1) := by decide +kernel
theorem dX3_greatestGroup_3 : decode cX3_greatestGroup 3 = .ok (.getfield 40, 3) := by decide +kernel
theorem dX3_greatestGroup_6 : decode cX3_greatestGroup 6 = .ok (.istore_n 2, 1) := by decide +kernel
theorem dX3_greatestGroup_7 : decode cX3_greatestGroup 7 = .ok (.iconst 0, 1) := by decide +kernel
theorem dX3_greatestGroup_8 : decode cX3_greatestGroup 8 = .ok (.istore_n 3, 1) := by decide +kernel
theorem dX3_greatestGroup_9 : decode cX3_greatestGroup 9 = .ok (.iload_n 3, 1) := by decide +kernel
theorem dX3_greatestGroup_10 : decode cX3_greatestGroup 10 = .ok (.bipush 12, 2) := by decide +kernel
theorem dX3_greatestGroup_12 : decode cX3_greatestGroup 12 = .ok (.if_icmp .ge 41, 3) := by decide +kernel
theorem dX3_greatestGroup_15 : decode cX3_greatestGroup 15 = .ok (.iload_n 2, 1) := by decide +kernel
theorem dX3_greatestGroup_16 : decode cX3_greatestGroup 16 = .ok (.iload_n 3, 1) := by decide +kernel
theorem dX3_greatestGroup_17 : decode cX3_greatestGroup 17 = .ok (.invokestatic 142, 3) := by decide +kernel
theorem dX3_greatestGroup_20 : decode cX3_greatestGroup 20 = .ok (.ifCond .eq 27, 3) := by decide +kernel
theorem dX3_greatestGroup_23 : decode cX3_greatestGroup 23 = .ok (.aload_n 0, 1) := by decide +kernel
theorem dX3_greatestGroup_24 : decode cX3_greatestGroup 24 = .ok (.iload_n 3, 1) := by decide +kernel
theorem dX3_greatestGroup_25 : decode cX3_greatestGroup 25 = .ok (.invokevirtual 114, 3) := by decide +kernel
theorem dX3_greatestGroup_28 : decode cX3_greatestGroup 28 = .ok (.istore 4, 2) := by decide +kernel
theorem dX3_greatestGroup_30 : decode cX3_greatestGroup 30 = .ok (.iload_n 2, 1) := by decide +kernel
theorem dX3_greatestGroup_31 : decode cX3_greatestGroup 31 = .ok (.iload 4, 2) := by decide +kernel
theorem dX3_greatestGroup_33 : decode cX3_greatestGroup 33 = .ok (.iconst (-1), 1) := by decide +kernel
theorem dX3_greatestGroup_34 : decode cX3_greatestGroup 34 = .ok (.ixor, 1) := by decide +kernel
theorem dX3_greatestGroup_35 : decode cX3_greatestGroup 35 = .ok (.iand, 1) := by decide +kernel
theorem dX3_greatestGroup_36 : decode cX3_greatestGroup 36 = .ok (.istore_n 2, 1) := by decide +kernel
theorem dX3_greatestGroup_37 : decode cX3_greatestGroup 37 = .ok (.iload_n 1, 1) := by decide +kernel
theorem dX3_greatestGroup_38 : decode cX3_greatestGroup 38 = .ok (.iload 4, 2) := by decide +kernel
theorem dX3_greatestGroup_40 : decode cX3_greatestGroup 40 = .ok (.invokestatic 69, 3) := by decide +kernel
theorem dX3_greatestGroup_43 : decode cX3_greatestGroup 43 = .ok (.invokestatic 311, 3) := by decide +kernel
theorem dX3_greatestGroup_46 : decode cX3_greatestGroup 46 = .ok (.istore_n 1, 1) := by decide +kernel
theorem dX3_greatestGroup_47 : decode cX3_greatestGroup 47 = .ok (.iinc 3 1, 3) := by decide +kernel
theorem dX3_greatestGroup_50 : decode cX3_greatestGroup 50 = .ok (.goto (-41), 3) := by decide +kernel
theorem dX3_greatestGroup_53 : decode cX3_greatestGroup 53 = .ok (.iload_n 1, 1) := by decide +kernel
theorem dX3_greatestGroup_54 : decode cX3_greatestGroup 54 = .ok (.ireturn, 1) := by decide +kernel
theorem dX3_deepest_0 : decode cX3_deepest 0 = .ok (.aload_n 0, 1) := by decide +kernel
theorem dX3_deepest_1 : decode cX3_deepest 1 = .ok (.bipush 11, 2) := by decide +kernel
theorem dX3_deepest_3 : decode cX3_deepest 3 = .ok (.iconst 0, 1) := by decide +kernel
theorem dX3_deepest_4 : decode cX3_deepest 4 = .ok (.aload_n 0, 1) := by decide +kernel
theorem dX3_deepest_5 : decode cX3_deepest 5 = .ok (.getfield 40, 3) := by decide +kernel
theorem dX3_deepest_8 : decode cX3_deepest 8 = .ok (.iconst 0, 1) := by decide +kernel
theorem dX3_deepest_9 : decode cX3_deepest 9 = .ok (.invokevirtual 316, 3) := by decide +kernel
theorem dX3_deepest_12 : decode cX3_deepest 12 = .ok (.ireturn, 1) := by decide +kernel
theorem dX3_deepestFrom_0 : decode cX3_deepestFrom 0 = .ok (.iload_n 2, 1) := by decide +kernel
theorem dX3_deepestFrom_1 : decode cX3_deepestFrom 1 = .ok (.iload_n 3, 1) := by decide +kernel
theorem dX3_deepestFrom_2 : decode cX3_deepestFrom 2 = .ok (.ior, 1) := by decide +kernel
theorem dX3_deepestFrom_3 : decode cX3_deepestFrom 3 = .ok (.invokestatic 69, 3) := by decide +kernel
theorem dX3_deepestFrom_6 : decode cX3_deepestFrom 6 = .ok (.iload 4, 2) := by decide +kernel
theorem dX3_deepestFrom_8 : decode cX3_deepestFrom 8 = .ok (.invokestatic 69, 3) := by decide +kernel
theorem dX3_deepestFrom_11 : decode cX3_deepestFrom 11 = .ok (.if_icmp .gt 6, 3) := by decide +kernel
theorem dX3_deepestFrom_14 : decode cX3_deepestFrom 14 = .ok (.iload 4, 2) := by decide +kernel
theorem dX3_deepestFrom_16 : decode cX3_deepestFrom 16 = .ok (.ireturn, 1) := by decide +kernel
theorem dX3_deepestFrom_17 : decode cX3_deepestFrom 17 = .ok (.iload_n 1, 1) := by decide +kernel
theorem dX3_deepestFrom_18 : decode cX3_deepestFrom 18 = .ok (.ifCond .lt 9, 3) := by decide +kernel
theorem dX3_deepestFrom_21 : decode cX3_deepestFrom 21 = .ok (.iload_n 1, 1) := by decide +kernel
theorem dX3_deepestFrom_22 : decode cX3_deepestFrom 22 = .ok (.bipush 12, 2) := by decide +kernel
theorem dX3_deepestFrom_24 : decode cX3_deepestFrom 24 = .ok (.if_icmp .lt 5, 3) := by decide +kernel
theorem dX3_deepestFrom_27 : decode cX3_deepestFrom 27 = .ok (.iload_n 2, 1) := by decide +kernel
theorem dX3_deepestFrom_28 : decode cX3_deepestFrom 28 = .ok (.ireturn, 1) := by decide +kernel
theorem dX3_deepestFrom_29 : decode cX3_deepestFrom 29 = .ok (.iload_n 3, 1) := by decide +kernel
theorem dX3_deepestFrom_30 : decode cX3_deepestFrom 30 = .ok (.iload_n 1, 1) := by decide +kernel
theorem dX3_deepestFrom_31 : decode cX3_deepestFrom 31 = .ok (.invokestatic 193, 3) := by decide +kernel
theorem dX3_deepestFrom_34 : decode cX3_deepestFrom 34 = .ok (.iconst (-1), 1) := by decide +kernel
theorem dX3_deepestFrom_35 : decode cX3_deepestFrom 35 = .ok (.ixor, 1) := by decide +kernel
theorem dX3_deepestFrom_36 : decode cX3_deepestFrom 36 = .ok (.iand, 1) := by decide +kernel
theorem dX3_deepestFrom_37 : decode cX3_deepestFrom 37 = .ok (.istore 5, 2) := by decide +kernel
theorem dX3_deepestFrom_39 : decode cX3_deepestFrom 39 = .ok (.aload_n 0, 1) := by decide +kernel
theorem dX3_deepestFrom_40 : decode cX3_deepestFrom 40 = .ok (.iload_n 1, 1) := by decide +kernel
theorem dX3_deepestFrom_41 : decode cX3_deepestFrom 41 = .ok (.iconst 1, 1) := by decide +kernel
theorem dX3_deepestFrom_42 : decode cX3_deepestFrom 42 = .ok (.isub, 1) := by decide +kernel
theorem dX3_deepestFrom_43 : decode cX3_deepestFrom 43 = .ok (.iload_n 2, 1) := by decide +kernel
theorem dX3_deepestFrom_44 : decode cX3_deepestFrom 44 = .ok (.iload 5, 2) := by decide +kernel
theorem dX3_deepestFrom_46 : decode cX3_deepestFrom 46 = .ok (.iload 4, 2) := by decide +kernel
theorem dX3_deepestFrom_48 : decode cX3_deepestFrom 48 = .ok (.invokevirtual 316, 3) := by decide +kernel
theorem dX3_deepestFrom_51 : decode cX3_deepestFrom 51 = .ok (.istore 6, 2) := by decide +kernel
theorem dX3_deepestFrom_53 : decode cX3_deepestFrom 53 = .ok (.iload_n 3, 1) := by decide +kernel
theorem dX3_deepestFrom_54 : decode cX3_deepestFrom 54 = .ok (.iload_n 1, 1) := by decide +kernel
theorem dX3_deepestFrom_55 : decode cX3_deepestFrom 55 = .ok (.invokestatic 142, 3) := by decide +kernel
theorem dX3_deepestFrom_58 : decode cX3_deepestFrom 58 = .ok (.ifCond .ne 6, 3) := by decide +kernel
theorem dX3_deepestFrom_61 : decode cX3_deepestFrom 61 = .ok (.iload 6, 2) := by decide +kernel
theorem dX3_deepestFrom_63 : decode cX3_deepestFrom 63 = .ok (.ireturn, 1) := by decide +kernel
theorem dX3_deepestFrom_64 : decode cX3_deepestFrom 64 = .ok (.aload_n 0, 1) := by decide +kernel
theorem dX3_deepestFrom_65 : decode cX3_deepestFrom 65 = .ok (.iload_n 1, 1) := by decide +kernel
theorem dX3_deepestFrom_66 : decode cX3_deepestFrom 66 = .ok (.iconst 1, 1) := by decide +kernel
theorem dX3_deepestFrom_67 : decode cX3_deepestFrom 67 = .ok (.isub, 1) := by decide +kernel
theorem dX3_deepestFrom_68 : decode cX3_deepestFrom 68 = .ok (.iload_n 2, 1) := by decide +kernel
theorem dX3_deepestFrom_69 : decode cX3_deepestFrom 69 = .ok (.iload_n 1, 1) := by decide +kernel
theorem dX3_deepestFrom_70 : decode cX3_deepestFrom 70 = .ok (.invokestatic 193, 3) := by decide +kernel
theorem dX3_deepestFrom_73 : decode cX3_deepestFrom 73 = .ok (.ior, 1) := by decide +kernel
theorem dX3_deepestFrom_74 : decode cX3_deepestFrom 74 = .ok (.iload 5, 2) := by decide +kernel
theorem dX3_deepestFrom_76 : decode cX3_deepestFrom 76 = .ok (.aload_n 0, 1) := by decide +kernel
theorem dX3_deepestFrom_77 : decode cX3_deepestFrom 77 = .ok (.getfield 36, 3) := by decide +kernel
theorem dX3_deepestFrom_80 : decode cX3_deepestFrom 80 = .ok (.iload_n 1, 1) := by decide +kernel
theorem dX3_deepestFrom_81 : decode cX3_deepestFrom 81 = .ok (.iaload, 1) := by decide +kernel
theorem dX3_deepestFrom_82 : decode cX3_deepestFrom 82 = .ok (.iand, 1) := by decide +kernel
theorem dX3_deepestFrom_83 : decode cX3_deepestFrom 83 = .ok (.iload 6, 2) := by decide +kernel
theorem dX3_deepestFrom_85 : decode cX3_deepestFrom 85 = .ok (.invokevirtual 316, 3) := by decide +kernel
theorem dX3_deepestFrom_88 : decode cX3_deepestFrom 88 = .ok (.ireturn, 1) := by decide +kernel
theorem dX4_init_0 : decode cX4_init 0 = .ok (.aload_n 0, 1) := by decide +kernel
theorem dX4_init_1 : decode cX4_init 1 = .ok (.invokespecial 1, 3) := by decide +kernel
theorem dX4_init_4 : decode cX4_init 4 = .ok (.aload_n 0, 1) := by decide +kernel
theorem dX4_init_5 : decode cX4_init 5 = .ok (.bipush 60, 2) := by decide +kernel
theorem dX4_init_7 : decode cX4_init 7 = .ok (.newarray .int, 2) := by decide +kernel
theorem dX4_init_9 : decode cX4_init 9 = .ok (.putfield 7, 3) := by decide +kernel
theorem dX4_init_12 : decode cX4_init 12 = .ok (.aload_n 0, 1) := by decide +kernel
theorem dX4_init_13 : decode cX4_init 13 = .ok (.bipush 72, 2) := by decide +kernel
theorem dX4_init_15 : decode cX4_init 15 = .ok (.newarray .int, 2) := by decide +kernel
theorem dX4_init_17 : decode cX4_init 17 = .ok (.putfield 13, 3) := by decide +kernel
theorem dX4_init_20 : decode cX4_init 20 = .ok (.aload_n 0, 1) := by decide +kernel
theorem dX4_init_21 : decode cX4_init 21 = .ok (.bipush 72, 2) := by decide +kernel
theorem dX4_init_23 : decode cX4_init 23 = .ok (.newarray .int, 2) := by decide +kernel
theorem dX4_init_25 : decode cX4_init 25 = .ok (.putfield 16, 3) := by decide +kernel
theorem dX4_init_28 : decode cX4_init 28 = .ok (.aload_n 0, 1) := by decide +kernel
theorem dX4_init_29 : decode cX4_init 29 = .ok (.sipush 144, 3) := by decide +kernel
theorem dX4_init_32 : decode cX4_init 32 = .ok (.newarray .int, 2) := by decide +kernel
theorem dX4_init_34 : decode cX4_init 34 = .ok (.putfield 19, 3) := by decide +kernel
theorem dX4_init_37 : decode cX4_init 37 = .ok (.aload_n 0, 1) := by decide +kernel
theorem dX4_init_38 : decode cX4_init 38 = .ok (.bipush 66, 2) := by decide +kernel
theorem dX4_init_40 : decode cX4_init 40 = .ok (.newarray .int, 2) := by decide +kernel
theorem dX4_init_42 : decode cX4_init 42 = .ok (.putfield 22, 3) := by decide +kernel
theorem dX4_init_45 : decode cX4_init 45 = .ok (.aload_n 0, 1) := by decide +kernel
theorem dX4_init_46 : decode cX4_init 46 = .ok (.bipush 66, 2) := by decide +kernel
theorem dX4_init_48 : decode cX4_init 48 = .ok (.newarray .int, 2) := by decide +kernel
theorem dX4_init_50 : decode cX4_init 50 = .ok (.putfield 25, 3) := by decide +kernel
theorem dX4_init_53 : decode cX4_init 53 = .ok (.aload_n 0, 1) := by decide +kernel
theorem dX4_init_54 : decode cX4_init 54 = .ok (.iconst 3, 1) := by decide +kernel
theorem dX4_init_55 : decode cX4_init 55 = .ok (.newarray .int, 2) := by decide +kernel
theorem dX4_init_57 : decode cX4_init 57 = .ok (.putfield 28, 3) := by decide +kernel
theorem dX4_init_60 : decode cX4_init 60 = .ok (.aload_n 0, 1) := by decide +kernel
theorem dX4_init_61 : decode cX4_init 61 = .ok (.bipush 24, 2) := by decide +kernel
theorem dX4_init_63 : decode cX4_init 63 = .ok (.newarray .int, 2) := by decide +kernel
theorem dX4_init_65 : decode cX4_init 65 = .ok (.putfield 31, 3) := by decide +kernel
theorem dX4_init_68 : decode cX4_init 68 = .ok (.aload_n 0, 1) := by decide +kernel
theorem dX4_init_69 : decode cX4_init 69 = .ok (.sipush 144, 3) := by decide +kernel
theorem dX4_init_72 : decode cX4_init 72 = .ok (.newarray .boolean, 2) := by decide +kernel
theorem dX4_init_74 : decode cX4_init 74 = .ok (.putfield 34, 3) := by decide +kernel
theorem dX4_init_77 : decode cX4_init 77 = .ok (.aload_n 0, 1) := by decide +kernel
theorem dX4_init_78 : decode cX4_init 78 = .ok (.bipush 66, 2) := by decide +kernel
theorem dX4_init_80 : decode cX4_init 80 = .ok (.newarray .int, 2) := by decide +kernel
theorem dX4_init_82 : decode cX4_init 82 = .ok (.putfield 38, 3) := by decide +kernel
theorem dX4_init_85 : decode cX4_init 85 = .ok (.return_, 1) := by decide +kernel
theorem dX4_within_0 : decode cX4_within 0 = .ok (.iload_n 0, 1) := by decide +kernel
theorem dX4_within_1 : decode cX4_within 1 = .ok (.iload_n 1, 1) := by decide +kernel
theorem dX4_within_2 : decode cX4_within 2 = .ok (.if_icmp .lt 12, 3) := by decide +kernel
theorem dX4_within_5 : decode cX4_within 5 = .ok (.iload_n 0, 1) := by decide +kernel
theorem dX4_within_6 : decode cX4_within 6 = .ok (.iload_n 2, 1) := by decide +kernel
theorem dX4_within_7 : decode cX4_within 7 = .ok (.if_icmp .gt 7, 3) := by decide +kernel
theorem dX4_within_10 : decode cX4_within 10 = .ok (.iconst 1, 1) := by decide +kernel
theorem dX4_within_11 : decode cX4_within 11 = .ok (.goto 4, 3) := by decide +kernel
theorem dX4_within_14 : decode cX4_within 14 = .ok (.iconst 0, 1) := by decide +kernel
theorem dX4_within_15 : decode cX4_within 15 = .ok (.ireturn, 1) := by decide +kernel
theorem dX4_has_0 : decode cX4_has 0 = .ok (.iload_n 0, 1) := by decide +kernel
theorem dX4_has_1 : decode cX4_has 1 = .ok (.iload_n 1, 1) := by decide +kernel
theorem dX4_has_2 : decode cX4_has 2 = .ok (.ishr, 1) := by decide +kernel
theorem dX4_has_3 : decode cX4_has 3 = .ok (.iconst 1, 1) := by decide +kernel
theorem dX4_has_4 : decode cX4_has 4 = .ok (.iand, 1) := by decide +kernel
theorem dX4_has_5 : decode cX4_has 5 = .ok (.iconst 1, 1) := by decide +kernel
theorem dX4_has_6 : decode cX4_has 6 = .ok (.if_icmp .ne 7, 3) := by decide +kernel
theorem dX4_has_9 : decode cX4_has 9 = .ok (.iconst 1, 1) := by decide +kernel
theorem dX4_has_10 : decode cX4_has 10 = .ok (.goto 4, 3) := by decide +kernel
theorem dX4_has_13 : decode cX4_has 13 = .ok (.iconst 0, 1) := by decide +kernel
theorem dX4_has_14 : decode cX4_has 14 = .ok (.ireturn, 1) := by decide +kernel
theorem dX4_letter_0 : decode cX4_letter 0 = .ok (.iload_n 1, 1) := by decide +kernel
theorem dX4_letter_1 : decode cX4_letter 1 = .ok (.bipush 32, 2) := by decide +kernel
theorem dX4_letter_3 : decode cX4_letter 3 = .ok (.bipush 126, 2) := by decide +kernel
theorem dX4_letter_5 : decode cX4_letter 5 = .ok (.invokestatic 41, 3) := by decide +kernel
theorem dX4_letter_8 : decode cX4_letter 8 = .ok (.ifCond .ne 7, 3) := by decide +kernel
theorem dX4_letter_11 : decode cX4_letter 11 = .ok (.sipush (-10003), 3) := by decide +kernel
theorem dX4_letter_14 : decode cX4_letter 14 = .ok (.ireturn, 1) := by decide +kernel
theorem dX4_letter_15 : decode cX4_letter 15 = .ok (.aload_n 0, 1) := by decide +kernel
theorem dX4_letter_16 : decode cX4_letter 16 = .ok (.getfield 45, 3) := by decide +kernel
theorem dX4_letter_19 : decode cX4_letter 19 = .ok (.bipush 60, 2) := by decide +kernel
theorem dX4_letter_21 : decode cX4_letter 21 = .ok (.if_icmp .ne 7, 3) := by decide +kernel
theorem dX4_letter_24 : decode cX4_letter 24 = .ok (.sipush (-10005), 3) := by decide +kernel
theorem dX4_letter_27 : decode cX4_letter 27 = .ok (.ireturn, 1) := by decide +kernel
theorem dX4_letter_28 : decode cX4_letter 28 = .ok (.aload_n 0, 1) := by decide +kernel
theorem dX4_letter_29 : decode cX4_letter 29 = .ok (.getfield 7, 3) := by decide +kernel
theorem dX4_letter_32 : decode cX4_letter 32 = .ok (.aload_n 0, 1) := by decide +kernel
theorem dX4_letter_33 : decode cX4_letter 33 = .ok (.getfield 45, 3) := by decide +kernel
theorem dX4_letter_36 : decode cX4_letter 36 = .ok (.iload_n 1, 1) := by decide +kernel
theorem dX4_letter_37 : decode cX4_letter 37 = .ok (.iastore, 1) := by decide +kernel
theorem dX4_letter_38 : decode cX4_letter 38 = .ok (.aload_n 0, 1) := by decide +kernel
theorem dX4_letter_39 : decode cX4_letter 39 = .ok (.dup, 1) := by decide +kernel
theorem dX4_letter_40 : decode cX4_letter 40 = .ok (.getfield 45, 3) := by decide +kernel
theorem dX4_letter_43 : decode cX4_letter 43 = .ok (.iconst 1, 1) := by decide +kernel
theorem dX4_letter_44 : decode cX4_letter 44 = .ok (.iadd, 1) := by decide +kernel
theorem dX4_letter_45 : decode cX4_letter 45 = .ok (.putfield 45, 3) := by decide +kernel
theorem dX4_letter_48 : decode cX4_letter 48 = .ok (.aload_n 0, 1) := by decide +kernel
theorem dX4_letter_49 : decode cX4_letter 49 = .ok (.getfield 45, 3) := by decide +kernel
theorem dX4_letter_52 : decode cX4_letter 52 = .ok (.ireturn, 1) := by decide +kernel
theorem dX4_blank_0 : decode cX4_blank 0 = .ok (.aload_n 0, 1) := by decide +kernel
theorem dX4_blank_1 : decode cX4_blank 1 = .ok (.getfield 45, 3) := by decide +kernel
theorem dX4_blank_4 : decode cX4_blank 4 = .ok (.istore_n 1, 1) := by decide +kernel
theorem dX4_blank_5 : decode cX4_blank 5 = .ok (.aload_n 0, 1) := by decide +kernel
theorem dX4_blank_6 : decode cX4_blank 6 = .ok (.iconst 0, 1) := by decide +kernel
theorem dX4_blank_7 : decode cX4_blank 7 = .ok (.putfield 45, 3) := by decide +kernel
theorem dX4_blank_10 : decode cX4_blank 10 = .ok (.iload_n 1, 1) := by decide +kernel
theorem dX4_blank_11 : decode cX4_blank 11 = .ok (.ireturn, 1) := by decide +kernel
theorem dX4_takesFigure_0 : decode cX4_takesFigure 0 = .ok (.aload_n 0, 1) := by decide +kernel
theorem dX4_takesFigure_1 : decode cX4_takesFigure 1 = .ok (.getfield 49, 3) := by decide +kernel
theorem dX4_takesFigure_4 : decode cX4_takesFigure 4 = .ok (.sipush (-10001), 3) := by decide +kernel
theorem dX4_takesFigure_7 : decode cX4_takesFigure 7 = .ok (.if_icmp .ne 7, 3) := by decide +kernel
theorem dX4_takesFigure_10 : decode cX4_takesFigure 10 = .ok (.iload_n 1, 1) := by decide +kernel
theorem dX4_takesFigure_11 : decode cX4_takesFigure 11 = .ok (.goto 12, 3) := by decide +kernel
theorem dX4_takesFigure_14 : decode cX4_takesFigure 14 = .ok (.bipush 10, 2) := by decide +kernel
theorem dX4_takesFigure_16 : decode cX4_takesFigure 16 = .ok (.aload_n 0, 1) := by decide +kernel
theorem dX4_takesFigure_17 : decode cX4_takesFigure 17 = .ok (.getfield 49, 3) := by decide +kernel
theorem dX4_takesFigure_20 : decode cX4_takesFigure 20 = .ok (.imul, 1) := by decide +kernel
theorem dX4_takesFigure_21 : decode cX4_takesFigure 21 = .ok (.iload_n 1, 1) := by decide +kernel
theorem dX4_takesFigure_22 : decode cX4_takesFigure 22 = .ok (.iadd, 1) := by decide +kernel
theorem dX4_takesFigure_23 : decode cX4_takesFigure 23 = .ok (.istore_n 2, 1) := by decide +kernel
theorem dX4_takesFigure_24 : decode cX4_takesFigure 24 = .ok (.aload_n 0, 1) := by decide +kernel
theorem dX4_takesFigure_25 : decode cX4_takesFigure 25 = .ok (.getfield 49, 3) := by decide +kernel
theorem dX4_takesFigure_28 : decode cX4_takesFigure 28 = .ok (.ifCond .eq 25, 3) := by decide +kernel
theorem dX4_takesFigure_31 : decode cX4_takesFigure 31 = .ok (.iload_n 2, 1) := by decide +kernel
theorem dX4_takesFigure_32 : decode cX4_takesFigure 32 = .ok (.sipush 999, 3) := by decide +kernel
theorem dX4_takesFigure_35 : decode cX4_takesFigure 35 = .ok (.if_icmp .gt 18, 3) := by decide +kernel
theorem dX4_takesFigure_38 : decode cX4_takesFigure 38 = .ok (.iload_n 2, 1) := by decide +kernel
theorem dX4_takesFigure_39 : decode cX4_takesFigure 39 = .ok (.ifCond .gt 10, 3) := by decide +kernel
theorem dX4_takesFigure_42 : decode cX4_takesFigure 42 = .ok (.aload_n 0, 1) := by decide +kernel
theorem dX4_takesFigure_43 : decode cX4_takesFigure 43 = .ok (.getfield 52, 3) := by decide +kernel
theorem dX4_takesFigure_46 : decode cX4_takesFigure 46 = .ok (.ifCond .ne 7, 3) := by decide +kernel
theorem dX4_takesFigure_49 : decode cX4_takesFigure 49 = .ok (.iconst 1, 1) := by decide +kernel
theorem dX4_takesFigure_50 : decode cX4_takesFigure 50 = .ok (.goto 4, 3) := by decide +kernel
theorem dX4_takesFigure_53 : decode cX4_takesFigure 53 = .ok (.iconst 0, 1) := by decide +kernel
theorem dX4_takesFigure_54 : decode cX4_takesFigure 54 = .ok (.istore_n 3, 1) := by decide +kernel
theorem dX4_takesFigure_55 : decode cX4_takesFigure 55 = .ok (.aload_n 0, 1) := by decide +kernel
theorem dX4_takesFigure_56 : decode cX4_takesFigure 56 = .ok (.iload_n 3, 1) := by decide +kernel
theorem dX4_takesFigure_57 : decode cX4_takesFigure 57 = .ok (.ifCond .eq 7, 3) := by decide +kernel
theorem dX4_takesFigure_60 : decode cX4_takesFigure 60 = .ok (.iload_n 2, 1) := by decide +kernel
theorem dX4_takesFigure_61 : decode cX4_takesFigure 61 = .ok (.goto 7, 3) := by decide +kernel
theorem dX4_takesFigure_64 : decode cX4_takesFigure 64 = .ok (.aload_n 0, 1) := by decide +kernel
theorem dX4_takesFigure_65 : decode cX4_takesFigure 65 = .ok (.getfield 49, 3) := by decide +kernel
theorem dX4_takesFigure_68 : decode cX4_takesFigure 68 = .ok (.putfield 49, 3) := by decide +kernel
theorem dX4_takesFigure_71 : decode cX4_takesFigure 71 = .ok (.iload_n 3, 1) := by decide +kernel
theorem dX4_takesFigure_72 : decode cX4_takesFigure 72 = .ok (.ireturn, 1) := by decide +kernel
theorem dX4_takes_0 : decode cX4_takes 0 = .ok (.iload_n 1, 1) := by decide +kernel
theorem dX4_takes_1 : decode cX4_takes 1 = .ok (.bipush 48, 2) := by decide +kernel
theorem dX4_takes_3 : decode cX4_takes 3 = .ok (.bipush 57, 2) := by decide +kernel
theorem dX4_takes_5 : decode cX4_takes 5 = .ok (.invokestatic 41, 3) := by decide +kernel
theorem dX4_takes_8 : decode cX4_takes 8 = .ok (.ifCond .eq 12, 3) := by decide +kernel
theorem dX4_takes_11 : decode cX4_takes 11 = .ok (.aload_n 0, 1) := by decide +kernel
theorem dX4_takes_12 : decode cX4_takes 12 = .ok (.iload_n 1, 1) := by decide +kernel
theorem dX4_takes_13 : decode cX4_takes 13 = .ok (.bipush 48, 2) := by decide +kernel
theorem dX4_takes_15 : decode cX4_takes 15 = .ok (.isub, 1) := by decide +kernel
theorem dX4_takes_16 : decode cX4_takes 16 = .ok (.invokevirtual 56, 3) := by decide +kernel
theorem dX4_takes_19 : decode cX4_takes 19 = .ok (.ireturn, 1) := by decide +kernel
theorem dX4_takes_20 : decode cX4_takes 20 = .ok (.iload_n 1, 1) := by decide +kernel
theorem dX4_takes_21 : decode cX4_takes 21 = .ok (.bipush 45, 2) := by decide +kernel
theorem dX4_takes_23 : decode cX4_takes 23 = .ok (.if_icmp .ne 27, 3) := by decide +kernel
theorem dX4_takes_26 : decode cX4_takes 26 = .ok (.aload_n 0, 1) := by decide +kernel
theorem dX4_takes_27 : decode cX4_takes 27 = .ok (.getfield 49, 3) := by decide +kernel
theorem dX4_takes_30 : decode cX4_takes 30 = .ok (.sipush (-10001), 3) := by decide +kernel
theorem dX4_takes_33 : decode cX4_takes 33 = .ok (.if_icmp .ne 17, 3) := by decide +kernel
theorem dX4_takes_36 : decode cX4_takes 36 = .ok (.aload_n 0, 1) := by decide +kernel
theorem dX4_takes_37 : decode cX4_takes 37 = .ok (.getfield 52, 3) := by decide +kernel
theorem dX4_takes_40 : decode cX4_takes 40 = .ok (.ifCond .ne 10, 3) := by decide +kernel
theorem dX4_takes_43 : decode cX4_takes 43 = .ok (.aload_n 0, 1) := by decide +kernel
theorem dX4_takes_44 : decode cX4_takes 44 = .ok (.iconst 1, 1) := by decide +kernel
theorem dX4_takes_45 : decode cX4_takes 45 = .ok (.putfield 52, 3) := by decide +kernel
theorem dX4_takes_48 : decode cX4_takes 48 = .ok (.iconst 1, 1) := by decide +kernel
theorem dX4_takes_49 : decode cX4_takes 49 = .ok (.ireturn, 1) := by decide +kernel
theorem dX4_takes_50 : decode cX4_takes 50 = .ok (.aload_n 0, 1) := by decide +kernel
theorem dX4_takes_51 : decode cX4_takes 51 = .ok (.getfield 60, 3) := by decide +kernel
theorem dX4_takes_54 : decode cX4_takes 54 = .ok (.bipush 6, 2) := by decide +kernel
theorem dX4_takes_56 : decode cX4_takes 56 = .ok (.irem, 1) := by decide +kernel
theorem dX4_takes_57 : decode cX4_takes 57 = .ok (.istore_n 2, 1) := by decide +kernel
theorem dX4_takes_58 : decode cX4_takes 58 = .ok (.iload_n 2, 1) := by decide +kernel
theorem dX4_takes_59 : decode cX4_takes 59 = .ok (.iconst 2, 1) := by decide +kernel
theorem dX4_takes_60 : decode cX4_takes 60 = .ok (.irem, 1) := by decide +kernel
theorem dX4_takes_61 : decode cX4_takes 61 = .ok (.ifCond .ne 17, 3) := by decide +kernel
theorem dX4_takes_64 : decode cX4_takes 64 = .ok (.iload_n 1, 1) := by decide +kernel
theorem dX4_takes_65 : decode cX4_takes 65 = .ok (.bipush 58, 2) := by decide +kernel
theorem dX4_takes_67 : decode cX4_takes 67 = .ok (.if_icmp .ne 7, 3) := by decide +kernel
theorem dX4_takes_70 : decode cX4_takes 70 = .ok (.iconst 1, 1) := by decide +kernel
theorem dX4_takes_71 : decode cX4_takes 71 = .ok (.goto 46, 3) := by decide +kernel
theorem dX4_takes_74 : decode cX4_takes 74 = .ok (.iconst 0, 1) := by decide +kernel
theorem dX4_takes_75 : decode cX4_takes 75 = .ok (.goto 42, 3) := by decide +kernel
theorem dX4_takes_78 : decode cX4_takes 78 = .ok (.iload_n 2, 1) := by decide +kernel
theorem dX4_takes_79 : decode cX4_takes 79 = .ok (.iconst 5, 1) := by decide +kernel
theorem dX4_takes_80 : decode cX4_takes 80 = .ok (.if_icmp .ge 17, 3) := by decide +kernel
theorem dX4_takes_83 : decode cX4_takes 83 = .ok (.iload_n 1, 1) := by decide +kernel
theorem dX4_takes_84 : decode cX4_takes 84 = .ok (.bipush 44, 2) := by decide +kernel
theorem dX4_takes_86 : decode cX4_takes 86 = .ok (.if_icmp .ne 7, 3) := by decide +kernel
theorem dX4_takes_89 : decode cX4_takes 89 = .ok (.iconst 1, 1) := by decide +kernel
theorem dX4_takes_90 : decode cX4_takes 90 = .ok (.goto 27, 3) := by decide +kernel
theorem dX4_takes_93 : decode cX4_takes 93 = .ok (.iconst 0, 1) := by decide +kernel
theorem dX4_takes_94 : decode cX4_takes 94 = .ok (.goto 23, 3) := by decide +kernel
theorem dX4_takes_97 : decode cX4_takes 97 = .ok (.iload_n 1, 1) := by decide +kernel
theorem dX4_takes_98 : decode cX4_takes 98 = .ok (.bipush 59, 2) := by decide +kernel
theorem dX4_takes_100 : decode cX4_takes 100 = .ok (.if_icmp .ne 16, 3) := by decide +kernel
theorem dX4_takes_103 : decode cX4_takes 103 = .ok (.aload_n 0, 1) := by decide +kernel
theorem dX4_takes_104 : decode cX4_takes 104 = .ok (.getfield 60, 3) := by decide +kernel
theorem dX4_takes_107 : decode cX4_takes 107 = .ok (.bipush 23, 2) := by decide +kernel
theorem dX4_takes_109 : decode cX4_takes 109 = .ok (.if_icmp .ge 7, 3) := by decide +kernel
theorem dX4_takes_112 : decode cX4_takes 112 = .ok (.iconst 1, 1) := by decide +kernel
theorem dX4_takes_113 : decode cX4_takes 113 = .ok (.goto 4, 3) := by decide +kernel
theorem dX4_takes_116 : decode cX4_takes 116 = .ok (.iconst 0, 1) := by decide +kernel
theorem dX4_takes_117 : decode cX4_takes 117 = .ok (.istore_n 3, 1) := by decide +kernel
theorem dX4_takes_118 : decode cX4_takes 118 = .ok (.aload_n 0, 1) := by decide +kernel
theorem dX4_takes_119 : decode cX4_takes 119 = .ok (.getfield 49, 3) := by decide +kernel
theorem dX4_takes_122 : decode cX4_takes 122 = .ok (.sipush (-10001), 3) := by decide +kernel
theorem dX4_takes_125 : decode cX4_takes 125 = .ok (.if_icmp .eq 7, 3) := by decide +kernel
theorem dX4_takes_128 : decode cX4_takes 128 = .ok (.iload_n 3, 1) := by decide +kernel
theorem dX4_takes_129 : decode cX4_takes 129 = .ok (.ifCond .ne 5, 3) := by decide +kernel
theorem dX4_takes_132 : decode cX4_takes 132 = .ok (.iconst 0, 1) := by decide +kernel
theorem dX4_takes_133 : decode cX4_takes 133 = .ok (.ireturn, 1) := by decide +kernel
theorem dX4_takes_134 : decode cX4_takes 134 = .ok (.aload_n 0, 1) := by decide +kernel
theorem dX4_takes_135 : decode cX4_takes 135 = .ok (.invokevirtual 63, 3) := by decide +kernel
theorem dX4_takes_138 : decode cX4_takes 138 = .ok (.iconst 1, 1) := by decide +kernel
theorem dX4_takes_139 : decode cX4_takes 139 = .ok (.ireturn, 1) := by decide +kernel
theorem dX4_keepNumber_0 : decode cX4_keepNumber 0 = .ok (.aload_n 0, 1) := by decide +kernel
theorem dX4_keepNumber_1 : decode cX4_keepNumber 1 = .ok (.getfield 31, 3) := by decide +kernel
theorem dX4_keepNumber_4 : decode cX4_keepNumber 4 = .ok (.aload_n 0, 1) := by decide +kernel
theorem dX4_keepNumber_5 : decode cX4_keepNumber 5 = .ok (.getfield 60, 3) := by decide +kernel
theorem dX4_keepNumber_8 : decode cX4_keepNumber 8 = .ok (.aload_n 0, 1) := by decide +kernel
theorem dX4_keepNumber_9 : decode cX4_keepNumber 9 = .ok (.getfield 52, 3) := by decide +kernel
theorem dX4_keepNumber_12 : decode cX4_keepNumber 12 = .ok (.ifCond .eq 11, 3) := by decide +kernel
theorem dX4_keepNumber_15 : decode cX4_keepNumber 15 = .ok (.aload_n 0, 1) := by decide +kernel
theorem dX4_keepNumber_16 : decode cX4_keepNumber 16 = .ok (.getfield 49, 3) := by decide +kernel
theorem dX4_keepNumber_19 : decode cX4_keepNumber 19 = .ok (.ineg, 1) := by decide +kernel
theorem dX4_keepNumber_20 : decode cX4_keepNumber 20 = .ok (.goto 7, 3) := by decide +kernel
theorem dX4_keepNumber_23 : decode cX4_keepNumber 23 = .ok (.aload_n 0, 1) := by decide +kernel
theorem dX4_keepNumber_24 : decode cX4_keepNumber 24 = .ok (.getfield 49, 3) := by decide +kernel
theorem dX4_keepNumber_27 : decode cX4_keepNumber 27 = .ok (.iastore, 1) := by decide +kernel
theorem dX4_keepNumber_28 : decode cX4_keepNumber 28 = .ok (.aload_n 0, 1) := by decide +kernel
theorem dX4_keepNumber_29 : decode cX4_keepNumber 29 = .ok (.dup, 1) := by decide +kernel
theorem dX4_keepNumber_30 : decode cX4_keepNumber 30 = .ok (.getfield 60, 3) := by decide +kernel
theorem dX4_keepNumber_33 : decode cX4_keepNumber 33 = .ok (.iconst 1, 1) := by decide +kernel
theorem dX4_keepNumber_34 : decode cX4_keepNumber 34 = .ok (.iadd, 1) := by decide +kernel
theorem dX4_keepNumber_35 : decode cX4_keepNumber 35 = .ok (.putfield 60, 3) := by decide +kernel
theorem dX4_keepNumber_38 : decode cX4_keepNumber 38 = .ok (.aload_n 0, 1) := by decide +kernel
theorem dX4_keepNumber_39 : decode cX4_keepNumber 39 = .ok (.sipush (-10001), 3) := by decide +kernel
theorem dX4_keepNumber_42 : decode cX4_keepNumber 42 = .ok (.putfield 49, 3) := by decide +kernel
theorem dX4_keepNumber_45 : decode cX4_keepNumber 45 = .ok (.aload_n 0, 1) := by decide +kernel
theorem dX4_keepNumber_46 : decode cX4_keepNumber 46 = .ok (.iconst 0, 1) := by decide +kernel
theorem dX4_keepNumber_47 : decode cX4_keepNumber 47 = .ok (.putfield 52, 3) := by decide +kernel
theorem dX4_keepNumber_50 : decode cX4_keepNumber 50 = .ok (.return_, 1) := by decide +kernel
theorem dX4_read_0 : decode cX4_read 0 = .ok (.aload_n 0, 1) := by decide +kernel
theorem dX4_read_1 : decode cX4_read 1 = .ok (.iconst 0, 1) := by decide +kernel
theorem dX4_read_2 : decode cX4_read 2 = .ok (.putfield 60, 3) := by decide +kernel
theorem dX4_read_5 : decode cX4_read 5 = .ok (.aload_n 0, 1) := by decide +kernel
theorem dX4_read_6 : decode cX4_read 6 = .ok (.sipush (-10001), 3) := by decide +kernel
theorem dX4_read_9 : decode cX4_read 9 = .ok (.putfield 49, 3) := by decide +kernel
theorem dX4_read_12 : decode cX4_read 12 = .ok (.aload_n 0, 1) := by decide +kernel
theorem dX4_read_13 : decode cX4_read 13 = .ok (.iconst 0, 1) := by decide +kernel
theorem dX4_read_14 : decode cX4_read 14 = .ok (.putfield 52, 3) := by decide +kernel
theorem dX4_read_17 : decode cX4_read 17 = .ok (.iconst 0, 1) := by decide +kernel
theorem dX4_read_18 : decode cX4_read 18 = .ok (.istore_n 1, 1) := by decide +kernel
theorem dX4_read_19 : decode cX4_read 19 = .ok (.iload_n 1, 1) := by decide +kernel
theorem dX4_read_20 : decode cX4_read 20 = .ok (.aload_n 0, 1) := by decide +kernel
theorem dX4_read_21 : decode cX4_read 21 = .ok (.getfield 45, 3) := by decide +kernel
theorem dX4_read_24 : decode cX4_read 24 = .ok (.if_icmp .ge 22, 3) := by decide +kernel
theorem dX4_read_27 : decode cX4_read 27 = .ok (.aload_n 0, 1) := by decide +kernel
theorem dX4_read_28 : decode cX4_read 28 = .ok (.aload_n 0, 1) := by decide +kernel
theorem dX4_read_29 : decode cX4_read 29 = .ok (.getfield 7, 3) := by decide +kernel
theorem dX4_read_32 : decode cX4_read 32 = .ok (.iload_n 1, 1) := by decide +kernel
theorem dX4_read_33 : decode cX4_read 33 = .ok (.iaload, 1) := by decide +kernel
theorem dX4_read_34 : decode cX4_read 34 = .ok (.invokevirtual 66, 3) := by decide +kernel
theorem dX4_read_37 : decode cX4_read 37 = .ok (.ifCond .eq 9, 3) := by decide +kernel
theorem dX4_read_40 : decode cX4_read 40 = .ok (.iinc 1 1, 3) := by decide +kernel
theorem dX4_read_43 : decode cX4_read 43 = .ok (.goto (-24), 3) := by decide +kernel
theorem dX4_read_46 : decode cX4_read 46 = .ok (.iload_n 1, 1) := by decide +kernel
theorem dX4_read_47 : decode cX4_read 47 = .ok (.ireturn, 1) := by decide +kernel
end
section
theorem dX4_fault_0 : decode cX4_fault 0 = .ok (.aload_n 0, 1) := by decide +kernel
theorem dX4_fault_1 : decode cX4_fault 1 = .ok (.invokevirtual 69, 3) := by decide +kernel
theorem dX4_fault_4 : decode cX4_fault 4 = .ok (.ireturn, 1) := by decide +kernel
theorem dX4_isBatch_0 : decode cX4_isBatch 0 = .ok (.aload_n 0, 1) := by decide +kernel
theorem dX4_isBatch_1 : decode cX4_isBatch 1 = .ok (.invokevirtual 69, 3) := by decide +kernel
theorem dX4_isBatch_4 : decode cX4_isBatch 4 = .ok (.aload_n 0, 1) := by decide +kernel
theorem dX4_isBatch_5 : decode cX4_isBatch 5 = .ok (.getfield 45, 3) := by decide +kernel
theorem dX4_isBatch_8 : decode cX4_isBatch 8 = .ok (.if_icmp .lt 24, 3) := by decide +kernel
theorem dX4_isBatch_11 : decode cX4_isBatch 11 = .ok (.aload_n 0, 1) := by decide +kernel
theorem dX4_isBatch_12 : decode cX4_isBatch 12 = .ok (.getfield 49, 3) := by decide +kernel
theorem dX4_isBatch_15 : decode cX4_isBatch 15 = .ok (.sipush (-10001), 3) := by decide +kernel
theorem dX4_isBatch_18 : decode cX4_isBatch 18 = .ok (.if_icmp .eq 14, 3) := by decide +kernel
theorem dX4_isBatch_21 : decode cX4_isBatch 21 = .ok (.aload_n 0, 1) := by decide +kernel
theorem dX4_isBatch_22 : decode cX4_isBatch 22 = .ok (.getfield 60, 3) := by decide +kernel
theorem dX4_isBatch_25 : decode cX4_isBatch 25 = .ok (.bipush 6, 2) := by decide +kernel
theorem dX4_isBatch_27 : decode cX4_isBatch 27 = .ok (.irem, 1) := by decide +kernel
theorem dX4_isBatch_28 : decode cX4_isBatch 28 = .ok (.iconst 5, 1) := by decide +kernel
theorem dX4_isBatch_29 : decode cX4_isBatch 29 = .ok (.if_icmp .eq 5, 3) := by decide +kernel
theorem dX4_isBatch_32 : decode cX4_isBatch 32 = .ok (.iconst 0, 1) := by decide +kernel
theorem dX4_isBatch_33 : decode cX4_isBatch 33 = .ok (.ireturn, 1) := by decide +kernel
theorem dX4_isBatch_34 : decode cX4_isBatch 34 = .ok (.aload_n 0, 1) := by decide +kernel
theorem dX4_isBatch_35 : decode cX4_isBatch 35 = .ok (.invokevirtual 63, 3) := by decide +kernel
theorem dX4_isBatch_38 : decode cX4_isBatch 38 = .ok (.iconst 1, 1) := by decide +kernel
theorem dX4_isBatch_39 : decode cX4_isBatch 39 = .ok (.istore_n 1, 1) := by decide +kernel
theorem dX4_isBatch_40 : decode cX4_isBatch 40 = .ok (.iconst 0, 1) := by decide +kernel
theorem dX4_isBatch_41 : decode cX4_isBatch 41 = .ok (.istore_n 2, 1) := by decide +kernel
theorem dX4_isBatch_42 : decode cX4_isBatch 42 = .ok (.iload_n 2, 1) := by decide +kernel
theorem dX4_isBatch_43 : decode cX4_isBatch 43 = .ok (.aload_n 0, 1) := by decide +kernel
theorem dX4_isBatch_44 : decode cX4_isBatch 44 = .ok (.getfield 60, 3) := by decide +kernel
theorem dX4_isBatch_47 : decode cX4_isBatch 47 = .ok (.if_icmp .ge 36, 3) := by decide +kernel
theorem dX4_isBatch_50 : decode cX4_isBatch 50 = .ok (.iload_n 1, 1) := by decide +kernel
theorem dX4_isBatch_51 : decode cX4_isBatch 51 = .ok (.ifCond .eq 24, 3) := by decide +kernel
theorem dX4_isBatch_54 : decode cX4_isBatch 54 = .ok (.aload_n 0, 1) := by decide +kernel
theorem dX4_isBatch_55 : decode cX4_isBatch 55 = .ok (.getfield 31, 3) := by decide +kernel
theorem dX4_isBatch_58 : decode cX4_isBatch 58 = .ok (.iload_n 2, 1) := by decide +kernel
theorem dX4_isBatch_59 : decode cX4_isBatch 59 = .ok (.iaload, 1) := by decide +kernel
theorem dX4_isBatch_60 : decode cX4_isBatch 60 = .ok (.aload_n 0, 1) := by decide +kernel
theorem dX4_isBatch_61 : decode cX4_isBatch 61 = .ok (.getfield 31, 3) := by decide +kernel
theorem dX4_isBatch_64 : decode cX4_isBatch 64 = .ok (.iload_n 2, 1) := by decide +kernel
theorem dX4_isBatch_65 : decode cX4_isBatch 65 = .ok (.iconst 1, 1) := by decide +kernel
theorem dX4_isBatch_66 : decode cX4_isBatch 66 = .ok (.iadd, 1) := by decide +kernel
theorem dX4_isBatch_67 : decode cX4_isBatch 67 = .ok (.iaload, 1) := by decide +kernel
theorem dX4_isBatch_68 : decode cX4_isBatch 68 = .ok (.if_icmp .ge 7, 3) := by decide +kernel
theorem dX4_isBatch_71 : decode cX4_isBatch 71 = .ok (.iconst 1, 1) := by decide +kernel
theorem dX4_isBatch_72 : decode cX4_isBatch 72 = .ok (.goto 4, 3) := by decide +kernel
theorem dX4_isBatch_75 : decode cX4_isBatch 75 = .ok (.iconst 0, 1) := by decide +kernel
theorem dX4_isBatch_76 : decode cX4_isBatch 76 = .ok (.istore_n 1, 1) := by decide +kernel
theorem dX4_isBatch_77 : decode cX4_isBatch 77 = .ok (.iinc 2 2, 3) := by decide +kernel
theorem dX4_isBatch_80 : decode cX4_isBatch 80 = .ok (.goto (-38), 3) := by decide +kernel
theorem dX4_isBatch_83 : decode cX4_isBatch 83 = .ok (.iload_n 1, 1) := by decide +kernel
theorem dX4_isBatch_84 : decode cX4_isBatch 84 = .ok (.ireturn, 1) := by decide +kernel
theorem dX4_boxMany_0 : decode cX4_boxMany 0 = .ok (.iconst 0, 1) := by decide +kernel
theorem dX4_boxMany_1 : decode cX4_boxMany 1 = .ok (.istore_n 1, 1) := by decide +kernel
theorem dX4_boxMany_2 : decode cX4_boxMany 2 = .ok (.iconst 0, 1) := by decide +kernel
theorem dX4_boxMany_3 : decode cX4_boxMany 3 = .ok (.istore_n 2, 1) := by decide +kernel
theorem dX4_boxMany_4 : decode cX4_boxMany 4 = .ok (.iload_n 2, 1) := by decide +kernel
theorem dX4_boxMany_5 : decode cX4_boxMany 5 = .ok (.bipush 12, 2) := by decide +kernel
theorem dX4_boxMany_7 : decode cX4_boxMany 7 = .ok (.if_icmp .ge 20, 3) := by decide +kernel
theorem dX4_boxMany_10 : decode cX4_boxMany 10 = .ok (.iload_n 1, 1) := by decide +kernel
theorem dX4_boxMany_11 : decode cX4_boxMany 11 = .ok (.aload_n 0, 1) := by decide +kernel
theorem dX4_boxMany_12 : decode cX4_boxMany 12 = .ok (.getfield 73, 3) := by decide +kernel
theorem dX4_boxMany_15 : decode cX4_boxMany 15 = .ok (.iload_n 2, 1) := by decide +kernel
theorem dX4_boxMany_16 : decode cX4_boxMany 16 = .ok (.ishr, 1) := by decide +kernel
theorem dX4_boxMany_17 : decode cX4_boxMany 17 = .ok (.iconst 1, 1) := by decide +kernel
theorem dX4_boxMany_18 : decode cX4_boxMany 18 = .ok (.iand, 1) := by decide +kernel
theorem dX4_boxMany_19 : decode cX4_boxMany 19 = .ok (.iadd, 1) := by decide +kernel
theorem dX4_boxMany_20 : decode cX4_boxMany 20 = .ok (.istore_n 1, 1) := by decide +kernel
theorem dX4_boxMany_21 : decode cX4_boxMany 21 = .ok (.iinc 2 1, 3) := by decide +kernel
theorem dX4_boxMany_24 : decode cX4_boxMany 24 = .ok (.goto (-20), 3) := by decide +kernel
theorem dX4_boxMany_27 : decode cX4_boxMany 27 = .ok (.iload_n 1, 1) := by decide +kernel
theorem dX4_boxMany_28 : decode cX4_boxMany 28 = .ok (.ireturn, 1) := by decide +kernel
theorem dX4_boxes_0 : decode cX4_boxes 0 = .ok (.aload_n 0, 1) := by decide +kernel
theorem dX4_boxes_1 : decode cX4_boxes 1 = .ok (.invokevirtual 76, 3) := by decide +kernel
theorem dX4_boxes_4 : decode cX4_boxes 4 = .ok (.ifCond .ne 7, 3) := by decide +kernel
theorem dX4_boxes_7 : decode cX4_boxes 7 = .ok (.sipush (-10004), 3) := by decide +kernel
theorem dX4_boxes_10 : decode cX4_boxes 10 = .ok (.ireturn, 1) := by decide +kernel
theorem dX4_boxes_11 : decode cX4_boxes 11 = .ok (.aload_n 0, 1) := by decide +kernel
theorem dX4_boxes_12 : decode cX4_boxes 12 = .ok (.getfield 60, 3) := by decide +kernel
theorem dX4_boxes_15 : decode cX4_boxes 15 = .ok (.bipush 6, 2) := by decide +kernel
theorem dX4_boxes_17 : decode cX4_boxes 17 = .ok (.idiv, 1) := by decide +kernel
theorem dX4_boxes_18 : decode cX4_boxes 18 = .ok (.istore_n 1, 1) := by decide +kernel
theorem dX4_boxes_19 : decode cX4_boxes 19 = .ok (.aload_n 0, 1) := by decide +kernel
theorem dX4_boxes_20 : decode cX4_boxes 20 = .ok (.invokevirtual 80, 3) := by decide +kernel
theorem dX4_boxes_23 : decode cX4_boxes 23 = .ok (.iload_n 1, 1) := by decide +kernel
theorem dX4_boxes_24 : decode cX4_boxes 24 = .ok (.iadd, 1) := by decide +kernel
theorem dX4_boxes_25 : decode cX4_boxes 25 = .ok (.bipush 12, 2) := by decide +kernel
theorem dX4_boxes_27 : decode cX4_boxes 27 = .ok (.if_icmp .le 7, 3) := by decide +kernel
theorem dX4_boxes_30 : decode cX4_boxes 30 = .ok (.sipush (-10005), 3) := by decide +kernel
theorem dX4_boxes_33 : decode cX4_boxes 33 = .ok (.ireturn, 1) := by decide +kernel
theorem dX4_boxes_34 : decode cX4_boxes 34 = .ok (.aload_n 0, 1) := by decide +kernel
theorem dX4_boxes_35 : decode cX4_boxes 35 = .ok (.invokevirtual 83, 3) := by decide +kernel
theorem dX4_boxes_38 : decode cX4_boxes 38 = .ok (.iconst 0, 1) := by decide +kernel
theorem dX4_boxes_39 : decode cX4_boxes 39 = .ok (.istore_n 2, 1) := by decide +kernel
theorem dX4_boxes_40 : decode cX4_boxes 40 = .ok (.iload_n 2, 1) := by decide +kernel
theorem dX4_boxes_41 : decode cX4_boxes 41 = .ok (.iload_n 1, 1) := by decide +kernel
theorem dX4_boxes_42 : decode cX4_boxes 42 = .ok (.if_icmp .ge 80, 3) := by decide +kernel
theorem dX4_boxes_45 : decode cX4_boxes 45 = .ok (.iconst 0, 1) := by decide +kernel
theorem dX4_boxes_46 : decode cX4_boxes 46 = .ok (.istore_n 3, 1) := by decide +kernel
theorem dX4_boxes_47 : decode cX4_boxes 47 = .ok (.aload_n 0, 1) := by decide +kernel
theorem dX4_boxes_48 : decode cX4_boxes 48 = .ok (.getfield 73, 3) := by decide +kernel
theorem dX4_boxes_51 : decode cX4_boxes 51 = .ok (.iload_n 3, 1) := by decide +kernel
theorem dX4_boxes_52 : decode cX4_boxes 52 = .ok (.invokestatic 86, 3) := by decide +kernel
theorem dX4_boxes_55 : decode cX4_boxes 55 = .ok (.ifCond .eq 9, 3) := by decide +kernel
theorem dX4_boxes_58 : decode cX4_boxes 58 = .ok (.iinc 3 1, 3) := by decide +kernel
theorem dX4_boxes_61 : decode cX4_boxes 61 = .ok (.goto (-14), 3) := by decide +kernel
theorem dX4_boxes_64 : decode cX4_boxes 64 = .ok (.aload_n 0, 1) := by decide +kernel
theorem dX4_boxes_65 : decode cX4_boxes 65 = .ok (.dup, 1) := by decide +kernel
theorem dX4_boxes_66 : decode cX4_boxes 66 = .ok (.getfield 73, 3) := by decide +kernel
theorem dX4_boxes_69 : decode cX4_boxes 69 = .ok (.iconst 1, 1) := by decide +kernel
theorem dX4_boxes_70 : decode cX4_boxes 70 = .ok (.iload_n 3, 1) := by decide +kernel
theorem dX4_boxes_71 : decode cX4_boxes 71 = .ok (.ishl, 1) := by decide +kernel
theorem dX4_boxes_72 : decode cX4_boxes 72 = .ok (.ior, 1) := by decide +kernel
theorem dX4_boxes_73 : decode cX4_boxes 73 = .ok (.putfield 73, 3) := by decide +kernel
theorem dX4_boxes_76 : decode cX4_boxes 76 = .ok (.iconst 0, 1) := by decide +kernel
theorem dX4_boxes_77 : decode cX4_boxes 77 = .ok (.istore 4, 2) := by decide +kernel
theorem dX4_boxes_79 : decode cX4_boxes 79 = .ok (.iload 4, 2) := by decide +kernel
theorem dX4_boxes_81 : decode cX4_boxes 81 = .ok (.bipush 6, 2) := by decide +kernel
theorem dX4_boxes_83 : decode cX4_boxes 83 = .ok (.if_icmp .ge 33, 3) := by decide +kernel
theorem dX4_boxes_86 : decode cX4_boxes 86 = .ok (.aload_n 0, 1) := by decide +kernel
theorem dX4_boxes_87 : decode cX4_boxes 87 = .ok (.getfield 13, 3) := by decide +kernel
theorem dX4_boxes_90 : decode cX4_boxes 90 = .ok (.bipush 6, 2) := by decide +kernel
theorem dX4_boxes_92 : decode cX4_boxes 92 = .ok (.iload_n 3, 1) := by decide +kernel
theorem dX4_boxes_93 : decode cX4_boxes 93 = .ok (.imul, 1) := by decide +kernel
theorem dX4_boxes_94 : decode cX4_boxes 94 = .ok (.iload 4, 2) := by decide +kernel
theorem dX4_boxes_96 : decode cX4_boxes 96 = .ok (.iadd, 1) := by decide +kernel
theorem dX4_boxes_97 : decode cX4_boxes 97 = .ok (.aload_n 0, 1) := by decide +kernel
theorem dX4_boxes_98 : decode cX4_boxes 98 = .ok (.getfield 31, 3) := by decide +kernel
theorem dX4_boxes_101 : decode cX4_boxes 101 = .ok (.bipush 6, 2) := by decide +kernel
theorem dX4_boxes_103 : decode cX4_boxes 103 = .ok (.iload_n 2, 1) := by decide +kernel
theorem dX4_boxes_104 : decode cX4_boxes 104 = .ok (.imul, 1) := by decide +kernel
theorem dX4_boxes_105 : decode cX4_boxes 105 = .ok (.iload 4, 2) := by decide +kernel
theorem dX4_boxes_107 : decode cX4_boxes 107 = .ok (.iadd, 1) := by decide +kernel
theorem dX4_boxes_108 : decode cX4_boxes 108 = .ok (.iaload, 1) := by decide +kernel
theorem dX4_boxes_109 : decode cX4_boxes 109 = .ok (.iastore, 1) := by decide +kernel
theorem dX4_boxes_110 : decode cX4_boxes 110 = .ok (.iinc 4 1, 3) := by decide +kernel
theorem dX4_boxes_113 : decode cX4_boxes 113 = .ok (.goto (-34), 3) := by decide +kernel
theorem dX4_boxes_116 : decode cX4_boxes 116 = .ok (.iinc 2 1, 3) := by decide +kernel
theorem dX4_boxes_119 : decode cX4_boxes 119 = .ok (.goto (-79), 3) := by decide +kernel
theorem dX4_boxes_122 : decode cX4_boxes 122 = .ok (.aload_n 0, 1) := by decide +kernel
theorem dX4_boxes_123 : decode cX4_boxes 123 = .ok (.invokevirtual 90, 3) := by decide +kernel
theorem dX4_boxes_126 : decode cX4_boxes 126 = .ok (.aload_n 0, 1) := by decide +kernel
theorem dX4_boxes_127 : decode cX4_boxes 127 = .ok (.iconst 0, 1) := by decide +kernel
theorem dX4_boxes_128 : decode cX4_boxes 128 = .ok (.invokevirtual 93, 3) := by decide +kernel
theorem dX4_boxes_131 : decode cX4_boxes 131 = .ok (.aload_n 0, 1) := by decide +kernel
theorem dX4_boxes_132 : decode cX4_boxes 132 = .ok (.iconst 0, 1) := by decide +kernel
theorem dX4_boxes_133 : decode cX4_boxes 133 = .ok (.putfield 45, 3) := by decide +kernel
theorem dX4_boxes_136 : decode cX4_boxes 136 = .ok (.iload_n 1, 1) := by decide +kernel
theorem dX4_boxes_137 : decode cX4_boxes 137 = .ok (.ireturn, 1) := by decide +kernel
theorem dX4_lowOf_0 : decode cX4_lowOf 0 = .ok (.aload_n 0, 1) := by decide +kernel
theorem dX4_lowOf_1 : decode cX4_lowOf 1 = .ok (.getfield 13, 3) := by decide +kernel
theorem dX4_lowOf_4 : decode cX4_lowOf 4 = .ok (.bipush 6, 2) := by decide +kernel
theorem dX4_lowOf_6 : decode cX4_lowOf 6 = .ok (.iload_n 1, 1) := by decide +kernel
theorem dX4_lowOf_7 : decode cX4_lowOf 7 = .ok (.imul, 1) := by decide +kernel
theorem dX4_lowOf_8 : decode cX4_lowOf 8 = .ok (.iconst 2, 1) := by decide +kernel
theorem dX4_lowOf_9 : decode cX4_lowOf 9 = .ok (.iload_n 2, 1) := by decide +kernel
theorem dX4_lowOf_10 : decode cX4_lowOf 10 = .ok (.imul, 1) := by decide +kernel
theorem dX4_lowOf_11 : decode cX4_lowOf 11 = .ok (.iadd, 1) := by decide +kernel
theorem dX4_lowOf_12 : decode cX4_lowOf 12 = .ok (.iaload, 1) := by decide +kernel
theorem dX4_lowOf_13 : decode cX4_lowOf 13 = .ok (.ireturn, 1) := by decide +kernel
theorem dX4_highOf_0 : decode cX4_highOf 0 = .ok (.aload_n 0, 1) := by decide +kernel
theorem dX4_highOf_1 : decode cX4_highOf 1 = .ok (.getfield 13, 3) := by decide +kernel
theorem dX4_highOf_4 : decode cX4_highOf 4 = .ok (.bipush 6, 2) := by decide +kernel
theorem dX4_highOf_6 : decode cX4_highOf 6 = .ok (.iload_n 1, 1) := by decide +kernel
theorem dX4_highOf_7 : decode cX4_highOf 7 = .ok (.imul, 1) := by decide +kernel
theorem dX4_highOf_8 : decode cX4_highOf 8 = .ok (.iconst 2, 1) := by decide +kernel
theorem dX4_highOf_9 : decode cX4_highOf 9 = .ok (.iload_n 2, 1) := by decide +kernel
theorem dX4_highOf_10 : decode cX4_highOf 10 = .ok (.imul, 1) := by decide +kernel
theorem dX4_highOf_11 : decode cX4_highOf 11 = .ok (.iadd, 1) := by decide +kernel
theorem dX4_highOf_12 : decode cX4_highOf 12 = .ok (.iconst 1, 1) := by decide +kernel
theorem dX4_highOf_13 : decode cX4_highOf 13 = .ok (.iadd, 1) := by decide +kernel
theorem dX4_highOf_14 : decode cX4_highOf 14 = .ok (.iaload, 1) := by decide +kernel
theorem dX4_highOf_15 : decode cX4_highOf 15 = .ok (.ireturn, 1) := by decide +kernel
theorem dX4_valueOf_0 : decode cX4_valueOf 0 = .ok (.aload_n 0, 1) := by decide +kernel
theorem dX4_valueOf_1 : decode cX4_valueOf 1 = .ok (.getfield 13, 3) := by decide +kernel
theorem dX4_valueOf_4 : decode cX4_valueOf 4 = .ok (.bipush 6, 2) := by decide +kernel
theorem dX4_valueOf_6 : decode cX4_valueOf 6 = .ok (.iload_n 1, 1) := by decide +kernel
theorem dX4_valueOf_7 : decode cX4_valueOf 7 = .ok (.iconst 2, 1) := by decide +kernel
theorem dX4_valueOf_8 : decode cX4_valueOf 8 = .ok (.idiv, 1) := by decide +kernel
theorem dX4_valueOf_9 : decode cX4_valueOf 9 = .ok (.imul, 1) := by decide +kernel
theorem dX4_valueOf_10 : decode cX4_valueOf 10 = .ok (.iconst 2, 1) := by decide +kernel
theorem dX4_valueOf_11 : decode cX4_valueOf 11 = .ok (.iload_n 2, 1) := by decide +kernel
theorem dX4_valueOf_12 : decode cX4_valueOf 12 = .ok (.imul, 1) := by decide +kernel
theorem dX4_valueOf_13 : decode cX4_valueOf 13 = .ok (.iadd, 1) := by decide +kernel
theorem dX4_valueOf_14 : decode cX4_valueOf 14 = .ok (.iload_n 1, 1) := by decide +kernel
theorem dX4_valueOf_15 : decode cX4_valueOf 15 = .ok (.iconst 2, 1) := by decide +kernel
theorem dX4_valueOf_16 : decode cX4_valueOf 16 = .ok (.irem, 1) := by decide +kernel
theorem dX4_valueOf_17 : decode cX4_valueOf 17 = .ok (.iadd, 1) := by decide +kernel
theorem dX4_valueOf_18 : decode cX4_valueOf 18 = .ok (.iaload, 1) := by decide +kernel
theorem dX4_valueOf_19 : decode cX4_valueOf 19 = .ok (.ireturn, 1) := by decide +kernel
theorem dX4_isAhead_0 : decode cX4_isAhead 0 = .ok (.aload_n 0, 1) := by decide +kernel
theorem dX4_isAhead_1 : decode cX4_isAhead 1 = .ok (.iload_n 3, 1) := by decide +kernel
theorem dX4_isAhead_2 : decode cX4_isAhead 2 = .ok (.iload 4, 2) := by decide +kernel
theorem dX4_isAhead_4 : decode cX4_isAhead 4 = .ok (.invokevirtual 97, 3) := by decide +kernel
theorem dX4_isAhead_7 : decode cX4_isAhead 7 = .ok (.istore 5, 2) := by decide +kernel
theorem dX4_isAhead_9 : decode cX4_isAhead 9 = .ok (.iload_n 2, 1) := by decide +kernel
theorem dX4_isAhead_10 : decode cX4_isAhead 10 = .ok (.iload 5, 2) := by decide +kernel
theorem dX4_isAhead_12 : decode cX4_isAhead 12 = .ok (.if_icmp .eq 15, 3) := by decide +kernel
theorem dX4_isAhead_15 : decode cX4_isAhead 15 = .ok (.iload_n 2, 1) := by decide +kernel
theorem dX4_isAhead_16 : decode cX4_isAhead 16 = .ok (.iload 5, 2) := by decide +kernel
theorem dX4_isAhead_18 : decode cX4_isAhead 18 = .ok (.if_icmp .ge 7, 3) := by decide +kernel
theorem dX4_isAhead_21 : decode cX4_isAhead 21 = .ok (.iconst 1, 1) := by decide +kernel
theorem dX4_isAhead_22 : decode cX4_isAhead 22 = .ok (.goto 4, 3) := by decide +kernel
theorem dX4_isAhead_25 : decode cX4_isAhead 25 = .ok (.iconst 0, 1) := by decide +kernel
theorem dX4_isAhead_26 : decode cX4_isAhead 26 = .ok (.ireturn, 1) := by decide +kernel
theorem dX4_isAhead_27 : decode cX4_isAhead 27 = .ok (.iload_n 1, 1) := by decide +kernel
theorem dX4_isAhead_28 : decode cX4_isAhead 28 = .ok (.iconst 2, 1) := by decide +kernel
theorem dX4_isAhead_29 : decode cX4_isAhead 29 = .ok (.irem, 1) := by decide +kernel
theorem dX4_isAhead_30 : decode cX4_isAhead 30 = .ok (.iload_n 3, 1) := by decide +kernel
theorem dX4_isAhead_31 : decode cX4_isAhead 31 = .ok (.iconst 2, 1) := by decide +kernel
theorem dX4_isAhead_32 : decode cX4_isAhead 32 = .ok (.irem, 1) := by decide +kernel
theorem dX4_isAhead_33 : decode cX4_isAhead 33 = .ok (.if_icmp .eq 27, 3) := by decide +kernel
theorem dX4_isAhead_36 : decode cX4_isAhead 36 = .ok (.iload_n 1, 1) := by decide +kernel
theorem dX4_isAhead_37 : decode cX4_isAhead 37 = .ok (.iconst 2, 1) := by decide +kernel
theorem dX4_isAhead_38 : decode cX4_isAhead 38 = .ok (.irem, 1) := by decide +kernel
theorem dX4_isAhead_39 : decode cX4_isAhead 39 = .ok (.ifCond .ne 7, 3) := by decide +kernel
theorem dX4_isAhead_42 : decode cX4_isAhead 42 = .ok (.iconst 1, 1) := by decide +kernel
theorem dX4_isAhead_43 : decode cX4_isAhead 43 = .ok (.goto 4, 3) := by decide +kernel
theorem dX4_isAhead_46 : decode cX4_isAhead 46 = .ok (.iconst 0, 1) := by decide +kernel
theorem dX4_isAhead_47 : decode cX4_isAhead 47 = .ok (.aload_n 0, 1) := by decide +kernel
theorem dX4_isAhead_48 : decode cX4_isAhead 48 = .ok (.getfield 101, 3) := by decide +kernel
theorem dX4_isAhead_51 : decode cX4_isAhead 51 = .ok (.if_icmp .ne 7, 3) := by decide +kernel
theorem dX4_isAhead_54 : decode cX4_isAhead 54 = .ok (.iconst 1, 1) := by decide +kernel
theorem dX4_isAhead_55 : decode cX4_isAhead 55 = .ok (.goto 4, 3) := by decide +kernel
theorem dX4_isAhead_58 : decode cX4_isAhead 58 = .ok (.iconst 0, 1) := by decide +kernel
theorem dX4_isAhead_59 : decode cX4_isAhead 59 = .ok (.ireturn, 1) := by decide +kernel
theorem dX4_isAhead_60 : decode cX4_isAhead 60 = .ok (.iload_n 1, 1) := by decide +kernel
theorem dX4_isAhead_61 : decode cX4_isAhead 61 = .ok (.iconst 2, 1) := by decide +kernel
theorem dX4_isAhead_62 : decode cX4_isAhead 62 = .ok (.idiv, 1) := by decide +kernel
theorem dX4_isAhead_63 : decode cX4_isAhead 63 = .ok (.iload_n 3, 1) := by decide +kernel
theorem dX4_isAhead_64 : decode cX4_isAhead 64 = .ok (.iconst 2, 1) := by decide +kernel
theorem dX4_isAhead_65 : decode cX4_isAhead 65 = .ok (.idiv, 1) := by decide +kernel
theorem dX4_isAhead_66 : decode cX4_isAhead 66 = .ok (.if_icmp .ge 7, 3) := by decide +kernel
theorem dX4_isAhead_69 : decode cX4_isAhead 69 = .ok (.iconst 1, 1) := by decide +kernel
theorem dX4_isAhead_70 : decode cX4_isAhead 70 = .ok (.goto 4, 3) := by decide +kernel
theorem dX4_isAhead_73 : decode cX4_isAhead 73 = .ok (.iconst 0, 1) := by decide +kernel
theorem dX4_isAhead_74 : decode cX4_isAhead 74 = .ok (.ireturn, 1) := by decide +kernel
theorem dX4_areMeeting_0 : decode cX4_areMeeting 0 = .ok (.aload_n 0, 1) := by decide +kernel
theorem dX4_areMeeting_1 : decode cX4_areMeeting 1 = .ok (.getfield 101, 3) := by decide +kernel
theorem dX4_areMeeting_4 : decode cX4_areMeeting 4 = .ok (.ifCond .eq 7, 3) := by decide +kernel
theorem dX4_areMeeting_7 : decode cX4_areMeeting 7 = .ok (.iconst 1, 1) := by decide +kernel
theorem dX4_areMeeting_8 : decode cX4_areMeeting 8 = .ok (.goto 4, 3) := by decide +kernel
theorem dX4_areMeeting_11 : decode cX4_areMeeting 11 = .ok (.iconst 0, 1) := by decide +kernel
theorem dX4_areMeeting_12 : decode cX4_areMeeting 12 = .ok (.istore 4, 2) := by decide +kernel
theorem dX4_areMeeting_14 : decode cX4_areMeeting 14 = .ok (.aload_n 0, 1) := by decide +kernel
theorem dX4_areMeeting_15 : decode cX4_areMeeting 15 = .ok (.iload_n 1, 1) := by decide +kernel
theorem dX4_areMeeting_16 : decode cX4_areMeeting 16 = .ok (.iload_n 3, 1) := by decide +kernel
theorem dX4_areMeeting_17 : decode cX4_areMeeting 17 = .ok (.invokevirtual 104, 3) := by decide +kernel
theorem dX4_areMeeting_20 : decode cX4_areMeeting 20 = .ok (.aload_n 0, 1) := by decide +kernel
theorem dX4_areMeeting_21 : decode cX4_areMeeting 21 = .ok (.iload_n 2, 1) := by decide +kernel
theorem dX4_areMeeting_22 : decode cX4_areMeeting 22 = .ok (.iload_n 3, 1) := by decide +kernel
theorem dX4_areMeeting_23 : decode cX4_areMeeting 23 = .ok (.invokevirtual 107, 3) := by decide +kernel
theorem dX4_areMeeting_26 : decode cX4_areMeeting 26 = .ok (.iload 4, 2) := by decide +kernel
theorem dX4_areMeeting_28 : decode cX4_areMeeting 28 = .ok (.iadd, 1) := by decide +kernel
theorem dX4_areMeeting_29 : decode cX4_areMeeting 29 = .ok (.if_icmp .ge 25, 3) := by decide +kernel
theorem dX4_areMeeting_32 : decode cX4_areMeeting 32 = .ok (.aload_n 0, 1) := by decide +kernel
theorem dX4_areMeeting_33 : decode cX4_areMeeting 33 = .ok (.iload_n 2, 1) := by decide +kernel
theorem dX4_areMeeting_34 : decode cX4_areMeeting 34 = .ok (.iload_n 3, 1) := by decide +kernel
theorem dX4_areMeeting_35 : decode cX4_areMeeting 35 = .ok (.invokevirtual 104, 3) := by decide +kernel
theorem dX4_areMeeting_38 : decode cX4_areMeeting 38 = .ok (.aload_n 0, 1) := by decide +kernel
theorem dX4_areMeeting_39 : decode cX4_areMeeting 39 = .ok (.iload_n 1, 1) := by decide +kernel
theorem dX4_areMeeting_40 : decode cX4_areMeeting 40 = .ok (.iload_n 3, 1) := by decide +kernel
theorem dX4_areMeeting_41 : decode cX4_areMeeting 41 = .ok (.invokevirtual 107, 3) := by decide +kernel
theorem dX4_areMeeting_44 : decode cX4_areMeeting 44 = .ok (.iload 4, 2) := by decide +kernel
theorem dX4_areMeeting_46 : decode cX4_areMeeting 46 = .ok (.iadd, 1) := by decide +kernel
theorem dX4_areMeeting_47 : decode cX4_areMeeting 47 = .ok (.if_icmp .ge 7, 3) := by decide +kernel
theorem dX4_areMeeting_50 : decode cX4_areMeeting 50 = .ok (.iconst 1, 1) := by decide +kernel
theorem dX4_areMeeting_51 : decode cX4_areMeeting 51 = .ok (.goto 4, 3) := by decide +kernel
theorem dX4_areMeeting_54 : decode cX4_areMeeting 54 = .ok (.iconst 0, 1) := by decide +kernel
theorem dX4_areMeeting_55 : decode cX4_areMeeting 55 = .ok (.ireturn, 1) := by decide +kernel
theorem dX4_layRow_0 : decode cX4_layRow 0 = .ok (.aload_n 0, 1) := by decide +kernel
theorem dX4_layRow_1 : decode cX4_layRow 1 = .ok (.iconst 0, 1) := by decide +kernel
theorem dX4_layRow_2 : decode cX4_layRow 2 = .ok (.putfield 110, 3) := by decide +kernel
theorem dX4_layRow_5 : decode cX4_layRow 5 = .ok (.iconst 0, 1) := by decide +kernel
theorem dX4_layRow_6 : decode cX4_layRow 6 = .ok (.istore_n 2, 1) := by decide +kernel
theorem dX4_layRow_7 : decode cX4_layRow 7 = .ok (.iload_n 2, 1) := by decide +kernel
theorem dX4_layRow_8 : decode cX4_layRow 8 = .ok (.bipush 24, 2) := by decide +kernel
theorem dX4_layRow_10 : decode cX4_layRow 10 = .ok (.if_icmp .ge 111, 3) := by decide +kernel
theorem dX4_layRow_13 : decode cX4_layRow 13 = .ok (.aload_n 0, 1) := by decide +kernel
theorem dX4_layRow_14 : decode cX4_layRow 14 = .ok (.getfield 73, 3) := by decide +kernel
theorem dX4_layRow_17 : decode cX4_layRow 17 = .ok (.iload_n 2, 1) := by decide +kernel
theorem dX4_layRow_18 : decode cX4_layRow 18 = .ok (.iconst 2, 1) := by decide +kernel
theorem dX4_layRow_19 : decode cX4_layRow 19 = .ok (.idiv, 1) := by decide +kernel
theorem dX4_layRow_20 : decode cX4_layRow 20 = .ok (.invokestatic 86, 3) := by decide +kernel
theorem dX4_layRow_23 : decode cX4_layRow 23 = .ok (.ifCond .eq 92, 3) := by decide +kernel
theorem dX4_layRow_26 : decode cX4_layRow 26 = .ok (.aload_n 0, 1) := by decide +kernel
theorem dX4_layRow_27 : decode cX4_layRow 27 = .ok (.getfield 110, 3) := by decide +kernel
theorem dX4_layRow_30 : decode cX4_layRow 30 = .ok (.istore_n 3, 1) := by decide +kernel
theorem dX4_layRow_31 : decode cX4_layRow 31 = .ok (.iload_n 3, 1) := by decide +kernel
theorem dX4_layRow_32 : decode cX4_layRow 32 = .ok (.ifCond .le 61, 3) := by decide +kernel
theorem dX4_layRow_35 : decode cX4_layRow 35 = .ok (.aload_n 0, 1) := by decide +kernel
theorem dX4_layRow_36 : decode cX4_layRow 36 = .ok (.iload_n 2, 1) := by decide +kernel
theorem dX4_layRow_37 : decode cX4_layRow 37 = .ok (.aload_n 0, 1) := by decide +kernel
theorem dX4_layRow_38 : decode cX4_layRow 38 = .ok (.iload_n 2, 1) := by decide +kernel
theorem dX4_layRow_39 : decode cX4_layRow 39 = .ok (.iload_n 1, 1) := by decide +kernel
theorem dX4_layRow_40 : decode cX4_layRow 40 = .ok (.invokevirtual 97, 3) := by decide +kernel
theorem dX4_layRow_43 : decode cX4_layRow 43 = .ok (.aload_n 0, 1) := by decide +kernel
theorem dX4_layRow_44 : decode cX4_layRow 44 = .ok (.getfield 16, 3) := by decide +kernel
theorem dX4_layRow_47 : decode cX4_layRow 47 = .ok (.bipush 24, 2) := by decide +kernel
theorem dX4_layRow_49 : decode cX4_layRow 49 = .ok (.iload_n 1, 1) := by decide +kernel
theorem dX4_layRow_50 : decode cX4_layRow 50 = .ok (.imul, 1) := by decide +kernel
theorem dX4_layRow_51 : decode cX4_layRow 51 = .ok (.iload_n 3, 1) := by decide +kernel
theorem dX4_layRow_52 : decode cX4_layRow 52 = .ok (.iadd, 1) := by decide +kernel
theorem dX4_layRow_53 : decode cX4_layRow 53 = .ok (.iconst 1, 1) := by decide +kernel
theorem dX4_layRow_54 : decode cX4_layRow 54 = .ok (.isub, 1) := by decide +kernel
theorem dX4_layRow_55 : decode cX4_layRow 55 = .ok (.iaload, 1) := by decide +kernel
theorem dX4_layRow_56 : decode cX4_layRow 56 = .ok (.iload_n 1, 1) := by decide +kernel
theorem dX4_layRow_57 : decode cX4_layRow 57 = .ok (.invokevirtual 113, 3) := by decide +kernel
theorem dX4_layRow_60 : decode cX4_layRow 60 = .ok (.ifCond .eq 33, 3) := by decide +kernel
theorem dX4_layRow_63 : decode cX4_layRow 63 = .ok (.aload_n 0, 1) := by decide +kernel
theorem dX4_layRow_64 : decode cX4_layRow 64 = .ok (.getfield 16, 3) := by decide +kernel
theorem dX4_layRow_67 : decode cX4_layRow 67 = .ok (.bipush 24, 2) := by decide +kernel
theorem dX4_layRow_69 : decode cX4_layRow 69 = .ok (.iload_n 1, 1) := by decide +kernel
theorem dX4_layRow_70 : decode cX4_layRow 70 = .ok (.imul, 1) := by decide +kernel
theorem dX4_layRow_71 : decode cX4_layRow 71 = .ok (.iload_n 3, 1) := by decide +kernel
theorem dX4_layRow_72 : decode cX4_layRow 72 = .ok (.iadd, 1) := by decide +kernel
theorem dX4_layRow_73 : decode cX4_layRow 73 = .ok (.aload_n 0, 1) := by decide +kernel
theorem dX4_layRow_74 : decode cX4_layRow 74 = .ok (.getfield 16, 3) := by decide +kernel
theorem dX4_layRow_77 : decode cX4_layRow 77 = .ok (.bipush 24, 2) := by decide +kernel
theorem dX4_layRow_79 : decode cX4_layRow 79 = .ok (.iload_n 1, 1) := by decide +kernel
theorem dX4_layRow_80 : decode cX4_layRow 80 = .ok (.imul, 1) := by decide +kernel
theorem dX4_layRow_81 : decode cX4_layRow 81 = .ok (.iload_n 3, 1) := by decide +kernel
theorem dX4_layRow_82 : decode cX4_layRow 82 = .ok (.iadd, 1) := by decide +kernel
theorem dX4_layRow_83 : decode cX4_layRow 83 = .ok (.iconst 1, 1) := by decide +kernel
theorem dX4_layRow_84 : decode cX4_layRow 84 = .ok (.isub, 1) := by decide +kernel
theorem dX4_layRow_85 : decode cX4_layRow 85 = .ok (.iaload, 1) := by decide +kernel
theorem dX4_layRow_86 : decode cX4_layRow 86 = .ok (.iastore, 1) := by decide +kernel
theorem dX4_layRow_87 : decode cX4_layRow 87 = .ok (.iinc 3 (-1), 3) := by decide +kernel
theorem dX4_layRow_90 : decode cX4_layRow 90 = .ok (.goto (-59), 3) := by decide +kernel
theorem dX4_layRow_93 : decode cX4_layRow 93 = .ok (.aload_n 0, 1) := by decide +kernel
theorem dX4_layRow_94 : decode cX4_layRow 94 = .ok (.getfield 16, 3) := by decide +kernel
theorem dX4_layRow_97 : decode cX4_layRow 97 = .ok (.bipush 24, 2) := by decide +kernel
theorem dX4_layRow_99 : decode cX4_layRow 99 = .ok (.iload_n 1, 1) := by decide +kernel
theorem dX4_layRow_100 : decode cX4_layRow 100 = .ok (.imul, 1) := by decide +kernel
theorem dX4_layRow_101 : decode cX4_layRow 101 = .ok (.iload_n 3, 1) := by decide +kernel
theorem dX4_layRow_102 : decode cX4_layRow 102 = .ok (.iadd, 1) := by decide +kernel
theorem dX4_layRow_103 : decode cX4_layRow 103 = .ok (.iload_n 2, 1) := by decide +kernel
theorem dX4_layRow_104 : decode cX4_layRow 104 = .ok (.iastore, 1) := by decide +kernel
theorem dX4_layRow_105 : decode cX4_layRow 105 = .ok (.aload_n 0, 1) := by decide +kernel
theorem dX4_layRow_106 : decode cX4_layRow 106 = .ok (.dup, 1) := by decide +kernel
theorem dX4_layRow_107 : decode cX4_layRow 107 = .ok (.getfield 110, 3) := by decide +kernel
theorem dX4_layRow_110 : decode cX4_layRow 110 = .ok (.iconst 1, 1) := by decide +kernel
theorem dX4_layRow_111 : decode cX4_layRow 111 = .ok (.iadd, 1) := by decide +kernel
theorem dX4_layRow_112 : decode cX4_layRow 112 = .ok (.putfield 110, 3) := by decide +kernel
theorem dX4_layRow_115 : decode cX4_layRow 115 = .ok (.iinc 2 1, 3) := by decide +kernel
theorem dX4_layRow_118 : decode cX4_layRow 118 = .ok (.goto (-111), 3) := by decide +kernel
theorem dX4_layRow_121 : decode cX4_layRow 121 = .ok (.return_, 1) := by decide +kernel
theorem dX4_layAll_0 : decode cX4_layAll 0 = .ok (.iconst 0, 1) := by decide +kernel
theorem dX4_layAll_1 : decode cX4_layAll 1 = .ok (.istore_n 1, 1) := by decide +kernel
theorem dX4_layAll_2 : decode cX4_layAll 2 = .ok (.iload_n 1, 1) := by decide +kernel
theorem dX4_layAll_3 : decode cX4_layAll 3 = .ok (.iconst 3, 1) := by decide +kernel
theorem dX4_layAll_4 : decode cX4_layAll 4 = .ok (.if_icmp .ge 14, 3) := by decide +kernel
theorem dX4_layAll_7 : decode cX4_layAll 7 = .ok (.aload_n 0, 1) := by decide +kernel
theorem dX4_layAll_8 : decode cX4_layAll 8 = .ok (.iload_n 1, 1) := by decide +kernel
theorem dX4_layAll_9 : decode cX4_layAll 9 = .ok (.invokevirtual 117, 3) := by decide +kernel
theorem dX4_layAll_12 : decode cX4_layAll 12 = .ok (.iinc 1 1, 3) := by decide +kernel
theorem dX4_layAll_15 : decode cX4_layAll 15 = .ok (.goto (-13), 3) := by decide +kernel
theorem dX4_layAll_18 : decode cX4_layAll 18 = .ok (.iconst 0, 1) := by decide +kernel
theorem dX4_layAll_19 : decode cX4_layAll 19 = .ok (.istore_n 1, 1) := by decide +kernel
theorem dX4_layAll_20 : decode cX4_layAll 20 = .ok (.iload_n 1, 1) := by decide +kernel
theorem dX4_layAll_21 : decode cX4_layAll 21 = .ok (.sipush 144, 3) := by decide +kernel
theorem dX4_layAll_24 : decode cX4_layAll 24 = .ok (.if_icmp .ge 96, 3) := by decide +kernel
theorem dX4_layAll_27 : decode cX4_layAll 27 = .ok (.iload_n 1, 1) := by decide +kernel
theorem dX4_layAll_28 : decode cX4_layAll 28 = .ok (.bipush 12, 2) := by decide +kernel
theorem dX4_layAll_30 : decode cX4_layAll 30 = .ok (.idiv, 1) := by decide +kernel
theorem dX4_layAll_31 : decode cX4_layAll 31 = .ok (.istore_n 2, 1) := by decide +kernel
theorem dX4_layAll_32 : decode cX4_layAll 32 = .ok (.iload_n 1, 1) := by decide +kernel
theorem dX4_layAll_33 : decode cX4_layAll 33 = .ok (.bipush 12, 2) := by decide +kernel
theorem dX4_layAll_35 : decode cX4_layAll 35 = .ok (.irem, 1) := by decide +kernel
theorem dX4_layAll_36 : decode cX4_layAll 36 = .ok (.istore_n 3, 1) := by decide +kernel
theorem dX4_layAll_37 : decode cX4_layAll 37 = .ok (.aload_n 0, 1) := by decide +kernel
theorem dX4_layAll_38 : decode cX4_layAll 38 = .ok (.getfield 19, 3) := by decide +kernel
theorem dX4_layAll_41 : decode cX4_layAll 41 = .ok (.iload_n 1, 1) := by decide +kernel
theorem dX4_layAll_42 : decode cX4_layAll 42 = .ok (.iconst 0, 1) := by decide +kernel
theorem dX4_layAll_43 : decode cX4_layAll 43 = .ok (.iastore, 1) := by decide +kernel
theorem dX4_layAll_44 : decode cX4_layAll 44 = .ok (.iconst 0, 1) := by decide +kernel
theorem dX4_layAll_45 : decode cX4_layAll 45 = .ok (.istore 4, 2) := by decide +kernel
theorem dX4_layAll_47 : decode cX4_layAll 47 = .ok (.iload 4, 2) := by decide +kernel
theorem dX4_layAll_49 : decode cX4_layAll 49 = .ok (.iconst 3, 1) := by decide +kernel
theorem dX4_layAll_50 : decode cX4_layAll 50 = .ok (.if_icmp .ge 64, 3) := by decide +kernel
theorem dX4_layAll_53 : decode cX4_layAll 53 = .ok (.iload_n 2, 1) := by decide +kernel
theorem dX4_layAll_54 : decode cX4_layAll 54 = .ok (.iload_n 3, 1) := by decide +kernel
theorem dX4_layAll_55 : decode cX4_layAll 55 = .ok (.if_icmp .eq 59, 3) := by decide +kernel
theorem dX4_layAll_58 : decode cX4_layAll 58 = .ok (.aload_n 0, 1) := by decide +kernel
theorem dX4_layAll_59 : decode cX4_layAll 59 = .ok (.getfield 73, 3) := by decide +kernel
theorem dX4_layAll_62 : decode cX4_layAll 62 = .ok (.iload_n 2, 1) := by decide +kernel
theorem dX4_layAll_63 : decode cX4_layAll 63 = .ok (.invokestatic 86, 3) := by decide +kernel
theorem dX4_layAll_66 : decode cX4_layAll 66 = .ok (.ifCond .eq 48, 3) := by decide +kernel
theorem dX4_layAll_69 : decode cX4_layAll 69 = .ok (.aload_n 0, 1) := by decide +kernel
theorem dX4_layAll_70 : decode cX4_layAll 70 = .ok (.getfield 73, 3) := by decide +kernel
theorem dX4_layAll_73 : decode cX4_layAll 73 = .ok (.iload_n 3, 1) := by decide +kernel
theorem dX4_layAll_74 : decode cX4_layAll 74 = .ok (.invokestatic 86, 3) := by decide +kernel
theorem dX4_layAll_77 : decode cX4_layAll 77 = .ok (.ifCond .eq 37, 3) := by decide +kernel
theorem dX4_layAll_80 : decode cX4_layAll 80 = .ok (.aload_n 0, 1) := by decide +kernel
theorem dX4_layAll_81 : decode cX4_layAll 81 = .ok (.getfield 19, 3) := by decide +kernel
theorem dX4_layAll_84 : decode cX4_layAll 84 = .ok (.iload_n 1, 1) := by decide +kernel
theorem dX4_layAll_85 : decode cX4_layAll 85 = .ok (.dup2, 1) := by decide +kernel
theorem dX4_layAll_86 : decode cX4_layAll 86 = .ok (.iaload, 1) := by decide +kernel
theorem dX4_layAll_87 : decode cX4_layAll 87 = .ok (.aload_n 0, 1) := by decide +kernel
theorem dX4_layAll_88 : decode cX4_layAll 88 = .ok (.iload_n 2, 1) := by decide +kernel
theorem dX4_layAll_89 : decode cX4_layAll 89 = .ok (.iload_n 3, 1) := by decide +kernel
theorem dX4_layAll_90 : decode cX4_layAll 90 = .ok (.iload 4, 2) := by decide +kernel
theorem dX4_layAll_92 : decode cX4_layAll 92 = .ok (.invokevirtual 120, 3) := by decide +kernel
theorem dX4_layAll_95 : decode cX4_layAll 95 = .ok (.ifCond .eq 10, 3) := by decide +kernel
theorem dX4_layAll_98 : decode cX4_layAll 98 = .ok (.iconst 1, 1) := by decide +kernel
theorem dX4_layAll_99 : decode cX4_layAll 99 = .ok (.iload 4, 2) := by decide +kernel
theorem dX4_layAll_101 : decode cX4_layAll 101 = .ok (.ishl, 1) := by decide +kernel
theorem dX4_layAll_102 : decode cX4_layAll 102 = .ok (.goto 4, 3) := by decide +kernel
theorem dX4_layAll_105 : decode cX4_layAll 105 = .ok (.iconst 0, 1) := by decide +kernel
theorem dX4_layAll_106 : decode cX4_layAll 106 = .ok (.ior, 1) := by decide +kernel
theorem dX4_layAll_107 : decode cX4_layAll 107 = .ok (.iastore, 1) := by decide +kernel
theorem dX4_layAll_108 : decode cX4_layAll 108 = .ok (.iinc 4 1, 3) := by decide +kernel
theorem dX4_layAll_111 : decode cX4_layAll 111 = .ok (.goto (-64), 3) := by decide +kernel
theorem dX4_layAll_114 : decode cX4_layAll 114 = .ok (.iinc 1 1, 3) := by decide +kernel
theorem dX4_layAll_117 : decode cX4_layAll 117 = .ok (.goto (-97), 3) := by decide +kernel
theorem dX4_layAll_120 : decode cX4_layAll 120 = .ok (.return_, 1) := by decide +kernel
theorem dX4_areOver_0 : decode cX4_areOver 0 = .ok (.aload_n 0, 1) := by decide +kernel
theorem dX4_areOver_1 : decode cX4_areOver 1 = .ok (.getfield 19, 3) := by decide +kernel
theorem dX4_areOver_4 : decode cX4_areOver 4 = .ok (.bipush 12, 2) := by decide +kernel
theorem dX4_areOver_6 : decode cX4_areOver 6 = .ok (.iload_n 1, 1) := by decide +kernel
theorem dX4_areOver_7 : decode cX4_areOver 7 = .ok (.imul, 1) := by decide +kernel
theorem dX4_areOver_8 : decode cX4_areOver 8 = .ok (.iload_n 2, 1) := by decide +kernel
theorem dX4_areOver_9 : decode cX4_areOver 9 = .ok (.iadd, 1) := by decide +kernel
theorem dX4_areOver_10 : decode cX4_areOver 10 = .ok (.iaload, 1) := by decide +kernel
theorem dX4_areOver_11 : decode cX4_areOver 11 = .ok (.bipush 7, 2) := by decide +kernel
theorem dX4_areOver_13 : decode cX4_areOver 13 = .ok (.if_icmp .ne 7, 3) := by decide +kernel
theorem dX4_areOver_16 : decode cX4_areOver 16 = .ok (.iconst 1, 1) := by decide +kernel
theorem dX4_areOver_17 : decode cX4_areOver 17 = .ok (.goto 4, 3) := by decide +kernel
theorem dX4_areOver_20 : decode cX4_areOver 20 = .ok (.iconst 0, 1) := by decide +kernel
theorem dX4_areOver_21 : decode cX4_areOver 21 = .ok (.ireturn, 1) := by decide +kernel
theorem dX4_beginChange_0 : decode cX4_beginChange 0 = .ok (.iconst 0, 1) := by decide +kernel
theorem dX4_beginChange_1 : decode cX4_beginChange 1 = .ok (.istore_n 1, 1) := by decide +kernel
theorem dX4_beginChange_2 : decode cX4_beginChange 2 = .ok (.iload_n 1, 1) := by decide +kernel
theorem dX4_beginChange_3 : decode cX4_beginChange 3 = .ok (.sipush 144, 3) := by decide +kernel
theorem dX4_beginChange_6 : decode cX4_beginChange 6 = .ok (.if_icmp .ge 31, 3) := by decide +kernel
theorem dX4_beginChange_9 : decode cX4_beginChange 9 = .ok (.aload_n 0, 1) := by decide +kernel
theorem dX4_beginChange_10 : decode cX4_beginChange 10 = .ok (.getfield 34, 3) := by decide +kernel
theorem dX4_beginChange_13 : decode cX4_beginChange 13 = .ok (.iload_n 1, 1) := by decide +kernel
theorem dX4_beginChange_14 : decode cX4_beginChange 14 = .ok (.aload_n 0, 1) := by decide +kernel
theorem dX4_beginChange_15 : decode cX4_beginChange 15 = .ok (.getfield 19, 3) := by decide +kernel
theorem dX4_beginChange_18 : decode cX4_beginChange 18 = .ok (.iload_n 1, 1) := by decide +kernel
theorem dX4_beginChange_19 : decode cX4_beginChange 19 = .ok (.iaload, 1) := by decide +kernel
theorem dX4_beginChange_20 : decode cX4_beginChange 20 = .ok (.bipush 7, 2) := by decide +kernel
theorem dX4_beginChange_22 : decode cX4_beginChange 22 = .ok (.if_icmp .ne 7, 3) := by decide +kernel
theorem dX4_beginChange_25 : decode cX4_beginChange 25 = .ok (.iconst 1, 1) := by decide +kernel
theorem dX4_beginChange_26 : decode cX4_beginChange 26 = .ok (.goto 4, 3) := by decide +kernel
theorem dX4_beginChange_29 : decode cX4_beginChange 29 = .ok (.iconst 0, 1) := by decide +kernel
theorem dX4_beginChange_30 : decode cX4_beginChange 30 = .ok (.bastore, 1) := by decide +kernel
theorem dX4_beginChange_31 : decode cX4_beginChange 31 = .ok (.iinc 1 1, 3) := by decide +kernel
theorem dX4_beginChange_34 : decode cX4_beginChange 34 = .ok (.goto (-32), 3) := by decide +kernel
theorem dX4_beginChange_37 : decode cX4_beginChange 37 = .ok (.aload_n 0, 1) := by decide +kernel
theorem dX4_beginChange_38 : decode cX4_beginChange 38 = .ok (.iconst 0, 1) := by decide +kernel
theorem dX4_beginChange_39 : decode cX4_beginChange 39 = .ok (.putfield 123, 3) := by decide +kernel
theorem dX4_beginChange_42 : decode cX4_beginChange 42 = .ok (.aload_n 0, 1) := by decide +kernel
theorem dX4_beginChange_43 : decode cX4_beginChange 43 = .ok (.getfield 28, 3) := by decide +kernel
theorem dX4_beginChange_46 : decode cX4_beginChange 46 = .ok (.iconst 0, 1) := by decide +kernel
theorem dX4_beginChange_47 : decode cX4_beginChange 47 = .ok (.iconst 0, 1) := by decide +kernel
theorem dX4_beginChange_48 : decode cX4_beginChange 48 = .ok (.iastore, 1) := by decide +kernel
theorem dX4_beginChange_49 : decode cX4_beginChange 49 = .ok (.aload_n 0, 1) := by decide +kernel
theorem dX4_beginChange_50 : decode cX4_beginChange 50 = .ok (.getfield 28, 3) := by decide +kernel
theorem dX4_beginChange_53 : decode cX4_beginChange 53 = .ok (.iconst 1, 1) := by decide +kernel
theorem dX4_beginChange_54 : decode cX4_beginChange 54 = .ok (.iconst 0, 1) := by decide +kernel
theorem dX4_beginChange_55 : decode cX4_beginChange 55 = .ok (.iastore, 1) := by decide +kernel
theorem dX4_beginChange_56 : decode cX4_beginChange 56 = .ok (.aload_n 0, 1) := by decide +kernel
theorem dX4_beginChange_57 : decode cX4_beginChange 57 = .ok (.getfield 28, 3) := by decide +kernel
theorem dX4_beginChange_60 : decode cX4_beginChange 60 = .ok (.iconst 2, 1) := by decide +kernel
theorem dX4_beginChange_61 : decode cX4_beginChange 61 = .ok (.iconst 0, 1) := by decide +kernel
theorem dX4_beginChange_62 : decode cX4_beginChange 62 = .ok (.iastore, 1) := by decide +kernel
theorem dX4_beginChange_63 : decode cX4_beginChange 63 = .ok (.return_, 1) := by decide +kernel
theorem dX4_endChange_0 : decode cX4_endChange 0 = .ok (.aload_n 0, 1) := by decide +kernel
theorem dX4_endChange_1 : decode cX4_endChange 1 = .ok (.iconst 0, 1) := by decide +kernel
theorem dX4_endChange_2 : decode cX4_endChange 2 = .ok (.putfield 126, 3) := by decide +kernel
theorem dX4_endChange_5 : decode cX4_endChange 5 = .ok (.aload_n 0, 1) := by decide +kernel
theorem dX4_endChange_6 : decode cX4_endChange 6 = .ok (.iconst 0, 1) := by decide +kernel
theorem dX4_endChange_7 : decode cX4_endChange 7 = .ok (.putfield 129, 3) := by decide +kernel
theorem dX4_endChange_10 : decode cX4_endChange 10 = .ok (.iconst 0, 1) := by decide +kernel
theorem dX4_endChange_11 : decode cX4_endChange 11 = .ok (.istore_n 2, 1) := by decide +kernel
theorem dX4_endChange_12 : decode cX4_endChange 12 = .ok (.iload_n 2, 1) := by decide +kernel
theorem dX4_endChange_13 : decode cX4_endChange 13 = .ok (.bipush 12, 2) := by decide +kernel
theorem dX4_endChange_15 : decode cX4_endChange 15 = .ok (.if_icmp .ge 111, 3) := by decide +kernel
theorem dX4_endChange_18 : decode cX4_endChange 18 = .ok (.iload_n 2, 1) := by decide +kernel
theorem dX4_endChange_19 : decode cX4_endChange 19 = .ok (.iconst 1, 1) := by decide +kernel
theorem dX4_endChange_20 : decode cX4_endChange 20 = .ok (.iadd, 1) := by decide +kernel
theorem dX4_endChange_21 : decode cX4_endChange 21 = .ok (.istore_n 3, 1) := by decide +kernel
theorem dX4_endChange_22 : decode cX4_endChange 22 = .ok (.iload_n 3, 1) := by decide +kernel
theorem dX4_endChange_23 : decode cX4_endChange 23 = .ok (.bipush 12, 2) := by decide +kernel
theorem dX4_endChange_25 : decode cX4_endChange 25 = .ok (.if_icmp .ge 95, 3) := by decide +kernel
theorem dX4_endChange_28 : decode cX4_endChange 28 = .ok (.aload_n 0, 1) := by decide +kernel
theorem dX4_endChange_29 : decode cX4_endChange 29 = .ok (.getfield 34, 3) := by decide +kernel
theorem dX4_endChange_32 : decode cX4_endChange 32 = .ok (.bipush 12, 2) := by decide +kernel
theorem dX4_endChange_34 : decode cX4_endChange 34 = .ok (.iload_n 2, 1) := by decide +kernel
theorem dX4_endChange_35 : decode cX4_endChange 35 = .ok (.imul, 1) := by decide +kernel
theorem dX4_endChange_36 : decode cX4_endChange 36 = .ok (.iload_n 3, 1) := by decide +kernel
theorem dX4_endChange_37 : decode cX4_endChange 37 = .ok (.iadd, 1) := by decide +kernel
theorem dX4_endChange_38 : decode cX4_endChange 38 = .ok (.baload, 1) := by decide +kernel
theorem dX4_endChange_39 : decode cX4_endChange 39 = .ok (.aload_n 0, 1) := by decide +kernel
theorem dX4_endChange_40 : decode cX4_endChange 40 = .ok (.iload_n 2, 1) := by decide +kernel
theorem dX4_endChange_41 : decode cX4_endChange 41 = .ok (.iload_n 3, 1) := by decide +kernel
theorem dX4_endChange_42 : decode cX4_endChange 42 = .ok (.invokevirtual 132, 3) := by decide +kernel
theorem dX4_endChange_45 : decode cX4_endChange 45 = .ok (.if_icmp .eq 69, 3) := by decide +kernel
theorem dX4_endChange_48 : decode cX4_endChange 48 = .ok (.aload_n 0, 1) := by decide +kernel
theorem dX4_endChange_49 : decode cX4_endChange 49 = .ok (.getfield 22, 3) := by decide +kernel
theorem dX4_endChange_52 : decode cX4_endChange 52 = .ok (.aload_n 0, 1) := by decide +kernel
theorem dX4_endChange_53 : decode cX4_endChange 53 = .ok (.getfield 126, 3) := by decide +kernel
theorem dX4_endChange_56 : decode cX4_endChange 56 = .ok (.bipush 12, 2) := by decide +kernel
theorem dX4_endChange_58 : decode cX4_endChange 58 = .ok (.iload_n 2, 1) := by decide +kernel
theorem dX4_endChange_59 : decode cX4_endChange 59 = .ok (.imul, 1) := by decide +kernel
theorem dX4_endChange_60 : decode cX4_endChange 60 = .ok (.iload_n 3, 1) := by decide +kernel
theorem dX4_endChange_61 : decode cX4_endChange 61 = .ok (.iadd, 1) := by decide +kernel
theorem dX4_endChange_62 : decode cX4_endChange 62 = .ok (.iastore, 1) := by decide +kernel
theorem dX4_endChange_63 : decode cX4_endChange 63 = .ok (.aload_n 0, 1) := by decide +kernel
theorem dX4_endChange_64 : decode cX4_endChange 64 = .ok (.getfield 25, 3) := by decide +kernel
theorem dX4_endChange_67 : decode cX4_endChange 67 = .ok (.aload_n 0, 1) := by decide +kernel
theorem dX4_endChange_68 : decode cX4_endChange 68 = .ok (.getfield 126, 3) := by decide +kernel
theorem dX4_endChange_71 : decode cX4_endChange 71 = .ok (.aload_n 0, 1) := by decide +kernel
theorem dX4_endChange_72 : decode cX4_endChange 72 = .ok (.iload_n 2, 1) := by decide +kernel
theorem dX4_endChange_73 : decode cX4_endChange 73 = .ok (.iload_n 3, 1) := by decide +kernel
theorem dX4_endChange_74 : decode cX4_endChange 74 = .ok (.invokevirtual 132, 3) := by decide +kernel
theorem dX4_endChange_77 : decode cX4_endChange 77 = .ok (.ifCond .eq 7, 3) := by decide +kernel
theorem dX4_endChange_80 : decode cX4_endChange 80 = .ok (.iconst 1, 1) := by decide +kernel
theorem dX4_endChange_81 : decode cX4_endChange 81 = .ok (.goto 4, 3) := by decide +kernel
theorem dX4_endChange_84 : decode cX4_endChange 84 = .ok (.iconst 0, 1) := by decide +kernel
theorem dX4_endChange_85 : decode cX4_endChange 85 = .ok (.iastore, 1) := by decide +kernel
theorem dX4_endChange_86 : decode cX4_endChange 86 = .ok (.aload_n 0, 1) := by decide +kernel
theorem dX4_endChange_87 : decode cX4_endChange 87 = .ok (.dup, 1) := by decide +kernel
theorem dX4_endChange_88 : decode cX4_endChange 88 = .ok (.getfield 129, 3) := by decide +kernel
theorem dX4_endChange_91 : decode cX4_endChange 91 = .ok (.aload_n 0, 1) := by decide +kernel
theorem dX4_endChange_92 : decode cX4_endChange 92 = .ok (.getfield 25, 3) := by decide +kernel
theorem dX4_endChange_95 : decode cX4_endChange 95 = .ok (.aload_n 0, 1) := by decide +kernel
theorem dX4_endChange_96 : decode cX4_endChange 96 = .ok (.getfield 126, 3) := by decide +kernel
theorem dX4_endChange_99 : decode cX4_endChange 99 = .ok (.iaload, 1) := by decide +kernel
theorem dX4_endChange_100 : decode cX4_endChange 100 = .ok (.iadd, 1) := by decide +kernel
theorem dX4_endChange_101 : decode cX4_endChange 101 = .ok (.putfield 129, 3) := by decide +kernel
theorem dX4_endChange_104 : decode cX4_endChange 104 = .ok (.aload_n 0, 1) := by decide +kernel
theorem dX4_endChange_105 : decode cX4_endChange 105 = .ok (.dup, 1) := by decide +kernel
theorem dX4_endChange_106 : decode cX4_endChange 106 = .ok (.getfield 126, 3) := by decide +kernel
theorem dX4_endChange_109 : decode cX4_endChange 109 = .ok (.iconst 1, 1) := by decide +kernel
theorem dX4_endChange_110 : decode cX4_endChange 110 = .ok (.iadd, 1) := by decide +kernel
theorem dX4_endChange_111 : decode cX4_endChange 111 = .ok (.putfield 126, 3) := by decide +kernel
theorem dX4_endChange_114 : decode cX4_endChange 114 = .ok (.iinc 3 1, 3) := by decide +kernel
theorem dX4_endChange_117 : decode cX4_endChange 117 = .ok (.goto (-95), 3) := by decide +kernel
theorem dX4_endChange_120 : decode cX4_endChange 120 = .ok (.iinc 2 1, 3) := by decide +kernel
theorem dX4_endChange_123 : decode cX4_endChange 123 = .ok (.goto (-111), 3) := by decide +kernel
theorem dX4_endChange_126 : decode cX4_endChange 126 = .ok (.aload_n 0, 1) := by decide +kernel
theorem dX4_endChange_127 : decode cX4_endChange 127 = .ok (.iload_n 1, 1) := by decide +kernel
theorem dX4_endChange_128 : decode cX4_endChange 128 = .ok (.ifCond .le 12, 3) := by decide +kernel
theorem dX4_endChange_131 : decode cX4_endChange 131 = .ok (.iload_n 1, 1) := by decide +kernel
theorem dX4_endChange_132 : decode cX4_endChange 132 = .ok (.aload_n 0, 1) := by decide +kernel
theorem dX4_endChange_133 : decode cX4_endChange 133 = .ok (.getfield 126, 3) := by decide +kernel
theorem dX4_endChange_136 : decode cX4_endChange 136 = .ok (.isub, 1) := by decide +kernel
theorem dX4_endChange_137 : decode cX4_endChange 137 = .ok (.goto 4, 3) := by decide +kernel
theorem dX4_endChange_140 : decode cX4_endChange 140 = .ok (.iconst 0, 1) := by decide +kernel
theorem dX4_endChange_141 : decode cX4_endChange 141 = .ok (.putfield 135, 3) := by decide +kernel
theorem dX4_endChange_144 : decode cX4_endChange 144 = .ok (.aload_n 0, 1) := by decide +kernel
theorem dX4_endChange_145 : decode cX4_endChange 145 = .ok (.dup, 1) := by decide +kernel
theorem dX4_endChange_146 : decode cX4_endChange 146 = .ok (.getfield 138, 3) := by decide +kernel
theorem dX4_endChange_149 : decode cX4_endChange 149 = .ok (.aload_n 0, 1) := by decide +kernel
theorem dX4_endChange_150 : decode cX4_endChange 150 = .ok (.getfield 129, 3) := by decide +kernel
theorem dX4_endChange_153 : decode cX4_endChange 153 = .ok (.iadd, 1) := by decide +kernel
theorem dX4_endChange_154 : decode cX4_endChange 154 = .ok (.putfield 138, 3) := by decide +kernel
theorem dX4_endChange_157 : decode cX4_endChange 157 = .ok (.aload_n 0, 1) := by decide +kernel
theorem dX4_endChange_158 : decode cX4_endChange 158 = .ok (.dup, 1) := by decide +kernel
theorem dX4_endChange_159 : decode cX4_endChange 159 = .ok (.getfield 141, 3) := by decide +kernel
theorem dX4_endChange_162 : decode cX4_endChange 162 = .ok (.aload_n 0, 1) := by decide +kernel
theorem dX4_endChange_163 : decode cX4_endChange 163 = .ok (.getfield 126, 3) := by decide +kernel
theorem dX4_endChange_166 : decode cX4_endChange 166 = .ok (.aload_n 0, 1) := by decide +kernel
theorem dX4_endChange_167 : decode cX4_endChange 167 = .ok (.getfield 129, 3) := by decide +kernel
theorem dX4_endChange_170 : decode cX4_endChange 170 = .ok (.isub, 1) := by decide +kernel
theorem dX4_endChange_171 : decode cX4_endChange 171 = .ok (.iadd, 1) := by decide +kernel
theorem dX4_endChange_172 : decode cX4_endChange 172 = .ok (.putfield 141, 3) := by decide +kernel
theorem dX4_endChange_175 : decode cX4_endChange 175 = .ok (.aload_n 0, 1) := by decide +kernel
theorem dX4_endChange_176 : decode cX4_endChange 176 = .ok (.dup, 1) := by decide +kernel
theorem dX4_endChange_177 : decode cX4_endChange 177 = .ok (.getfield 144, 3) := by decide +kernel
theorem dX4_endChange_180 : decode cX4_endChange 180 = .ok (.aload_n 0, 1) := by decide +kernel
theorem dX4_endChange_181 : decode cX4_endChange 181 = .ok (.getfield 28, 3) := by decide +kernel
theorem dX4_endChange_184 : decode cX4_endChange 184 = .ok (.iconst 0, 1) := by decide +kernel
theorem dX4_endChange_185 : decode cX4_endChange 185 = .ok (.iaload, 1) := by decide +kernel
theorem dX4_endChange_186 : decode cX4_endChange 186 = .ok (.aload_n 0, 1) := by decide +kernel
theorem dX4_endChange_187 : decode cX4_endChange 187 = .ok (.getfield 28, 3) := by decide +kernel
theorem dX4_endChange_190 : decode cX4_endChange 190 = .ok (.iconst 1, 1) := by decide +kernel
theorem dX4_endChange_191 : decode cX4_endChange 191 = .ok (.iaload, 1) := by decide +kernel
theorem dX4_endChange_192 : decode cX4_endChange 192 = .ok (.iadd, 1) := by decide +kernel
theorem dX4_endChange_193 : decode cX4_endChange 193 = .ok (.aload_n 0, 1) := by decide +kernel
theorem dX4_endChange_194 : decode cX4_endChange 194 = .ok (.getfield 28, 3) := by decide +kernel
theorem dX4_endChange_197 : decode cX4_endChange 197 = .ok (.iconst 2, 1) := by decide +kernel
theorem dX4_endChange_198 : decode cX4_endChange 198 = .ok (.iaload, 1) := by decide +kernel
theorem dX4_endChange_199 : decode cX4_endChange 199 = .ok (.iadd, 1) := by decide +kernel
theorem dX4_endChange_200 : decode cX4_endChange 200 = .ok (.iadd, 1) := by decide +kernel
theorem dX4_endChange_201 : decode cX4_endChange 201 = .ok (.putfield 144, 3) := by decide +kernel
theorem dX4_endChange_204 : decode cX4_endChange 204 = .ok (.aload_n 0, 1) := by decide +kernel
theorem dX4_endChange_205 : decode cX4_endChange 205 = .ok (.dup, 1) := by decide +kernel
theorem dX4_endChange_206 : decode cX4_endChange 206 = .ok (.getfield 147, 3) := by decide +kernel
theorem dX4_endChange_209 : decode cX4_endChange 209 = .ok (.aload_n 0, 1) := by decide +kernel
theorem dX4_endChange_210 : decode cX4_endChange 210 = .ok (.getfield 135, 3) := by decide +kernel
theorem dX4_endChange_213 : decode cX4_endChange 213 = .ok (.iadd, 1) := by decide +kernel
theorem dX4_endChange_214 : decode cX4_endChange 214 = .ok (.putfield 147, 3) := by decide +kernel
theorem dX4_endChange_217 : decode cX4_endChange 217 = .ok (.aload_n 0, 1) := by decide +kernel
theorem dX4_endChange_218 : decode cX4_endChange 218 = .ok (.dup, 1) := by decide +kernel
theorem dX4_endChange_219 : decode cX4_endChange 219 = .ok (.getfield 150, 3) := by decide +kernel
theorem dX4_endChange_222 : decode cX4_endChange 222 = .ok (.iconst 1, 1) := by decide +kernel
theorem dX4_endChange_223 : decode cX4_endChange 223 = .ok (.iadd, 1) := by decide +kernel
theorem dX4_endChange_224 : decode cX4_endChange 224 = .ok (.putfield 150, 3) := by decide +kernel
theorem dX4_endChange_227 : decode cX4_endChange 227 = .ok (.return_, 1) := by decide +kernel
theorem dX4_remove_0 : decode cX4_remove 0 = .ok (.iload_n 1, 1) := by decide +kernel
theorem dX4_remove_1 : decode cX4_remove 1 = .ok (.ifCond .eq 14, 3) := by decide +kernel
theorem dX4_remove_4 : decode cX4_remove 4 = .ok (.iload_n 1, 1) := by decide +kernel
theorem dX4_remove_5 : decode cX4_remove 5 = .ok (.aload_n 0, 1) := by decide +kernel
theorem dX4_remove_6 : decode cX4_remove 6 = .ok (.getfield 73, 3) := by decide +kernel
theorem dX4_remove_9 : decode cX4_remove 9 = .ok (.iconst (-1), 1) := by decide +kernel
theorem dX4_remove_10 : decode cX4_remove 10 = .ok (.ixor, 1) := by decide +kernel
theorem dX4_remove_11 : decode cX4_remove 11 = .ok (.iand, 1) := by decide +kernel
theorem dX4_remove_12 : decode cX4_remove 12 = .ok (.ifCond .eq 7, 3) := by decide +kernel
theorem dX4_remove_15 : decode cX4_remove 15 = .ok (.sipush (-10003), 3) := by decide +kernel
theorem dX4_remove_18 : decode cX4_remove 18 = .ok (.ireturn, 1) := by decide +kernel
theorem dX4_remove_19 : decode cX4_remove 19 = .ok (.aload_n 0, 1) := by decide +kernel
theorem dX4_remove_20 : decode cX4_remove 20 = .ok (.invokevirtual 80, 3) := by decide +kernel
theorem dX4_remove_23 : decode cX4_remove 23 = .ok (.istore_n 2, 1) := by decide +kernel
theorem dX4_remove_24 : decode cX4_remove 24 = .ok (.aload_n 0, 1) := by decide +kernel
theorem dX4_remove_25 : decode cX4_remove 25 = .ok (.invokevirtual 83, 3) := by decide +kernel
theorem dX4_remove_28 : decode cX4_remove 28 = .ok (.aload_n 0, 1) := by decide +kernel
theorem dX4_remove_29 : decode cX4_remove 29 = .ok (.dup, 1) := by decide +kernel
theorem dX4_remove_30 : decode cX4_remove 30 = .ok (.getfield 73, 3) := by decide +kernel
theorem dX4_remove_33 : decode cX4_remove 33 = .ok (.iload_n 1, 1) := by decide +kernel
theorem dX4_remove_34 : decode cX4_remove 34 = .ok (.iconst (-1), 1) := by decide +kernel
theorem dX4_remove_35 : decode cX4_remove 35 = .ok (.ixor, 1) := by decide +kernel
theorem dX4_remove_36 : decode cX4_remove 36 = .ok (.iand, 1) := by decide +kernel
theorem dX4_remove_37 : decode cX4_remove 37 = .ok (.putfield 73, 3) := by decide +kernel
theorem dX4_remove_40 : decode cX4_remove 40 = .ok (.aload_n 0, 1) := by decide +kernel
theorem dX4_remove_41 : decode cX4_remove 41 = .ok (.invokevirtual 90, 3) := by decide +kernel
theorem dX4_remove_44 : decode cX4_remove 44 = .ok (.aload_n 0, 1) := by decide +kernel
theorem dX4_remove_45 : decode cX4_remove 45 = .ok (.iconst 0, 1) := by decide +kernel
theorem dX4_remove_46 : decode cX4_remove 46 = .ok (.invokevirtual 93, 3) := by decide +kernel
theorem dX4_remove_49 : decode cX4_remove 49 = .ok (.iload_n 2, 1) := by decide +kernel
theorem dX4_remove_50 : decode cX4_remove 50 = .ok (.aload_n 0, 1) := by decide +kernel
theorem dX4_remove_51 : decode cX4_remove 51 = .ok (.invokevirtual 80, 3) := by decide +kernel
theorem dX4_remove_54 : decode cX4_remove 54 = .ok (.isub, 1) := by decide +kernel
theorem dX4_remove_55 : decode cX4_remove 55 = .ok (.ireturn, 1) := by decide +kernel
theorem dX4_touch_0 : decode cX4_touch 0 = .ok (.aload_n 0, 1) := by decide +kernel
theorem dX4_touch_1 : decode cX4_touch 1 = .ok (.getfield 101, 3) := by decide +kernel
theorem dX4_touch_4 : decode cX4_touch 4 = .ok (.ifCond .eq 7, 3) := by decide +kernel
theorem dX4_touch_7 : decode cX4_touch 7 = .ok (.iconst 1, 1) := by decide +kernel
theorem dX4_touch_8 : decode cX4_touch 8 = .ok (.goto 4, 3) := by decide +kernel
theorem dX4_touch_11 : decode cX4_touch 11 = .ok (.iconst 0, 1) := by decide +kernel
theorem dX4_touch_12 : decode cX4_touch 12 = .ok (.istore_n 2, 1) := by decide +kernel
theorem dX4_touch_13 : decode cX4_touch 13 = .ok (.aload_n 0, 1) := by decide +kernel
theorem dX4_touch_14 : decode cX4_touch 14 = .ok (.invokevirtual 83, 3) := by decide +kernel
theorem dX4_touch_17 : decode cX4_touch 17 = .ok (.aload_n 0, 1) := by decide +kernel
theorem dX4_touch_18 : decode cX4_touch 18 = .ok (.iload_n 1, 1) := by decide +kernel
theorem dX4_touch_19 : decode cX4_touch 19 = .ok (.putfield 101, 3) := by decide +kernel
theorem dX4_touch_22 : decode cX4_touch 22 = .ok (.aload_n 0, 1) := by decide +kernel
theorem dX4_touch_23 : decode cX4_touch 23 = .ok (.invokevirtual 90, 3) := by decide +kernel
theorem dX4_touch_26 : decode cX4_touch 26 = .ok (.aload_n 0, 1) := by decide +kernel
theorem dX4_touch_27 : decode cX4_touch 27 = .ok (.iconst 0, 1) := by decide +kernel
theorem dX4_touch_28 : decode cX4_touch 28 = .ok (.invokevirtual 93, 3) := by decide +kernel
theorem dX4_touch_31 : decode cX4_touch 31 = .ok (.iload_n 2, 1) := by decide +kernel
theorem dX4_touch_32 : decode cX4_touch 32 = .ok (.ireturn, 1) := by decide +kernel
end
section
theorem dX4_swapped_0 : decode cX4_swapped 0 = .ok (.aload_n 0, 1) := by decide +kernel
theorem dX4_swapped_1 : decode cX4_swapped 1 = .ok (.getfield 28, 3) := by decide +kernel
theorem dX4_swapped_4 : decode cX4_swapped 4 = .ok (.iload_n 3, 1) := by decide +kernel
theorem dX4_swapped_5 : decode cX4_swapped 5 = .ok (.dup2, 1) := by decide +kernel
theorem dX4_swapped_6 : decode cX4_swapped 6 = .ok (.iaload, 1) := by decide +kernel
theorem dX4_swapped_7 : decode cX4_swapped 7 = .ok (.iconst 1, 1) := by decide +kernel
theorem dX4_swapped_8 : decode cX4_swapped 8 = .ok (.iadd, 1) := by decide +kernel
theorem dX4_swapped_9 : decode cX4_swapped 9 = .ok (.iastore, 1) := by decide +kernel
theorem dX4_swapped_10 : decode cX4_swapped 10 = .ok (.iload_n 1, 1) := by decide +kernel
theorem dX4_swapped_11 : decode cX4_swapped 11 = .ok (.iconst 2, 1) := by decide +kernel
theorem dX4_swapped_12 : decode cX4_swapped 12 = .ok (.idiv, 1) := by decide +kernel
theorem dX4_swapped_13 : decode cX4_swapped 13 = .ok (.istore 4, 2) := by decide +kernel
theorem dX4_swapped_15 : decode cX4_swapped 15 = .ok (.iload_n 2, 1) := by decide +kernel
theorem dX4_swapped_16 : decode cX4_swapped 16 = .ok (.iconst 2, 1) := by decide +kernel
theorem dX4_swapped_17 : decode cX4_swapped 17 = .ok (.idiv, 1) := by decide +kernel
theorem dX4_swapped_18 : decode cX4_swapped 18 = .ok (.istore 5, 2) := by decide +kernel
theorem dX4_swapped_20 : decode cX4_swapped 20 = .ok (.iload_n 1, 1) := by decide +kernel
theorem dX4_swapped_21 : decode cX4_swapped 21 = .ok (.iconst 2, 1) := by decide +kernel
theorem dX4_swapped_22 : decode cX4_swapped 22 = .ok (.irem, 1) := by decide +kernel
theorem dX4_swapped_23 : decode cX4_swapped 23 = .ok (.iload_n 2, 1) := by decide +kernel
theorem dX4_swapped_24 : decode cX4_swapped 24 = .ok (.iconst 2, 1) := by decide +kernel
theorem dX4_swapped_25 : decode cX4_swapped 25 = .ok (.irem, 1) := by decide +kernel
theorem dX4_swapped_26 : decode cX4_swapped 26 = .ok (.if_icmp .eq 10, 3) := by decide +kernel
theorem dX4_swapped_29 : decode cX4_swapped 29 = .ok (.iload 4, 2) := by decide +kernel
theorem dX4_swapped_31 : decode cX4_swapped 31 = .ok (.iload 5, 2) := by decide +kernel
theorem dX4_swapped_33 : decode cX4_swapped 33 = .ok (.if_icmp .ne 4, 3) := by decide +kernel
theorem dX4_swapped_36 : decode cX4_swapped 36 = .ok (.return_, 1) := by decide +kernel
theorem dX4_swapped_37 : decode cX4_swapped 37 = .ok (.aload_n 0, 1) := by decide +kernel
theorem dX4_swapped_38 : decode cX4_swapped 38 = .ok (.iload 4, 2) := by decide +kernel
theorem dX4_swapped_40 : decode cX4_swapped 40 = .ok (.iload 5, 2) := by decide +kernel
theorem dX4_swapped_42 : decode cX4_swapped 42 = .ok (.invokevirtual 132, 3) := by decide +kernel
theorem dX4_swapped_45 : decode cX4_swapped 45 = .ok (.istore 6, 2) := by decide +kernel
theorem dX4_swapped_47 : decode cX4_swapped 47 = .ok (.iload_n 1, 1) := by decide +kernel
theorem dX4_swapped_48 : decode cX4_swapped 48 = .ok (.iconst 2, 1) := by decide +kernel
theorem dX4_swapped_49 : decode cX4_swapped 49 = .ok (.irem, 1) := by decide +kernel
theorem dX4_swapped_50 : decode cX4_swapped 50 = .ok (.ifCond .ne 23, 3) := by decide +kernel
theorem dX4_swapped_53 : decode cX4_swapped 53 = .ok (.aload_n 0, 1) := by decide +kernel
theorem dX4_swapped_54 : decode cX4_swapped 54 = .ok (.getfield 19, 3) := by decide +kernel
theorem dX4_swapped_57 : decode cX4_swapped 57 = .ok (.bipush 12, 2) := by decide +kernel
theorem dX4_swapped_59 : decode cX4_swapped 59 = .ok (.iload 4, 2) := by decide +kernel
theorem dX4_swapped_61 : decode cX4_swapped 61 = .ok (.imul, 1) := by decide +kernel
theorem dX4_swapped_62 : decode cX4_swapped 62 = .ok (.iload 5, 2) := by decide +kernel
theorem dX4_swapped_64 : decode cX4_swapped 64 = .ok (.iadd, 1) := by decide +kernel
theorem dX4_swapped_65 : decode cX4_swapped 65 = .ok (.iaload, 1) := by decide +kernel
theorem dX4_swapped_66 : decode cX4_swapped 66 = .ok (.iconst 1, 1) := by decide +kernel
theorem dX4_swapped_67 : decode cX4_swapped 67 = .ok (.iload_n 3, 1) := by decide +kernel
theorem dX4_swapped_68 : decode cX4_swapped 68 = .ok (.ishl, 1) := by decide +kernel
theorem dX4_swapped_69 : decode cX4_swapped 69 = .ok (.ior, 1) := by decide +kernel
theorem dX4_swapped_70 : decode cX4_swapped 70 = .ok (.goto 22, 3) := by decide +kernel
theorem dX4_swapped_73 : decode cX4_swapped 73 = .ok (.aload_n 0, 1) := by decide +kernel
theorem dX4_swapped_74 : decode cX4_swapped 74 = .ok (.getfield 19, 3) := by decide +kernel
theorem dX4_swapped_77 : decode cX4_swapped 77 = .ok (.bipush 12, 2) := by decide +kernel
theorem dX4_swapped_79 : decode cX4_swapped 79 = .ok (.iload 4, 2) := by decide +kernel
theorem dX4_swapped_81 : decode cX4_swapped 81 = .ok (.imul, 1) := by decide +kernel
theorem dX4_swapped_82 : decode cX4_swapped 82 = .ok (.iload 5, 2) := by decide +kernel
theorem dX4_swapped_84 : decode cX4_swapped 84 = .ok (.iadd, 1) := by decide +kernel
theorem dX4_swapped_85 : decode cX4_swapped 85 = .ok (.iaload, 1) := by decide +kernel
theorem dX4_swapped_86 : decode cX4_swapped 86 = .ok (.iconst 1, 1) := by decide +kernel
theorem dX4_swapped_87 : decode cX4_swapped 87 = .ok (.iload_n 3, 1) := by decide +kernel
theorem dX4_swapped_88 : decode cX4_swapped 88 = .ok (.ishl, 1) := by decide +kernel
theorem dX4_swapped_89 : decode cX4_swapped 89 = .ok (.iconst (-1), 1) := by decide +kernel
theorem dX4_swapped_90 : decode cX4_swapped 90 = .ok (.ixor, 1) := by decide +kernel
theorem dX4_swapped_91 : decode cX4_swapped 91 = .ok (.iand, 1) := by decide +kernel
theorem dX4_swapped_92 : decode cX4_swapped 92 = .ok (.istore 7, 2) := by decide +kernel
theorem dX4_swapped_94 : decode cX4_swapped 94 = .ok (.aload_n 0, 1) := by decide +kernel
theorem dX4_swapped_95 : decode cX4_swapped 95 = .ok (.getfield 19, 3) := by decide +kernel
theorem dX4_swapped_98 : decode cX4_swapped 98 = .ok (.bipush 12, 2) := by decide +kernel
theorem dX4_swapped_100 : decode cX4_swapped 100 = .ok (.iload 4, 2) := by decide +kernel
theorem dX4_swapped_102 : decode cX4_swapped 102 = .ok (.imul, 1) := by decide +kernel
theorem dX4_swapped_103 : decode cX4_swapped 103 = .ok (.iload 5, 2) := by decide +kernel
theorem dX4_swapped_105 : decode cX4_swapped 105 = .ok (.iadd, 1) := by decide +kernel
theorem dX4_swapped_106 : decode cX4_swapped 106 = .ok (.iload 7, 2) := by decide +kernel
theorem dX4_swapped_108 : decode cX4_swapped 108 = .ok (.iastore, 1) := by decide +kernel
theorem dX4_swapped_109 : decode cX4_swapped 109 = .ok (.aload_n 0, 1) := by decide +kernel
theorem dX4_swapped_110 : decode cX4_swapped 110 = .ok (.getfield 19, 3) := by decide +kernel
theorem dX4_swapped_113 : decode cX4_swapped 113 = .ok (.bipush 12, 2) := by decide +kernel
theorem dX4_swapped_115 : decode cX4_swapped 115 = .ok (.iload 5, 2) := by decide +kernel
theorem dX4_swapped_117 : decode cX4_swapped 117 = .ok (.imul, 1) := by decide +kernel
theorem dX4_swapped_118 : decode cX4_swapped 118 = .ok (.iload 4, 2) := by decide +kernel
theorem dX4_swapped_120 : decode cX4_swapped 120 = .ok (.iadd, 1) := by decide +kernel
theorem dX4_swapped_121 : decode cX4_swapped 121 = .ok (.iload 7, 2) := by decide +kernel
theorem dX4_swapped_123 : decode cX4_swapped 123 = .ok (.iastore, 1) := by decide +kernel
theorem dX4_swapped_124 : decode cX4_swapped 124 = .ok (.aload_n 0, 1) := by decide +kernel
theorem dX4_swapped_125 : decode cX4_swapped 125 = .ok (.dup, 1) := by decide +kernel
theorem dX4_swapped_126 : decode cX4_swapped 126 = .ok (.getfield 123, 3) := by decide +kernel
theorem dX4_swapped_129 : decode cX4_swapped 129 = .ok (.iload 6, 2) := by decide +kernel
theorem dX4_swapped_131 : decode cX4_swapped 131 = .ok (.aload_n 0, 1) := by decide +kernel
theorem dX4_swapped_132 : decode cX4_swapped 132 = .ok (.iload 4, 2) := by decide +kernel
theorem dX4_swapped_134 : decode cX4_swapped 134 = .ok (.iload 5, 2) := by decide +kernel
theorem dX4_swapped_136 : decode cX4_swapped 136 = .ok (.invokevirtual 132, 3) := by decide +kernel
theorem dX4_swapped_139 : decode cX4_swapped 139 = .ok (.if_icmp .ne 7, 3) := by decide +kernel
theorem dX4_swapped_142 : decode cX4_swapped 142 = .ok (.iconst 0, 1) := by decide +kernel
theorem dX4_swapped_143 : decode cX4_swapped 143 = .ok (.goto 4, 3) := by decide +kernel
theorem dX4_swapped_146 : decode cX4_swapped 146 = .ok (.iconst 1, 1) := by decide +kernel
theorem dX4_swapped_147 : decode cX4_swapped 147 = .ok (.iadd, 1) := by decide +kernel
theorem dX4_swapped_148 : decode cX4_swapped 148 = .ok (.putfield 123, 3) := by decide +kernel
theorem dX4_swapped_151 : decode cX4_swapped 151 = .ok (.return_, 1) := by decide +kernel
theorem dX4_putRight_0 : decode cX4_putRight 0 = .ok (.bipush 24, 2) := by decide +kernel
theorem dX4_putRight_2 : decode cX4_putRight 2 = .ok (.iload_n 3, 1) := by decide +kernel
theorem dX4_putRight_3 : decode cX4_putRight 3 = .ok (.imul, 1) := by decide +kernel
theorem dX4_putRight_4 : decode cX4_putRight 4 = .ok (.istore 4, 2) := by decide +kernel
theorem dX4_putRight_6 : decode cX4_putRight 6 = .ok (.aload_n 0, 1) := by decide +kernel
theorem dX4_putRight_7 : decode cX4_putRight 7 = .ok (.getfield 16, 3) := by decide +kernel
theorem dX4_putRight_10 : decode cX4_putRight 10 = .ok (.iload 4, 2) := by decide +kernel
theorem dX4_putRight_12 : decode cX4_putRight 12 = .ok (.iaload, 1) := by decide +kernel
theorem dX4_putRight_13 : decode cX4_putRight 13 = .ok (.iload_n 1, 1) := by decide +kernel
theorem dX4_putRight_14 : decode cX4_putRight 14 = .ok (.if_icmp .eq 9, 3) := by decide +kernel
theorem dX4_putRight_17 : decode cX4_putRight 17 = .ok (.iinc 4 1, 3) := by decide +kernel
theorem dX4_putRight_20 : decode cX4_putRight 20 = .ok (.goto (-14), 3) := by decide +kernel
theorem dX4_putRight_23 : decode cX4_putRight 23 = .ok (.aload_n 0, 1) := by decide +kernel
theorem dX4_putRight_24 : decode cX4_putRight 24 = .ok (.getfield 13, 3) := by decide +kernel
theorem dX4_putRight_27 : decode cX4_putRight 27 = .ok (.bipush 6, 2) := by decide +kernel
theorem dX4_putRight_29 : decode cX4_putRight 29 = .ok (.iload_n 1, 1) := by decide +kernel
theorem dX4_putRight_30 : decode cX4_putRight 30 = .ok (.iconst 2, 1) := by decide +kernel
theorem dX4_putRight_31 : decode cX4_putRight 31 = .ok (.idiv, 1) := by decide +kernel
theorem dX4_putRight_32 : decode cX4_putRight 32 = .ok (.imul, 1) := by decide +kernel
theorem dX4_putRight_33 : decode cX4_putRight 33 = .ok (.iconst 2, 1) := by decide +kernel
theorem dX4_putRight_34 : decode cX4_putRight 34 = .ok (.iload_n 3, 1) := by decide +kernel
theorem dX4_putRight_35 : decode cX4_putRight 35 = .ok (.imul, 1) := by decide +kernel
theorem dX4_putRight_36 : decode cX4_putRight 36 = .ok (.iadd, 1) := by decide +kernel
theorem dX4_putRight_37 : decode cX4_putRight 37 = .ok (.iload_n 1, 1) := by decide +kernel
theorem dX4_putRight_38 : decode cX4_putRight 38 = .ok (.iconst 2, 1) := by decide +kernel
theorem dX4_putRight_39 : decode cX4_putRight 39 = .ok (.irem, 1) := by decide +kernel
theorem dX4_putRight_40 : decode cX4_putRight 40 = .ok (.iadd, 1) := by decide +kernel
theorem dX4_putRight_41 : decode cX4_putRight 41 = .ok (.iload_n 2, 1) := by decide +kernel
theorem dX4_putRight_42 : decode cX4_putRight 42 = .ok (.iastore, 1) := by decide +kernel
theorem dX4_putRight_43 : decode cX4_putRight 43 = .ok (.iload 4, 2) := by decide +kernel
theorem dX4_putRight_45 : decode cX4_putRight 45 = .ok (.iconst 1, 1) := by decide +kernel
theorem dX4_putRight_46 : decode cX4_putRight 46 = .ok (.iadd, 1) := by decide +kernel
theorem dX4_putRight_47 : decode cX4_putRight 47 = .ok (.bipush 24, 2) := by decide +kernel
theorem dX4_putRight_49 : decode cX4_putRight 49 = .ok (.iload_n 3, 1) := by decide +kernel
theorem dX4_putRight_50 : decode cX4_putRight 50 = .ok (.imul, 1) := by decide +kernel
theorem dX4_putRight_51 : decode cX4_putRight 51 = .ok (.aload_n 0, 1) := by decide +kernel
theorem dX4_putRight_52 : decode cX4_putRight 52 = .ok (.getfield 110, 3) := by decide +kernel
theorem dX4_putRight_55 : decode cX4_putRight 55 = .ok (.iadd, 1) := by decide +kernel
theorem dX4_putRight_56 : decode cX4_putRight 56 = .ok (.if_icmp .ge 80, 3) := by decide +kernel
theorem dX4_putRight_59 : decode cX4_putRight 59 = .ok (.aload_n 0, 1) := by decide +kernel
theorem dX4_putRight_60 : decode cX4_putRight 60 = .ok (.aload_n 0, 1) := by decide +kernel
theorem dX4_putRight_61 : decode cX4_putRight 61 = .ok (.getfield 16, 3) := by decide +kernel
theorem dX4_putRight_64 : decode cX4_putRight 64 = .ok (.iload 4, 2) := by decide +kernel
theorem dX4_putRight_66 : decode cX4_putRight 66 = .ok (.iconst 1, 1) := by decide +kernel
theorem dX4_putRight_67 : decode cX4_putRight 67 = .ok (.iadd, 1) := by decide +kernel
theorem dX4_putRight_68 : decode cX4_putRight 68 = .ok (.iaload, 1) := by decide +kernel
theorem dX4_putRight_69 : decode cX4_putRight 69 = .ok (.aload_n 0, 1) := by decide +kernel
theorem dX4_putRight_70 : decode cX4_putRight 70 = .ok (.aload_n 0, 1) := by decide +kernel
theorem dX4_putRight_71 : decode cX4_putRight 71 = .ok (.getfield 16, 3) := by decide +kernel
theorem dX4_putRight_74 : decode cX4_putRight 74 = .ok (.iload 4, 2) := by decide +kernel
theorem dX4_putRight_76 : decode cX4_putRight 76 = .ok (.iconst 1, 1) := by decide +kernel
theorem dX4_putRight_77 : decode cX4_putRight 77 = .ok (.iadd, 1) := by decide +kernel
theorem dX4_putRight_78 : decode cX4_putRight 78 = .ok (.iaload, 1) := by decide +kernel
theorem dX4_putRight_79 : decode cX4_putRight 79 = .ok (.iload_n 3, 1) := by decide +kernel
theorem dX4_putRight_80 : decode cX4_putRight 80 = .ok (.invokevirtual 97, 3) := by decide +kernel
theorem dX4_putRight_83 : decode cX4_putRight 83 = .ok (.iload_n 1, 1) := by decide +kernel
theorem dX4_putRight_84 : decode cX4_putRight 84 = .ok (.iload_n 3, 1) := by decide +kernel
theorem dX4_putRight_85 : decode cX4_putRight 85 = .ok (.invokevirtual 113, 3) := by decide +kernel
theorem dX4_putRight_88 : decode cX4_putRight 88 = .ok (.ifCond .eq 48, 3) := by decide +kernel
theorem dX4_putRight_91 : decode cX4_putRight 91 = .ok (.aload_n 0, 1) := by decide +kernel
theorem dX4_putRight_92 : decode cX4_putRight 92 = .ok (.getfield 16, 3) := by decide +kernel
theorem dX4_putRight_95 : decode cX4_putRight 95 = .ok (.iload 4, 2) := by decide +kernel
theorem dX4_putRight_97 : decode cX4_putRight 97 = .ok (.aload_n 0, 1) := by decide +kernel
theorem dX4_putRight_98 : decode cX4_putRight 98 = .ok (.getfield 16, 3) := by decide +kernel
theorem dX4_putRight_101 : decode cX4_putRight 101 = .ok (.iload 4, 2) := by decide +kernel
theorem dX4_putRight_103 : decode cX4_putRight 103 = .ok (.iconst 1, 1) := by decide +kernel
theorem dX4_putRight_104 : decode cX4_putRight 104 = .ok (.iadd, 1) := by decide +kernel
theorem dX4_putRight_105 : decode cX4_putRight 105 = .ok (.iaload, 1) := by decide +kernel
theorem dX4_putRight_106 : decode cX4_putRight 106 = .ok (.iastore, 1) := by decide +kernel
theorem dX4_putRight_107 : decode cX4_putRight 107 = .ok (.aload_n 0, 1) := by decide +kernel
theorem dX4_putRight_108 : decode cX4_putRight 108 = .ok (.getfield 16, 3) := by decide +kernel
theorem dX4_putRight_111 : decode cX4_putRight 111 = .ok (.iload 4, 2) := by decide +kernel
theorem dX4_putRight_113 : decode cX4_putRight 113 = .ok (.iconst 1, 1) := by decide +kernel
theorem dX4_putRight_114 : decode cX4_putRight 114 = .ok (.iadd, 1) := by decide +kernel
theorem dX4_putRight_115 : decode cX4_putRight 115 = .ok (.iload_n 1, 1) := by decide +kernel
theorem dX4_putRight_116 : decode cX4_putRight 116 = .ok (.iastore, 1) := by decide +kernel
theorem dX4_putRight_117 : decode cX4_putRight 117 = .ok (.aload_n 0, 1) := by decide +kernel
theorem dX4_putRight_118 : decode cX4_putRight 118 = .ok (.aload_n 0, 1) := by decide +kernel
theorem dX4_putRight_119 : decode cX4_putRight 119 = .ok (.getfield 16, 3) := by decide +kernel
theorem dX4_putRight_122 : decode cX4_putRight 122 = .ok (.iload 4, 2) := by decide +kernel
theorem dX4_putRight_124 : decode cX4_putRight 124 = .ok (.iaload, 1) := by decide +kernel
theorem dX4_putRight_125 : decode cX4_putRight 125 = .ok (.iload_n 1, 1) := by decide +kernel
theorem dX4_putRight_126 : decode cX4_putRight 126 = .ok (.iload_n 3, 1) := by decide +kernel
theorem dX4_putRight_127 : decode cX4_putRight 127 = .ok (.invokevirtual 153, 3) := by decide +kernel
theorem dX4_putRight_130 : decode cX4_putRight 130 = .ok (.iinc 4 1, 3) := by decide +kernel
theorem dX4_putRight_133 : decode cX4_putRight 133 = .ok (.goto (-90), 3) := by decide +kernel
theorem dX4_putRight_136 : decode cX4_putRight 136 = .ok (.iload 4, 2) := by decide +kernel
theorem dX4_putRight_138 : decode cX4_putRight 138 = .ok (.bipush 24, 2) := by decide +kernel
theorem dX4_putRight_140 : decode cX4_putRight 140 = .ok (.iload_n 3, 1) := by decide +kernel
theorem dX4_putRight_141 : decode cX4_putRight 141 = .ok (.imul, 1) := by decide +kernel
theorem dX4_putRight_142 : decode cX4_putRight 142 = .ok (.if_icmp .le 67, 3) := by decide +kernel
theorem dX4_putRight_145 : decode cX4_putRight 145 = .ok (.aload_n 0, 1) := by decide +kernel
theorem dX4_putRight_146 : decode cX4_putRight 146 = .ok (.iload_n 1, 1) := by decide +kernel
theorem dX4_putRight_147 : decode cX4_putRight 147 = .ok (.iload_n 2, 1) := by decide +kernel
theorem dX4_putRight_148 : decode cX4_putRight 148 = .ok (.aload_n 0, 1) := by decide +kernel
theorem dX4_putRight_149 : decode cX4_putRight 149 = .ok (.getfield 16, 3) := by decide +kernel
theorem dX4_putRight_152 : decode cX4_putRight 152 = .ok (.iload 4, 2) := by decide +kernel
theorem dX4_putRight_154 : decode cX4_putRight 154 = .ok (.iconst 1, 1) := by decide +kernel
theorem dX4_putRight_155 : decode cX4_putRight 155 = .ok (.isub, 1) := by decide +kernel
theorem dX4_putRight_156 : decode cX4_putRight 156 = .ok (.iaload, 1) := by decide +kernel
theorem dX4_putRight_157 : decode cX4_putRight 157 = .ok (.iload_n 3, 1) := by decide +kernel
theorem dX4_putRight_158 : decode cX4_putRight 158 = .ok (.invokevirtual 113, 3) := by decide +kernel
theorem dX4_putRight_161 : decode cX4_putRight 161 = .ok (.ifCond .eq 48, 3) := by decide +kernel
theorem dX4_putRight_164 : decode cX4_putRight 164 = .ok (.aload_n 0, 1) := by decide +kernel
theorem dX4_putRight_165 : decode cX4_putRight 165 = .ok (.getfield 16, 3) := by decide +kernel
theorem dX4_putRight_168 : decode cX4_putRight 168 = .ok (.iload 4, 2) := by decide +kernel
theorem dX4_putRight_170 : decode cX4_putRight 170 = .ok (.aload_n 0, 1) := by decide +kernel
theorem dX4_putRight_171 : decode cX4_putRight 171 = .ok (.getfield 16, 3) := by decide +kernel
theorem dX4_putRight_174 : decode cX4_putRight 174 = .ok (.iload 4, 2) := by decide +kernel
theorem dX4_putRight_176 : decode cX4_putRight 176 = .ok (.iconst 1, 1) := by decide +kernel
theorem dX4_putRight_177 : decode cX4_putRight 177 = .ok (.isub, 1) := by decide +kernel
theorem dX4_putRight_178 : decode cX4_putRight 178 = .ok (.iaload, 1) := by decide +kernel
theorem dX4_putRight_179 : decode cX4_putRight 179 = .ok (.iastore, 1) := by decide +kernel
theorem dX4_putRight_180 : decode cX4_putRight 180 = .ok (.aload_n 0, 1) := by decide +kernel
theorem dX4_putRight_181 : decode cX4_putRight 181 = .ok (.getfield 16, 3) := by decide +kernel
theorem dX4_putRight_184 : decode cX4_putRight 184 = .ok (.iload 4, 2) := by decide +kernel
theorem dX4_putRight_186 : decode cX4_putRight 186 = .ok (.iconst 1, 1) := by decide +kernel
theorem dX4_putRight_187 : decode cX4_putRight 187 = .ok (.isub, 1) := by decide +kernel
theorem dX4_putRight_188 : decode cX4_putRight 188 = .ok (.iload_n 1, 1) := by decide +kernel
theorem dX4_putRight_189 : decode cX4_putRight 189 = .ok (.iastore, 1) := by decide +kernel
theorem dX4_putRight_190 : decode cX4_putRight 190 = .ok (.aload_n 0, 1) := by decide +kernel
theorem dX4_putRight_191 : decode cX4_putRight 191 = .ok (.iload_n 1, 1) := by decide +kernel
theorem dX4_putRight_192 : decode cX4_putRight 192 = .ok (.aload_n 0, 1) := by decide +kernel
theorem dX4_putRight_193 : decode cX4_putRight 193 = .ok (.getfield 16, 3) := by decide +kernel
theorem dX4_putRight_196 : decode cX4_putRight 196 = .ok (.iload 4, 2) := by decide +kernel
theorem dX4_putRight_198 : decode cX4_putRight 198 = .ok (.iaload, 1) := by decide +kernel
theorem dX4_putRight_199 : decode cX4_putRight 199 = .ok (.iload_n 3, 1) := by decide +kernel
theorem dX4_putRight_200 : decode cX4_putRight 200 = .ok (.invokevirtual 153, 3) := by decide +kernel
theorem dX4_putRight_203 : decode cX4_putRight 203 = .ok (.iinc 4 (-1), 3) := by decide +kernel
theorem dX4_putRight_206 : decode cX4_putRight 206 = .ok (.goto (-70), 3) := by decide +kernel
theorem dX4_putRight_209 : decode cX4_putRight 209 = .ok (.return_, 1) := by decide +kernel
theorem dX4_layBox_0 : decode cX4_layBox 0 = .ok (.iload_n 3, 1) := by decide +kernel
theorem dX4_layBox_1 : decode cX4_layBox 1 = .ok (.aload_n 0, 1) := by decide +kernel
theorem dX4_layBox_2 : decode cX4_layBox 2 = .ok (.iload_n 1, 1) := by decide +kernel
theorem dX4_layBox_3 : decode cX4_layBox 3 = .ok (.iload_n 2, 1) := by decide +kernel
theorem dX4_layBox_4 : decode cX4_layBox 4 = .ok (.invokevirtual 104, 3) := by decide +kernel
theorem dX4_layBox_7 : decode cX4_layBox 7 = .ok (.if_icmp .le 27, 3) := by decide +kernel
theorem dX4_layBox_10 : decode cX4_layBox 10 = .ok (.aload_n 0, 1) := by decide +kernel
theorem dX4_layBox_11 : decode cX4_layBox 11 = .ok (.iconst 2, 1) := by decide +kernel
theorem dX4_layBox_12 : decode cX4_layBox 12 = .ok (.iload_n 1, 1) := by decide +kernel
theorem dX4_layBox_13 : decode cX4_layBox 13 = .ok (.imul, 1) := by decide +kernel
theorem dX4_layBox_14 : decode cX4_layBox 14 = .ok (.iconst 1, 1) := by decide +kernel
theorem dX4_layBox_15 : decode cX4_layBox 15 = .ok (.iadd, 1) := by decide +kernel
theorem dX4_layBox_16 : decode cX4_layBox 16 = .ok (.iload 4, 2) := by decide +kernel
theorem dX4_layBox_18 : decode cX4_layBox 18 = .ok (.iload_n 2, 1) := by decide +kernel
theorem dX4_layBox_19 : decode cX4_layBox 19 = .ok (.invokevirtual 157, 3) := by decide +kernel
theorem dX4_layBox_22 : decode cX4_layBox 22 = .ok (.aload_n 0, 1) := by decide +kernel
theorem dX4_layBox_23 : decode cX4_layBox 23 = .ok (.iconst 2, 1) := by decide +kernel
theorem dX4_layBox_24 : decode cX4_layBox 24 = .ok (.iload_n 1, 1) := by decide +kernel
theorem dX4_layBox_25 : decode cX4_layBox 25 = .ok (.imul, 1) := by decide +kernel
theorem dX4_layBox_26 : decode cX4_layBox 26 = .ok (.iload_n 3, 1) := by decide +kernel
theorem dX4_layBox_27 : decode cX4_layBox 27 = .ok (.iload_n 2, 1) := by decide +kernel
theorem dX4_layBox_28 : decode cX4_layBox 28 = .ok (.invokevirtual 157, 3) := by decide +kernel
theorem dX4_layBox_31 : decode cX4_layBox 31 = .ok (.goto 24, 3) := by decide +kernel
theorem dX4_layBox_34 : decode cX4_layBox 34 = .ok (.aload_n 0, 1) := by decide +kernel
theorem dX4_layBox_35 : decode cX4_layBox 35 = .ok (.iconst 2, 1) := by decide +kernel
theorem dX4_layBox_36 : decode cX4_layBox 36 = .ok (.iload_n 1, 1) := by decide +kernel
theorem dX4_layBox_37 : decode cX4_layBox 37 = .ok (.imul, 1) := by decide +kernel
theorem dX4_layBox_38 : decode cX4_layBox 38 = .ok (.iload_n 3, 1) := by decide +kernel
theorem dX4_layBox_39 : decode cX4_layBox 39 = .ok (.iload_n 2, 1) := by decide +kernel
theorem dX4_layBox_40 : decode cX4_layBox 40 = .ok (.invokevirtual 157, 3) := by decide +kernel
theorem dX4_layBox_43 : decode cX4_layBox 43 = .ok (.aload_n 0, 1) := by decide +kernel
theorem dX4_layBox_44 : decode cX4_layBox 44 = .ok (.iconst 2, 1) := by decide +kernel
theorem dX4_layBox_45 : decode cX4_layBox 45 = .ok (.iload_n 1, 1) := by decide +kernel
theorem dX4_layBox_46 : decode cX4_layBox 46 = .ok (.imul, 1) := by decide +kernel
theorem dX4_layBox_47 : decode cX4_layBox 47 = .ok (.iconst 1, 1) := by decide +kernel
theorem dX4_layBox_48 : decode cX4_layBox 48 = .ok (.iadd, 1) := by decide +kernel
theorem dX4_layBox_49 : decode cX4_layBox 49 = .ok (.iload 4, 2) := by decide +kernel
theorem dX4_layBox_51 : decode cX4_layBox 51 = .ok (.iload_n 2, 1) := by decide +kernel
theorem dX4_layBox_52 : decode cX4_layBox 52 = .ok (.invokevirtual 157, 3) := by decide +kernel
theorem dX4_layBox_55 : decode cX4_layBox 55 = .ok (.return_, 1) := by decide +kernel
theorem dX4_isBox_0 : decode cX4_isBox 0 = .ok (.iload_n 1, 1) := by decide +kernel
theorem dX4_isBox_1 : decode cX4_isBox 1 = .ok (.iconst 0, 1) := by decide +kernel
theorem dX4_isBox_2 : decode cX4_isBox 2 = .ok (.bipush 11, 2) := by decide +kernel
theorem dX4_isBox_4 : decode cX4_isBox 4 = .ok (.invokestatic 41, 3) := by decide +kernel
theorem dX4_isBox_7 : decode cX4_isBox 7 = .ok (.ifCond .eq 18, 3) := by decide +kernel
theorem dX4_isBox_10 : decode cX4_isBox 10 = .ok (.aload_n 0, 1) := by decide +kernel
theorem dX4_isBox_11 : decode cX4_isBox 11 = .ok (.getfield 73, 3) := by decide +kernel
theorem dX4_isBox_14 : decode cX4_isBox 14 = .ok (.iload_n 1, 1) := by decide +kernel
theorem dX4_isBox_15 : decode cX4_isBox 15 = .ok (.invokestatic 86, 3) := by decide +kernel
theorem dX4_isBox_18 : decode cX4_isBox 18 = .ok (.ifCond .eq 7, 3) := by decide +kernel
theorem dX4_isBox_21 : decode cX4_isBox 21 = .ok (.iconst 1, 1) := by decide +kernel
theorem dX4_isBox_22 : decode cX4_isBox 22 = .ok (.goto 4, 3) := by decide +kernel
theorem dX4_isBox_25 : decode cX4_isBox 25 = .ok (.iconst 0, 1) := by decide +kernel
theorem dX4_isBox_26 : decode cX4_isBox 26 = .ok (.ireturn, 1) := by decide +kernel
theorem dX4_canMove_0 : decode cX4_canMove 0 = .ok (.iload_n 3, 1) := by decide +kernel
theorem dX4_canMove_1 : decode cX4_canMove 1 = .ok (.sipush (-1998), 3) := by decide +kernel
theorem dX4_canMove_4 : decode cX4_canMove 4 = .ok (.sipush 1998, 3) := by decide +kernel
theorem dX4_canMove_7 : decode cX4_canMove 7 = .ok (.invokestatic 41, 3) := by decide +kernel
theorem dX4_canMove_10 : decode cX4_canMove 10 = .ok (.ifCond .eq 35, 3) := by decide +kernel
theorem dX4_canMove_13 : decode cX4_canMove 13 = .ok (.aload_n 0, 1) := by decide +kernel
theorem dX4_canMove_14 : decode cX4_canMove 14 = .ok (.iload_n 1, 1) := by decide +kernel
theorem dX4_canMove_15 : decode cX4_canMove 15 = .ok (.iload_n 2, 1) := by decide +kernel
theorem dX4_canMove_16 : decode cX4_canMove 16 = .ok (.invokevirtual 104, 3) := by decide +kernel
theorem dX4_canMove_19 : decode cX4_canMove 19 = .ok (.iload_n 3, 1) := by decide +kernel
theorem dX4_canMove_20 : decode cX4_canMove 20 = .ok (.iadd, 1) := by decide +kernel
theorem dX4_canMove_21 : decode cX4_canMove 21 = .ok (.sipush (-999), 3) := by decide +kernel
theorem dX4_canMove_24 : decode cX4_canMove 24 = .ok (.if_icmp .lt 21, 3) := by decide +kernel
theorem dX4_canMove_27 : decode cX4_canMove 27 = .ok (.aload_n 0, 1) := by decide +kernel
theorem dX4_canMove_28 : decode cX4_canMove 28 = .ok (.iload_n 1, 1) := by decide +kernel
theorem dX4_canMove_29 : decode cX4_canMove 29 = .ok (.iload_n 2, 1) := by decide +kernel
theorem dX4_canMove_30 : decode cX4_canMove 30 = .ok (.invokevirtual 107, 3) := by decide +kernel
theorem dX4_canMove_33 : decode cX4_canMove 33 = .ok (.iload_n 3, 1) := by decide +kernel
theorem dX4_canMove_34 : decode cX4_canMove 34 = .ok (.iadd, 1) := by decide +kernel
theorem dX4_canMove_35 : decode cX4_canMove 35 = .ok (.sipush 999, 3) := by decide +kernel
theorem dX4_canMove_38 : decode cX4_canMove 38 = .ok (.if_icmp .gt 7, 3) := by decide +kernel
theorem dX4_canMove_41 : decode cX4_canMove 41 = .ok (.iconst 1, 1) := by decide +kernel
theorem dX4_canMove_42 : decode cX4_canMove 42 = .ok (.goto 4, 3) := by decide +kernel
theorem dX4_canMove_45 : decode cX4_canMove 45 = .ok (.iconst 0, 1) := by decide +kernel
theorem dX4_canMove_46 : decode cX4_canMove 46 = .ok (.ireturn, 1) := by decide +kernel
theorem dX4_endSwaps_0 : decode cX4_endSwaps 0 = .ok (.aload_n 0, 1) := by decide +kernel
theorem dX4_endSwaps_1 : decode cX4_endSwaps 1 = .ok (.aload_n 0, 1) := by decide +kernel
theorem dX4_endSwaps_2 : decode cX4_endSwaps 2 = .ok (.getfield 123, 3) := by decide +kernel
theorem dX4_endSwaps_5 : decode cX4_endSwaps 5 = .ok (.invokevirtual 93, 3) := by decide +kernel
theorem dX4_endSwaps_8 : decode cX4_endSwaps 8 = .ok (.aload_n 0, 1) := by decide +kernel
theorem dX4_endSwaps_9 : decode cX4_endSwaps 9 = .ok (.getfield 28, 3) := by decide +kernel
theorem dX4_endSwaps_12 : decode cX4_endSwaps 12 = .ok (.iconst 0, 1) := by decide +kernel
theorem dX4_endSwaps_13 : decode cX4_endSwaps 13 = .ok (.iaload, 1) := by decide +kernel
theorem dX4_endSwaps_14 : decode cX4_endSwaps 14 = .ok (.aload_n 0, 1) := by decide +kernel
theorem dX4_endSwaps_15 : decode cX4_endSwaps 15 = .ok (.getfield 28, 3) := by decide +kernel
theorem dX4_endSwaps_18 : decode cX4_endSwaps 18 = .ok (.iconst 1, 1) := by decide +kernel
theorem dX4_endSwaps_19 : decode cX4_endSwaps 19 = .ok (.iaload, 1) := by decide +kernel
theorem dX4_endSwaps_20 : decode cX4_endSwaps 20 = .ok (.iadd, 1) := by decide +kernel
theorem dX4_endSwaps_21 : decode cX4_endSwaps 21 = .ok (.aload_n 0, 1) := by decide +kernel
theorem dX4_endSwaps_22 : decode cX4_endSwaps 22 = .ok (.getfield 28, 3) := by decide +kernel
theorem dX4_endSwaps_25 : decode cX4_endSwaps 25 = .ok (.iconst 2, 1) := by decide +kernel
theorem dX4_endSwaps_26 : decode cX4_endSwaps 26 = .ok (.iaload, 1) := by decide +kernel
theorem dX4_endSwaps_27 : decode cX4_endSwaps 27 = .ok (.iadd, 1) := by decide +kernel
theorem dX4_endSwaps_28 : decode cX4_endSwaps 28 = .ok (.ireturn, 1) := by decide +kernel
theorem dX4_move_0 : decode cX4_move 0 = .ok (.aload_n 0, 1) := by decide +kernel
theorem dX4_move_1 : decode cX4_move 1 = .ok (.iload_n 1, 1) := by decide +kernel
theorem dX4_move_2 : decode cX4_move 2 = .ok (.invokevirtual 160, 3) := by decide +kernel
theorem dX4_move_5 : decode cX4_move 5 = .ok (.ifCond .ne 7, 3) := by decide +kernel
theorem dX4_move_8 : decode cX4_move 8 = .ok (.sipush (-10002), 3) := by decide +kernel
theorem dX4_move_11 : decode cX4_move 11 = .ok (.ireturn, 1) := by decide +kernel
theorem dX4_move_12 : decode cX4_move 12 = .ok (.aload_n 0, 1) := by decide +kernel
theorem dX4_move_13 : decode cX4_move 13 = .ok (.iload_n 1, 1) := by decide +kernel
theorem dX4_move_14 : decode cX4_move 14 = .ok (.iconst 0, 1) := by decide +kernel
theorem dX4_move_15 : decode cX4_move 15 = .ok (.iload_n 2, 1) := by decide +kernel
theorem dX4_move_16 : decode cX4_move 16 = .ok (.invokevirtual 163, 3) := by decide +kernel
theorem dX4_move_19 : decode cX4_move 19 = .ok (.ifCond .eq 24, 3) := by decide +kernel
theorem dX4_move_22 : decode cX4_move 22 = .ok (.aload_n 0, 1) := by decide +kernel
theorem dX4_move_23 : decode cX4_move 23 = .ok (.iload_n 1, 1) := by decide +kernel
theorem dX4_move_24 : decode cX4_move 24 = .ok (.iconst 1, 1) := by decide +kernel
theorem dX4_move_25 : decode cX4_move 25 = .ok (.iload_n 3, 1) := by decide +kernel
theorem dX4_move_26 : decode cX4_move 26 = .ok (.invokevirtual 163, 3) := by decide +kernel
theorem dX4_move_29 : decode cX4_move 29 = .ok (.ifCond .eq 14, 3) := by decide +kernel
theorem dX4_move_32 : decode cX4_move 32 = .ok (.aload_n 0, 1) := by decide +kernel
theorem dX4_move_33 : decode cX4_move 33 = .ok (.iload_n 1, 1) := by decide +kernel
theorem dX4_move_34 : decode cX4_move 34 = .ok (.iconst 2, 1) := by decide +kernel
theorem dX4_move_35 : decode cX4_move 35 = .ok (.iload 4, 2) := by decide +kernel
theorem dX4_move_37 : decode cX4_move 37 = .ok (.invokevirtual 163, 3) := by decide +kernel
theorem dX4_move_40 : decode cX4_move 40 = .ok (.ifCond .ne 7, 3) := by decide +kernel
theorem dX4_move_43 : decode cX4_move 43 = .ok (.sipush (-10003), 3) := by decide +kernel
theorem dX4_move_46 : decode cX4_move 46 = .ok (.ireturn, 1) := by decide +kernel
theorem dX4_move_47 : decode cX4_move 47 = .ok (.aload_n 0, 1) := by decide +kernel
theorem dX4_move_48 : decode cX4_move 48 = .ok (.invokevirtual 83, 3) := by decide +kernel
theorem dX4_move_51 : decode cX4_move 51 = .ok (.iconst 0, 1) := by decide +kernel
theorem dX4_move_52 : decode cX4_move 52 = .ok (.istore 5, 2) := by decide +kernel
theorem dX4_move_54 : decode cX4_move 54 = .ok (.iload 5, 2) := by decide +kernel
theorem dX4_move_56 : decode cX4_move 56 = .ok (.iconst 3, 1) := by decide +kernel
theorem dX4_move_57 : decode cX4_move 57 = .ok (.if_icmp .ge 59, 3) := by decide +kernel
theorem dX4_move_60 : decode cX4_move 60 = .ok (.iload 5, 2) := by decide +kernel
theorem dX4_move_62 : decode cX4_move 62 = .ok (.ifCond .ne 7, 3) := by decide +kernel
theorem dX4_move_65 : decode cX4_move 65 = .ok (.iload_n 2, 1) := by decide +kernel
theorem dX4_move_66 : decode cX4_move 66 = .ok (.goto 15, 3) := by decide +kernel
theorem dX4_move_69 : decode cX4_move 69 = .ok (.iload 5, 2) := by decide +kernel
theorem dX4_move_71 : decode cX4_move 71 = .ok (.iconst 1, 1) := by decide +kernel
theorem dX4_move_72 : decode cX4_move 72 = .ok (.if_icmp .ne 7, 3) := by decide +kernel
theorem dX4_move_75 : decode cX4_move 75 = .ok (.iload_n 3, 1) := by decide +kernel
theorem dX4_move_76 : decode cX4_move 76 = .ok (.goto 5, 3) := by decide +kernel
theorem dX4_move_79 : decode cX4_move 79 = .ok (.iload 4, 2) := by decide +kernel
theorem dX4_move_81 : decode cX4_move 81 = .ok (.istore 6, 2) := by decide +kernel
theorem dX4_move_83 : decode cX4_move 83 = .ok (.aload_n 0, 1) := by decide +kernel
theorem dX4_move_84 : decode cX4_move 84 = .ok (.iload_n 1, 1) := by decide +kernel
theorem dX4_move_85 : decode cX4_move 85 = .ok (.iload 5, 2) := by decide +kernel
theorem dX4_move_87 : decode cX4_move 87 = .ok (.aload_n 0, 1) := by decide +kernel
theorem dX4_move_88 : decode cX4_move 88 = .ok (.iload_n 1, 1) := by decide +kernel
theorem dX4_move_89 : decode cX4_move 89 = .ok (.iload 5, 2) := by decide +kernel
theorem dX4_move_91 : decode cX4_move 91 = .ok (.invokevirtual 104, 3) := by decide +kernel
theorem dX4_move_94 : decode cX4_move 94 = .ok (.iload 6, 2) := by decide +kernel
theorem dX4_move_96 : decode cX4_move 96 = .ok (.iadd, 1) := by decide +kernel
theorem dX4_move_97 : decode cX4_move 97 = .ok (.aload_n 0, 1) := by decide +kernel
theorem dX4_move_98 : decode cX4_move 98 = .ok (.iload_n 1, 1) := by decide +kernel
theorem dX4_move_99 : decode cX4_move 99 = .ok (.iload 5, 2) := by decide +kernel
theorem dX4_move_101 : decode cX4_move 101 = .ok (.invokevirtual 107, 3) := by decide +kernel
theorem dX4_move_104 : decode cX4_move 104 = .ok (.iload 6, 2) := by decide +kernel
theorem dX4_move_106 : decode cX4_move 106 = .ok (.iadd, 1) := by decide +kernel
theorem dX4_move_107 : decode cX4_move 107 = .ok (.invokevirtual 166, 3) := by decide +kernel
theorem dX4_move_110 : decode cX4_move 110 = .ok (.iinc 5 1, 3) := by decide +kernel
theorem dX4_move_113 : decode cX4_move 113 = .ok (.goto (-59), 3) := by decide +kernel
theorem dX4_move_116 : decode cX4_move 116 = .ok (.aload_n 0, 1) := by decide +kernel
theorem dX4_move_117 : decode cX4_move 117 = .ok (.invokevirtual 170, 3) := by decide +kernel
theorem dX4_move_120 : decode cX4_move 120 = .ok (.ireturn, 1) := by decide +kernel
theorem dX4_isAxis_0 : decode cX4_isAxis 0 = .ok (.iload_n 0, 1) := by decide +kernel
theorem dX4_isAxis_1 : decode cX4_isAxis 1 = .ok (.iconst 0, 1) := by decide +kernel
theorem dX4_isAxis_2 : decode cX4_isAxis 2 = .ok (.iconst 2, 1) := by decide +kernel
theorem dX4_isAxis_3 : decode cX4_isAxis 3 = .ok (.invokestatic 41, 3) := by decide +kernel
theorem dX4_isAxis_6 : decode cX4_isAxis 6 = .ok (.ireturn, 1) := by decide +kernel
theorem dX4_areEnds_0 : decode cX4_areEnds 0 = .ok (.iload_n 0, 1) := by decide +kernel
theorem dX4_areEnds_1 : decode cX4_areEnds 1 = .ok (.sipush (-999), 3) := by decide +kernel
theorem dX4_areEnds_4 : decode cX4_areEnds 4 = .ok (.sipush 999, 3) := by decide +kernel
theorem dX4_areEnds_7 : decode cX4_areEnds 7 = .ok (.invokestatic 41, 3) := by decide +kernel
theorem dX4_areEnds_10 : decode cX4_areEnds 10 = .ok (.ifCond .eq 25, 3) := by decide +kernel
theorem dX4_areEnds_13 : decode cX4_areEnds 13 = .ok (.iload_n 1, 1) := by decide +kernel
theorem dX4_areEnds_14 : decode cX4_areEnds 14 = .ok (.sipush (-999), 3) := by decide +kernel
theorem dX4_areEnds_17 : decode cX4_areEnds 17 = .ok (.sipush 999, 3) := by decide +kernel
theorem dX4_areEnds_20 : decode cX4_areEnds 20 = .ok (.invokestatic 41, 3) := by decide +kernel
theorem dX4_areEnds_23 : decode cX4_areEnds 23 = .ok (.ifCond .eq 12, 3) := by decide +kernel
theorem dX4_areEnds_26 : decode cX4_areEnds 26 = .ok (.iload_n 0, 1) := by decide +kernel
theorem dX4_areEnds_27 : decode cX4_areEnds 27 = .ok (.iload_n 1, 1) := by decide +kernel
theorem dX4_areEnds_28 : decode cX4_areEnds 28 = .ok (.if_icmp .ge 7, 3) := by decide +kernel
theorem dX4_areEnds_31 : decode cX4_areEnds 31 = .ok (.iconst 1, 1) := by decide +kernel
theorem dX4_areEnds_32 : decode cX4_areEnds 32 = .ok (.goto 4, 3) := by decide +kernel
theorem dX4_areEnds_35 : decode cX4_areEnds 35 = .ok (.iconst 0, 1) := by decide +kernel
theorem dX4_areEnds_36 : decode cX4_areEnds 36 = .ok (.ireturn, 1) := by decide +kernel
theorem dX4_lay_0 : decode cX4_lay 0 = .ok (.aload_n 0, 1) := by decide +kernel
theorem dX4_lay_1 : decode cX4_lay 1 = .ok (.iload_n 1, 1) := by decide +kernel
theorem dX4_lay_2 : decode cX4_lay 2 = .ok (.invokevirtual 160, 3) := by decide +kernel
theorem dX4_lay_5 : decode cX4_lay 5 = .ok (.ifCond .eq 10, 3) := by decide +kernel
theorem dX4_lay_8 : decode cX4_lay 8 = .ok (.iload_n 2, 1) := by decide +kernel
theorem dX4_lay_9 : decode cX4_lay 9 = .ok (.invokestatic 173, 3) := by decide +kernel
theorem dX4_lay_12 : decode cX4_lay 12 = .ok (.ifCond .ne 7, 3) := by decide +kernel
theorem dX4_lay_15 : decode cX4_lay 15 = .ok (.sipush (-10002), 3) := by decide +kernel
theorem dX4_lay_18 : decode cX4_lay 18 = .ok (.ireturn, 1) := by decide +kernel
theorem dX4_lay_19 : decode cX4_lay 19 = .ok (.iload_n 3, 1) := by decide +kernel
theorem dX4_lay_20 : decode cX4_lay 20 = .ok (.iload 4, 2) := by decide +kernel
theorem dX4_lay_22 : decode cX4_lay 22 = .ok (.invokestatic 176, 3) := by decide +kernel
theorem dX4_lay_25 : decode cX4_lay 25 = .ok (.ifCond .ne 7, 3) := by decide +kernel
theorem dX4_lay_28 : decode cX4_lay 28 = .ok (.sipush (-10003), 3) := by decide +kernel
theorem dX4_lay_31 : decode cX4_lay 31 = .ok (.ireturn, 1) := by decide +kernel
theorem dX4_lay_32 : decode cX4_lay 32 = .ok (.aload_n 0, 1) := by decide +kernel
theorem dX4_lay_33 : decode cX4_lay 33 = .ok (.invokevirtual 83, 3) := by decide +kernel
theorem dX4_lay_36 : decode cX4_lay 36 = .ok (.aload_n 0, 1) := by decide +kernel
theorem dX4_lay_37 : decode cX4_lay 37 = .ok (.iload_n 1, 1) := by decide +kernel
theorem dX4_lay_38 : decode cX4_lay 38 = .ok (.iload_n 2, 1) := by decide +kernel
theorem dX4_lay_39 : decode cX4_lay 39 = .ok (.iload_n 3, 1) := by decide +kernel
theorem dX4_lay_40 : decode cX4_lay 40 = .ok (.iload 4, 2) := by decide +kernel
theorem dX4_lay_42 : decode cX4_lay 42 = .ok (.invokevirtual 166, 3) := by decide +kernel
theorem dX4_lay_45 : decode cX4_lay 45 = .ok (.aload_n 0, 1) := by decide +kernel
theorem dX4_lay_46 : decode cX4_lay 46 = .ok (.invokevirtual 170, 3) := by decide +kernel
theorem dX4_lay_49 : decode cX4_lay 49 = .ok (.ireturn, 1) := by decide +kernel
theorem dX4_overBits_0 : decode cX4_overBits 0 = .ok (.iconst 0, 1) := by decide +kernel
theorem dX4_overBits_1 : decode cX4_overBits 1 = .ok (.istore_n 2, 1) := by decide +kernel
theorem dX4_overBits_2 : decode cX4_overBits 2 = .ok (.iconst 0, 1) := by decide +kernel
theorem dX4_overBits_3 : decode cX4_overBits 3 = .ok (.istore_n 3, 1) := by decide +kernel
theorem dX4_overBits_4 : decode cX4_overBits 4 = .ok (.iload_n 3, 1) := by decide +kernel
theorem dX4_overBits_5 : decode cX4_overBits 5 = .ok (.bipush 12, 2) := by decide +kernel
theorem dX4_overBits_7 : decode cX4_overBits 7 = .ok (.if_icmp .ge 28, 3) := by decide +kernel
theorem dX4_overBits_10 : decode cX4_overBits 10 = .ok (.iload_n 2, 1) := by decide +kernel
theorem dX4_overBits_11 : decode cX4_overBits 11 = .ok (.aload_n 0, 1) := by decide +kernel
theorem dX4_overBits_12 : decode cX4_overBits 12 = .ok (.iload_n 1, 1) := by decide +kernel
theorem dX4_overBits_13 : decode cX4_overBits 13 = .ok (.iload_n 3, 1) := by decide +kernel
theorem dX4_overBits_14 : decode cX4_overBits 14 = .ok (.invokevirtual 132, 3) := by decide +kernel
theorem dX4_overBits_17 : decode cX4_overBits 17 = .ok (.ifCond .eq 9, 3) := by decide +kernel
theorem dX4_overBits_20 : decode cX4_overBits 20 = .ok (.iconst 1, 1) := by decide +kernel
theorem dX4_overBits_21 : decode cX4_overBits 21 = .ok (.iload_n 3, 1) := by decide +kernel
theorem dX4_overBits_22 : decode cX4_overBits 22 = .ok (.ishl, 1) := by decide +kernel
theorem dX4_overBits_23 : decode cX4_overBits 23 = .ok (.goto 4, 3) := by decide +kernel
theorem dX4_overBits_26 : decode cX4_overBits 26 = .ok (.iconst 0, 1) := by decide +kernel
theorem dX4_overBits_27 : decode cX4_overBits 27 = .ok (.ior, 1) := by decide +kernel
theorem dX4_overBits_28 : decode cX4_overBits 28 = .ok (.istore_n 2, 1) := by decide +kernel
theorem dX4_overBits_29 : decode cX4_overBits 29 = .ok (.iinc 3 1, 3) := by decide +kernel
theorem dX4_overBits_32 : decode cX4_overBits 32 = .ok (.goto (-28), 3) := by decide +kernel
theorem dX4_overBits_35 : decode cX4_overBits 35 = .ok (.iload_n 2, 1) := by decide +kernel
theorem dX4_overBits_36 : decode cX4_overBits 36 = .ok (.ireturn, 1) := by decide +kernel
theorem dX4_ones_0 : decode cX4_ones 0 = .ok (.iconst 0, 1) := by decide +kernel
theorem dX4_ones_1 : decode cX4_ones 1 = .ok (.istore_n 1, 1) := by decide +kernel
theorem dX4_ones_2 : decode cX4_ones 2 = .ok (.iconst 0, 1) := by decide +kernel
theorem dX4_ones_3 : decode cX4_ones 3 = .ok (.istore_n 2, 1) := by decide +kernel
theorem dX4_ones_4 : decode cX4_ones 4 = .ok (.iload_n 2, 1) := by decide +kernel
theorem dX4_ones_5 : decode cX4_ones 5 = .ok (.bipush 12, 2) := by decide +kernel
theorem dX4_ones_7 : decode cX4_ones 7 = .ok (.if_icmp .ge 17, 3) := by decide +kernel
theorem dX4_ones_10 : decode cX4_ones 10 = .ok (.iload_n 1, 1) := by decide +kernel
theorem dX4_ones_11 : decode cX4_ones 11 = .ok (.iload_n 0, 1) := by decide +kernel
theorem dX4_ones_12 : decode cX4_ones 12 = .ok (.iload_n 2, 1) := by decide +kernel
theorem dX4_ones_13 : decode cX4_ones 13 = .ok (.ishr, 1) := by decide +kernel
theorem dX4_ones_14 : decode cX4_ones 14 = .ok (.iconst 1, 1) := by decide +kernel
theorem dX4_ones_15 : decode cX4_ones 15 = .ok (.iand, 1) := by decide +kernel
theorem dX4_ones_16 : decode cX4_ones 16 = .ok (.iadd, 1) := by decide +kernel
theorem dX4_ones_17 : decode cX4_ones 17 = .ok (.istore_n 1, 1) := by decide +kernel
theorem dX4_ones_18 : decode cX4_ones 18 = .ok (.iinc 2 1, 3) := by decide +kernel
theorem dX4_ones_21 : decode cX4_ones 21 = .ok (.goto (-17), 3) := by decide +kernel
theorem dX4_ones_24 : decode cX4_ones 24 = .ok (.iload_n 1, 1) := by decide +kernel
theorem dX4_ones_25 : decode cX4_ones 25 = .ok (.ireturn, 1) := by decide +kernel
theorem dX4_groupOf_0 : decode cX4_groupOf 0 = .ok (.iconst 1, 1) := by decide +kernel
theorem dX4_groupOf_1 : decode cX4_groupOf 1 = .ok (.iload_n 1, 1) := by decide +kernel
theorem dX4_groupOf_2 : decode cX4_groupOf 2 = .ok (.ishl, 1) := by decide +kernel
theorem dX4_groupOf_3 : decode cX4_groupOf 3 = .ok (.istore_n 2, 1) := by decide +kernel
theorem dX4_groupOf_4 : decode cX4_groupOf 4 = .ok (.iconst 0, 1) := by decide +kernel
theorem dX4_groupOf_5 : decode cX4_groupOf 5 = .ok (.istore_n 3, 1) := by decide +kernel
theorem dX4_groupOf_6 : decode cX4_groupOf 6 = .ok (.iload_n 3, 1) := by decide +kernel
theorem dX4_groupOf_7 : decode cX4_groupOf 7 = .ok (.iload_n 2, 1) := by decide +kernel
theorem dX4_groupOf_8 : decode cX4_groupOf 8 = .ok (.if_icmp .eq 46, 3) := by decide +kernel
theorem dX4_groupOf_11 : decode cX4_groupOf 11 = .ok (.iload_n 2, 1) := by decide +kernel
theorem dX4_groupOf_12 : decode cX4_groupOf 12 = .ok (.istore_n 3, 1) := by decide +kernel
theorem dX4_groupOf_13 : decode cX4_groupOf 13 = .ok (.iconst 0, 1) := by decide +kernel
theorem dX4_groupOf_14 : decode cX4_groupOf 14 = .ok (.istore 4, 2) := by decide +kernel
theorem dX4_groupOf_16 : decode cX4_groupOf 16 = .ok (.iload 4, 2) := by decide +kernel
theorem dX4_groupOf_18 : decode cX4_groupOf 18 = .ok (.bipush 12, 2) := by decide +kernel
theorem dX4_groupOf_20 : decode cX4_groupOf 20 = .ok (.if_icmp .ge 31, 3) := by decide +kernel
theorem dX4_groupOf_23 : decode cX4_groupOf 23 = .ok (.iload_n 2, 1) := by decide +kernel
theorem dX4_groupOf_24 : decode cX4_groupOf 24 = .ok (.iload_n 3, 1) := by decide +kernel
theorem dX4_groupOf_25 : decode cX4_groupOf 25 = .ok (.iload 4, 2) := by decide +kernel
theorem dX4_groupOf_27 : decode cX4_groupOf 27 = .ok (.invokestatic 86, 3) := by decide +kernel
theorem dX4_groupOf_30 : decode cX4_groupOf 30 = .ok (.ifCond .eq 12, 3) := by decide +kernel
theorem dX4_groupOf_33 : decode cX4_groupOf 33 = .ok (.aload_n 0, 1) := by decide +kernel
theorem dX4_groupOf_34 : decode cX4_groupOf 34 = .ok (.iload 4, 2) := by decide +kernel
theorem dX4_groupOf_36 : decode cX4_groupOf 36 = .ok (.invokevirtual 179, 3) := by decide +kernel
theorem dX4_groupOf_39 : decode cX4_groupOf 39 = .ok (.goto 4, 3) := by decide +kernel
theorem dX4_groupOf_42 : decode cX4_groupOf 42 = .ok (.iconst 0, 1) := by decide +kernel
theorem dX4_groupOf_43 : decode cX4_groupOf 43 = .ok (.ior, 1) := by decide +kernel
theorem dX4_groupOf_44 : decode cX4_groupOf 44 = .ok (.istore_n 2, 1) := by decide +kernel
theorem dX4_groupOf_45 : decode cX4_groupOf 45 = .ok (.iinc 4 1, 3) := by decide +kernel
theorem dX4_groupOf_48 : decode cX4_groupOf 48 = .ok (.goto (-32), 3) := by decide +kernel
theorem dX4_groupOf_51 : decode cX4_groupOf 51 = .ok (.goto (-45), 3) := by decide +kernel
theorem dX4_groupOf_54 : decode cX4_groupOf 54 = .ok (.iload_n 2, 1) := by decide +kernel
theorem dX4_groupOf_55 : decode cX4_groupOf 55 = .ok (.ireturn, 1) := by decide +kernel
theorem dX4_least_0 : decode cX4_least 0 = .ok (.iconst 0, 1) := by decide +kernel
theorem dX4_least_1 : decode cX4_least 1 = .ok (.istore_n 1, 1) := by decide +kernel
theorem dX4_least_2 : decode cX4_least 2 = .ok (.iload_n 0, 1) := by decide +kernel
theorem dX4_least_3 : decode cX4_least 3 = .ok (.iload_n 1, 1) := by decide +kernel
theorem dX4_least_4 : decode cX4_least 4 = .ok (.invokestatic 86, 3) := by decide +kernel
theorem dX4_least_7 : decode cX4_least 7 = .ok (.ifCond .ne 9, 3) := by decide +kernel
theorem dX4_least_10 : decode cX4_least 10 = .ok (.iinc 1 1, 3) := by decide +kernel
theorem dX4_least_13 : decode cX4_least 13 = .ok (.goto (-11), 3) := by decide +kernel
theorem dX4_least_16 : decode cX4_least 16 = .ok (.iload_n 1, 1) := by decide +kernel
theorem dX4_least_17 : decode cX4_least 17 = .ok (.ireturn, 1) := by decide +kernel
theorem dX4_boxNow_0 : decode cX4_boxNow 0 = .ok (.iload_n 2, 1) := by decide +kernel
theorem dX4_boxNow_1 : decode cX4_boxNow 1 = .ok (.tableswitch 51 6 8 #[27, 36, 42], 27) := by decide +kernel
theorem dX4_boxNow_28 : decode cX4_boxNow 28 = .ok (.aload_n 0, 1) := by decide +kernel
theorem dX4_boxNow_29 : decode cX4_boxNow 29 = .ok (.iload_n 1, 1) := by decide +kernel
theorem dX4_boxNow_30 : decode cX4_boxNow 30 = .ok (.invokevirtual 179, 3) := by decide +kernel
theorem dX4_boxNow_33 : decode cX4_boxNow 33 = .ok (.invokestatic 183, 3) := by decide +kernel
theorem dX4_boxNow_36 : decode cX4_boxNow 36 = .ok (.ireturn, 1) := by decide +kernel
theorem dX4_boxNow_37 : decode cX4_boxNow 37 = .ok (.aload_n 0, 1) := by decide +kernel
theorem dX4_boxNow_38 : decode cX4_boxNow 38 = .ok (.iload_n 1, 1) := by decide +kernel
theorem dX4_boxNow_39 : decode cX4_boxNow 39 = .ok (.invokevirtual 179, 3) := by decide +kernel
theorem dX4_boxNow_42 : decode cX4_boxNow 42 = .ok (.ireturn, 1) := by decide +kernel
theorem dX4_boxNow_43 : decode cX4_boxNow 43 = .ok (.aload_n 0, 1) := by decide +kernel
theorem dX4_boxNow_44 : decode cX4_boxNow 44 = .ok (.iload_n 1, 1) := by decide +kernel
theorem dX4_boxNow_45 : decode cX4_boxNow 45 = .ok (.invokevirtual 186, 3) := by decide +kernel
theorem dX4_boxNow_48 : decode cX4_boxNow 48 = .ok (.invokestatic 189, 3) := by decide +kernel
theorem dX4_boxNow_51 : decode cX4_boxNow 51 = .ok (.ireturn, 1) := by decide +kernel
theorem dX4_boxNow_52 : decode cX4_boxNow 52 = .ok (.aload_n 0, 1) := by decide +kernel
theorem dX4_boxNow_53 : decode cX4_boxNow 53 = .ok (.getfield 13, 3) := by decide +kernel
theorem dX4_boxNow_56 : decode cX4_boxNow 56 = .ok (.bipush 6, 2) := by decide +kernel
theorem dX4_boxNow_58 : decode cX4_boxNow 58 = .ok (.iload_n 1, 1) := by decide +kernel
theorem dX4_boxNow_59 : decode cX4_boxNow 59 = .ok (.imul, 1) := by decide +kernel
theorem dX4_boxNow_60 : decode cX4_boxNow 60 = .ok (.iload_n 2, 1) := by decide +kernel
theorem dX4_boxNow_61 : decode cX4_boxNow 61 = .ok (.iadd, 1) := by decide +kernel
theorem dX4_boxNow_62 : decode cX4_boxNow 62 = .ok (.iaload, 1) := by decide +kernel
theorem dX4_boxNow_63 : decode cX4_boxNow 63 = .ok (.ireturn, 1) := by decide +kernel
theorem dX4_box_0 : decode cX4_box 0 = .ok (.aload_n 0, 1) := by decide +kernel
theorem dX4_box_1 : decode cX4_box 1 = .ok (.iload_n 1, 1) := by decide +kernel
theorem dX4_box_2 : decode cX4_box 2 = .ok (.invokevirtual 160, 3) := by decide +kernel
theorem dX4_box_5 : decode cX4_box 5 = .ok (.ifCond .ne 7, 3) := by decide +kernel
theorem dX4_box_8 : decode cX4_box 8 = .ok (.sipush (-10002), 3) := by decide +kernel
theorem dX4_box_11 : decode cX4_box 11 = .ok (.ireturn, 1) := by decide +kernel
theorem dX4_box_12 : decode cX4_box 12 = .ok (.iload_n 2, 1) := by decide +kernel
theorem dX4_box_13 : decode cX4_box 13 = .ok (.iconst 0, 1) := by decide +kernel
theorem dX4_box_14 : decode cX4_box 14 = .ok (.bipush 8, 2) := by decide +kernel
theorem dX4_box_16 : decode cX4_box 16 = .ok (.invokestatic 41, 3) := by decide +kernel
theorem dX4_box_19 : decode cX4_box 19 = .ok (.ifCond .eq 12, 3) := by decide +kernel
theorem dX4_box_22 : decode cX4_box 22 = .ok (.aload_n 0, 1) := by decide +kernel
theorem dX4_box_23 : decode cX4_box 23 = .ok (.iload_n 1, 1) := by decide +kernel
theorem dX4_box_24 : decode cX4_box 24 = .ok (.iload_n 2, 1) := by decide +kernel
theorem dX4_box_25 : decode cX4_box 25 = .ok (.invokevirtual 192, 3) := by decide +kernel
theorem dX4_box_28 : decode cX4_box 28 = .ok (.goto 6, 3) := by decide +kernel
theorem dX4_box_31 : decode cX4_box 31 = .ok (.sipush (-10003), 3) := by decide +kernel
theorem dX4_box_34 : decode cX4_box 34 = .ok (.ireturn, 1) := by decide +kernel
theorem dX4_endNow_0 : decode cX4_endNow 0 = .ok (.aload_n 0, 1) := by decide +kernel
theorem dX4_endNow_1 : decode cX4_endNow 1 = .ok (.getfield 16, 3) := by decide +kernel
theorem dX4_endNow_4 : decode cX4_endNow 4 = .ok (.bipush 24, 2) := by decide +kernel
theorem dX4_endNow_6 : decode cX4_endNow 6 = .ok (.iload_n 1, 1) := by decide +kernel
theorem dX4_endNow_7 : decode cX4_endNow 7 = .ok (.imul, 1) := by decide +kernel
theorem dX4_endNow_8 : decode cX4_endNow 8 = .ok (.iload_n 2, 1) := by decide +kernel
theorem dX4_endNow_9 : decode cX4_endNow 9 = .ok (.iadd, 1) := by decide +kernel
theorem dX4_endNow_10 : decode cX4_endNow 10 = .ok (.iaload, 1) := by decide +kernel
theorem dX4_endNow_11 : decode cX4_endNow 11 = .ok (.istore 4, 2) := by decide +kernel
theorem dX4_endNow_13 : decode cX4_endNow 13 = .ok (.iload_n 3, 1) := by decide +kernel
theorem dX4_endNow_14 : decode cX4_endNow 14 = .ok (.ifCond .ne 10, 3) := by decide +kernel
theorem dX4_endNow_17 : decode cX4_endNow 17 = .ok (.iload 4, 2) := by decide +kernel
theorem dX4_endNow_19 : decode cX4_endNow 19 = .ok (.iconst 2, 1) := by decide +kernel
theorem dX4_endNow_20 : decode cX4_endNow 20 = .ok (.idiv, 1) := by decide +kernel
theorem dX4_endNow_21 : decode cX4_endNow 21 = .ok (.goto 22, 3) := by decide +kernel
theorem dX4_endNow_24 : decode cX4_endNow 24 = .ok (.iload_n 3, 1) := by decide +kernel
theorem dX4_endNow_25 : decode cX4_endNow 25 = .ok (.iconst 1, 1) := by decide +kernel
theorem dX4_endNow_26 : decode cX4_endNow 26 = .ok (.if_icmp .ne 10, 3) := by decide +kernel
theorem dX4_endNow_29 : decode cX4_endNow 29 = .ok (.iload 4, 2) := by decide +kernel
theorem dX4_endNow_31 : decode cX4_endNow 31 = .ok (.iconst 2, 1) := by decide +kernel
theorem dX4_endNow_32 : decode cX4_endNow 32 = .ok (.irem, 1) := by decide +kernel
theorem dX4_endNow_33 : decode cX4_endNow 33 = .ok (.goto 10, 3) := by decide +kernel
theorem dX4_endNow_36 : decode cX4_endNow 36 = .ok (.aload_n 0, 1) := by decide +kernel
theorem dX4_endNow_37 : decode cX4_endNow 37 = .ok (.iload 4, 2) := by decide +kernel
theorem dX4_endNow_39 : decode cX4_endNow 39 = .ok (.iload_n 1, 1) := by decide +kernel
theorem dX4_endNow_40 : decode cX4_endNow 40 = .ok (.invokevirtual 97, 3) := by decide +kernel
theorem dX4_endNow_43 : decode cX4_endNow 43 = .ok (.ireturn, 1) := by decide +kernel
theorem dX4_end_0 : decode cX4_end 0 = .ok (.iload_n 1, 1) := by decide +kernel
theorem dX4_end_1 : decode cX4_end 1 = .ok (.invokestatic 173, 3) := by decide +kernel
theorem dX4_end_4 : decode cX4_end 4 = .ok (.ifCond .eq 17, 3) := by decide +kernel
theorem dX4_end_7 : decode cX4_end 7 = .ok (.iload_n 2, 1) := by decide +kernel
theorem dX4_end_8 : decode cX4_end 8 = .ok (.iconst 0, 1) := by decide +kernel
theorem dX4_end_9 : decode cX4_end 9 = .ok (.aload_n 0, 1) := by decide +kernel
theorem dX4_end_10 : decode cX4_end 10 = .ok (.getfield 110, 3) := by decide +kernel
theorem dX4_end_13 : decode cX4_end 13 = .ok (.iconst 1, 1) := by decide +kernel
theorem dX4_end_14 : decode cX4_end 14 = .ok (.isub, 1) := by decide +kernel
theorem dX4_end_15 : decode cX4_end 15 = .ok (.invokestatic 41, 3) := by decide +kernel
theorem dX4_end_18 : decode cX4_end 18 = .ok (.ifCond .ne 7, 3) := by decide +kernel
theorem dX4_end_21 : decode cX4_end 21 = .ok (.sipush (-10002), 3) := by decide +kernel
theorem dX4_end_24 : decode cX4_end 24 = .ok (.ireturn, 1) := by decide +kernel
theorem dX4_end_25 : decode cX4_end 25 = .ok (.iload_n 3, 1) := by decide +kernel
theorem dX4_end_26 : decode cX4_end 26 = .ok (.iconst 0, 1) := by decide +kernel
theorem dX4_end_27 : decode cX4_end 27 = .ok (.iconst 2, 1) := by decide +kernel
theorem dX4_end_28 : decode cX4_end 28 = .ok (.invokestatic 41, 3) := by decide +kernel
theorem dX4_end_31 : decode cX4_end 31 = .ok (.ifCond .eq 13, 3) := by decide +kernel
theorem dX4_end_34 : decode cX4_end 34 = .ok (.aload_n 0, 1) := by decide +kernel
theorem dX4_end_35 : decode cX4_end 35 = .ok (.iload_n 1, 1) := by decide +kernel
theorem dX4_end_36 : decode cX4_end 36 = .ok (.iload_n 2, 1) := by decide +kernel
theorem dX4_end_37 : decode cX4_end 37 = .ok (.iload_n 3, 1) := by decide +kernel
theorem dX4_end_38 : decode cX4_end 38 = .ok (.invokevirtual 195, 3) := by decide +kernel
theorem dX4_end_41 : decode cX4_end 41 = .ok (.goto 6, 3) := by decide +kernel
theorem dX4_end_44 : decode cX4_end 44 = .ok (.sipush (-10003), 3) := by decide +kernel
theorem dX4_end_47 : decode cX4_end 47 = .ok (.ireturn, 1) := by decide +kernel
theorem dX4_meet_0 : decode cX4_meet 0 = .ok (.aload_n 0, 1) := by decide +kernel
theorem dX4_meet_1 : decode cX4_meet 1 = .ok (.iload_n 1, 1) := by decide +kernel
theorem dX4_meet_2 : decode cX4_meet 2 = .ok (.invokevirtual 160, 3) := by decide +kernel
theorem dX4_meet_5 : decode cX4_meet 5 = .ok (.ifCond .eq 33, 3) := by decide +kernel
theorem dX4_meet_8 : decode cX4_meet 8 = .ok (.aload_n 0, 1) := by decide +kernel
theorem dX4_meet_9 : decode cX4_meet 9 = .ok (.iload_n 2, 1) := by decide +kernel
theorem dX4_meet_10 : decode cX4_meet 10 = .ok (.invokevirtual 160, 3) := by decide +kernel
theorem dX4_meet_13 : decode cX4_meet 13 = .ok (.ifCond .eq 25, 3) := by decide +kernel
theorem dX4_meet_16 : decode cX4_meet 16 = .ok (.iload_n 1, 1) := by decide +kernel
theorem dX4_meet_17 : decode cX4_meet 17 = .ok (.iload_n 2, 1) := by decide +kernel
theorem dX4_meet_18 : decode cX4_meet 18 = .ok (.if_icmp .eq 20, 3) := by decide +kernel
theorem dX4_meet_21 : decode cX4_meet 21 = .ok (.aload_n 0, 1) := by decide +kernel
theorem dX4_meet_22 : decode cX4_meet 22 = .ok (.getfield 19, 3) := by decide +kernel
theorem dX4_meet_25 : decode cX4_meet 25 = .ok (.bipush 12, 2) := by decide +kernel
theorem dX4_meet_27 : decode cX4_meet 27 = .ok (.iload_n 1, 1) := by decide +kernel
theorem dX4_meet_28 : decode cX4_meet 28 = .ok (.imul, 1) := by decide +kernel
theorem dX4_meet_29 : decode cX4_meet 29 = .ok (.iload_n 2, 1) := by decide +kernel
theorem dX4_meet_30 : decode cX4_meet 30 = .ok (.iadd, 1) := by decide +kernel
theorem dX4_meet_31 : decode cX4_meet 31 = .ok (.iaload, 1) := by decide +kernel
theorem dX4_meet_32 : decode cX4_meet 32 = .ok (.invokestatic 183, 3) := by decide +kernel
theorem dX4_meet_35 : decode cX4_meet 35 = .ok (.goto 6, 3) := by decide +kernel
theorem dX4_meet_38 : decode cX4_meet 38 = .ok (.sipush (-10002), 3) := by decide +kernel
theorem dX4_meet_41 : decode cX4_meet 41 = .ok (.ireturn, 1) := by decide +kernel
theorem dX4_layPairs_0 : decode cX4_layPairs 0 = .ok (.aload_n 0, 1) := by decide +kernel
theorem dX4_layPairs_1 : decode cX4_layPairs 1 = .ok (.iconst 0, 1) := by decide +kernel
theorem dX4_layPairs_2 : decode cX4_layPairs 2 = .ok (.putfield 199, 3) := by decide +kernel
theorem dX4_layPairs_5 : decode cX4_layPairs 5 = .ok (.iconst 0, 1) := by decide +kernel
theorem dX4_layPairs_6 : decode cX4_layPairs 6 = .ok (.istore_n 1, 1) := by decide +kernel
theorem dX4_layPairs_7 : decode cX4_layPairs 7 = .ok (.iload_n 1, 1) := by decide +kernel
theorem dX4_layPairs_8 : decode cX4_layPairs 8 = .ok (.bipush 12, 2) := by decide +kernel
theorem dX4_layPairs_10 : decode cX4_layPairs 10 = .ok (.if_icmp .ge 59, 3) := by decide +kernel
theorem dX4_layPairs_13 : decode cX4_layPairs 13 = .ok (.iload_n 1, 1) := by decide +kernel
theorem dX4_layPairs_14 : decode cX4_layPairs 14 = .ok (.iconst 1, 1) := by decide +kernel
theorem dX4_layPairs_15 : decode cX4_layPairs 15 = .ok (.iadd, 1) := by decide +kernel
theorem dX4_layPairs_16 : decode cX4_layPairs 16 = .ok (.istore_n 2, 1) := by decide +kernel
theorem dX4_layPairs_17 : decode cX4_layPairs 17 = .ok (.iload_n 2, 1) := by decide +kernel
theorem dX4_layPairs_18 : decode cX4_layPairs 18 = .ok (.bipush 12, 2) := by decide +kernel
theorem dX4_layPairs_20 : decode cX4_layPairs 20 = .ok (.if_icmp .ge 43, 3) := by decide +kernel
theorem dX4_layPairs_23 : decode cX4_layPairs 23 = .ok (.aload_n 0, 1) := by decide +kernel
theorem dX4_layPairs_24 : decode cX4_layPairs 24 = .ok (.iload_n 1, 1) := by decide +kernel
theorem dX4_layPairs_25 : decode cX4_layPairs 25 = .ok (.iload_n 2, 1) := by decide +kernel
theorem dX4_layPairs_26 : decode cX4_layPairs 26 = .ok (.invokevirtual 132, 3) := by decide +kernel
theorem dX4_layPairs_29 : decode cX4_layPairs 29 = .ok (.ifCond .eq 28, 3) := by decide +kernel
theorem dX4_layPairs_32 : decode cX4_layPairs 32 = .ok (.aload_n 0, 1) := by decide +kernel
theorem dX4_layPairs_33 : decode cX4_layPairs 33 = .ok (.getfield 38, 3) := by decide +kernel
theorem dX4_layPairs_36 : decode cX4_layPairs 36 = .ok (.aload_n 0, 1) := by decide +kernel
theorem dX4_layPairs_37 : decode cX4_layPairs 37 = .ok (.getfield 199, 3) := by decide +kernel
theorem dX4_layPairs_40 : decode cX4_layPairs 40 = .ok (.bipush 12, 2) := by decide +kernel
theorem dX4_layPairs_42 : decode cX4_layPairs 42 = .ok (.iload_n 1, 1) := by decide +kernel
theorem dX4_layPairs_43 : decode cX4_layPairs 43 = .ok (.imul, 1) := by decide +kernel
theorem dX4_layPairs_44 : decode cX4_layPairs 44 = .ok (.iload_n 2, 1) := by decide +kernel
theorem dX4_layPairs_45 : decode cX4_layPairs 45 = .ok (.iadd, 1) := by decide +kernel
theorem dX4_layPairs_46 : decode cX4_layPairs 46 = .ok (.iastore, 1) := by decide +kernel
theorem dX4_layPairs_47 : decode cX4_layPairs 47 = .ok (.aload_n 0, 1) := by decide +kernel
theorem dX4_layPairs_48 : decode cX4_layPairs 48 = .ok (.dup, 1) := by decide +kernel
theorem dX4_layPairs_49 : decode cX4_layPairs 49 = .ok (.getfield 199, 3) := by decide +kernel
theorem dX4_layPairs_52 : decode cX4_layPairs 52 = .ok (.iconst 1, 1) := by decide +kernel
theorem dX4_layPairs_53 : decode cX4_layPairs 53 = .ok (.iadd, 1) := by decide +kernel
theorem dX4_layPairs_54 : decode cX4_layPairs 54 = .ok (.putfield 199, 3) := by decide +kernel
theorem dX4_layPairs_57 : decode cX4_layPairs 57 = .ok (.iinc 2 1, 3) := by decide +kernel
theorem dX4_layPairs_60 : decode cX4_layPairs 60 = .ok (.goto (-43), 3) := by decide +kernel
theorem dX4_layPairs_63 : decode cX4_layPairs 63 = .ok (.iinc 1 1, 3) := by decide +kernel
theorem dX4_layPairs_66 : decode cX4_layPairs 66 = .ok (.goto (-59), 3) := by decide +kernel
theorem dX4_layPairs_69 : decode cX4_layPairs 69 = .ok (.return_, 1) := by decide +kernel
end
section
theorem dX4_pair_0 : decode cX4_pair 0 = .ok (.aload_n 0, 1) := by decide +kernel
theorem dX4_pair_1 : decode cX4_pair 1 = .ok (.invokevirtual 202, 3) := by decide +kernel
theorem dX4_pair_4 : decode cX4_pair 4 = .ok (.iload_n 1, 1) := by decide +kernel
theorem dX4_pair_5 : decode cX4_pair 5 = .ok (.iconst 0, 1) := by decide +kernel
theorem dX4_pair_6 : decode cX4_pair 6 = .ok (.aload_n 0, 1) := by decide +kernel
theorem dX4_pair_7 : decode cX4_pair 7 = .ok (.getfield 199, 3) := by decide +kernel
theorem dX4_pair_10 : decode cX4_pair 10 = .ok (.iconst 1, 1) := by decide +kernel
theorem dX4_pair_11 : decode cX4_pair 11 = .ok (.isub, 1) := by decide +kernel
theorem dX4_pair_12 : decode cX4_pair 12 = .ok (.invokestatic 41, 3) := by decide +kernel
theorem dX4_pair_15 : decode cX4_pair 15 = .ok (.ifCond .eq 12, 3) := by decide +kernel
theorem dX4_pair_18 : decode cX4_pair 18 = .ok (.aload_n 0, 1) := by decide +kernel
theorem dX4_pair_19 : decode cX4_pair 19 = .ok (.getfield 38, 3) := by decide +kernel
theorem dX4_pair_22 : decode cX4_pair 22 = .ok (.iload_n 1, 1) := by decide +kernel
theorem dX4_pair_23 : decode cX4_pair 23 = .ok (.iaload, 1) := by decide +kernel
theorem dX4_pair_24 : decode cX4_pair 24 = .ok (.goto 6, 3) := by decide +kernel
theorem dX4_pair_27 : decode cX4_pair 27 = .ok (.sipush (-10002), 3) := by decide +kernel
theorem dX4_pair_30 : decode cX4_pair 30 = .ok (.ireturn, 1) := by decide +kernel
theorem dX4_event_0 : decode cX4_event 0 = .ok (.iload_n 1, 1) := by decide +kernel
theorem dX4_event_1 : decode cX4_event 1 = .ok (.iconst 0, 1) := by decide +kernel
theorem dX4_event_2 : decode cX4_event 2 = .ok (.aload_n 0, 1) := by decide +kernel
theorem dX4_event_3 : decode cX4_event 3 = .ok (.getfield 126, 3) := by decide +kernel
theorem dX4_event_6 : decode cX4_event 6 = .ok (.iconst 1, 1) := by decide +kernel
theorem dX4_event_7 : decode cX4_event 7 = .ok (.isub, 1) := by decide +kernel
theorem dX4_event_8 : decode cX4_event 8 = .ok (.invokestatic 41, 3) := by decide +kernel
theorem dX4_event_11 : decode cX4_event 11 = .ok (.ifCond .ne 7, 3) := by decide +kernel
theorem dX4_event_14 : decode cX4_event 14 = .ok (.sipush (-10002), 3) := by decide +kernel
theorem dX4_event_17 : decode cX4_event 17 = .ok (.ireturn, 1) := by decide +kernel
theorem dX4_event_18 : decode cX4_event 18 = .ok (.iload_n 2, 1) := by decide +kernel
theorem dX4_event_19 : decode cX4_event 19 = .ok (.ifCond .ne 12, 3) := by decide +kernel
theorem dX4_event_22 : decode cX4_event 22 = .ok (.aload_n 0, 1) := by decide +kernel
theorem dX4_event_23 : decode cX4_event 23 = .ok (.getfield 22, 3) := by decide +kernel
theorem dX4_event_26 : decode cX4_event 26 = .ok (.iload_n 1, 1) := by decide +kernel
theorem dX4_event_27 : decode cX4_event 27 = .ok (.iaload, 1) := by decide +kernel
theorem dX4_event_28 : decode cX4_event 28 = .ok (.goto 20, 3) := by decide +kernel
theorem dX4_event_31 : decode cX4_event 31 = .ok (.iload_n 2, 1) := by decide +kernel
theorem dX4_event_32 : decode cX4_event 32 = .ok (.iconst 1, 1) := by decide +kernel
theorem dX4_event_33 : decode cX4_event 33 = .ok (.if_icmp .ne 12, 3) := by decide +kernel
theorem dX4_event_36 : decode cX4_event 36 = .ok (.aload_n 0, 1) := by decide +kernel
theorem dX4_event_37 : decode cX4_event 37 = .ok (.getfield 25, 3) := by decide +kernel
theorem dX4_event_40 : decode cX4_event 40 = .ok (.iload_n 1, 1) := by decide +kernel
theorem dX4_event_41 : decode cX4_event 41 = .ok (.iaload, 1) := by decide +kernel
theorem dX4_event_42 : decode cX4_event 42 = .ok (.goto 6, 3) := by decide +kernel
theorem dX4_event_45 : decode cX4_event 45 = .ok (.sipush (-10003), 3) := by decide +kernel
theorem dX4_event_48 : decode cX4_event 48 = .ok (.ireturn, 1) := by decide +kernel
theorem dX4_latestNow_0 : decode cX4_latestNow 0 = .ok (.iload_n 1, 1) := by decide +kernel
theorem dX4_latestNow_1 : decode cX4_latestNow 1 = .ok (.tableswitch 56 0 3 #[31, 36, 41, 51], 31) := by decide +kernel
theorem dX4_latestNow_32 : decode cX4_latestNow 32 = .ok (.aload_n 0, 1) := by decide +kernel
theorem dX4_latestNow_33 : decode cX4_latestNow 33 = .ok (.getfield 126, 3) := by decide +kernel
theorem dX4_latestNow_36 : decode cX4_latestNow 36 = .ok (.ireturn, 1) := by decide +kernel
theorem dX4_latestNow_37 : decode cX4_latestNow 37 = .ok (.aload_n 0, 1) := by decide +kernel
theorem dX4_latestNow_38 : decode cX4_latestNow 38 = .ok (.getfield 129, 3) := by decide +kernel
theorem dX4_latestNow_41 : decode cX4_latestNow 41 = .ok (.ireturn, 1) := by decide +kernel
theorem dX4_latestNow_42 : decode cX4_latestNow 42 = .ok (.aload_n 0, 1) := by decide +kernel
theorem dX4_latestNow_43 : decode cX4_latestNow 43 = .ok (.getfield 126, 3) := by decide +kernel
theorem dX4_latestNow_46 : decode cX4_latestNow 46 = .ok (.aload_n 0, 1) := by decide +kernel
theorem dX4_latestNow_47 : decode cX4_latestNow 47 = .ok (.getfield 129, 3) := by decide +kernel
theorem dX4_latestNow_50 : decode cX4_latestNow 50 = .ok (.isub, 1) := by decide +kernel
theorem dX4_latestNow_51 : decode cX4_latestNow 51 = .ok (.ireturn, 1) := by decide +kernel
theorem dX4_latestNow_52 : decode cX4_latestNow 52 = .ok (.aload_n 0, 1) := by decide +kernel
theorem dX4_latestNow_53 : decode cX4_latestNow 53 = .ok (.getfield 135, 3) := by decide +kernel
theorem dX4_latestNow_56 : decode cX4_latestNow 56 = .ok (.ireturn, 1) := by decide +kernel
theorem dX4_latestNow_57 : decode cX4_latestNow 57 = .ok (.aload_n 0, 1) := by decide +kernel
theorem dX4_latestNow_58 : decode cX4_latestNow 58 = .ok (.getfield 28, 3) := by decide +kernel
theorem dX4_latestNow_61 : decode cX4_latestNow 61 = .ok (.iload_n 1, 1) := by decide +kernel
theorem dX4_latestNow_62 : decode cX4_latestNow 62 = .ok (.iconst 4, 1) := by decide +kernel
theorem dX4_latestNow_63 : decode cX4_latestNow 63 = .ok (.isub, 1) := by decide +kernel
theorem dX4_latestNow_64 : decode cX4_latestNow 64 = .ok (.iaload, 1) := by decide +kernel
theorem dX4_latestNow_65 : decode cX4_latestNow 65 = .ok (.ireturn, 1) := by decide +kernel
theorem dX4_latest_0 : decode cX4_latest 0 = .ok (.iload_n 1, 1) := by decide +kernel
theorem dX4_latest_1 : decode cX4_latest 1 = .ok (.iconst 0, 1) := by decide +kernel
theorem dX4_latest_2 : decode cX4_latest 2 = .ok (.bipush 6, 2) := by decide +kernel
theorem dX4_latest_4 : decode cX4_latest 4 = .ok (.invokestatic 41, 3) := by decide +kernel
theorem dX4_latest_7 : decode cX4_latest 7 = .ok (.ifCond .eq 11, 3) := by decide +kernel
theorem dX4_latest_10 : decode cX4_latest 10 = .ok (.aload_n 0, 1) := by decide +kernel
theorem dX4_latest_11 : decode cX4_latest 11 = .ok (.iload_n 1, 1) := by decide +kernel
theorem dX4_latest_12 : decode cX4_latest 12 = .ok (.invokevirtual 205, 3) := by decide +kernel
theorem dX4_latest_15 : decode cX4_latest 15 = .ok (.goto 6, 3) := by decide +kernel
theorem dX4_latest_18 : decode cX4_latest 18 = .ok (.sipush (-10003), 3) := by decide +kernel
theorem dX4_latest_21 : decode cX4_latest 21 = .ok (.ireturn, 1) := by decide +kernel
theorem dX4_letBy_0 : decode cX4_letBy 0 = .ok (.bipush 7, 2) := by decide +kernel
theorem dX4_letBy_2 : decode cX4_letBy 2 = .ok (.iconst 1, 1) := by decide +kernel
theorem dX4_letBy_3 : decode cX4_letBy 3 = .ok (.iload_n 3, 1) := by decide +kernel
theorem dX4_letBy_4 : decode cX4_letBy 4 = .ok (.ishl, 1) := by decide +kernel
theorem dX4_letBy_5 : decode cX4_letBy 5 = .ok (.iconst (-1), 1) := by decide +kernel
theorem dX4_letBy_6 : decode cX4_letBy 6 = .ok (.ixor, 1) := by decide +kernel
theorem dX4_letBy_7 : decode cX4_letBy 7 = .ok (.iand, 1) := by decide +kernel
theorem dX4_letBy_8 : decode cX4_letBy 8 = .ok (.istore 5, 2) := by decide +kernel
theorem dX4_letBy_10 : decode cX4_letBy 10 = .ok (.aload_n 0, 1) := by decide +kernel
theorem dX4_letBy_11 : decode cX4_letBy 11 = .ok (.getfield 19, 3) := by decide +kernel
theorem dX4_letBy_14 : decode cX4_letBy 14 = .ok (.bipush 12, 2) := by decide +kernel
theorem dX4_letBy_16 : decode cX4_letBy 16 = .ok (.iload_n 1, 1) := by decide +kernel
theorem dX4_letBy_17 : decode cX4_letBy 17 = .ok (.imul, 1) := by decide +kernel
theorem dX4_letBy_18 : decode cX4_letBy 18 = .ok (.iload_n 2, 1) := by decide +kernel
theorem dX4_letBy_19 : decode cX4_letBy 19 = .ok (.iadd, 1) := by decide +kernel
theorem dX4_letBy_20 : decode cX4_letBy 20 = .ok (.iaload, 1) := by decide +kernel
theorem dX4_letBy_21 : decode cX4_letBy 21 = .ok (.iload 5, 2) := by decide +kernel
theorem dX4_letBy_23 : decode cX4_letBy 23 = .ok (.iand, 1) := by decide +kernel
theorem dX4_letBy_24 : decode cX4_letBy 24 = .ok (.iload 5, 2) := by decide +kernel
theorem dX4_letBy_26 : decode cX4_letBy 26 = .ok (.if_icmp .eq 7, 3) := by decide +kernel
theorem dX4_letBy_29 : decode cX4_letBy 29 = .ok (.sipush (-10001), 3) := by decide +kernel
theorem dX4_letBy_32 : decode cX4_letBy 32 = .ok (.ireturn, 1) := by decide +kernel
theorem dX4_letBy_33 : decode cX4_letBy 33 = .ok (.aload_n 0, 1) := by decide +kernel
theorem dX4_letBy_34 : decode cX4_letBy 34 = .ok (.getfield 101, 3) := by decide +kernel
theorem dX4_letBy_37 : decode cX4_letBy 37 = .ok (.ifCond .eq 7, 3) := by decide +kernel
theorem dX4_letBy_40 : decode cX4_letBy 40 = .ok (.iconst 1, 1) := by decide +kernel
theorem dX4_letBy_41 : decode cX4_letBy 41 = .ok (.goto 4, 3) := by decide +kernel
theorem dX4_letBy_44 : decode cX4_letBy 44 = .ok (.iconst 0, 1) := by decide +kernel
theorem dX4_letBy_45 : decode cX4_letBy 45 = .ok (.istore 6, 2) := by decide +kernel
theorem dX4_letBy_47 : decode cX4_letBy 47 = .ok (.aload_n 0, 1) := by decide +kernel
theorem dX4_letBy_48 : decode cX4_letBy 48 = .ok (.getfield 19, 3) := by decide +kernel
theorem dX4_letBy_51 : decode cX4_letBy 51 = .ok (.bipush 12, 2) := by decide +kernel
theorem dX4_letBy_53 : decode cX4_letBy 53 = .ok (.iload_n 1, 1) := by decide +kernel
theorem dX4_letBy_54 : decode cX4_letBy 54 = .ok (.imul, 1) := by decide +kernel
theorem dX4_letBy_55 : decode cX4_letBy 55 = .ok (.iload_n 2, 1) := by decide +kernel
theorem dX4_letBy_56 : decode cX4_letBy 56 = .ok (.iadd, 1) := by decide +kernel
theorem dX4_letBy_57 : decode cX4_letBy 57 = .ok (.iaload, 1) := by decide +kernel
theorem dX4_letBy_58 : decode cX4_letBy 58 = .ok (.iload_n 3, 1) := by decide +kernel
theorem dX4_letBy_59 : decode cX4_letBy 59 = .ok (.invokestatic 86, 3) := by decide +kernel
theorem dX4_letBy_62 : decode cX4_letBy 62 = .ok (.ifCond .eq 45, 3) := by decide +kernel
theorem dX4_letBy_65 : decode cX4_letBy 65 = .ok (.iload 4, 2) := by decide +kernel
theorem dX4_letBy_67 : decode cX4_letBy 67 = .ok (.iconst 1, 1) := by decide +kernel
theorem dX4_letBy_68 : decode cX4_letBy 68 = .ok (.if_icmp .ne 22, 3) := by decide +kernel
theorem dX4_letBy_71 : decode cX4_letBy 71 = .ok (.aload_n 0, 1) := by decide +kernel
theorem dX4_letBy_72 : decode cX4_letBy 72 = .ok (.iload_n 2, 1) := by decide +kernel
theorem dX4_letBy_73 : decode cX4_letBy 73 = .ok (.iload_n 3, 1) := by decide +kernel
theorem dX4_letBy_74 : decode cX4_letBy 74 = .ok (.invokevirtual 107, 3) := by decide +kernel
theorem dX4_letBy_77 : decode cX4_letBy 77 = .ok (.aload_n 0, 1) := by decide +kernel
theorem dX4_letBy_78 : decode cX4_letBy 78 = .ok (.iload_n 1, 1) := by decide +kernel
theorem dX4_letBy_79 : decode cX4_letBy 79 = .ok (.iload_n 3, 1) := by decide +kernel
theorem dX4_letBy_80 : decode cX4_letBy 80 = .ok (.invokevirtual 104, 3) := by decide +kernel
theorem dX4_letBy_83 : decode cX4_letBy 83 = .ok (.isub, 1) := by decide +kernel
theorem dX4_letBy_84 : decode cX4_letBy 84 = .ok (.iload 6, 2) := by decide +kernel
theorem dX4_letBy_86 : decode cX4_letBy 86 = .ok (.iadd, 1) := by decide +kernel
theorem dX4_letBy_87 : decode cX4_letBy 87 = .ok (.goto 19, 3) := by decide +kernel
theorem dX4_letBy_90 : decode cX4_letBy 90 = .ok (.aload_n 0, 1) := by decide +kernel
theorem dX4_letBy_91 : decode cX4_letBy 91 = .ok (.iload_n 1, 1) := by decide +kernel
theorem dX4_letBy_92 : decode cX4_letBy 92 = .ok (.iload_n 3, 1) := by decide +kernel
theorem dX4_letBy_93 : decode cX4_letBy 93 = .ok (.invokevirtual 107, 3) := by decide +kernel
theorem dX4_letBy_96 : decode cX4_letBy 96 = .ok (.aload_n 0, 1) := by decide +kernel
theorem dX4_letBy_97 : decode cX4_letBy 97 = .ok (.iload_n 2, 1) := by decide +kernel
theorem dX4_letBy_98 : decode cX4_letBy 98 = .ok (.iload_n 3, 1) := by decide +kernel
theorem dX4_letBy_99 : decode cX4_letBy 99 = .ok (.invokevirtual 104, 3) := by decide +kernel
theorem dX4_letBy_102 : decode cX4_letBy 102 = .ok (.isub, 1) := by decide +kernel
theorem dX4_letBy_103 : decode cX4_letBy 103 = .ok (.iload 6, 2) := by decide +kernel
theorem dX4_letBy_105 : decode cX4_letBy 105 = .ok (.iadd, 1) := by decide +kernel
theorem dX4_letBy_106 : decode cX4_letBy 106 = .ok (.ireturn, 1) := by decide +kernel
theorem dX4_letBy_107 : decode cX4_letBy 107 = .ok (.iload 4, 2) := by decide +kernel
theorem dX4_letBy_109 : decode cX4_letBy 109 = .ok (.iconst 1, 1) := by decide +kernel
theorem dX4_letBy_110 : decode cX4_letBy 110 = .ok (.if_icmp .ne 19, 3) := by decide +kernel
theorem dX4_letBy_113 : decode cX4_letBy 113 = .ok (.aload_n 0, 1) := by decide +kernel
theorem dX4_letBy_114 : decode cX4_letBy 114 = .ok (.iload_n 2, 1) := by decide +kernel
theorem dX4_letBy_115 : decode cX4_letBy 115 = .ok (.iload_n 3, 1) := by decide +kernel
theorem dX4_letBy_116 : decode cX4_letBy 116 = .ok (.invokevirtual 104, 3) := by decide +kernel
theorem dX4_letBy_119 : decode cX4_letBy 119 = .ok (.aload_n 0, 1) := by decide +kernel
theorem dX4_letBy_120 : decode cX4_letBy 120 = .ok (.iload_n 1, 1) := by decide +kernel
theorem dX4_letBy_121 : decode cX4_letBy 121 = .ok (.iload_n 3, 1) := by decide +kernel
theorem dX4_letBy_122 : decode cX4_letBy 122 = .ok (.invokevirtual 107, 3) := by decide +kernel
theorem dX4_letBy_125 : decode cX4_letBy 125 = .ok (.isub, 1) := by decide +kernel
theorem dX4_letBy_126 : decode cX4_letBy 126 = .ok (.goto 16, 3) := by decide +kernel
theorem dX4_letBy_129 : decode cX4_letBy 129 = .ok (.aload_n 0, 1) := by decide +kernel
theorem dX4_letBy_130 : decode cX4_letBy 130 = .ok (.iload_n 1, 1) := by decide +kernel
theorem dX4_letBy_131 : decode cX4_letBy 131 = .ok (.iload_n 3, 1) := by decide +kernel
theorem dX4_letBy_132 : decode cX4_letBy 132 = .ok (.invokevirtual 104, 3) := by decide +kernel
theorem dX4_letBy_135 : decode cX4_letBy 135 = .ok (.aload_n 0, 1) := by decide +kernel
theorem dX4_letBy_136 : decode cX4_letBy 136 = .ok (.iload_n 2, 1) := by decide +kernel
theorem dX4_letBy_137 : decode cX4_letBy 137 = .ok (.iload_n 3, 1) := by decide +kernel
theorem dX4_letBy_138 : decode cX4_letBy 138 = .ok (.invokevirtual 107, 3) := by decide +kernel
theorem dX4_letBy_141 : decode cX4_letBy 141 = .ok (.isub, 1) := by decide +kernel
theorem dX4_letBy_142 : decode cX4_letBy 142 = .ok (.istore 7, 2) := by decide +kernel
theorem dX4_letBy_144 : decode cX4_letBy 144 = .ok (.iload 7, 2) := by decide +kernel
theorem dX4_letBy_146 : decode cX4_letBy 146 = .ok (.ifCond .ge 9, 3) := by decide +kernel
theorem dX4_letBy_149 : decode cX4_letBy 149 = .ok (.sipush (-10001), 3) := by decide +kernel
theorem dX4_letBy_152 : decode cX4_letBy 152 = .ok (.goto 10, 3) := by decide +kernel
theorem dX4_letBy_155 : decode cX4_letBy 155 = .ok (.iload 7, 2) := by decide +kernel
theorem dX4_letBy_157 : decode cX4_letBy 157 = .ok (.iconst 1, 1) := by decide +kernel
theorem dX4_letBy_158 : decode cX4_letBy 158 = .ok (.iadd, 1) := by decide +kernel
theorem dX4_letBy_159 : decode cX4_letBy 159 = .ok (.iload 6, 2) := by decide +kernel
theorem dX4_letBy_161 : decode cX4_letBy 161 = .ok (.isub, 1) := by decide +kernel
theorem dX4_letBy_162 : decode cX4_letBy 162 = .ok (.ireturn, 1) := by decide +kernel
theorem dX4_letNow_0 : decode cX4_letNow 0 = .ok (.iload_n 3, 1) := by decide +kernel
theorem dX4_letNow_1 : decode cX4_letNow 1 = .ok (.iconst 1, 1) := by decide +kernel
theorem dX4_letNow_2 : decode cX4_letNow 2 = .ok (.if_icmp .ne 16, 3) := by decide +kernel
theorem dX4_letNow_5 : decode cX4_letNow 5 = .ok (.sipush 999, 3) := by decide +kernel
theorem dX4_letNow_8 : decode cX4_letNow 8 = .ok (.aload_n 0, 1) := by decide +kernel
theorem dX4_letNow_9 : decode cX4_letNow 9 = .ok (.iload_n 1, 1) := by decide +kernel
theorem dX4_letNow_10 : decode cX4_letNow 10 = .ok (.iload_n 2, 1) := by decide +kernel
theorem dX4_letNow_11 : decode cX4_letNow 11 = .ok (.invokevirtual 107, 3) := by decide +kernel
theorem dX4_letNow_14 : decode cX4_letNow 14 = .ok (.isub, 1) := by decide +kernel
theorem dX4_letNow_15 : decode cX4_letNow 15 = .ok (.goto 13, 3) := by decide +kernel
theorem dX4_letNow_18 : decode cX4_letNow 18 = .ok (.aload_n 0, 1) := by decide +kernel
theorem dX4_letNow_19 : decode cX4_letNow 19 = .ok (.iload_n 1, 1) := by decide +kernel
theorem dX4_letNow_20 : decode cX4_letNow 20 = .ok (.iload_n 2, 1) := by decide +kernel
theorem dX4_letNow_21 : decode cX4_letNow 21 = .ok (.invokevirtual 104, 3) := by decide +kernel
theorem dX4_letNow_24 : decode cX4_letNow 24 = .ok (.sipush 999, 3) := by decide +kernel
theorem dX4_letNow_27 : decode cX4_letNow 27 = .ok (.iadd, 1) := by decide +kernel
theorem dX4_letNow_28 : decode cX4_letNow 28 = .ok (.istore 4, 2) := by decide +kernel
theorem dX4_letNow_30 : decode cX4_letNow 30 = .ok (.sipush (-10001), 3) := by decide +kernel
theorem dX4_letNow_33 : decode cX4_letNow 33 = .ok (.istore 5, 2) := by decide +kernel
theorem dX4_letNow_35 : decode cX4_letNow 35 = .ok (.iconst 0, 1) := by decide +kernel
theorem dX4_letNow_36 : decode cX4_letNow 36 = .ok (.istore 6, 2) := by decide +kernel
theorem dX4_letNow_38 : decode cX4_letNow 38 = .ok (.iload 6, 2) := by decide +kernel
theorem dX4_letNow_40 : decode cX4_letNow 40 = .ok (.bipush 12, 2) := by decide +kernel
theorem dX4_letNow_42 : decode cX4_letNow 42 = .ok (.if_icmp .ge 83, 3) := by decide +kernel
theorem dX4_letNow_45 : decode cX4_letNow 45 = .ok (.iload 6, 2) := by decide +kernel
theorem dX4_letNow_47 : decode cX4_letNow 47 = .ok (.iload_n 1, 1) := by decide +kernel
theorem dX4_letNow_48 : decode cX4_letNow 48 = .ok (.if_icmp .eq 27, 3) := by decide +kernel
theorem dX4_letNow_51 : decode cX4_letNow 51 = .ok (.aload_n 0, 1) := by decide +kernel
theorem dX4_letNow_52 : decode cX4_letNow 52 = .ok (.getfield 73, 3) := by decide +kernel
theorem dX4_letNow_55 : decode cX4_letNow 55 = .ok (.iload 6, 2) := by decide +kernel
theorem dX4_letNow_57 : decode cX4_letNow 57 = .ok (.invokestatic 86, 3) := by decide +kernel
theorem dX4_letNow_60 : decode cX4_letNow 60 = .ok (.ifCond .eq 15, 3) := by decide +kernel
theorem dX4_letNow_63 : decode cX4_letNow 63 = .ok (.aload_n 0, 1) := by decide +kernel
theorem dX4_letNow_64 : decode cX4_letNow 64 = .ok (.iload_n 1, 1) := by decide +kernel
theorem dX4_letNow_65 : decode cX4_letNow 65 = .ok (.iload 6, 2) := by decide +kernel
theorem dX4_letNow_67 : decode cX4_letNow 67 = .ok (.iload_n 2, 1) := by decide +kernel
theorem dX4_letNow_68 : decode cX4_letNow 68 = .ok (.iload_n 3, 1) := by decide +kernel
theorem dX4_letNow_69 : decode cX4_letNow 69 = .ok (.invokevirtual 208, 3) := by decide +kernel
theorem dX4_letNow_72 : decode cX4_letNow 72 = .ok (.goto 6, 3) := by decide +kernel
theorem dX4_letNow_75 : decode cX4_letNow 75 = .ok (.sipush (-10001), 3) := by decide +kernel
theorem dX4_letNow_78 : decode cX4_letNow 78 = .ok (.istore 7, 2) := by decide +kernel
theorem dX4_letNow_80 : decode cX4_letNow 80 = .ok (.iload 7, 2) := by decide +kernel
theorem dX4_letNow_82 : decode cX4_letNow 82 = .ok (.sipush (-10001), 3) := by decide +kernel
theorem dX4_letNow_85 : decode cX4_letNow 85 = .ok (.if_icmp .eq 30, 3) := by decide +kernel
theorem dX4_letNow_88 : decode cX4_letNow 88 = .ok (.iload 7, 2) := by decide +kernel
theorem dX4_letNow_90 : decode cX4_letNow 90 = .ok (.iload 4, 2) := by decide +kernel
theorem dX4_letNow_92 : decode cX4_letNow 92 = .ok (.if_icmp .gt 23, 3) := by decide +kernel
theorem dX4_letNow_95 : decode cX4_letNow 95 = .ok (.iload 5, 2) := by decide +kernel
theorem dX4_letNow_97 : decode cX4_letNow 97 = .ok (.sipush (-10001), 3) := by decide +kernel
theorem dX4_letNow_100 : decode cX4_letNow 100 = .ok (.if_icmp .eq 10, 3) := by decide +kernel
theorem dX4_letNow_103 : decode cX4_letNow 103 = .ok (.iload 7, 2) := by decide +kernel
theorem dX4_letNow_105 : decode cX4_letNow 105 = .ok (.iload 5, 2) := by decide +kernel
theorem dX4_letNow_107 : decode cX4_letNow 107 = .ok (.if_icmp .ge 8, 3) := by decide +kernel
theorem dX4_letNow_110 : decode cX4_letNow 110 = .ok (.iload 7, 2) := by decide +kernel
theorem dX4_letNow_112 : decode cX4_letNow 112 = .ok (.goto 5, 3) := by decide +kernel
theorem dX4_letNow_115 : decode cX4_letNow 115 = .ok (.iload 5, 2) := by decide +kernel
theorem dX4_letNow_117 : decode cX4_letNow 117 = .ok (.istore 5, 2) := by decide +kernel
theorem dX4_letNow_119 : decode cX4_letNow 119 = .ok (.iinc 6 1, 3) := by decide +kernel
theorem dX4_letNow_122 : decode cX4_letNow 122 = .ok (.goto (-84), 3) := by decide +kernel
theorem dX4_letNow_125 : decode cX4_letNow 125 = .ok (.iload 5, 2) := by decide +kernel
theorem dX4_letNow_127 : decode cX4_letNow 127 = .ok (.ireturn, 1) := by decide +kernel
theorem dX4_let_0 : decode cX4_let 0 = .ok (.aload_n 0, 1) := by decide +kernel
theorem dX4_let_1 : decode cX4_let 1 = .ok (.iload_n 1, 1) := by decide +kernel
theorem dX4_let_2 : decode cX4_let 2 = .ok (.invokevirtual 160, 3) := by decide +kernel
theorem dX4_let_5 : decode cX4_let 5 = .ok (.ifCond .eq 10, 3) := by decide +kernel
theorem dX4_let_8 : decode cX4_let 8 = .ok (.iload_n 2, 1) := by decide +kernel
theorem dX4_let_9 : decode cX4_let 9 = .ok (.invokestatic 173, 3) := by decide +kernel
theorem dX4_let_12 : decode cX4_let 12 = .ok (.ifCond .ne 7, 3) := by decide +kernel
theorem dX4_let_15 : decode cX4_let 15 = .ok (.sipush (-10002), 3) := by decide +kernel
theorem dX4_let_18 : decode cX4_let 18 = .ok (.ireturn, 1) := by decide +kernel
theorem dX4_let_19 : decode cX4_let 19 = .ok (.iload_n 3, 1) := by decide +kernel
theorem dX4_let_20 : decode cX4_let 20 = .ok (.iconst 1, 1) := by decide +kernel
theorem dX4_let_21 : decode cX4_let 21 = .ok (.if_icmp .eq 8, 3) := by decide +kernel
theorem dX4_let_24 : decode cX4_let 24 = .ok (.iload_n 3, 1) := by decide +kernel
theorem dX4_let_25 : decode cX4_let 25 = .ok (.iconst (-1), 1) := by decide +kernel
theorem dX4_let_26 : decode cX4_let 26 = .ok (.if_icmp .ne 13, 3) := by decide +kernel
theorem dX4_let_29 : decode cX4_let 29 = .ok (.aload_n 0, 1) := by decide +kernel
theorem dX4_let_30 : decode cX4_let 30 = .ok (.iload_n 1, 1) := by decide +kernel
theorem dX4_let_31 : decode cX4_let 31 = .ok (.iload_n 2, 1) := by decide +kernel
theorem dX4_let_32 : decode cX4_let 32 = .ok (.iload_n 3, 1) := by decide +kernel
theorem dX4_let_33 : decode cX4_let 33 = .ok (.invokevirtual 212, 3) := by decide +kernel
theorem dX4_let_36 : decode cX4_let 36 = .ok (.goto 6, 3) := by decide +kernel
theorem dX4_let_39 : decode cX4_let 39 = .ok (.sipush (-10003), 3) := by decide +kernel
theorem dX4_let_42 : decode cX4_let 42 = .ok (.ireturn, 1) := by decide +kernel
theorem dX4_isHeap_0 : decode cX4_isHeap 0 = .ok (.iload_n 1, 1) := by decide +kernel
theorem dX4_isHeap_1 : decode cX4_isHeap 1 = .ok (.aload_n 0, 1) := by decide +kernel
theorem dX4_isHeap_2 : decode cX4_isHeap 2 = .ok (.getfield 73, 3) := by decide +kernel
theorem dX4_isHeap_5 : decode cX4_isHeap 5 = .ok (.iconst (-1), 1) := by decide +kernel
theorem dX4_isHeap_6 : decode cX4_isHeap 6 = .ok (.ixor, 1) := by decide +kernel
theorem dX4_isHeap_7 : decode cX4_isHeap 7 = .ok (.iand, 1) := by decide +kernel
theorem dX4_isHeap_8 : decode cX4_isHeap 8 = .ok (.ifCond .ne 7, 3) := by decide +kernel
theorem dX4_isHeap_11 : decode cX4_isHeap 11 = .ok (.iconst 1, 1) := by decide +kernel
theorem dX4_isHeap_12 : decode cX4_isHeap 12 = .ok (.goto 4, 3) := by decide +kernel
theorem dX4_isHeap_15 : decode cX4_isHeap 15 = .ok (.iconst 0, 1) := by decide +kernel
theorem dX4_isHeap_16 : decode cX4_isHeap 16 = .ok (.istore_n 2, 1) := by decide +kernel
theorem dX4_isHeap_17 : decode cX4_isHeap 17 = .ok (.iconst 0, 1) := by decide +kernel
theorem dX4_isHeap_18 : decode cX4_isHeap 18 = .ok (.istore_n 3, 1) := by decide +kernel
theorem dX4_isHeap_19 : decode cX4_isHeap 19 = .ok (.iload_n 3, 1) := by decide +kernel
theorem dX4_isHeap_20 : decode cX4_isHeap 20 = .ok (.bipush 12, 2) := by decide +kernel
theorem dX4_isHeap_22 : decode cX4_isHeap 22 = .ok (.if_icmp .ge 45, 3) := by decide +kernel
theorem dX4_isHeap_25 : decode cX4_isHeap 25 = .ok (.iload_n 2, 1) := by decide +kernel
theorem dX4_isHeap_26 : decode cX4_isHeap 26 = .ok (.ifCond .eq 41, 3) := by decide +kernel
theorem dX4_isHeap_29 : decode cX4_isHeap 29 = .ok (.iload_n 1, 1) := by decide +kernel
theorem dX4_isHeap_30 : decode cX4_isHeap 30 = .ok (.iload_n 3, 1) := by decide +kernel
theorem dX4_isHeap_31 : decode cX4_isHeap 31 = .ok (.invokestatic 86, 3) := by decide +kernel
theorem dX4_isHeap_34 : decode cX4_isHeap 34 = .ok (.ifCond .eq 21, 3) := by decide +kernel
theorem dX4_isHeap_37 : decode cX4_isHeap 37 = .ok (.iload_n 1, 1) := by decide +kernel
theorem dX4_isHeap_38 : decode cX4_isHeap 38 = .ok (.iconst 1, 1) := by decide +kernel
theorem dX4_isHeap_39 : decode cX4_isHeap 39 = .ok (.iload_n 3, 1) := by decide +kernel
theorem dX4_isHeap_40 : decode cX4_isHeap 40 = .ok (.ishl, 1) := by decide +kernel
theorem dX4_isHeap_41 : decode cX4_isHeap 41 = .ok (.iconst (-1), 1) := by decide +kernel
theorem dX4_isHeap_42 : decode cX4_isHeap 42 = .ok (.ixor, 1) := by decide +kernel
theorem dX4_isHeap_43 : decode cX4_isHeap 43 = .ok (.iand, 1) := by decide +kernel
theorem dX4_isHeap_44 : decode cX4_isHeap 44 = .ok (.aload_n 0, 1) := by decide +kernel
theorem dX4_isHeap_45 : decode cX4_isHeap 45 = .ok (.iload_n 3, 1) := by decide +kernel
theorem dX4_isHeap_46 : decode cX4_isHeap 46 = .ok (.invokevirtual 179, 3) := by decide +kernel
theorem dX4_isHeap_49 : decode cX4_isHeap 49 = .ok (.iconst (-1), 1) := by decide +kernel
theorem dX4_isHeap_50 : decode cX4_isHeap 50 = .ok (.ixor, 1) := by decide +kernel
theorem dX4_isHeap_51 : decode cX4_isHeap 51 = .ok (.iand, 1) := by decide +kernel
theorem dX4_isHeap_52 : decode cX4_isHeap 52 = .ok (.ifCond .ne 7, 3) := by decide +kernel
theorem dX4_isHeap_55 : decode cX4_isHeap 55 = .ok (.iconst 1, 1) := by decide +kernel
theorem dX4_isHeap_56 : decode cX4_isHeap 56 = .ok (.goto 4, 3) := by decide +kernel
theorem dX4_isHeap_59 : decode cX4_isHeap 59 = .ok (.iconst 0, 1) := by decide +kernel
theorem dX4_isHeap_60 : decode cX4_isHeap 60 = .ok (.istore_n 2, 1) := by decide +kernel
theorem dX4_isHeap_61 : decode cX4_isHeap 61 = .ok (.iinc 3 1, 3) := by decide +kernel
theorem dX4_isHeap_64 : decode cX4_isHeap 64 = .ok (.goto (-45), 3) := by decide +kernel
theorem dX4_isHeap_67 : decode cX4_isHeap 67 = .ok (.iload_n 2, 1) := by decide +kernel
theorem dX4_isHeap_68 : decode cX4_isHeap 68 = .ok (.ireturn, 1) := by decide +kernel
theorem dX4_deepest_0 : decode cX4_deepest 0 = .ok (.iconst 0, 1) := by decide +kernel
theorem dX4_deepest_1 : decode cX4_deepest 1 = .ok (.istore_n 1, 1) := by decide +kernel
theorem dX4_deepest_2 : decode cX4_deepest 2 = .ok (.iconst 1, 1) := by decide +kernel
theorem dX4_deepest_3 : decode cX4_deepest 3 = .ok (.istore_n 2, 1) := by decide +kernel
theorem dX4_deepest_4 : decode cX4_deepest 4 = .ok (.iload_n 2, 1) := by decide +kernel
theorem dX4_deepest_5 : decode cX4_deepest 5 = .ok (.sipush 4096, 3) := by decide +kernel
theorem dX4_deepest_8 : decode cX4_deepest 8 = .ok (.if_icmp .ge 34, 3) := by decide +kernel
theorem dX4_deepest_11 : decode cX4_deepest 11 = .ok (.iload_n 2, 1) := by decide +kernel
theorem dX4_deepest_12 : decode cX4_deepest 12 = .ok (.invokestatic 183, 3) := by decide +kernel
theorem dX4_deepest_15 : decode cX4_deepest 15 = .ok (.iload_n 1, 1) := by decide +kernel
theorem dX4_deepest_16 : decode cX4_deepest 16 = .ok (.invokestatic 183, 3) := by decide +kernel
theorem dX4_deepest_19 : decode cX4_deepest 19 = .ok (.if_icmp .le 15, 3) := by decide +kernel
theorem dX4_deepest_22 : decode cX4_deepest 22 = .ok (.aload_n 0, 1) := by decide +kernel
theorem dX4_deepest_23 : decode cX4_deepest 23 = .ok (.iload_n 2, 1) := by decide +kernel
theorem dX4_deepest_24 : decode cX4_deepest 24 = .ok (.invokevirtual 215, 3) := by decide +kernel
theorem dX4_deepest_27 : decode cX4_deepest 27 = .ok (.ifCond .eq 7, 3) := by decide +kernel
theorem dX4_deepest_30 : decode cX4_deepest 30 = .ok (.iload_n 2, 1) := by decide +kernel
theorem dX4_deepest_31 : decode cX4_deepest 31 = .ok (.goto 4, 3) := by decide +kernel
theorem dX4_deepest_34 : decode cX4_deepest 34 = .ok (.iload_n 1, 1) := by decide +kernel
theorem dX4_deepest_35 : decode cX4_deepest 35 = .ok (.istore_n 1, 1) := by decide +kernel
theorem dX4_deepest_36 : decode cX4_deepest 36 = .ok (.iinc 2 1, 3) := by decide +kernel
theorem dX4_deepest_39 : decode cX4_deepest 39 = .ok (.goto (-35), 3) := by decide +kernel
theorem dX4_deepest_42 : decode cX4_deepest 42 = .ok (.iload_n 1, 1) := by decide +kernel
theorem dX4_deepest_43 : decode cX4_deepest 43 = .ok (.ireturn, 1) := by decide +kernel
theorem dX4_groups_0 : decode cX4_groups 0 = .ok (.iconst 0, 1) := by decide +kernel
theorem dX4_groups_1 : decode cX4_groups 1 = .ok (.istore_n 1, 1) := by decide +kernel
theorem dX4_groups_2 : decode cX4_groups 2 = .ok (.iconst 0, 1) := by decide +kernel
theorem dX4_groups_3 : decode cX4_groups 3 = .ok (.istore_n 2, 1) := by decide +kernel
theorem dX4_groups_4 : decode cX4_groups 4 = .ok (.iload_n 2, 1) := by decide +kernel
theorem dX4_groups_5 : decode cX4_groups 5 = .ok (.bipush 12, 2) := by decide +kernel
theorem dX4_groups_7 : decode cX4_groups 7 = .ok (.if_icmp .ge 40, 3) := by decide +kernel
theorem dX4_groups_10 : decode cX4_groups 10 = .ok (.iload_n 1, 1) := by decide +kernel
theorem dX4_groups_11 : decode cX4_groups 11 = .ok (.aload_n 0, 1) := by decide +kernel
theorem dX4_groups_12 : decode cX4_groups 12 = .ok (.getfield 73, 3) := by decide +kernel
theorem dX4_groups_15 : decode cX4_groups 15 = .ok (.iload_n 2, 1) := by decide +kernel
theorem dX4_groups_16 : decode cX4_groups 16 = .ok (.invokestatic 86, 3) := by decide +kernel
theorem dX4_groups_19 : decode cX4_groups 19 = .ok (.ifCond .eq 19, 3) := by decide +kernel
theorem dX4_groups_22 : decode cX4_groups 22 = .ok (.aload_n 0, 1) := by decide +kernel
theorem dX4_groups_23 : decode cX4_groups 23 = .ok (.iload_n 2, 1) := by decide +kernel
theorem dX4_groups_24 : decode cX4_groups 24 = .ok (.invokevirtual 186, 3) := by decide +kernel
theorem dX4_groups_27 : decode cX4_groups 27 = .ok (.invokestatic 189, 3) := by decide +kernel
theorem dX4_groups_30 : decode cX4_groups 30 = .ok (.iload_n 2, 1) := by decide +kernel
theorem dX4_groups_31 : decode cX4_groups 31 = .ok (.if_icmp .ne 7, 3) := by decide +kernel
theorem dX4_groups_34 : decode cX4_groups 34 = .ok (.iconst 1, 1) := by decide +kernel
theorem dX4_groups_35 : decode cX4_groups 35 = .ok (.goto 4, 3) := by decide +kernel
theorem dX4_groups_38 : decode cX4_groups 38 = .ok (.iconst 0, 1) := by decide +kernel
theorem dX4_groups_39 : decode cX4_groups 39 = .ok (.iadd, 1) := by decide +kernel
theorem dX4_groups_40 : decode cX4_groups 40 = .ok (.istore_n 1, 1) := by decide +kernel
theorem dX4_groups_41 : decode cX4_groups 41 = .ok (.iinc 2 1, 3) := by decide +kernel
theorem dX4_groups_44 : decode cX4_groups 44 = .ok (.goto (-40), 3) := by decide +kernel
theorem dX4_groups_47 : decode cX4_groups 47 = .ok (.iload_n 1, 1) := by decide +kernel
theorem dX4_groups_48 : decode cX4_groups 48 = .ok (.ireturn, 1) := by decide +kernel
theorem dX4_greatest_0 : decode cX4_greatest 0 = .ok (.iconst 0, 1) := by decide +kernel
theorem dX4_greatest_1 : decode cX4_greatest 1 = .ok (.istore_n 1, 1) := by decide +kernel
theorem dX4_greatest_2 : decode cX4_greatest 2 = .ok (.iconst 0, 1) := by decide +kernel
theorem dX4_greatest_3 : decode cX4_greatest 3 = .ok (.istore_n 2, 1) := by decide +kernel
theorem dX4_greatest_4 : decode cX4_greatest 4 = .ok (.iload_n 2, 1) := by decide +kernel
theorem dX4_greatest_5 : decode cX4_greatest 5 = .ok (.bipush 12, 2) := by decide +kernel
theorem dX4_greatest_7 : decode cX4_greatest 7 = .ok (.if_icmp .ge 44, 3) := by decide +kernel
theorem dX4_greatest_10 : decode cX4_greatest 10 = .ok (.aload_n 0, 1) := by decide +kernel
theorem dX4_greatest_11 : decode cX4_greatest 11 = .ok (.getfield 73, 3) := by decide +kernel
theorem dX4_greatest_14 : decode cX4_greatest 14 = .ok (.iload_n 2, 1) := by decide +kernel
theorem dX4_greatest_15 : decode cX4_greatest 15 = .ok (.invokestatic 86, 3) := by decide +kernel
theorem dX4_greatest_18 : decode cX4_greatest 18 = .ok (.ifCond .eq 14, 3) := by decide +kernel
theorem dX4_greatest_21 : decode cX4_greatest 21 = .ok (.aload_n 0, 1) := by decide +kernel
theorem dX4_greatest_22 : decode cX4_greatest 22 = .ok (.iload_n 2, 1) := by decide +kernel
theorem dX4_greatest_23 : decode cX4_greatest 23 = .ok (.invokevirtual 186, 3) := by decide +kernel
theorem dX4_greatest_26 : decode cX4_greatest 26 = .ok (.invokestatic 183, 3) := by decide +kernel
theorem dX4_greatest_29 : decode cX4_greatest 29 = .ok (.goto 4, 3) := by decide +kernel
theorem dX4_greatest_32 : decode cX4_greatest 32 = .ok (.iconst 0, 1) := by decide +kernel
theorem dX4_greatest_33 : decode cX4_greatest 33 = .ok (.istore_n 3, 1) := by decide +kernel
theorem dX4_greatest_34 : decode cX4_greatest 34 = .ok (.iload_n 3, 1) := by decide +kernel
theorem dX4_greatest_35 : decode cX4_greatest 35 = .ok (.iload_n 1, 1) := by decide +kernel
theorem dX4_greatest_36 : decode cX4_greatest 36 = .ok (.if_icmp .le 7, 3) := by decide +kernel
theorem dX4_greatest_39 : decode cX4_greatest 39 = .ok (.iload_n 3, 1) := by decide +kernel
theorem dX4_greatest_40 : decode cX4_greatest 40 = .ok (.goto 4, 3) := by decide +kernel
theorem dX4_greatest_43 : decode cX4_greatest 43 = .ok (.iload_n 1, 1) := by decide +kernel
theorem dX4_greatest_44 : decode cX4_greatest 44 = .ok (.istore_n 1, 1) := by decide +kernel
theorem dX4_greatest_45 : decode cX4_greatest 45 = .ok (.iinc 2 1, 3) := by decide +kernel
theorem dX4_greatest_48 : decode cX4_greatest 48 = .ok (.goto (-44), 3) := by decide +kernel
theorem dX4_greatest_51 : decode cX4_greatest 51 = .ok (.iload_n 1, 1) := by decide +kernel
theorem dX4_greatest_52 : decode cX4_greatest 52 = .ok (.ireturn, 1) := by decide +kernel
theorem dX4_heapNow_0 : decode cX4_heapNow 0 = .ok (.iload_n 1, 1) := by decide +kernel
theorem dX4_heapNow_1 : decode cX4_heapNow 1 = .ok (.tableswitch 42 0 2 #[27, 32, 37], 27) := by decide +kernel
theorem dX4_heapNow_28 : decode cX4_heapNow 28 = .ok (.aload_n 0, 1) := by decide +kernel
theorem dX4_heapNow_29 : decode cX4_heapNow 29 = .ok (.invokevirtual 218, 3) := by decide +kernel
theorem dX4_heapNow_32 : decode cX4_heapNow 32 = .ok (.ireturn, 1) := by decide +kernel
theorem dX4_heapNow_33 : decode cX4_heapNow 33 = .ok (.aload_n 0, 1) := by decide +kernel
theorem dX4_heapNow_34 : decode cX4_heapNow 34 = .ok (.invokevirtual 221, 3) := by decide +kernel
theorem dX4_heapNow_37 : decode cX4_heapNow 37 = .ok (.ireturn, 1) := by decide +kernel
theorem dX4_heapNow_38 : decode cX4_heapNow 38 = .ok (.aload_n 0, 1) := by decide +kernel
theorem dX4_heapNow_39 : decode cX4_heapNow 39 = .ok (.invokevirtual 224, 3) := by decide +kernel
theorem dX4_heapNow_42 : decode cX4_heapNow 42 = .ok (.ireturn, 1) := by decide +kernel
theorem dX4_heapNow_43 : decode cX4_heapNow 43 = .ok (.aload_n 0, 1) := by decide +kernel
theorem dX4_heapNow_44 : decode cX4_heapNow 44 = .ok (.invokevirtual 224, 3) := by decide +kernel
theorem dX4_heapNow_47 : decode cX4_heapNow 47 = .ok (.invokestatic 183, 3) := by decide +kernel
theorem dX4_heapNow_50 : decode cX4_heapNow 50 = .ok (.ireturn, 1) := by decide +kernel
theorem dX4_heap_0 : decode cX4_heap 0 = .ok (.iload_n 1, 1) := by decide +kernel
theorem dX4_heap_1 : decode cX4_heap 1 = .ok (.iconst 0, 1) := by decide +kernel
theorem dX4_heap_2 : decode cX4_heap 2 = .ok (.iconst 3, 1) := by decide +kernel
theorem dX4_heap_3 : decode cX4_heap 3 = .ok (.invokestatic 41, 3) := by decide +kernel
theorem dX4_heap_6 : decode cX4_heap 6 = .ok (.ifCond .eq 11, 3) := by decide +kernel
theorem dX4_heap_9 : decode cX4_heap 9 = .ok (.aload_n 0, 1) := by decide +kernel
theorem dX4_heap_10 : decode cX4_heap 10 = .ok (.iload_n 1, 1) := by decide +kernel
theorem dX4_heap_11 : decode cX4_heap 11 = .ok (.invokevirtual 227, 3) := by decide +kernel
theorem dX4_heap_14 : decode cX4_heap 14 = .ok (.goto 6, 3) := by decide +kernel
theorem dX4_heap_17 : decode cX4_heap 17 = .ok (.sipush (-10003), 3) := by decide +kernel
theorem dX4_heap_20 : decode cX4_heap 20 = .ok (.ireturn, 1) := by decide +kernel
theorem dX4_probed_0 : decode cX4_probed 0 = .ok (.aload_n 0, 1) := by decide +kernel
theorem dX4_probed_1 : decode cX4_probed 1 = .ok (.getfield 101, 3) := by decide +kernel
theorem dX4_probed_4 : decode cX4_probed 4 = .ok (.ifCond .eq 7, 3) := by decide +kernel
theorem dX4_probed_7 : decode cX4_probed 7 = .ok (.iconst 1, 1) := by decide +kernel
theorem dX4_probed_8 : decode cX4_probed 8 = .ok (.goto 4, 3) := by decide +kernel
theorem dX4_probed_11 : decode cX4_probed 11 = .ok (.iconst 0, 1) := by decide +kernel
theorem dX4_probed_12 : decode cX4_probed 12 = .ok (.istore 5, 2) := by decide +kernel
theorem dX4_probed_14 : decode cX4_probed 14 = .ok (.iload_n 3, 1) := by decide +kernel
theorem dX4_probed_15 : decode cX4_probed 15 = .ok (.aload_n 0, 1) := by decide +kernel
theorem dX4_probed_16 : decode cX4_probed 16 = .ok (.iload_n 1, 1) := by decide +kernel
theorem dX4_probed_17 : decode cX4_probed 17 = .ok (.iload_n 2, 1) := by decide +kernel
theorem dX4_probed_18 : decode cX4_probed 18 = .ok (.invokevirtual 107, 3) := by decide +kernel
theorem dX4_probed_21 : decode cX4_probed 21 = .ok (.iload 5, 2) := by decide +kernel
theorem dX4_probed_23 : decode cX4_probed 23 = .ok (.iadd, 1) := by decide +kernel
theorem dX4_probed_24 : decode cX4_probed 24 = .ok (.if_icmp .ge 21, 3) := by decide +kernel
theorem dX4_probed_27 : decode cX4_probed 27 = .ok (.aload_n 0, 1) := by decide +kernel
theorem dX4_probed_28 : decode cX4_probed 28 = .ok (.iload_n 1, 1) := by decide +kernel
theorem dX4_probed_29 : decode cX4_probed 29 = .ok (.iload_n 2, 1) := by decide +kernel
theorem dX4_probed_30 : decode cX4_probed 30 = .ok (.invokevirtual 104, 3) := by decide +kernel
theorem dX4_probed_33 : decode cX4_probed 33 = .ok (.iload 4, 2) := by decide +kernel
theorem dX4_probed_35 : decode cX4_probed 35 = .ok (.iload 5, 2) := by decide +kernel
theorem dX4_probed_37 : decode cX4_probed 37 = .ok (.iadd, 1) := by decide +kernel
theorem dX4_probed_38 : decode cX4_probed 38 = .ok (.if_icmp .ge 7, 3) := by decide +kernel
theorem dX4_probed_41 : decode cX4_probed 41 = .ok (.iconst 1, 1) := by decide +kernel
theorem dX4_probed_42 : decode cX4_probed 42 = .ok (.goto 4, 3) := by decide +kernel
theorem dX4_probed_45 : decode cX4_probed 45 = .ok (.iconst 0, 1) := by decide +kernel
theorem dX4_probed_46 : decode cX4_probed 46 = .ok (.ireturn, 1) := by decide +kernel
theorem dX4_probe_0 : decode cX4_probe 0 = .ok (.iload_n 1, 1) := by decide +kernel
theorem dX4_probe_1 : decode cX4_probe 1 = .ok (.iload_n 2, 1) := by decide +kernel
theorem dX4_probe_2 : decode cX4_probe 2 = .ok (.invokestatic 176, 3) := by decide +kernel
theorem dX4_probe_5 : decode cX4_probe 5 = .ok (.ifCond .eq 22, 3) := by decide +kernel
theorem dX4_probe_8 : decode cX4_probe 8 = .ok (.iload_n 3, 1) := by decide +kernel
theorem dX4_probe_9 : decode cX4_probe 9 = .ok (.iload 4, 2) := by decide +kernel
theorem dX4_probe_11 : decode cX4_probe 11 = .ok (.invokestatic 176, 3) := by decide +kernel
theorem dX4_probe_14 : decode cX4_probe 14 = .ok (.ifCond .eq 13, 3) := by decide +kernel
theorem dX4_probe_17 : decode cX4_probe 17 = .ok (.iload 5, 2) := by decide +kernel
theorem dX4_probe_19 : decode cX4_probe 19 = .ok (.iload 6, 2) := by decide +kernel
theorem dX4_probe_21 : decode cX4_probe 21 = .ok (.invokestatic 176, 3) := by decide +kernel
theorem dX4_probe_24 : decode cX4_probe 24 = .ok (.ifCond .ne 7, 3) := by decide +kernel
theorem dX4_probe_27 : decode cX4_probe 27 = .ok (.sipush (-10003), 3) := by decide +kernel
theorem dX4_probe_30 : decode cX4_probe 30 = .ok (.ireturn, 1) := by decide +kernel
theorem dX4_probe_31 : decode cX4_probe 31 = .ok (.iconst 0, 1) := by decide +kernel
theorem dX4_probe_32 : decode cX4_probe 32 = .ok (.istore 7, 2) := by decide +kernel
theorem dX4_probe_34 : decode cX4_probe 34 = .ok (.iconst 0, 1) := by decide +kernel
theorem dX4_probe_35 : decode cX4_probe 35 = .ok (.istore 8, 2) := by decide +kernel
theorem dX4_probe_37 : decode cX4_probe 37 = .ok (.iload 8, 2) := by decide +kernel
theorem dX4_probe_39 : decode cX4_probe 39 = .ok (.bipush 12, 2) := by decide +kernel
theorem dX4_probe_41 : decode cX4_probe 41 = .ok (.if_icmp .ge 82, 3) := by decide +kernel
theorem dX4_probe_44 : decode cX4_probe 44 = .ok (.aload_n 0, 1) := by decide +kernel
theorem dX4_probe_45 : decode cX4_probe 45 = .ok (.getfield 73, 3) := by decide +kernel
theorem dX4_probe_48 : decode cX4_probe 48 = .ok (.iload 8, 2) := by decide +kernel
theorem dX4_probe_50 : decode cX4_probe 50 = .ok (.invokestatic 86, 3) := by decide +kernel
theorem dX4_probe_53 : decode cX4_probe 53 = .ok (.ifCond .eq 43, 3) := by decide +kernel
theorem dX4_probe_56 : decode cX4_probe 56 = .ok (.aload_n 0, 1) := by decide +kernel
theorem dX4_probe_57 : decode cX4_probe 57 = .ok (.iload 8, 2) := by decide +kernel
theorem dX4_probe_59 : decode cX4_probe 59 = .ok (.iconst 0, 1) := by decide +kernel
theorem dX4_probe_60 : decode cX4_probe 60 = .ok (.iload_n 1, 1) := by decide +kernel
theorem dX4_probe_61 : decode cX4_probe 61 = .ok (.iload_n 2, 1) := by decide +kernel
theorem dX4_probe_62 : decode cX4_probe 62 = .ok (.invokevirtual 230, 3) := by decide +kernel
theorem dX4_probe_65 : decode cX4_probe 65 = .ok (.aload_n 0, 1) := by decide +kernel
theorem dX4_probe_66 : decode cX4_probe 66 = .ok (.iload 8, 2) := by decide +kernel
theorem dX4_probe_68 : decode cX4_probe 68 = .ok (.iconst 1, 1) := by decide +kernel
theorem dX4_probe_69 : decode cX4_probe 69 = .ok (.iload_n 3, 1) := by decide +kernel
theorem dX4_probe_70 : decode cX4_probe 70 = .ok (.iload 4, 2) := by decide +kernel
theorem dX4_probe_72 : decode cX4_probe 72 = .ok (.invokevirtual 230, 3) := by decide +kernel
theorem dX4_probe_75 : decode cX4_probe 75 = .ok (.iadd, 1) := by decide +kernel
theorem dX4_probe_76 : decode cX4_probe 76 = .ok (.aload_n 0, 1) := by decide +kernel
theorem dX4_probe_77 : decode cX4_probe 77 = .ok (.iload 8, 2) := by decide +kernel
theorem dX4_probe_79 : decode cX4_probe 79 = .ok (.iconst 2, 1) := by decide +kernel
theorem dX4_probe_80 : decode cX4_probe 80 = .ok (.iload 5, 2) := by decide +kernel
theorem dX4_probe_82 : decode cX4_probe 82 = .ok (.iload 6, 2) := by decide +kernel
theorem dX4_probe_84 : decode cX4_probe 84 = .ok (.invokevirtual 230, 3) := by decide +kernel
theorem dX4_probe_87 : decode cX4_probe 87 = .ok (.iadd, 1) := by decide +kernel
theorem dX4_probe_88 : decode cX4_probe 88 = .ok (.iconst 3, 1) := by decide +kernel
theorem dX4_probe_89 : decode cX4_probe 89 = .ok (.if_icmp .ne 7, 3) := by decide +kernel
theorem dX4_probe_92 : decode cX4_probe 92 = .ok (.iconst 1, 1) := by decide +kernel
theorem dX4_probe_93 : decode cX4_probe 93 = .ok (.goto 4, 3) := by decide +kernel
theorem dX4_probe_96 : decode cX4_probe 96 = .ok (.iconst 0, 1) := by decide +kernel
theorem dX4_probe_97 : decode cX4_probe 97 = .ok (.istore 9, 2) := by decide +kernel
theorem dX4_probe_99 : decode cX4_probe 99 = .ok (.iload 7, 2) := by decide +kernel
theorem dX4_probe_101 : decode cX4_probe 101 = .ok (.iload 9, 2) := by decide +kernel
theorem dX4_probe_103 : decode cX4_probe 103 = .ok (.ifCond .eq 10, 3) := by decide +kernel
theorem dX4_probe_106 : decode cX4_probe 106 = .ok (.iconst 1, 1) := by decide +kernel
theorem dX4_probe_107 : decode cX4_probe 107 = .ok (.iload 8, 2) := by decide +kernel
theorem dX4_probe_109 : decode cX4_probe 109 = .ok (.ishl, 1) := by decide +kernel
theorem dX4_probe_110 : decode cX4_probe 110 = .ok (.goto 4, 3) := by decide +kernel
theorem dX4_probe_113 : decode cX4_probe 113 = .ok (.iconst 0, 1) := by decide +kernel
theorem dX4_probe_114 : decode cX4_probe 114 = .ok (.ior, 1) := by decide +kernel
theorem dX4_probe_115 : decode cX4_probe 115 = .ok (.istore 7, 2) := by decide +kernel
theorem dX4_probe_117 : decode cX4_probe 117 = .ok (.iinc 8 1, 3) := by decide +kernel
theorem dX4_probe_120 : decode cX4_probe 120 = .ok (.goto (-83), 3) := by decide +kernel
theorem dX4_probe_123 : decode cX4_probe 123 = .ok (.iload 7, 2) := by decide +kernel
theorem dX4_probe_125 : decode cX4_probe 125 = .ok (.ireturn, 1) := by decide +kernel
theorem dX4_pairMany_0 : decode cX4_pairMany 0 = .ok (.aload_n 0, 1) := by decide +kernel
theorem dX4_pairMany_1 : decode cX4_pairMany 1 = .ok (.invokevirtual 202, 3) := by decide +kernel
theorem dX4_pairMany_4 : decode cX4_pairMany 4 = .ok (.aload_n 0, 1) := by decide +kernel
theorem dX4_pairMany_5 : decode cX4_pairMany 5 = .ok (.getfield 199, 3) := by decide +kernel
theorem dX4_pairMany_8 : decode cX4_pairMany 8 = .ok (.ireturn, 1) := by decide +kernel
theorem dX4_howMany_0 : decode cX4_howMany 0 = .ok (.iload_n 1, 1) := by decide +kernel
theorem dX4_howMany_1 : decode cX4_howMany 1 = .ok (.tableswitch 113 0 9 #[55, 60, 65, 70, 75, 80, 85, 90, 95, 108], 55) := by decide +kernel
theorem dX4_howMany_56 : decode cX4_howMany 56 = .ok (.aload_n 0, 1) := by decide +kernel
theorem dX4_howMany_57 : decode cX4_howMany 57 = .ok (.getfield 45, 3) := by decide +kernel
theorem dX4_howMany_60 : decode cX4_howMany 60 = .ok (.ireturn, 1) := by decide +kernel
theorem dX4_howMany_61 : decode cX4_howMany 61 = .ok (.aload_n 0, 1) := by decide +kernel
theorem dX4_howMany_62 : decode cX4_howMany 62 = .ok (.invokevirtual 80, 3) := by decide +kernel
theorem dX4_howMany_65 : decode cX4_howMany 65 = .ok (.ireturn, 1) := by decide +kernel
theorem dX4_howMany_66 : decode cX4_howMany 66 = .ok (.aload_n 0, 1) := by decide +kernel
theorem dX4_howMany_67 : decode cX4_howMany 67 = .ok (.invokevirtual 233, 3) := by decide +kernel
theorem dX4_howMany_70 : decode cX4_howMany 70 = .ok (.ireturn, 1) := by decide +kernel
theorem dX4_howMany_71 : decode cX4_howMany 71 = .ok (.aload_n 0, 1) := by decide +kernel
theorem dX4_howMany_72 : decode cX4_howMany 72 = .ok (.getfield 138, 3) := by decide +kernel
theorem dX4_howMany_75 : decode cX4_howMany 75 = .ok (.ireturn, 1) := by decide +kernel
theorem dX4_howMany_76 : decode cX4_howMany 76 = .ok (.aload_n 0, 1) := by decide +kernel
theorem dX4_howMany_77 : decode cX4_howMany 77 = .ok (.getfield 141, 3) := by decide +kernel
theorem dX4_howMany_80 : decode cX4_howMany 80 = .ok (.ireturn, 1) := by decide +kernel
theorem dX4_howMany_81 : decode cX4_howMany 81 = .ok (.aload_n 0, 1) := by decide +kernel
theorem dX4_howMany_82 : decode cX4_howMany 82 = .ok (.getfield 144, 3) := by decide +kernel
theorem dX4_howMany_85 : decode cX4_howMany 85 = .ok (.ireturn, 1) := by decide +kernel
theorem dX4_howMany_86 : decode cX4_howMany 86 = .ok (.aload_n 0, 1) := by decide +kernel
theorem dX4_howMany_87 : decode cX4_howMany 87 = .ok (.getfield 147, 3) := by decide +kernel
theorem dX4_howMany_90 : decode cX4_howMany 90 = .ok (.ireturn, 1) := by decide +kernel
theorem dX4_howMany_91 : decode cX4_howMany 91 = .ok (.aload_n 0, 1) := by decide +kernel
theorem dX4_howMany_92 : decode cX4_howMany 92 = .ok (.getfield 150, 3) := by decide +kernel
theorem dX4_howMany_95 : decode cX4_howMany 95 = .ok (.ireturn, 1) := by decide +kernel
theorem dX4_howMany_96 : decode cX4_howMany 96 = .ok (.aload_n 0, 1) := by decide +kernel
theorem dX4_howMany_97 : decode cX4_howMany 97 = .ok (.getfield 101, 3) := by decide +kernel
theorem dX4_howMany_100 : decode cX4_howMany 100 = .ok (.ifCond .eq 7, 3) := by decide +kernel
theorem dX4_howMany_103 : decode cX4_howMany 103 = .ok (.iconst 1, 1) := by decide +kernel
theorem dX4_howMany_104 : decode cX4_howMany 104 = .ok (.goto 4, 3) := by decide +kernel
theorem dX4_howMany_107 : decode cX4_howMany 107 = .ok (.iconst 0, 1) := by decide +kernel
theorem dX4_howMany_108 : decode cX4_howMany 108 = .ok (.ireturn, 1) := by decide +kernel
theorem dX4_howMany_109 : decode cX4_howMany 109 = .ok (.aload_n 0, 1) := by decide +kernel
theorem dX4_howMany_110 : decode cX4_howMany 110 = .ok (.getfield 73, 3) := by decide +kernel
theorem dX4_howMany_113 : decode cX4_howMany 113 = .ok (.ireturn, 1) := by decide +kernel
theorem dX4_howMany_114 : decode cX4_howMany 114 = .ok (.sipush (-10003), 3) := by decide +kernel
theorem dX4_howMany_117 : decode cX4_howMany 117 = .ok (.ireturn, 1) := by decide +kernel
theorem dX4_count_0 : decode cX4_count 0 = .ok (.aload_n 0, 1) := by decide +kernel
theorem dX4_count_1 : decode cX4_count 1 = .ok (.iload_n 1, 1) := by decide +kernel
theorem dX4_count_2 : decode cX4_count 2 = .ok (.invokevirtual 236, 3) := by decide +kernel
theorem dX4_count_5 : decode cX4_count 5 = .ok (.ireturn, 1) := by decide +kernel
theorem dX4_mix_0 : decode cX4_mix 0 = .ok (.aload_n 0, 1) := by decide +kernel
theorem dX4_mix_1 : decode cX4_mix 1 = .ok (.ldc2_w 239, 3) := by decide +kernel
theorem dX4_mix_4 : decode cX4_mix 4 = .ok (.aload_n 0, 1) := by decide +kernel
theorem dX4_mix_5 : decode cX4_mix 5 = .ok (.getfield 241, 3) := by decide +kernel
theorem dX4_mix_8 : decode cX4_mix 8 = .ok (.lmul, 1) := by decide +kernel
theorem dX4_mix_9 : decode cX4_mix 9 = .ok (.lload_n 1, 1) := by decide +kernel
theorem dX4_mix_10 : decode cX4_mix 10 = .ok (.ladd, 1) := by decide +kernel
theorem dX4_mix_11 : decode cX4_mix 11 = .ok (.putfield 241, 3) := by decide +kernel
theorem dX4_mix_14 : decode cX4_mix 14 = .ok (.return_, 1) := by decide +kernel
theorem dX4_mixBox_0 : decode cX4_mixBox 0 = .ok (.aload_n 0, 1) := by decide +kernel
theorem dX4_mixBox_1 : decode cX4_mixBox 1 = .ok (.iload_n 1, 1) := by decide +kernel
theorem dX4_mixBox_2 : decode cX4_mixBox 2 = .ok (.i2l, 1) := by decide +kernel
theorem dX4_mixBox_3 : decode cX4_mixBox 3 = .ok (.invokevirtual 245, 3) := by decide +kernel
theorem dX4_mixBox_6 : decode cX4_mixBox 6 = .ok (.iconst 0, 1) := by decide +kernel
theorem dX4_mixBox_7 : decode cX4_mixBox 7 = .ok (.istore_n 2, 1) := by decide +kernel
theorem dX4_mixBox_8 : decode cX4_mixBox 8 = .ok (.iload_n 2, 1) := by decide +kernel
theorem dX4_mixBox_9 : decode cX4_mixBox 9 = .ok (.bipush 9, 2) := by decide +kernel
theorem dX4_mixBox_11 : decode cX4_mixBox 11 = .ok (.if_icmp .ge 20, 3) := by decide +kernel
theorem dX4_mixBox_14 : decode cX4_mixBox 14 = .ok (.aload_n 0, 1) := by decide +kernel
theorem dX4_mixBox_15 : decode cX4_mixBox 15 = .ok (.aload_n 0, 1) := by decide +kernel
theorem dX4_mixBox_16 : decode cX4_mixBox 16 = .ok (.iload_n 1, 1) := by decide +kernel
theorem dX4_mixBox_17 : decode cX4_mixBox 17 = .ok (.iload_n 2, 1) := by decide +kernel
theorem dX4_mixBox_18 : decode cX4_mixBox 18 = .ok (.invokevirtual 192, 3) := by decide +kernel
theorem dX4_mixBox_21 : decode cX4_mixBox 21 = .ok (.i2l, 1) := by decide +kernel
theorem dX4_mixBox_22 : decode cX4_mixBox 22 = .ok (.invokevirtual 245, 3) := by decide +kernel
theorem dX4_mixBox_25 : decode cX4_mixBox 25 = .ok (.iinc 2 1, 3) := by decide +kernel
theorem dX4_mixBox_28 : decode cX4_mixBox 28 = .ok (.goto (-20), 3) := by decide +kernel
theorem dX4_mixBox_31 : decode cX4_mixBox 31 = .ok (.iconst 0, 1) := by decide +kernel
theorem dX4_mixBox_32 : decode cX4_mixBox 32 = .ok (.istore_n 2, 1) := by decide +kernel
theorem dX4_mixBox_33 : decode cX4_mixBox 33 = .ok (.iload_n 2, 1) := by decide +kernel
theorem dX4_mixBox_34 : decode cX4_mixBox 34 = .ok (.iconst 3, 1) := by decide +kernel
theorem dX4_mixBox_35 : decode cX4_mixBox 35 = .ok (.if_icmp .ge 33, 3) := by decide +kernel
theorem dX4_mixBox_38 : decode cX4_mixBox 38 = .ok (.aload_n 0, 1) := by decide +kernel
theorem dX4_mixBox_39 : decode cX4_mixBox 39 = .ok (.aload_n 0, 1) := by decide +kernel
theorem dX4_mixBox_40 : decode cX4_mixBox 40 = .ok (.iload_n 1, 1) := by decide +kernel
theorem dX4_mixBox_41 : decode cX4_mixBox 41 = .ok (.iload_n 2, 1) := by decide +kernel
theorem dX4_mixBox_42 : decode cX4_mixBox 42 = .ok (.iconst (-1), 1) := by decide +kernel
theorem dX4_mixBox_43 : decode cX4_mixBox 43 = .ok (.invokevirtual 212, 3) := by decide +kernel
theorem dX4_mixBox_46 : decode cX4_mixBox 46 = .ok (.i2l, 1) := by decide +kernel
theorem dX4_mixBox_47 : decode cX4_mixBox 47 = .ok (.invokevirtual 245, 3) := by decide +kernel
theorem dX4_mixBox_50 : decode cX4_mixBox 50 = .ok (.aload_n 0, 1) := by decide +kernel
theorem dX4_mixBox_51 : decode cX4_mixBox 51 = .ok (.aload_n 0, 1) := by decide +kernel
theorem dX4_mixBox_52 : decode cX4_mixBox 52 = .ok (.iload_n 1, 1) := by decide +kernel
theorem dX4_mixBox_53 : decode cX4_mixBox 53 = .ok (.iload_n 2, 1) := by decide +kernel
theorem dX4_mixBox_54 : decode cX4_mixBox 54 = .ok (.iconst 1, 1) := by decide +kernel
theorem dX4_mixBox_55 : decode cX4_mixBox 55 = .ok (.invokevirtual 212, 3) := by decide +kernel
theorem dX4_mixBox_58 : decode cX4_mixBox 58 = .ok (.i2l, 1) := by decide +kernel
theorem dX4_mixBox_59 : decode cX4_mixBox 59 = .ok (.invokevirtual 245, 3) := by decide +kernel
theorem dX4_mixBox_62 : decode cX4_mixBox 62 = .ok (.iinc 2 1, 3) := by decide +kernel
theorem dX4_mixBox_65 : decode cX4_mixBox 65 = .ok (.goto (-32), 3) := by decide +kernel
theorem dX4_mixBox_68 : decode cX4_mixBox 68 = .ok (.return_, 1) := by decide +kernel
theorem dX4_digest_0 : decode cX4_digest 0 = .ok (.aload_n 0, 1) := by decide +kernel
theorem dX4_digest_1 : decode cX4_digest 1 = .ok (.ldc2_w 249, 3) := by decide +kernel
theorem dX4_digest_4 : decode cX4_digest 4 = .ok (.putfield 241, 3) := by decide +kernel
theorem dX4_digest_7 : decode cX4_digest 7 = .ok (.iconst 0, 1) := by decide +kernel
theorem dX4_digest_8 : decode cX4_digest 8 = .ok (.istore_n 1, 1) := by decide +kernel
theorem dX4_digest_9 : decode cX4_digest 9 = .ok (.iload_n 1, 1) := by decide +kernel
theorem dX4_digest_10 : decode cX4_digest 10 = .ok (.bipush 12, 2) := by decide +kernel
theorem dX4_digest_12 : decode cX4_digest 12 = .ok (.if_icmp .ge 25, 3) := by decide +kernel
theorem dX4_digest_15 : decode cX4_digest 15 = .ok (.aload_n 0, 1) := by decide +kernel
theorem dX4_digest_16 : decode cX4_digest 16 = .ok (.getfield 73, 3) := by decide +kernel
theorem dX4_digest_19 : decode cX4_digest 19 = .ok (.iload_n 1, 1) := by decide +kernel
theorem dX4_digest_20 : decode cX4_digest 20 = .ok (.invokestatic 86, 3) := by decide +kernel
theorem dX4_digest_23 : decode cX4_digest 23 = .ok (.ifCond .eq 8, 3) := by decide +kernel
theorem dX4_digest_26 : decode cX4_digest 26 = .ok (.aload_n 0, 1) := by decide +kernel
theorem dX4_digest_27 : decode cX4_digest 27 = .ok (.iload_n 1, 1) := by decide +kernel
theorem dX4_digest_28 : decode cX4_digest 28 = .ok (.invokevirtual 251, 3) := by decide +kernel
theorem dX4_digest_31 : decode cX4_digest 31 = .ok (.iinc 1 1, 3) := by decide +kernel
theorem dX4_digest_34 : decode cX4_digest 34 = .ok (.goto (-25), 3) := by decide +kernel
theorem dX4_digest_37 : decode cX4_digest 37 = .ok (.iconst 0, 1) := by decide +kernel
theorem dX4_digest_38 : decode cX4_digest 38 = .ok (.istore_n 1, 1) := by decide +kernel
theorem dX4_digest_39 : decode cX4_digest 39 = .ok (.iload_n 1, 1) := by decide +kernel
theorem dX4_digest_40 : decode cX4_digest 40 = .ok (.iconst 3, 1) := by decide +kernel
theorem dX4_digest_41 : decode cX4_digest 41 = .ok (.if_icmp .ge 43, 3) := by decide +kernel
theorem dX4_digest_44 : decode cX4_digest 44 = .ok (.iconst 0, 1) := by decide +kernel
theorem dX4_digest_45 : decode cX4_digest 45 = .ok (.istore_n 2, 1) := by decide +kernel
theorem dX4_digest_46 : decode cX4_digest 46 = .ok (.iload_n 2, 1) := by decide +kernel
theorem dX4_digest_47 : decode cX4_digest 47 = .ok (.iconst 3, 1) := by decide +kernel
theorem dX4_digest_48 : decode cX4_digest 48 = .ok (.aload_n 0, 1) := by decide +kernel
theorem dX4_digest_49 : decode cX4_digest 49 = .ok (.getfield 110, 3) := by decide +kernel
theorem dX4_digest_52 : decode cX4_digest 52 = .ok (.imul, 1) := by decide +kernel
theorem dX4_digest_53 : decode cX4_digest 53 = .ok (.if_icmp .ge 25, 3) := by decide +kernel
theorem dX4_digest_56 : decode cX4_digest 56 = .ok (.aload_n 0, 1) := by decide +kernel
theorem dX4_digest_57 : decode cX4_digest 57 = .ok (.aload_n 0, 1) := by decide +kernel
theorem dX4_digest_58 : decode cX4_digest 58 = .ok (.iload_n 1, 1) := by decide +kernel
theorem dX4_digest_59 : decode cX4_digest 59 = .ok (.iload_n 2, 1) := by decide +kernel
theorem dX4_digest_60 : decode cX4_digest 60 = .ok (.iconst 3, 1) := by decide +kernel
theorem dX4_digest_61 : decode cX4_digest 61 = .ok (.idiv, 1) := by decide +kernel
theorem dX4_digest_62 : decode cX4_digest 62 = .ok (.iload_n 2, 1) := by decide +kernel
theorem dX4_digest_63 : decode cX4_digest 63 = .ok (.iconst 3, 1) := by decide +kernel
theorem dX4_digest_64 : decode cX4_digest 64 = .ok (.irem, 1) := by decide +kernel
theorem dX4_digest_65 : decode cX4_digest 65 = .ok (.invokevirtual 195, 3) := by decide +kernel
theorem dX4_digest_68 : decode cX4_digest 68 = .ok (.i2l, 1) := by decide +kernel
theorem dX4_digest_69 : decode cX4_digest 69 = .ok (.invokevirtual 245, 3) := by decide +kernel
theorem dX4_digest_72 : decode cX4_digest 72 = .ok (.iinc 2 1, 3) := by decide +kernel
theorem dX4_digest_75 : decode cX4_digest 75 = .ok (.goto (-29), 3) := by decide +kernel
theorem dX4_digest_78 : decode cX4_digest 78 = .ok (.iinc 1 1, 3) := by decide +kernel
theorem dX4_digest_81 : decode cX4_digest 81 = .ok (.goto (-42), 3) := by decide +kernel
theorem dX4_digest_84 : decode cX4_digest 84 = .ok (.aload_n 0, 1) := by decide +kernel
theorem dX4_digest_85 : decode cX4_digest 85 = .ok (.invokevirtual 202, 3) := by decide +kernel
theorem dX4_digest_88 : decode cX4_digest 88 = .ok (.iconst 0, 1) := by decide +kernel
theorem dX4_digest_89 : decode cX4_digest 89 = .ok (.istore_n 1, 1) := by decide +kernel
theorem dX4_digest_90 : decode cX4_digest 90 = .ok (.iload_n 1, 1) := by decide +kernel
theorem dX4_digest_91 : decode cX4_digest 91 = .ok (.aload_n 0, 1) := by decide +kernel
theorem dX4_digest_92 : decode cX4_digest 92 = .ok (.getfield 199, 3) := by decide +kernel
theorem dX4_digest_95 : decode cX4_digest 95 = .ok (.if_icmp .ge 20, 3) := by decide +kernel
theorem dX4_digest_98 : decode cX4_digest 98 = .ok (.aload_n 0, 1) := by decide +kernel
theorem dX4_digest_99 : decode cX4_digest 99 = .ok (.aload_n 0, 1) := by decide +kernel
theorem dX4_digest_100 : decode cX4_digest 100 = .ok (.getfield 38, 3) := by decide +kernel
theorem dX4_digest_103 : decode cX4_digest 103 = .ok (.iload_n 1, 1) := by decide +kernel
theorem dX4_digest_104 : decode cX4_digest 104 = .ok (.iaload, 1) := by decide +kernel
theorem dX4_digest_105 : decode cX4_digest 105 = .ok (.i2l, 1) := by decide +kernel
theorem dX4_digest_106 : decode cX4_digest 106 = .ok (.invokevirtual 245, 3) := by decide +kernel
theorem dX4_digest_109 : decode cX4_digest 109 = .ok (.iinc 1 1, 3) := by decide +kernel
theorem dX4_digest_112 : decode cX4_digest 112 = .ok (.goto (-22), 3) := by decide +kernel
theorem dX4_digest_115 : decode cX4_digest 115 = .ok (.iconst 0, 1) := by decide +kernel
theorem dX4_digest_116 : decode cX4_digest 116 = .ok (.istore_n 1, 1) := by decide +kernel
theorem dX4_digest_117 : decode cX4_digest 117 = .ok (.iload_n 1, 1) := by decide +kernel
theorem dX4_digest_118 : decode cX4_digest 118 = .ok (.aload_n 0, 1) := by decide +kernel
theorem dX4_digest_119 : decode cX4_digest 119 = .ok (.getfield 126, 3) := by decide +kernel
theorem dX4_digest_122 : decode cX4_digest 122 = .ok (.if_icmp .ge 31, 3) := by decide +kernel
theorem dX4_digest_125 : decode cX4_digest 125 = .ok (.aload_n 0, 1) := by decide +kernel
theorem dX4_digest_126 : decode cX4_digest 126 = .ok (.aload_n 0, 1) := by decide +kernel
theorem dX4_digest_127 : decode cX4_digest 127 = .ok (.getfield 22, 3) := by decide +kernel
theorem dX4_digest_130 : decode cX4_digest 130 = .ok (.iload_n 1, 1) := by decide +kernel
theorem dX4_digest_131 : decode cX4_digest 131 = .ok (.iaload, 1) := by decide +kernel
theorem dX4_digest_132 : decode cX4_digest 132 = .ok (.i2l, 1) := by decide +kernel
theorem dX4_digest_133 : decode cX4_digest 133 = .ok (.invokevirtual 245, 3) := by decide +kernel
theorem dX4_digest_136 : decode cX4_digest 136 = .ok (.aload_n 0, 1) := by decide +kernel
theorem dX4_digest_137 : decode cX4_digest 137 = .ok (.aload_n 0, 1) := by decide +kernel
theorem dX4_digest_138 : decode cX4_digest 138 = .ok (.getfield 25, 3) := by decide +kernel
theorem dX4_digest_141 : decode cX4_digest 141 = .ok (.iload_n 1, 1) := by decide +kernel
theorem dX4_digest_142 : decode cX4_digest 142 = .ok (.iaload, 1) := by decide +kernel
theorem dX4_digest_143 : decode cX4_digest 143 = .ok (.i2l, 1) := by decide +kernel
theorem dX4_digest_144 : decode cX4_digest 144 = .ok (.invokevirtual 245, 3) := by decide +kernel
theorem dX4_digest_147 : decode cX4_digest 147 = .ok (.iinc 1 1, 3) := by decide +kernel
theorem dX4_digest_150 : decode cX4_digest 150 = .ok (.goto (-33), 3) := by decide +kernel
theorem dX4_digest_153 : decode cX4_digest 153 = .ok (.iconst 0, 1) := by decide +kernel
theorem dX4_digest_154 : decode cX4_digest 154 = .ok (.istore_n 1, 1) := by decide +kernel
theorem dX4_digest_155 : decode cX4_digest 155 = .ok (.iload_n 1, 1) := by decide +kernel
theorem dX4_digest_156 : decode cX4_digest 156 = .ok (.bipush 7, 2) := by decide +kernel
theorem dX4_digest_158 : decode cX4_digest 158 = .ok (.if_icmp .ge 19, 3) := by decide +kernel
theorem dX4_digest_161 : decode cX4_digest 161 = .ok (.aload_n 0, 1) := by decide +kernel
theorem dX4_digest_162 : decode cX4_digest 162 = .ok (.aload_n 0, 1) := by decide +kernel
theorem dX4_digest_163 : decode cX4_digest 163 = .ok (.iload_n 1, 1) := by decide +kernel
theorem dX4_digest_164 : decode cX4_digest 164 = .ok (.invokevirtual 205, 3) := by decide +kernel
theorem dX4_digest_167 : decode cX4_digest 167 = .ok (.i2l, 1) := by decide +kernel
theorem dX4_digest_168 : decode cX4_digest 168 = .ok (.invokevirtual 245, 3) := by decide +kernel
theorem dX4_digest_171 : decode cX4_digest 171 = .ok (.iinc 1 1, 3) := by decide +kernel
theorem dX4_digest_174 : decode cX4_digest 174 = .ok (.goto (-19), 3) := by decide +kernel
theorem dX4_digest_177 : decode cX4_digest 177 = .ok (.iconst 0, 1) := by decide +kernel
theorem dX4_digest_178 : decode cX4_digest 178 = .ok (.istore_n 1, 1) := by decide +kernel
theorem dX4_digest_179 : decode cX4_digest 179 = .ok (.iload_n 1, 1) := by decide +kernel
theorem dX4_digest_180 : decode cX4_digest 180 = .ok (.iconst 4, 1) := by decide +kernel
theorem dX4_digest_181 : decode cX4_digest 181 = .ok (.if_icmp .ge 19, 3) := by decide +kernel
theorem dX4_digest_184 : decode cX4_digest 184 = .ok (.aload_n 0, 1) := by decide +kernel
theorem dX4_digest_185 : decode cX4_digest 185 = .ok (.aload_n 0, 1) := by decide +kernel
theorem dX4_digest_186 : decode cX4_digest 186 = .ok (.iload_n 1, 1) := by decide +kernel
theorem dX4_digest_187 : decode cX4_digest 187 = .ok (.invokevirtual 227, 3) := by decide +kernel
theorem dX4_digest_190 : decode cX4_digest 190 = .ok (.i2l, 1) := by decide +kernel
theorem dX4_digest_191 : decode cX4_digest 191 = .ok (.invokevirtual 245, 3) := by decide +kernel
theorem dX4_digest_194 : decode cX4_digest 194 = .ok (.iinc 1 1, 3) := by decide +kernel
theorem dX4_digest_197 : decode cX4_digest 197 = .ok (.goto (-18), 3) := by decide +kernel
theorem dX4_digest_200 : decode cX4_digest 200 = .ok (.iconst 0, 1) := by decide +kernel
theorem dX4_digest_201 : decode cX4_digest 201 = .ok (.istore_n 1, 1) := by decide +kernel
theorem dX4_digest_202 : decode cX4_digest 202 = .ok (.iload_n 1, 1) := by decide +kernel
theorem dX4_digest_203 : decode cX4_digest 203 = .ok (.aload_n 0, 1) := by decide +kernel
theorem dX4_digest_204 : decode cX4_digest 204 = .ok (.getfield 45, 3) := by decide +kernel
theorem dX4_digest_207 : decode cX4_digest 207 = .ok (.if_icmp .ge 20, 3) := by decide +kernel
theorem dX4_digest_210 : decode cX4_digest 210 = .ok (.aload_n 0, 1) := by decide +kernel
theorem dX4_digest_211 : decode cX4_digest 211 = .ok (.aload_n 0, 1) := by decide +kernel
theorem dX4_digest_212 : decode cX4_digest 212 = .ok (.getfield 7, 3) := by decide +kernel
theorem dX4_digest_215 : decode cX4_digest 215 = .ok (.iload_n 1, 1) := by decide +kernel
theorem dX4_digest_216 : decode cX4_digest 216 = .ok (.iaload, 1) := by decide +kernel
theorem dX4_digest_217 : decode cX4_digest 217 = .ok (.i2l, 1) := by decide +kernel
theorem dX4_digest_218 : decode cX4_digest 218 = .ok (.invokevirtual 245, 3) := by decide +kernel
theorem dX4_digest_221 : decode cX4_digest 221 = .ok (.iinc 1 1, 3) := by decide +kernel
theorem dX4_digest_224 : decode cX4_digest 224 = .ok (.goto (-22), 3) := by decide +kernel
theorem dX4_digest_227 : decode cX4_digest 227 = .ok (.iconst 0, 1) := by decide +kernel
theorem dX4_digest_228 : decode cX4_digest 228 = .ok (.istore_n 1, 1) := by decide +kernel
theorem dX4_digest_229 : decode cX4_digest 229 = .ok (.iload_n 1, 1) := by decide +kernel
theorem dX4_digest_230 : decode cX4_digest 230 = .ok (.bipush 10, 2) := by decide +kernel
theorem dX4_digest_232 : decode cX4_digest 232 = .ok (.if_icmp .ge 19, 3) := by decide +kernel
theorem dX4_digest_235 : decode cX4_digest 235 = .ok (.aload_n 0, 1) := by decide +kernel
theorem dX4_digest_236 : decode cX4_digest 236 = .ok (.aload_n 0, 1) := by decide +kernel
theorem dX4_digest_237 : decode cX4_digest 237 = .ok (.iload_n 1, 1) := by decide +kernel
theorem dX4_digest_238 : decode cX4_digest 238 = .ok (.invokevirtual 236, 3) := by decide +kernel
theorem dX4_digest_241 : decode cX4_digest 241 = .ok (.i2l, 1) := by decide +kernel
theorem dX4_digest_242 : decode cX4_digest 242 = .ok (.invokevirtual 245, 3) := by decide +kernel
theorem dX4_digest_245 : decode cX4_digest 245 = .ok (.iinc 1 1, 3) := by decide +kernel
theorem dX4_digest_248 : decode cX4_digest 248 = .ok (.goto (-19), 3) := by decide +kernel
theorem dX4_digest_251 : decode cX4_digest 251 = .ok (.aload_n 0, 1) := by decide +kernel
theorem dX4_digest_252 : decode cX4_digest 252 = .ok (.getfield 241, 3) := by decide +kernel
theorem dX4_digest_255 : decode cX4_digest 255 = .ok (.lreturn, 1) := by decide +kernel
end
section
theorem dJ6_bitCount_0f7a4_0 : decode cJ6_bitCount_0f7a4 0 = .ok (.iload_n 0, 1) := by decide +kernel
theorem dJ6_bitCount_0f7a4_1 : decode cJ6_bitCount_0f7a4 1 = .ok (.iload_n 0, 1) := by decide +kernel
theorem dJ6_bitCount_0f7a4_2 : decode cJ6_bitCount_0f7a4 2 = .ok (.iconst 1, 1) := by decide +kernel
theorem dJ6_bitCount_0f7a4_3 : decode cJ6_bitCount_0f7a4 3 = .ok (.iushr, 1) := by decide +kernel
theorem dJ6_bitCount_0f7a4_4 : decode cJ6_bitCount_0f7a4 4 = .ok (.ldc_w 265, 3) := by decide +kernel
theorem dJ6_bitCount_0f7a4_7 : decode cJ6_bitCount_0f7a4 7 = .ok (.iand, 1) := by decide +kernel
theorem dJ6_bitCount_0f7a4_8 : decode cJ6_bitCount_0f7a4 8 = .ok (.isub, 1) := by decide +kernel
theorem dJ6_bitCount_0f7a4_9 : decode cJ6_bitCount_0f7a4 9 = .ok (.istore_n 0, 1) := by decide +kernel
theorem dJ6_bitCount_0f7a4_10 : decode cJ6_bitCount_0f7a4 10 = .ok (.iload_n 0, 1) := by decide +kernel
theorem dJ6_bitCount_0f7a4_11 : decode cJ6_bitCount_0f7a4 11 = .ok (.ldc_w 266, 3) := by decide +kernel
theorem dJ6_bitCount_0f7a4_14 : decode cJ6_bitCount_0f7a4 14 = .ok (.iand, 1) := by decide +kernel
theorem dJ6_bitCount_0f7a4_15 : decode cJ6_bitCount_0f7a4 15 = .ok (.iload_n 0, 1) := by decide +kernel
theorem dJ6_bitCount_0f7a4_16 : decode cJ6_bitCount_0f7a4 16 = .ok (.iconst 2, 1) := by decide +kernel
theorem dJ6_bitCount_0f7a4_17 : decode cJ6_bitCount_0f7a4 17 = .ok (.iushr, 1) := by decide +kernel
theorem dJ6_bitCount_0f7a4_18 : decode cJ6_bitCount_0f7a4 18 = .ok (.ldc_w 266, 3) := by decide +kernel
theorem dJ6_bitCount_0f7a4_21 : decode cJ6_bitCount_0f7a4 21 = .ok (.iand, 1) := by decide +kernel
theorem dJ6_bitCount_0f7a4_22 : decode cJ6_bitCount_0f7a4 22 = .ok (.iadd, 1) := by decide +kernel
theorem dJ6_bitCount_0f7a4_23 : decode cJ6_bitCount_0f7a4 23 = .ok (.istore_n 0, 1) := by decide +kernel
theorem dJ6_bitCount_0f7a4_24 : decode cJ6_bitCount_0f7a4 24 = .ok (.iload_n 0, 1) := by decide +kernel
theorem dJ6_bitCount_0f7a4_25 : decode cJ6_bitCount_0f7a4 25 = .ok (.iload_n 0, 1) := by decide +kernel
theorem dJ6_bitCount_0f7a4_26 : decode cJ6_bitCount_0f7a4 26 = .ok (.iconst 4, 1) := by decide +kernel
theorem dJ6_bitCount_0f7a4_27 : decode cJ6_bitCount_0f7a4 27 = .ok (.iushr, 1) := by decide +kernel
theorem dJ6_bitCount_0f7a4_28 : decode cJ6_bitCount_0f7a4 28 = .ok (.iadd, 1) := by decide +kernel
theorem dJ6_bitCount_0f7a4_29 : decode cJ6_bitCount_0f7a4 29 = .ok (.ldc_w 267, 3) := by decide +kernel
theorem dJ6_bitCount_0f7a4_32 : decode cJ6_bitCount_0f7a4 32 = .ok (.iand, 1) := by decide +kernel
theorem dJ6_bitCount_0f7a4_33 : decode cJ6_bitCount_0f7a4 33 = .ok (.istore_n 0, 1) := by decide +kernel
theorem dJ6_bitCount_0f7a4_34 : decode cJ6_bitCount_0f7a4 34 = .ok (.iload_n 0, 1) := by decide +kernel
theorem dJ6_bitCount_0f7a4_35 : decode cJ6_bitCount_0f7a4 35 = .ok (.iload_n 0, 1) := by decide +kernel
theorem dJ6_bitCount_0f7a4_36 : decode cJ6_bitCount_0f7a4 36 = .ok (.bipush 8, 2) := by decide +kernel
theorem dJ6_bitCount_0f7a4_38 : decode cJ6_bitCount_0f7a4 38 = .ok (.iushr, 1) := by decide +kernel
theorem dJ6_bitCount_0f7a4_39 : decode cJ6_bitCount_0f7a4 39 = .ok (.iadd, 1) := by decide +kernel
theorem dJ6_bitCount_0f7a4_40 : decode cJ6_bitCount_0f7a4 40 = .ok (.istore_n 0, 1) := by decide +kernel
theorem dJ6_bitCount_0f7a4_41 : decode cJ6_bitCount_0f7a4 41 = .ok (.iload_n 0, 1) := by decide +kernel
theorem dJ6_bitCount_0f7a4_42 : decode cJ6_bitCount_0f7a4 42 = .ok (.iload_n 0, 1) := by decide +kernel
theorem dJ6_bitCount_0f7a4_43 : decode cJ6_bitCount_0f7a4 43 = .ok (.bipush 16, 2) := by decide +kernel
theorem dJ6_bitCount_0f7a4_45 : decode cJ6_bitCount_0f7a4 45 = .ok (.iushr, 1) := by decide +kernel
theorem dJ6_bitCount_0f7a4_46 : decode cJ6_bitCount_0f7a4 46 = .ok (.iadd, 1) := by decide +kernel
theorem dJ6_bitCount_0f7a4_47 : decode cJ6_bitCount_0f7a4 47 = .ok (.istore_n 0, 1) := by decide +kernel
theorem dJ6_bitCount_0f7a4_48 : decode cJ6_bitCount_0f7a4 48 = .ok (.iload_n 0, 1) := by decide +kernel
theorem dJ6_bitCount_0f7a4_49 : decode cJ6_bitCount_0f7a4 49 = .ok (.bipush 63, 2) := by decide +kernel
theorem dJ6_bitCount_0f7a4_51 : decode cJ6_bitCount_0f7a4 51 = .ok (.iand, 1) := by decide +kernel
theorem dJ6_bitCount_0f7a4_52 : decode cJ6_bitCount_0f7a4 52 = .ok (.ireturn, 1) := by decide +kernel
theorem dJ9_max_7cf53_0 : decode cJ9_max_7cf53 0 = .ok (.iload_n 0, 1) := by decide +kernel
theorem dJ9_max_7cf53_1 : decode cJ9_max_7cf53 1 = .ok (.iload_n 1, 1) := by decide +kernel
theorem dJ9_max_7cf53_2 : decode cJ9_max_7cf53 2 = .ok (.if_icmp .lt 7, 3) := by decide +kernel
theorem dJ9_max_7cf53_5 : decode cJ9_max_7cf53 5 = .ok (.iload_n 0, 1) := by decide +kernel
theorem dJ9_max_7cf53_6 : decode cJ9_max_7cf53 6 = .ok (.goto 4, 3) := by decide +kernel
theorem dJ9_max_7cf53_9 : decode cJ9_max_7cf53 9 = .ok (.iload_n 1, 1) := by decide +kernel
theorem dJ9_max_7cf53_10 : decode cJ9_max_7cf53 10 = .ok (.ireturn, 1) := by decide +kernel
theorem dL_law_0 : decode cL_law 0 = .ok (.new 7, 3) := by decide +kernel
theorem dL_law_3 : decode cL_law 3 = .ok (.dup, 1) := by decide +kernel
theorem dL_law_4 : decode cL_law 4 = .ok (.invokespecial 9, 3) := by decide +kernel
theorem dL_law_7 : decode cL_law 7 = .ok (.astore_n 1, 1) := by decide +kernel
theorem dL_law_8 : decode cL_law 8 = .ok (.new 10, 3) := by decide +kernel
theorem dL_law_11 : decode cL_law 11 = .ok (.dup, 1) := by decide +kernel
theorem dL_law_12 : decode cL_law 12 = .ok (.invokespecial 12, 3) := by decide +kernel
theorem dL_law_15 : decode cL_law 15 = .ok (.astore_n 2, 1) := by decide +kernel
theorem dL_law_16 : decode cL_law 16 = .ok (.iconst 0, 1) := by decide +kernel
theorem dL_law_17 : decode cL_law 17 = .ok (.istore_n 3, 1) := by decide +kernel
theorem dL_law_18 : decode cL_law 18 = .ok (.iload_n 3, 1) := by decide +kernel
theorem dL_law_19 : decode cL_law 19 = .ok (.aload_n 0, 1) := by decide +kernel
theorem dL_law_20 : decode cL_law 20 = .ok (.arraylength, 1) := by decide +kernel
theorem dL_law_21 : decode cL_law 21 = .ok (.bipush 7, 2) := by decide +kernel
theorem dL_law_23 : decode cL_law 23 = .ok (.isub, 1) := by decide +kernel
theorem dL_law_24 : decode cL_law 24 = .ok (.if_icmp .gt 702, 3) := by decide +kernel
theorem dL_law_27 : decode cL_law 27 = .ok (.aload_n 0, 1) := by decide +kernel
theorem dL_law_28 : decode cL_law 28 = .ok (.iload_n 3, 1) := by decide +kernel
theorem dL_law_29 : decode cL_law 29 = .ok (.iaload, 1) := by decide +kernel
theorem dL_law_30 : decode cL_law 30 = .ok (.bipush 31, 2) := by decide +kernel
theorem dL_law_32 : decode cL_law 32 = .ok (.iand, 1) := by decide +kernel
theorem dL_law_33 : decode cL_law 33 = .ok (.tableswitch 687 0 18 #[91, 114, 127, 140, 153, 176, 229, 282, 321, 354, 397, 430, 453, 486, 509, 552, 575, 650, 673], 91) := by decide +kernel
theorem dL_law_124 : decode cL_law 124 = .ok (.aload_n 1, 1) := by decide +kernel
theorem dL_law_125 : decode cL_law 125 = .ok (.aload_n 0, 1) := by decide +kernel
theorem dL_law_126 : decode cL_law 126 = .ok (.iload_n 3, 1) := by decide +kernel
theorem dL_law_127 : decode cL_law 127 = .ok (.iconst 1, 1) := by decide +kernel
theorem dL_law_128 : decode cL_law 128 = .ok (.iadd, 1) := by decide +kernel
theorem dL_law_129 : decode cL_law 129 = .ok (.iaload, 1) := by decide +kernel
theorem dL_law_130 : decode cL_law 130 = .ok (.invokevirtual 13, 3) := by decide +kernel
theorem dL_law_133 : decode cL_law 133 = .ok (.aload_n 2, 1) := by decide +kernel
theorem dL_law_134 : decode cL_law 134 = .ok (.aload_n 0, 1) := by decide +kernel
theorem dL_law_135 : decode cL_law 135 = .ok (.iload_n 3, 1) := by decide +kernel
theorem dL_law_136 : decode cL_law 136 = .ok (.iconst 1, 1) := by decide +kernel
theorem dL_law_137 : decode cL_law 137 = .ok (.iadd, 1) := by decide +kernel
theorem dL_law_138 : decode cL_law 138 = .ok (.iaload, 1) := by decide +kernel
theorem dL_law_139 : decode cL_law 139 = .ok (.invokevirtual 17, 3) := by decide +kernel
theorem dL_law_142 : decode cL_law 142 = .ok (.if_icmp .eq 578, 3) := by decide +kernel
theorem dL_law_145 : decode cL_law 145 = .ok (.iconst 0, 1) := by decide +kernel
theorem dL_law_146 : decode cL_law 146 = .ok (.ireturn, 1) := by decide +kernel
theorem dL_law_147 : decode cL_law 147 = .ok (.aload_n 1, 1) := by decide +kernel
theorem dL_law_148 : decode cL_law 148 = .ok (.invokevirtual 18, 3) := by decide +kernel
theorem dL_law_151 : decode cL_law 151 = .ok (.aload_n 2, 1) := by decide +kernel
theorem dL_law_152 : decode cL_law 152 = .ok (.invokevirtual 22, 3) := by decide +kernel
theorem dL_law_155 : decode cL_law 155 = .ok (.if_icmp .eq 565, 3) := by decide +kernel
theorem dL_law_158 : decode cL_law 158 = .ok (.iconst 0, 1) := by decide +kernel
theorem dL_law_159 : decode cL_law 159 = .ok (.ireturn, 1) := by decide +kernel
theorem dL_law_160 : decode cL_law 160 = .ok (.aload_n 1, 1) := by decide +kernel
theorem dL_law_161 : decode cL_law 161 = .ok (.invokevirtual 23, 3) := by decide +kernel
theorem dL_law_164 : decode cL_law 164 = .ok (.aload_n 2, 1) := by decide +kernel
theorem dL_law_165 : decode cL_law 165 = .ok (.invokevirtual 26, 3) := by decide +kernel
theorem dL_law_168 : decode cL_law 168 = .ok (.if_icmp .eq 552, 3) := by decide +kernel
theorem dL_law_171 : decode cL_law 171 = .ok (.iconst 0, 1) := by decide +kernel
theorem dL_law_172 : decode cL_law 172 = .ok (.ireturn, 1) := by decide +kernel
theorem dL_law_173 : decode cL_law 173 = .ok (.aload_n 1, 1) := by decide +kernel
theorem dL_law_174 : decode cL_law 174 = .ok (.invokevirtual 27, 3) := by decide +kernel
theorem dL_law_177 : decode cL_law 177 = .ok (.aload_n 2, 1) := by decide +kernel
theorem dL_law_178 : decode cL_law 178 = .ok (.invokevirtual 30, 3) := by decide +kernel
theorem dL_law_181 : decode cL_law 181 = .ok (.if_icmp .eq 539, 3) := by decide +kernel
theorem dL_law_184 : decode cL_law 184 = .ok (.iconst 0, 1) := by decide +kernel
theorem dL_law_185 : decode cL_law 185 = .ok (.ireturn, 1) := by decide +kernel
theorem dL_law_186 : decode cL_law 186 = .ok (.aload_n 1, 1) := by decide +kernel
theorem dL_law_187 : decode cL_law 187 = .ok (.aload_n 0, 1) := by decide +kernel
theorem dL_law_188 : decode cL_law 188 = .ok (.iload_n 3, 1) := by decide +kernel
theorem dL_law_189 : decode cL_law 189 = .ok (.iconst 1, 1) := by decide +kernel
theorem dL_law_190 : decode cL_law 190 = .ok (.iadd, 1) := by decide +kernel
theorem dL_law_191 : decode cL_law 191 = .ok (.iaload, 1) := by decide +kernel
theorem dL_law_192 : decode cL_law 192 = .ok (.invokevirtual 31, 3) := by decide +kernel
theorem dL_law_195 : decode cL_law 195 = .ok (.aload_n 2, 1) := by decide +kernel
theorem dL_law_196 : decode cL_law 196 = .ok (.aload_n 0, 1) := by decide +kernel
theorem dL_law_197 : decode cL_law 197 = .ok (.iload_n 3, 1) := by decide +kernel
theorem dL_law_198 : decode cL_law 198 = .ok (.iconst 1, 1) := by decide +kernel
theorem dL_law_199 : decode cL_law 199 = .ok (.iadd, 1) := by decide +kernel
theorem dL_law_200 : decode cL_law 200 = .ok (.iaload, 1) := by decide +kernel
theorem dL_law_201 : decode cL_law 201 = .ok (.invokevirtual 34, 3) := by decide +kernel
theorem dL_law_204 : decode cL_law 204 = .ok (.if_icmp .eq 516, 3) := by decide +kernel
theorem dL_law_207 : decode cL_law 207 = .ok (.iconst 0, 1) := by decide +kernel
theorem dL_law_208 : decode cL_law 208 = .ok (.ireturn, 1) := by decide +kernel
theorem dL_law_209 : decode cL_law 209 = .ok (.aload_n 1, 1) := by decide +kernel
theorem dL_law_210 : decode cL_law 210 = .ok (.aload_n 0, 1) := by decide +kernel
theorem dL_law_211 : decode cL_law 211 = .ok (.iload_n 3, 1) := by decide +kernel
theorem dL_law_212 : decode cL_law 212 = .ok (.iconst 1, 1) := by decide +kernel
theorem dL_law_213 : decode cL_law 213 = .ok (.iadd, 1) := by decide +kernel
theorem dL_law_214 : decode cL_law 214 = .ok (.iaload, 1) := by decide +kernel
theorem dL_law_215 : decode cL_law 215 = .ok (.aload_n 0, 1) := by decide +kernel
theorem dL_law_216 : decode cL_law 216 = .ok (.iload_n 3, 1) := by decide +kernel
theorem dL_law_217 : decode cL_law 217 = .ok (.iconst 2, 1) := by decide +kernel
theorem dL_law_218 : decode cL_law 218 = .ok (.iadd, 1) := by decide +kernel
theorem dL_law_219 : decode cL_law 219 = .ok (.iaload, 1) := by decide +kernel
theorem dL_law_220 : decode cL_law 220 = .ok (.aload_n 0, 1) := by decide +kernel
theorem dL_law_221 : decode cL_law 221 = .ok (.iload_n 3, 1) := by decide +kernel
theorem dL_law_222 : decode cL_law 222 = .ok (.iconst 3, 1) := by decide +kernel
theorem dL_law_223 : decode cL_law 223 = .ok (.iadd, 1) := by decide +kernel
theorem dL_law_224 : decode cL_law 224 = .ok (.iaload, 1) := by decide +kernel
theorem dL_law_225 : decode cL_law 225 = .ok (.aload_n 0, 1) := by decide +kernel
theorem dL_law_226 : decode cL_law 226 = .ok (.iload_n 3, 1) := by decide +kernel
theorem dL_law_227 : decode cL_law 227 = .ok (.iconst 4, 1) := by decide +kernel
theorem dL_law_228 : decode cL_law 228 = .ok (.iadd, 1) := by decide +kernel
theorem dL_law_229 : decode cL_law 229 = .ok (.iaload, 1) := by decide +kernel
theorem dL_law_230 : decode cL_law 230 = .ok (.invokevirtual 35, 3) := by decide +kernel
theorem dL_law_233 : decode cL_law 233 = .ok (.aload_n 2, 1) := by decide +kernel
theorem dL_law_234 : decode cL_law 234 = .ok (.aload_n 0, 1) := by decide +kernel
theorem dL_law_235 : decode cL_law 235 = .ok (.iload_n 3, 1) := by decide +kernel
theorem dL_law_236 : decode cL_law 236 = .ok (.iconst 1, 1) := by decide +kernel
theorem dL_law_237 : decode cL_law 237 = .ok (.iadd, 1) := by decide +kernel
theorem dL_law_238 : decode cL_law 238 = .ok (.iaload, 1) := by decide +kernel
theorem dL_law_239 : decode cL_law 239 = .ok (.aload_n 0, 1) := by decide +kernel
theorem dL_law_240 : decode cL_law 240 = .ok (.iload_n 3, 1) := by decide +kernel
theorem dL_law_241 : decode cL_law 241 = .ok (.iconst 2, 1) := by decide +kernel
theorem dL_law_242 : decode cL_law 242 = .ok (.iadd, 1) := by decide +kernel
theorem dL_law_243 : decode cL_law 243 = .ok (.iaload, 1) := by decide +kernel
theorem dL_law_244 : decode cL_law 244 = .ok (.aload_n 0, 1) := by decide +kernel
theorem dL_law_245 : decode cL_law 245 = .ok (.iload_n 3, 1) := by decide +kernel
theorem dL_law_246 : decode cL_law 246 = .ok (.iconst 3, 1) := by decide +kernel
theorem dL_law_247 : decode cL_law 247 = .ok (.iadd, 1) := by decide +kernel
theorem dL_law_248 : decode cL_law 248 = .ok (.iaload, 1) := by decide +kernel
theorem dL_law_249 : decode cL_law 249 = .ok (.aload_n 0, 1) := by decide +kernel
theorem dL_law_250 : decode cL_law 250 = .ok (.iload_n 3, 1) := by decide +kernel
theorem dL_law_251 : decode cL_law 251 = .ok (.iconst 4, 1) := by decide +kernel
theorem dL_law_252 : decode cL_law 252 = .ok (.iadd, 1) := by decide +kernel
theorem dL_law_253 : decode cL_law 253 = .ok (.iaload, 1) := by decide +kernel
theorem dL_law_254 : decode cL_law 254 = .ok (.invokevirtual 39, 3) := by decide +kernel
theorem dL_law_257 : decode cL_law 257 = .ok (.if_icmp .eq 463, 3) := by decide +kernel
theorem dL_law_260 : decode cL_law 260 = .ok (.iconst 0, 1) := by decide +kernel
theorem dL_law_261 : decode cL_law 261 = .ok (.ireturn, 1) := by decide +kernel
theorem dL_law_262 : decode cL_law 262 = .ok (.aload_n 1, 1) := by decide +kernel
theorem dL_law_263 : decode cL_law 263 = .ok (.aload_n 0, 1) := by decide +kernel
theorem dL_law_264 : decode cL_law 264 = .ok (.iload_n 3, 1) := by decide +kernel
theorem dL_law_265 : decode cL_law 265 = .ok (.iconst 1, 1) := by decide +kernel
theorem dL_law_266 : decode cL_law 266 = .ok (.iadd, 1) := by decide +kernel
theorem dL_law_267 : decode cL_law 267 = .ok (.iaload, 1) := by decide +kernel
theorem dL_law_268 : decode cL_law 268 = .ok (.aload_n 0, 1) := by decide +kernel
theorem dL_law_269 : decode cL_law 269 = .ok (.iload_n 3, 1) := by decide +kernel
theorem dL_law_270 : decode cL_law 270 = .ok (.iconst 2, 1) := by decide +kernel
theorem dL_law_271 : decode cL_law 271 = .ok (.iadd, 1) := by decide +kernel
theorem dL_law_272 : decode cL_law 272 = .ok (.iaload, 1) := by decide +kernel
theorem dL_law_273 : decode cL_law 273 = .ok (.aload_n 0, 1) := by decide +kernel
theorem dL_law_274 : decode cL_law 274 = .ok (.iload_n 3, 1) := by decide +kernel
theorem dL_law_275 : decode cL_law 275 = .ok (.iconst 3, 1) := by decide +kernel
theorem dL_law_276 : decode cL_law 276 = .ok (.iadd, 1) := by decide +kernel
theorem dL_law_277 : decode cL_law 277 = .ok (.iaload, 1) := by decide +kernel
theorem dL_law_278 : decode cL_law 278 = .ok (.aload_n 0, 1) := by decide +kernel
theorem dL_law_279 : decode cL_law 279 = .ok (.iload_n 3, 1) := by decide +kernel
theorem dL_law_280 : decode cL_law 280 = .ok (.iconst 4, 1) := by decide +kernel
theorem dL_law_281 : decode cL_law 281 = .ok (.iadd, 1) := by decide +kernel
theorem dL_law_282 : decode cL_law 282 = .ok (.iaload, 1) := by decide +kernel
theorem dL_law_283 : decode cL_law 283 = .ok (.invokevirtual 40, 3) := by decide +kernel
theorem dL_law_286 : decode cL_law 286 = .ok (.aload_n 2, 1) := by decide +kernel
theorem dL_law_287 : decode cL_law 287 = .ok (.aload_n 0, 1) := by decide +kernel
theorem dL_law_288 : decode cL_law 288 = .ok (.iload_n 3, 1) := by decide +kernel
theorem dL_law_289 : decode cL_law 289 = .ok (.iconst 1, 1) := by decide +kernel
theorem dL_law_290 : decode cL_law 290 = .ok (.iadd, 1) := by decide +kernel
theorem dL_law_291 : decode cL_law 291 = .ok (.iaload, 1) := by decide +kernel
theorem dL_law_292 : decode cL_law 292 = .ok (.aload_n 0, 1) := by decide +kernel
theorem dL_law_293 : decode cL_law 293 = .ok (.iload_n 3, 1) := by decide +kernel
theorem dL_law_294 : decode cL_law 294 = .ok (.iconst 2, 1) := by decide +kernel
theorem dL_law_295 : decode cL_law 295 = .ok (.iadd, 1) := by decide +kernel
theorem dL_law_296 : decode cL_law 296 = .ok (.iaload, 1) := by decide +kernel
theorem dL_law_297 : decode cL_law 297 = .ok (.aload_n 0, 1) := by decide +kernel
theorem dL_law_298 : decode cL_law 298 = .ok (.iload_n 3, 1) := by decide +kernel
theorem dL_law_299 : decode cL_law 299 = .ok (.iconst 3, 1) := by decide +kernel
theorem dL_law_300 : decode cL_law 300 = .ok (.iadd, 1) := by decide +kernel
theorem dL_law_301 : decode cL_law 301 = .ok (.iaload, 1) := by decide +kernel
theorem dL_law_302 : decode cL_law 302 = .ok (.aload_n 0, 1) := by decide +kernel
theorem dL_law_303 : decode cL_law 303 = .ok (.iload_n 3, 1) := by decide +kernel
theorem dL_law_304 : decode cL_law 304 = .ok (.iconst 4, 1) := by decide +kernel
theorem dL_law_305 : decode cL_law 305 = .ok (.iadd, 1) := by decide +kernel
theorem dL_law_306 : decode cL_law 306 = .ok (.iaload, 1) := by decide +kernel
theorem dL_law_307 : decode cL_law 307 = .ok (.invokevirtual 43, 3) := by decide +kernel
theorem dL_law_310 : decode cL_law 310 = .ok (.if_icmp .eq 410, 3) := by decide +kernel
theorem dL_law_313 : decode cL_law 313 = .ok (.iconst 0, 1) := by decide +kernel
theorem dL_law_314 : decode cL_law 314 = .ok (.ireturn, 1) := by decide +kernel
theorem dL_law_315 : decode cL_law 315 = .ok (.aload_n 1, 1) := by decide +kernel
theorem dL_law_316 : decode cL_law 316 = .ok (.aload_n 0, 1) := by decide +kernel
theorem dL_law_317 : decode cL_law 317 = .ok (.iload_n 3, 1) := by decide +kernel
theorem dL_law_318 : decode cL_law 318 = .ok (.iconst 1, 1) := by decide +kernel
theorem dL_law_319 : decode cL_law 319 = .ok (.iadd, 1) := by decide +kernel
theorem dL_law_320 : decode cL_law 320 = .ok (.iaload, 1) := by decide +kernel
theorem dL_law_321 : decode cL_law 321 = .ok (.ifCond .eq 7, 3) := by decide +kernel
theorem dL_law_324 : decode cL_law 324 = .ok (.iconst 1, 1) := by decide +kernel
theorem dL_law_325 : decode cL_law 325 = .ok (.goto 4, 3) := by decide +kernel
theorem dL_law_328 : decode cL_law 328 = .ok (.iconst 0, 1) := by decide +kernel
theorem dL_law_329 : decode cL_law 329 = .ok (.invokevirtual 44, 3) := by decide +kernel
theorem dL_law_332 : decode cL_law 332 = .ok (.aload_n 2, 1) := by decide +kernel
theorem dL_law_333 : decode cL_law 333 = .ok (.aload_n 0, 1) := by decide +kernel
theorem dL_law_334 : decode cL_law 334 = .ok (.iload_n 3, 1) := by decide +kernel
theorem dL_law_335 : decode cL_law 335 = .ok (.iconst 1, 1) := by decide +kernel
theorem dL_law_336 : decode cL_law 336 = .ok (.iadd, 1) := by decide +kernel
theorem dL_law_337 : decode cL_law 337 = .ok (.iaload, 1) := by decide +kernel
theorem dL_law_338 : decode cL_law 338 = .ok (.ifCond .eq 7, 3) := by decide +kernel
theorem dL_law_341 : decode cL_law 341 = .ok (.iconst 1, 1) := by decide +kernel
theorem dL_law_342 : decode cL_law 342 = .ok (.goto 4, 3) := by decide +kernel
theorem dL_law_345 : decode cL_law 345 = .ok (.iconst 0, 1) := by decide +kernel
theorem dL_law_346 : decode cL_law 346 = .ok (.invokevirtual 48, 3) := by decide +kernel
theorem dL_law_349 : decode cL_law 349 = .ok (.if_icmp .eq 371, 3) := by decide +kernel
theorem dL_law_352 : decode cL_law 352 = .ok (.iconst 0, 1) := by decide +kernel
theorem dL_law_353 : decode cL_law 353 = .ok (.ireturn, 1) := by decide +kernel
theorem dL_law_354 : decode cL_law 354 = .ok (.aload_n 1, 1) := by decide +kernel
theorem dL_law_355 : decode cL_law 355 = .ok (.aload_n 0, 1) := by decide +kernel
theorem dL_law_356 : decode cL_law 356 = .ok (.iload_n 3, 1) := by decide +kernel
theorem dL_law_357 : decode cL_law 357 = .ok (.iconst 1, 1) := by decide +kernel
theorem dL_law_358 : decode cL_law 358 = .ok (.iadd, 1) := by decide +kernel
theorem dL_law_359 : decode cL_law 359 = .ok (.iaload, 1) := by decide +kernel
theorem dL_law_360 : decode cL_law 360 = .ok (.aload_n 0, 1) := by decide +kernel
theorem dL_law_361 : decode cL_law 361 = .ok (.iload_n 3, 1) := by decide +kernel
theorem dL_law_362 : decode cL_law 362 = .ok (.iconst 2, 1) := by decide +kernel
theorem dL_law_363 : decode cL_law 363 = .ok (.iadd, 1) := by decide +kernel
theorem dL_law_364 : decode cL_law 364 = .ok (.iaload, 1) := by decide +kernel
theorem dL_law_365 : decode cL_law 365 = .ok (.invokevirtual 49, 3) := by decide +kernel
theorem dL_law_368 : decode cL_law 368 = .ok (.aload_n 2, 1) := by decide +kernel
theorem dL_law_369 : decode cL_law 369 = .ok (.aload_n 0, 1) := by decide +kernel
theorem dL_law_370 : decode cL_law 370 = .ok (.iload_n 3, 1) := by decide +kernel
theorem dL_law_371 : decode cL_law 371 = .ok (.iconst 1, 1) := by decide +kernel
theorem dL_law_372 : decode cL_law 372 = .ok (.iadd, 1) := by decide +kernel
theorem dL_law_373 : decode cL_law 373 = .ok (.iaload, 1) := by decide +kernel
theorem dL_law_374 : decode cL_law 374 = .ok (.aload_n 0, 1) := by decide +kernel
theorem dL_law_375 : decode cL_law 375 = .ok (.iload_n 3, 1) := by decide +kernel
theorem dL_law_376 : decode cL_law 376 = .ok (.iconst 2, 1) := by decide +kernel
theorem dL_law_377 : decode cL_law 377 = .ok (.iadd, 1) := by decide +kernel
theorem dL_law_378 : decode cL_law 378 = .ok (.iaload, 1) := by decide +kernel
theorem dL_law_379 : decode cL_law 379 = .ok (.invokevirtual 53, 3) := by decide +kernel
theorem dL_law_382 : decode cL_law 382 = .ok (.if_icmp .eq 338, 3) := by decide +kernel
theorem dL_law_385 : decode cL_law 385 = .ok (.iconst 0, 1) := by decide +kernel
theorem dL_law_386 : decode cL_law 386 = .ok (.ireturn, 1) := by decide +kernel
theorem dL_law_387 : decode cL_law 387 = .ok (.aload_n 1, 1) := by decide +kernel
theorem dL_law_388 : decode cL_law 388 = .ok (.aload_n 0, 1) := by decide +kernel
theorem dL_law_389 : decode cL_law 389 = .ok (.iload_n 3, 1) := by decide +kernel
theorem dL_law_390 : decode cL_law 390 = .ok (.iconst 1, 1) := by decide +kernel
theorem dL_law_391 : decode cL_law 391 = .ok (.iadd, 1) := by decide +kernel
theorem dL_law_392 : decode cL_law 392 = .ok (.iaload, 1) := by decide +kernel
theorem dL_law_393 : decode cL_law 393 = .ok (.aload_n 0, 1) := by decide +kernel
theorem dL_law_394 : decode cL_law 394 = .ok (.iload_n 3, 1) := by decide +kernel
theorem dL_law_395 : decode cL_law 395 = .ok (.iconst 2, 1) := by decide +kernel
theorem dL_law_396 : decode cL_law 396 = .ok (.iadd, 1) := by decide +kernel
theorem dL_law_397 : decode cL_law 397 = .ok (.iaload, 1) := by decide +kernel
theorem dL_law_398 : decode cL_law 398 = .ok (.aload_n 0, 1) := by decide +kernel
theorem dL_law_399 : decode cL_law 399 = .ok (.iload_n 3, 1) := by decide +kernel
theorem dL_law_400 : decode cL_law 400 = .ok (.iconst 3, 1) := by decide +kernel
theorem dL_law_401 : decode cL_law 401 = .ok (.iadd, 1) := by decide +kernel
theorem dL_law_402 : decode cL_law 402 = .ok (.iaload, 1) := by decide +kernel
theorem dL_law_403 : decode cL_law 403 = .ok (.invokevirtual 54, 3) := by decide +kernel
theorem dL_law_406 : decode cL_law 406 = .ok (.aload_n 2, 1) := by decide +kernel
theorem dL_law_407 : decode cL_law 407 = .ok (.aload_n 0, 1) := by decide +kernel
theorem dL_law_408 : decode cL_law 408 = .ok (.iload_n 3, 1) := by decide +kernel
theorem dL_law_409 : decode cL_law 409 = .ok (.iconst 1, 1) := by decide +kernel
theorem dL_law_410 : decode cL_law 410 = .ok (.iadd, 1) := by decide +kernel
theorem dL_law_411 : decode cL_law 411 = .ok (.iaload, 1) := by decide +kernel
theorem dL_law_412 : decode cL_law 412 = .ok (.aload_n 0, 1) := by decide +kernel
theorem dL_law_413 : decode cL_law 413 = .ok (.iload_n 3, 1) := by decide +kernel
theorem dL_law_414 : decode cL_law 414 = .ok (.iconst 2, 1) := by decide +kernel
theorem dL_law_415 : decode cL_law 415 = .ok (.iadd, 1) := by decide +kernel
theorem dL_law_416 : decode cL_law 416 = .ok (.iaload, 1) := by decide +kernel
theorem dL_law_417 : decode cL_law 417 = .ok (.aload_n 0, 1) := by decide +kernel
theorem dL_law_418 : decode cL_law 418 = .ok (.iload_n 3, 1) := by decide +kernel
theorem dL_law_419 : decode cL_law 419 = .ok (.iconst 3, 1) := by decide +kernel
theorem dL_law_420 : decode cL_law 420 = .ok (.iadd, 1) := by decide +kernel
theorem dL_law_421 : decode cL_law 421 = .ok (.iaload, 1) := by decide +kernel
theorem dL_law_422 : decode cL_law 422 = .ok (.invokevirtual 58, 3) := by decide +kernel
theorem dL_law_425 : decode cL_law 425 = .ok (.if_icmp .eq 295, 3) := by decide +kernel
theorem dL_law_428 : decode cL_law 428 = .ok (.iconst 0, 1) := by decide +kernel
theorem dL_law_429 : decode cL_law 429 = .ok (.ireturn, 1) := by decide +kernel
theorem dL_law_430 : decode cL_law 430 = .ok (.aload_n 1, 1) := by decide +kernel
theorem dL_law_431 : decode cL_law 431 = .ok (.aload_n 0, 1) := by decide +kernel
theorem dL_law_432 : decode cL_law 432 = .ok (.iload_n 3, 1) := by decide +kernel
theorem dL_law_433 : decode cL_law 433 = .ok (.iconst 1, 1) := by decide +kernel
theorem dL_law_434 : decode cL_law 434 = .ok (.iadd, 1) := by decide +kernel
theorem dL_law_435 : decode cL_law 435 = .ok (.iaload, 1) := by decide +kernel
theorem dL_law_436 : decode cL_law 436 = .ok (.aload_n 0, 1) := by decide +kernel
theorem dL_law_437 : decode cL_law 437 = .ok (.iload_n 3, 1) := by decide +kernel
theorem dL_law_438 : decode cL_law 438 = .ok (.iconst 2, 1) := by decide +kernel
theorem dL_law_439 : decode cL_law 439 = .ok (.iadd, 1) := by decide +kernel
theorem dL_law_440 : decode cL_law 440 = .ok (.iaload, 1) := by decide +kernel
theorem dL_law_441 : decode cL_law 441 = .ok (.invokevirtual 59, 3) := by decide +kernel
theorem dL_law_444 : decode cL_law 444 = .ok (.aload_n 2, 1) := by decide +kernel
theorem dL_law_445 : decode cL_law 445 = .ok (.aload_n 0, 1) := by decide +kernel
theorem dL_law_446 : decode cL_law 446 = .ok (.iload_n 3, 1) := by decide +kernel
theorem dL_law_447 : decode cL_law 447 = .ok (.iconst 1, 1) := by decide +kernel
theorem dL_law_448 : decode cL_law 448 = .ok (.iadd, 1) := by decide +kernel
theorem dL_law_449 : decode cL_law 449 = .ok (.iaload, 1) := by decide +kernel
theorem dL_law_450 : decode cL_law 450 = .ok (.aload_n 0, 1) := by decide +kernel
theorem dL_law_451 : decode cL_law 451 = .ok (.iload_n 3, 1) := by decide +kernel
theorem dL_law_452 : decode cL_law 452 = .ok (.iconst 2, 1) := by decide +kernel
theorem dL_law_453 : decode cL_law 453 = .ok (.iadd, 1) := by decide +kernel
theorem dL_law_454 : decode cL_law 454 = .ok (.iaload, 1) := by decide +kernel
theorem dL_law_455 : decode cL_law 455 = .ok (.invokevirtual 62, 3) := by decide +kernel
theorem dL_law_458 : decode cL_law 458 = .ok (.if_icmp .eq 262, 3) := by decide +kernel
theorem dL_law_461 : decode cL_law 461 = .ok (.iconst 0, 1) := by decide +kernel
theorem dL_law_462 : decode cL_law 462 = .ok (.ireturn, 1) := by decide +kernel
theorem dL_law_463 : decode cL_law 463 = .ok (.aload_n 1, 1) := by decide +kernel
theorem dL_law_464 : decode cL_law 464 = .ok (.aload_n 0, 1) := by decide +kernel
theorem dL_law_465 : decode cL_law 465 = .ok (.iload_n 3, 1) := by decide +kernel
theorem dL_law_466 : decode cL_law 466 = .ok (.iconst 1, 1) := by decide +kernel
theorem dL_law_467 : decode cL_law 467 = .ok (.iadd, 1) := by decide +kernel
theorem dL_law_468 : decode cL_law 468 = .ok (.iaload, 1) := by decide +kernel
theorem dL_law_469 : decode cL_law 469 = .ok (.invokevirtual 63, 3) := by decide +kernel
theorem dL_law_472 : decode cL_law 472 = .ok (.aload_n 2, 1) := by decide +kernel
theorem dL_law_473 : decode cL_law 473 = .ok (.aload_n 0, 1) := by decide +kernel
theorem dL_law_474 : decode cL_law 474 = .ok (.iload_n 3, 1) := by decide +kernel
theorem dL_law_475 : decode cL_law 475 = .ok (.iconst 1, 1) := by decide +kernel
theorem dL_law_476 : decode cL_law 476 = .ok (.iadd, 1) := by decide +kernel
theorem dL_law_477 : decode cL_law 477 = .ok (.iaload, 1) := by decide +kernel
theorem dL_law_478 : decode cL_law 478 = .ok (.invokevirtual 66, 3) := by decide +kernel
theorem dL_law_481 : decode cL_law 481 = .ok (.if_icmp .eq 239, 3) := by decide +kernel
theorem dL_law_484 : decode cL_law 484 = .ok (.iconst 0, 1) := by decide +kernel
theorem dL_law_485 : decode cL_law 485 = .ok (.ireturn, 1) := by decide +kernel
theorem dL_law_486 : decode cL_law 486 = .ok (.aload_n 1, 1) := by decide +kernel
theorem dL_law_487 : decode cL_law 487 = .ok (.aload_n 0, 1) := by decide +kernel
theorem dL_law_488 : decode cL_law 488 = .ok (.iload_n 3, 1) := by decide +kernel
theorem dL_law_489 : decode cL_law 489 = .ok (.iconst 1, 1) := by decide +kernel
theorem dL_law_490 : decode cL_law 490 = .ok (.iadd, 1) := by decide +kernel
theorem dL_law_491 : decode cL_law 491 = .ok (.iaload, 1) := by decide +kernel
theorem dL_law_492 : decode cL_law 492 = .ok (.aload_n 0, 1) := by decide +kernel
theorem dL_law_493 : decode cL_law 493 = .ok (.iload_n 3, 1) := by decide +kernel
theorem dL_law_494 : decode cL_law 494 = .ok (.iconst 2, 1) := by decide +kernel
theorem dL_law_495 : decode cL_law 495 = .ok (.iadd, 1) := by decide +kernel
theorem dL_law_496 : decode cL_law 496 = .ok (.iaload, 1) := by decide +kernel
theorem dL_law_497 : decode cL_law 497 = .ok (.invokevirtual 67, 3) := by decide +kernel
theorem dL_law_500 : decode cL_law 500 = .ok (.aload_n 2, 1) := by decide +kernel
theorem dL_law_501 : decode cL_law 501 = .ok (.aload_n 0, 1) := by decide +kernel
theorem dL_law_502 : decode cL_law 502 = .ok (.iload_n 3, 1) := by decide +kernel
theorem dL_law_503 : decode cL_law 503 = .ok (.iconst 1, 1) := by decide +kernel
theorem dL_law_504 : decode cL_law 504 = .ok (.iadd, 1) := by decide +kernel
theorem dL_law_505 : decode cL_law 505 = .ok (.iaload, 1) := by decide +kernel
theorem dL_law_506 : decode cL_law 506 = .ok (.aload_n 0, 1) := by decide +kernel
theorem dL_law_507 : decode cL_law 507 = .ok (.iload_n 3, 1) := by decide +kernel
theorem dL_law_508 : decode cL_law 508 = .ok (.iconst 2, 1) := by decide +kernel
theorem dL_law_509 : decode cL_law 509 = .ok (.iadd, 1) := by decide +kernel
theorem dL_law_510 : decode cL_law 510 = .ok (.iaload, 1) := by decide +kernel
theorem dL_law_511 : decode cL_law 511 = .ok (.invokevirtual 70, 3) := by decide +kernel
theorem dL_law_514 : decode cL_law 514 = .ok (.if_icmp .eq 206, 3) := by decide +kernel
theorem dL_law_517 : decode cL_law 517 = .ok (.iconst 0, 1) := by decide +kernel
theorem dL_law_518 : decode cL_law 518 = .ok (.ireturn, 1) := by decide +kernel
theorem dL_law_519 : decode cL_law 519 = .ok (.aload_n 1, 1) := by decide +kernel
theorem dL_law_520 : decode cL_law 520 = .ok (.aload_n 0, 1) := by decide +kernel
theorem dL_law_521 : decode cL_law 521 = .ok (.iload_n 3, 1) := by decide +kernel
theorem dL_law_522 : decode cL_law 522 = .ok (.iconst 1, 1) := by decide +kernel
theorem dL_law_523 : decode cL_law 523 = .ok (.iadd, 1) := by decide +kernel
theorem dL_law_524 : decode cL_law 524 = .ok (.iaload, 1) := by decide +kernel
theorem dL_law_525 : decode cL_law 525 = .ok (.invokevirtual 71, 3) := by decide +kernel
theorem dL_law_528 : decode cL_law 528 = .ok (.aload_n 2, 1) := by decide +kernel
theorem dL_law_529 : decode cL_law 529 = .ok (.aload_n 0, 1) := by decide +kernel
theorem dL_law_530 : decode cL_law 530 = .ok (.iload_n 3, 1) := by decide +kernel
theorem dL_law_531 : decode cL_law 531 = .ok (.iconst 1, 1) := by decide +kernel
theorem dL_law_532 : decode cL_law 532 = .ok (.iadd, 1) := by decide +kernel
theorem dL_law_533 : decode cL_law 533 = .ok (.iaload, 1) := by decide +kernel
theorem dL_law_534 : decode cL_law 534 = .ok (.invokevirtual 74, 3) := by decide +kernel
theorem dL_law_537 : decode cL_law 537 = .ok (.if_icmp .eq 183, 3) := by decide +kernel
theorem dL_law_540 : decode cL_law 540 = .ok (.iconst 0, 1) := by decide +kernel
theorem dL_law_541 : decode cL_law 541 = .ok (.ireturn, 1) := by decide +kernel
theorem dL_law_542 : decode cL_law 542 = .ok (.aload_n 1, 1) := by decide +kernel
theorem dL_law_543 : decode cL_law 543 = .ok (.aload_n 0, 1) := by decide +kernel
theorem dL_law_544 : decode cL_law 544 = .ok (.iload_n 3, 1) := by decide +kernel
theorem dL_law_545 : decode cL_law 545 = .ok (.iconst 1, 1) := by decide +kernel
theorem dL_law_546 : decode cL_law 546 = .ok (.iadd, 1) := by decide +kernel
theorem dL_law_547 : decode cL_law 547 = .ok (.iaload, 1) := by decide +kernel
theorem dL_law_548 : decode cL_law 548 = .ok (.aload_n 0, 1) := by decide +kernel
theorem dL_law_549 : decode cL_law 549 = .ok (.iload_n 3, 1) := by decide +kernel
theorem dL_law_550 : decode cL_law 550 = .ok (.iconst 2, 1) := by decide +kernel
theorem dL_law_551 : decode cL_law 551 = .ok (.iadd, 1) := by decide +kernel
theorem dL_law_552 : decode cL_law 552 = .ok (.iaload, 1) := by decide +kernel
theorem dL_law_553 : decode cL_law 553 = .ok (.aload_n 0, 1) := by decide +kernel
theorem dL_law_554 : decode cL_law 554 = .ok (.iload_n 3, 1) := by decide +kernel
theorem dL_law_555 : decode cL_law 555 = .ok (.iconst 3, 1) := by decide +kernel
theorem dL_law_556 : decode cL_law 556 = .ok (.iadd, 1) := by decide +kernel
theorem dL_law_557 : decode cL_law 557 = .ok (.iaload, 1) := by decide +kernel
theorem dL_law_558 : decode cL_law 558 = .ok (.invokevirtual 75, 3) := by decide +kernel
theorem dL_law_561 : decode cL_law 561 = .ok (.aload_n 2, 1) := by decide +kernel
theorem dL_law_562 : decode cL_law 562 = .ok (.aload_n 0, 1) := by decide +kernel
theorem dL_law_563 : decode cL_law 563 = .ok (.iload_n 3, 1) := by decide +kernel
theorem dL_law_564 : decode cL_law 564 = .ok (.iconst 1, 1) := by decide +kernel
theorem dL_law_565 : decode cL_law 565 = .ok (.iadd, 1) := by decide +kernel
theorem dL_law_566 : decode cL_law 566 = .ok (.iaload, 1) := by decide +kernel
theorem dL_law_567 : decode cL_law 567 = .ok (.aload_n 0, 1) := by decide +kernel
theorem dL_law_568 : decode cL_law 568 = .ok (.iload_n 3, 1) := by decide +kernel
theorem dL_law_569 : decode cL_law 569 = .ok (.iconst 2, 1) := by decide +kernel
theorem dL_law_570 : decode cL_law 570 = .ok (.iadd, 1) := by decide +kernel
theorem dL_law_571 : decode cL_law 571 = .ok (.iaload, 1) := by decide +kernel
theorem dL_law_572 : decode cL_law 572 = .ok (.aload_n 0, 1) := by decide +kernel
theorem dL_law_573 : decode cL_law 573 = .ok (.iload_n 3, 1) := by decide +kernel
theorem dL_law_574 : decode cL_law 574 = .ok (.iconst 3, 1) := by decide +kernel
theorem dL_law_575 : decode cL_law 575 = .ok (.iadd, 1) := by decide +kernel
theorem dL_law_576 : decode cL_law 576 = .ok (.iaload, 1) := by decide +kernel
theorem dL_law_577 : decode cL_law 577 = .ok (.invokevirtual 78, 3) := by decide +kernel
theorem dL_law_580 : decode cL_law 580 = .ok (.if_icmp .eq 140, 3) := by decide +kernel
theorem dL_law_583 : decode cL_law 583 = .ok (.iconst 0, 1) := by decide +kernel
theorem dL_law_584 : decode cL_law 584 = .ok (.ireturn, 1) := by decide +kernel
theorem dL_law_585 : decode cL_law 585 = .ok (.aload_n 1, 1) := by decide +kernel
theorem dL_law_586 : decode cL_law 586 = .ok (.aload_n 0, 1) := by decide +kernel
theorem dL_law_587 : decode cL_law 587 = .ok (.iload_n 3, 1) := by decide +kernel
theorem dL_law_588 : decode cL_law 588 = .ok (.iconst 1, 1) := by decide +kernel
theorem dL_law_589 : decode cL_law 589 = .ok (.iadd, 1) := by decide +kernel
theorem dL_law_590 : decode cL_law 590 = .ok (.iaload, 1) := by decide +kernel
theorem dL_law_591 : decode cL_law 591 = .ok (.invokevirtual 79, 3) := by decide +kernel
theorem dL_law_594 : decode cL_law 594 = .ok (.aload_n 2, 1) := by decide +kernel
theorem dL_law_595 : decode cL_law 595 = .ok (.aload_n 0, 1) := by decide +kernel
theorem dL_law_596 : decode cL_law 596 = .ok (.iload_n 3, 1) := by decide +kernel
theorem dL_law_597 : decode cL_law 597 = .ok (.iconst 1, 1) := by decide +kernel
theorem dL_law_598 : decode cL_law 598 = .ok (.iadd, 1) := by decide +kernel
theorem dL_law_599 : decode cL_law 599 = .ok (.iaload, 1) := by decide +kernel
theorem dL_law_600 : decode cL_law 600 = .ok (.invokevirtual 82, 3) := by decide +kernel
theorem dL_law_603 : decode cL_law 603 = .ok (.if_icmp .eq 117, 3) := by decide +kernel
theorem dL_law_606 : decode cL_law 606 = .ok (.iconst 0, 1) := by decide +kernel
theorem dL_law_607 : decode cL_law 607 = .ok (.ireturn, 1) := by decide +kernel
theorem dL_law_608 : decode cL_law 608 = .ok (.aload_n 1, 1) := by decide +kernel
theorem dL_law_609 : decode cL_law 609 = .ok (.aload_n 0, 1) := by decide +kernel
theorem dL_law_610 : decode cL_law 610 = .ok (.iload_n 3, 1) := by decide +kernel
theorem dL_law_611 : decode cL_law 611 = .ok (.iconst 1, 1) := by decide +kernel
theorem dL_law_612 : decode cL_law 612 = .ok (.iadd, 1) := by decide +kernel
theorem dL_law_613 : decode cL_law 613 = .ok (.iaload, 1) := by decide +kernel
theorem dL_law_614 : decode cL_law 614 = .ok (.aload_n 0, 1) := by decide +kernel
theorem dL_law_615 : decode cL_law 615 = .ok (.iload_n 3, 1) := by decide +kernel
theorem dL_law_616 : decode cL_law 616 = .ok (.iconst 2, 1) := by decide +kernel
theorem dL_law_617 : decode cL_law 617 = .ok (.iadd, 1) := by decide +kernel
theorem dL_law_618 : decode cL_law 618 = .ok (.iaload, 1) := by decide +kernel
theorem dL_law_619 : decode cL_law 619 = .ok (.aload_n 0, 1) := by decide +kernel
theorem dL_law_620 : decode cL_law 620 = .ok (.iload_n 3, 1) := by decide +kernel
theorem dL_law_621 : decode cL_law 621 = .ok (.iconst 3, 1) := by decide +kernel
theorem dL_law_622 : decode cL_law 622 = .ok (.iadd, 1) := by decide +kernel
theorem dL_law_623 : decode cL_law 623 = .ok (.iaload, 1) := by decide +kernel
theorem dL_law_624 : decode cL_law 624 = .ok (.aload_n 0, 1) := by decide +kernel
theorem dL_law_625 : decode cL_law 625 = .ok (.iload_n 3, 1) := by decide +kernel
theorem dL_law_626 : decode cL_law 626 = .ok (.iconst 4, 1) := by decide +kernel
theorem dL_law_627 : decode cL_law 627 = .ok (.iadd, 1) := by decide +kernel
theorem dL_law_628 : decode cL_law 628 = .ok (.iaload, 1) := by decide +kernel
theorem dL_law_629 : decode cL_law 629 = .ok (.aload_n 0, 1) := by decide +kernel
theorem dL_law_630 : decode cL_law 630 = .ok (.iload_n 3, 1) := by decide +kernel
theorem dL_law_631 : decode cL_law 631 = .ok (.iconst 5, 1) := by decide +kernel
theorem dL_law_632 : decode cL_law 632 = .ok (.iadd, 1) := by decide +kernel
theorem dL_law_633 : decode cL_law 633 = .ok (.iaload, 1) := by decide +kernel
theorem dL_law_634 : decode cL_law 634 = .ok (.aload_n 0, 1) := by decide +kernel
theorem dL_law_635 : decode cL_law 635 = .ok (.iload_n 3, 1) := by decide +kernel
theorem dL_law_636 : decode cL_law 636 = .ok (.bipush 6, 2) := by decide +kernel
theorem dL_law_638 : decode cL_law 638 = .ok (.iadd, 1) := by decide +kernel
theorem dL_law_639 : decode cL_law 639 = .ok (.iaload, 1) := by decide +kernel
theorem dL_law_640 : decode cL_law 640 = .ok (.invokevirtual 83, 3) := by decide +kernel
theorem dL_law_643 : decode cL_law 643 = .ok (.aload_n 2, 1) := by decide +kernel
theorem dL_law_644 : decode cL_law 644 = .ok (.aload_n 0, 1) := by decide +kernel
theorem dL_law_645 : decode cL_law 645 = .ok (.iload_n 3, 1) := by decide +kernel
theorem dL_law_646 : decode cL_law 646 = .ok (.iconst 1, 1) := by decide +kernel
theorem dL_law_647 : decode cL_law 647 = .ok (.iadd, 1) := by decide +kernel
theorem dL_law_648 : decode cL_law 648 = .ok (.iaload, 1) := by decide +kernel
theorem dL_law_649 : decode cL_law 649 = .ok (.aload_n 0, 1) := by decide +kernel
theorem dL_law_650 : decode cL_law 650 = .ok (.iload_n 3, 1) := by decide +kernel
theorem dL_law_651 : decode cL_law 651 = .ok (.iconst 2, 1) := by decide +kernel
theorem dL_law_652 : decode cL_law 652 = .ok (.iadd, 1) := by decide +kernel
theorem dL_law_653 : decode cL_law 653 = .ok (.iaload, 1) := by decide +kernel
theorem dL_law_654 : decode cL_law 654 = .ok (.aload_n 0, 1) := by decide +kernel
theorem dL_law_655 : decode cL_law 655 = .ok (.iload_n 3, 1) := by decide +kernel
theorem dL_law_656 : decode cL_law 656 = .ok (.iconst 3, 1) := by decide +kernel
theorem dL_law_657 : decode cL_law 657 = .ok (.iadd, 1) := by decide +kernel
theorem dL_law_658 : decode cL_law 658 = .ok (.iaload, 1) := by decide +kernel
theorem dL_law_659 : decode cL_law 659 = .ok (.aload_n 0, 1) := by decide +kernel
theorem dL_law_660 : decode cL_law 660 = .ok (.iload_n 3, 1) := by decide +kernel
theorem dL_law_661 : decode cL_law 661 = .ok (.iconst 4, 1) := by decide +kernel
theorem dL_law_662 : decode cL_law 662 = .ok (.iadd, 1) := by decide +kernel
theorem dL_law_663 : decode cL_law 663 = .ok (.iaload, 1) := by decide +kernel
theorem dL_law_664 : decode cL_law 664 = .ok (.aload_n 0, 1) := by decide +kernel
theorem dL_law_665 : decode cL_law 665 = .ok (.iload_n 3, 1) := by decide +kernel
theorem dL_law_666 : decode cL_law 666 = .ok (.iconst 5, 1) := by decide +kernel
theorem dL_law_667 : decode cL_law 667 = .ok (.iadd, 1) := by decide +kernel
theorem dL_law_668 : decode cL_law 668 = .ok (.iaload, 1) := by decide +kernel
theorem dL_law_669 : decode cL_law 669 = .ok (.aload_n 0, 1) := by decide +kernel
theorem dL_law_670 : decode cL_law 670 = .ok (.iload_n 3, 1) := by decide +kernel
theorem dL_law_671 : decode cL_law 671 = .ok (.bipush 6, 2) := by decide +kernel
theorem dL_law_673 : decode cL_law 673 = .ok (.iadd, 1) := by decide +kernel
theorem dL_law_674 : decode cL_law 674 = .ok (.iaload, 1) := by decide +kernel
theorem dL_law_675 : decode cL_law 675 = .ok (.invokevirtual 87, 3) := by decide +kernel
theorem dL_law_678 : decode cL_law 678 = .ok (.if_icmp .eq 42, 3) := by decide +kernel
theorem dL_law_681 : decode cL_law 681 = .ok (.iconst 0, 1) := by decide +kernel
theorem dL_law_682 : decode cL_law 682 = .ok (.ireturn, 1) := by decide +kernel
theorem dL_law_683 : decode cL_law 683 = .ok (.aload_n 1, 1) := by decide +kernel
theorem dL_law_684 : decode cL_law 684 = .ok (.aload_n 0, 1) := by decide +kernel
theorem dL_law_685 : decode cL_law 685 = .ok (.iload_n 3, 1) := by decide +kernel
theorem dL_law_686 : decode cL_law 686 = .ok (.iconst 1, 1) := by decide +kernel
theorem dL_law_687 : decode cL_law 687 = .ok (.iadd, 1) := by decide +kernel
theorem dL_law_688 : decode cL_law 688 = .ok (.iaload, 1) := by decide +kernel
theorem dL_law_689 : decode cL_law 689 = .ok (.invokevirtual 88, 3) := by decide +kernel
theorem dL_law_692 : decode cL_law 692 = .ok (.aload_n 2, 1) := by decide +kernel
theorem dL_law_693 : decode cL_law 693 = .ok (.aload_n 0, 1) := by decide +kernel
theorem dL_law_694 : decode cL_law 694 = .ok (.iload_n 3, 1) := by decide +kernel
theorem dL_law_695 : decode cL_law 695 = .ok (.iconst 1, 1) := by decide +kernel
theorem dL_law_696 : decode cL_law 696 = .ok (.iadd, 1) := by decide +kernel
theorem dL_law_697 : decode cL_law 697 = .ok (.iaload, 1) := by decide +kernel
theorem dL_law_698 : decode cL_law 698 = .ok (.invokevirtual 91, 3) := by decide +kernel
theorem dL_law_701 : decode cL_law 701 = .ok (.if_icmp .eq 19, 3) := by decide +kernel
theorem dL_law_704 : decode cL_law 704 = .ok (.iconst 0, 1) := by decide +kernel
theorem dL_law_705 : decode cL_law 705 = .ok (.ireturn, 1) := by decide +kernel
theorem dL_law_706 : decode cL_law 706 = .ok (.aload_n 1, 1) := by decide +kernel
theorem dL_law_707 : decode cL_law 707 = .ok (.invokevirtual 92, 3) := by decide +kernel
theorem dL_law_710 : decode cL_law 710 = .ok (.aload_n 2, 1) := by decide +kernel
theorem dL_law_711 : decode cL_law 711 = .ok (.invokevirtual 96, 3) := by decide +kernel
theorem dL_law_714 : decode cL_law 714 = .ok (.lcmp, 1) := by decide +kernel
theorem dL_law_715 : decode cL_law 715 = .ok (.ifCond .eq 5, 3) := by decide +kernel
theorem dL_law_718 : decode cL_law 718 = .ok (.iconst 0, 1) := by decide +kernel
theorem dL_law_719 : decode cL_law 719 = .ok (.ireturn, 1) := by decide +kernel
theorem dL_law_720 : decode cL_law 720 = .ok (.iinc 3 7, 3) := by decide +kernel
theorem dL_law_723 : decode cL_law 723 = .ok (.goto (-705), 3) := by decide +kernel
theorem dL_law_726 : decode cL_law 726 = .ok (.iconst 1, 1) := by decide +kernel
theorem dL_law_727 : decode cL_law 727 = .ok (.ireturn, 1) := by decide +kernel
end
