section
-- ===== PART A: goes FIRST, ahead of the names: the tables' words, and 'selects' of the private methods out of them =====
/-- a private method of a class that the tables say can be made, by its rows of tables_1 -/
def lw_okq (q : MethodName × Nat) : Prop := (q.1.cls ≠ "java/lang/invoke/MethodHandle" ∧ q.1.cls ≠ "java/lang/invoke/VarHandle") ∧ Cond.instantiable q.1.cls q.2 ∈ tables_1 ∧ Cond.privateMethod q.1 ∈ tables_1 ∧ Cond.instanceMethod q.1 ∈ tables_1
theorem lw_p0 : lw_okq (⟨"TagCarrier$Source", "takeWord", "()Z"⟩, 12) := ⟨⟨by decide +kernel, by decide +kernel⟩, List.mem_of_getElem? (i := 27) (by decide +kernel), List.mem_of_getElem? (i := 287) (by decide +kernel), List.mem_of_getElem? (i := 288) (by decide +kernel)⟩
theorem lw_p1 : lw_okq (⟨"TagCarrier$Source", "takeOpening", "(I)Z"⟩, 12) := ⟨⟨by decide +kernel, by decide +kernel⟩, List.mem_of_getElem? (i := 27) (by decide +kernel), List.mem_of_getElem? (i := 291) (by decide +kernel), List.mem_of_getElem? (i := 292) (by decide +kernel)⟩
theorem lw_p2 : lw_okq (⟨"TagCarrier$Source", "takeClosing", "(I)Z"⟩, 12) := ⟨⟨by decide +kernel, by decide +kernel⟩, List.mem_of_getElem? (i := 27) (by decide +kernel), List.mem_of_getElem? (i := 298) (by decide +kernel), List.mem_of_getElem? (i := 299) (by decide +kernel)⟩
theorem lw_p3 : lw_okq (⟨"TagCarrier$Source", "takeMark", "(I)Z"⟩, 12) := ⟨⟨by decide +kernel, by decide +kernel⟩, List.mem_of_getElem? (i := 27) (by decide +kernel), List.mem_of_getElem? (i := 302) (by decide +kernel), List.mem_of_getElem? (i := 303) (by decide +kernel)⟩
theorem lw_p4 : lw_okq (⟨"TagCarrier", "carry", "()V"⟩, 8) := ⟨⟨by decide +kernel, by decide +kernel⟩, List.mem_of_getElem? (i := 13) (by decide +kernel), List.mem_of_getElem? (i := 331) (by decide +kernel), List.mem_of_getElem? (i := 332) (by decide +kernel)⟩
theorem lw_p5 : lw_okq (⟨"TagCarrier$Wanted", "findPair", "(LTagCarrier$Sentences;I)V"⟩, 4) := ⟨⟨by decide +kernel, by decide +kernel⟩, List.mem_of_getElem? (i := 130) (by decide +kernel), List.mem_of_getElem? (i := 340) (by decide +kernel), List.mem_of_getElem? (i := 341) (by decide +kernel)⟩
theorem lw_p6 : lw_okq (⟨"TagCarrier$PairPlacer", "findPrices", "(IIII)V"⟩, 8) := ⟨⟨by decide +kernel, by decide +kernel⟩, List.mem_of_getElem? (i := 156) (by decide +kernel), List.mem_of_getElem? (i := 365) (by decide +kernel), List.mem_of_getElem? (i := 366) (by decide +kernel)⟩
theorem lw_p7 : lw_okq (⟨"TagCarrier$PairPlacer", "findParts", "(LTagCarrier$Source;I)V"⟩, 8) := ⟨⟨by decide +kernel, by decide +kernel⟩, List.mem_of_getElem? (i := 156) (by decide +kernel), List.mem_of_getElem? (i := 384) (by decide +kernel), List.mem_of_getElem? (i := 385) (by decide +kernel)⟩
theorem lw_p8 : lw_okq (⟨"TagCarrier$PairPlacer", "findSums", "(LTagCarrier$Source;II)V"⟩, 8) := ⟨⟨by decide +kernel, by decide +kernel⟩, List.mem_of_getElem? (i := 156) (by decide +kernel), List.mem_of_getElem? (i := 391) (by decide +kernel), List.mem_of_getElem? (i := 392) (by decide +kernel)⟩
theorem lw_p9 : lw_okq (⟨"TagCarrier$PairPlacer", "filled", "(LTagCarrier$Source;II)J"⟩, 8) := ⟨⟨by decide +kernel, by decide +kernel⟩, List.mem_of_getElem? (i := 156) (by decide +kernel), List.mem_of_getElem? (i := 395) (by decide +kernel), List.mem_of_getElem? (i := 396) (by decide +kernel)⟩
theorem lw_p10 : lw_okq (⟨"TagCarrier$PairPlacer", "parted", "(III)J"⟩, 8) := ⟨⟨by decide +kernel, by decide +kernel⟩, List.mem_of_getElem? (i := 156) (by decide +kernel), List.mem_of_getElem? (i := 403) (by decide +kernel), List.mem_of_getElem? (i := 404) (by decide +kernel)⟩
theorem lw_p11 : lw_okq (⟨"TagCarrier$PairPlacer", "readSpans", "(ILTagCarrier$Wanted;J)V"⟩, 8) := ⟨⟨by decide +kernel, by decide +kernel⟩, List.mem_of_getElem? (i := 156) (by decide +kernel), List.mem_of_getElem? (i := 407) (by decide +kernel), List.mem_of_getElem? (i := 408) (by decide +kernel)⟩
theorem lw_p12 : lw_okq (⟨"TagCarrier$MarkPlacer", "findMoves", "(III)V"⟩, 4) := ⟨⟨by decide +kernel, by decide +kernel⟩, List.mem_of_getElem? (i := 194) (by decide +kernel), List.mem_of_getElem? (i := 415) (by decide +kernel), List.mem_of_getElem? (i := 416) (by decide +kernel)⟩
theorem lw_p13 : lw_okq (⟨"TagCarrier$Writer", "writeGap", "(LTagCarrier$Source;LTagCarrier$PairPlacer;LTagCarrier$MarkPlacer;I)V"⟩, 3) := ⟨⟨by decide +kernel, by decide +kernel⟩, List.mem_of_getElem? (i := 216) (by decide +kernel), List.mem_of_getElem? (i := 425) (by decide +kernel), List.mem_of_getElem? (i := 426) (by decide +kernel)⟩
theorem lw_p14 : lw_okq (⟨"TagCarrier$Writer", "addEmpty", "(I)V"⟩, 3) := ⟨⟨by decide +kernel, by decide +kernel⟩, List.mem_of_getElem? (i := 216) (by decide +kernel), List.mem_of_getElem? (i := 433) (by decide +kernel), List.mem_of_getElem? (i := 434) (by decide +kernel)⟩
theorem lw_p15 : lw_okq (⟨"TagCarrier$Writer", "add", "(I)V"⟩, 3) := ⟨⟨by decide +kernel, by decide +kernel⟩, List.mem_of_getElem? (i := 216) (by decide +kernel), List.mem_of_getElem? (i := 437) (by decide +kernel), List.mem_of_getElem? (i := 438) (by decide +kernel)⟩
def lw_privs_1 : List (MethodName × Nat) := [(⟨"TagCarrier$Source", "takeWord", "()Z"⟩, 12), (⟨"TagCarrier$Source", "takeOpening", "(I)Z"⟩, 12), (⟨"TagCarrier$Source", "takeClosing", "(I)Z"⟩, 12), (⟨"TagCarrier$Source", "takeMark", "(I)Z"⟩, 12), (⟨"TagCarrier", "carry", "()V"⟩, 8), (⟨"TagCarrier$Wanted", "findPair", "(LTagCarrier$Sentences;I)V"⟩, 4), (⟨"TagCarrier$PairPlacer", "findPrices", "(IIII)V"⟩, 8), (⟨"TagCarrier$PairPlacer", "findParts", "(LTagCarrier$Source;I)V"⟩, 8), (⟨"TagCarrier$PairPlacer", "findSums", "(LTagCarrier$Source;II)V"⟩, 8), (⟨"TagCarrier$PairPlacer", "filled", "(LTagCarrier$Source;II)J"⟩, 8), (⟨"TagCarrier$PairPlacer", "parted", "(III)J"⟩, 8), (⟨"TagCarrier$PairPlacer", "readSpans", "(ILTagCarrier$Wanted;J)V"⟩, 8), (⟨"TagCarrier$MarkPlacer", "findMoves", "(III)V"⟩, 4), (⟨"TagCarrier$Writer", "writeGap", "(LTagCarrier$Source;LTagCarrier$PairPlacer;LTagCarrier$MarkPlacer;I)V"⟩, 3), (⟨"TagCarrier$Writer", "addEmpty", "(I)V"⟩, 3), (⟨"TagCarrier$Writer", "add", "(I)V"⟩, 3)]
theorem lw_r1 : ∀ q ∈ lw_privs_1, lw_okq q := List.forall_mem_cons.mpr ⟨lw_p0, List.forall_mem_cons.mpr ⟨lw_p1, List.forall_mem_cons.mpr ⟨lw_p2, List.forall_mem_cons.mpr ⟨lw_p3, List.forall_mem_cons.mpr ⟨lw_p4, List.forall_mem_cons.mpr ⟨lw_p5, List.forall_mem_cons.mpr ⟨lw_p6, List.forall_mem_cons.mpr ⟨lw_p7, List.forall_mem_cons.mpr ⟨lw_p8, List.forall_mem_cons.mpr ⟨lw_p9, List.forall_mem_cons.mpr ⟨lw_p10, List.forall_mem_cons.mpr ⟨lw_p11, List.forall_mem_cons.mpr ⟨lw_p12, List.forall_mem_cons.mpr ⟨lw_p13, List.forall_mem_cons.mpr ⟨lw_p14, List.forall_mem_cons.mpr ⟨lw_p15, fun _ h => absurd h List.not_mem_nil⟩⟩⟩⟩⟩⟩⟩⟩⟩⟩⟩⟩⟩⟩⟩⟩
theorem lw_p16 : lw_okq (⟨"TagCarrier$Writer", "rankClosing", "(LTagCarrier$Source;LTagCarrier$PairPlacer;)V"⟩, 3) := ⟨⟨by decide +kernel, by decide +kernel⟩, List.mem_of_getElem? (i := 216) (by decide +kernel), List.mem_of_getElem? (i := 441) (by decide +kernel), List.mem_of_getElem? (i := 442) (by decide +kernel)⟩
theorem lw_p17 : lw_okq (⟨"TagCarrier$Writer", "addRanked", "(II)V"⟩, 3) := ⟨⟨by decide +kernel, by decide +kernel⟩, List.mem_of_getElem? (i := 216) (by decide +kernel), List.mem_of_getElem? (i := 455) (by decide +kernel), List.mem_of_getElem? (i := 456) (by decide +kernel)⟩
theorem lw_p18 : lw_okq (⟨"TagCarrier$Writer", "greatestRank", "(I)I"⟩, 3) := ⟨⟨by decide +kernel, by decide +kernel⟩, List.mem_of_getElem? (i := 216) (by decide +kernel), List.mem_of_getElem? (i := 459) (by decide +kernel), List.mem_of_getElem? (i := 460) (by decide +kernel)⟩
theorem lw_p19 : lw_okq (⟨"TagCarrier$Writer", "addMarks", "(LTagCarrier$Source;LTagCarrier$MarkPlacer;I)V"⟩, 3) := ⟨⟨by decide +kernel, by decide +kernel⟩, List.mem_of_getElem? (i := 216) (by decide +kernel), List.mem_of_getElem? (i := 463) (by decide +kernel), List.mem_of_getElem? (i := 464) (by decide +kernel)⟩
theorem lw_p20 : lw_okq (⟨"TagCarrier$Writer", "rankOpening", "(LTagCarrier$Source;LTagCarrier$PairPlacer;)V"⟩, 3) := ⟨⟨by decide +kernel, by decide +kernel⟩, List.mem_of_getElem? (i := 216) (by decide +kernel), List.mem_of_getElem? (i := 467) (by decide +kernel), List.mem_of_getElem? (i := 468) (by decide +kernel)⟩
theorem lw_p21 : lw_okq (⟨"TagCarrier$Wanted", "cross", "(II)Z"⟩, 4) := ⟨⟨by decide +kernel, by decide +kernel⟩, List.mem_of_getElem? (i := 130) (by decide +kernel), List.mem_of_getElem? (i := 489) (by decide +kernel), List.mem_of_getElem? (i := 490) (by decide +kernel)⟩
theorem lw_p22 : lw_okq (⟨"TagCarrier$Wanted", "overlapsFromAhead", "(II)Z"⟩, 4) := ⟨⟨by decide +kernel, by decide +kernel⟩, List.mem_of_getElem? (i := 130) (by decide +kernel), List.mem_of_getElem? (i := 493) (by decide +kernel), List.mem_of_getElem? (i := 494) (by decide +kernel)⟩
theorem lw_p23 : lw_okq (⟨"TagCarrierModel", "faultOf", "()I"⟩, 22) := ⟨⟨by decide +kernel, by decide +kernel⟩, List.mem_of_getElem? (i := 522) (by decide +kernel), List.mem_of_getElem? (i := 611) (by decide +kernel), List.mem_of_getElem? (i := 612) (by decide +kernel)⟩
theorem lw_p24 : lw_okq (⟨"TagCarrierModel", "unlink", "()V"⟩, 22) := ⟨⟨by decide +kernel, by decide +kernel⟩, List.mem_of_getElem? (i := 522) (by decide +kernel), List.mem_of_getElem? (i := 619) (by decide +kernel), List.mem_of_getElem? (i := 620) (by decide +kernel)⟩
theorem lw_p25 : lw_okq (⟨"TagCarrierModel", "isThere", "(I)Z"⟩, 22) := ⟨⟨by decide +kernel, by decide +kernel⟩, List.mem_of_getElem? (i := 522) (by decide +kernel), List.mem_of_getElem? (i := 635) (by decide +kernel), List.mem_of_getElem? (i := 636) (by decide +kernel)⟩
theorem lw_p26 : lw_okq (⟨"TagCarrierModel", "place", "()V"⟩, 22) := ⟨⟨by decide +kernel, by decide +kernel⟩, List.mem_of_getElem? (i := 522) (by decide +kernel), List.mem_of_getElem? (i := 639) (by decide +kernel), List.mem_of_getElem? (i := 640) (by decide +kernel)⟩
theorem lw_p27 : lw_okq (⟨"TagCarrierModel", "there", "()I"⟩, 22) := ⟨⟨by decide +kernel, by decide +kernel⟩, List.mem_of_getElem? (i := 522) (by decide +kernel), List.mem_of_getElem? (i := 643) (by decide +kernel), List.mem_of_getElem? (i := 644) (by decide +kernel)⟩
theorem lw_p28 : lw_okq (⟨"TagCarrierModel", "leastOf", "(III)J"⟩, 22) := ⟨⟨by decide +kernel, by decide +kernel⟩, List.mem_of_getElem? (i := 522) (by decide +kernel), List.mem_of_getElem? (i := 650) (by decide +kernel), List.mem_of_getElem? (i := 651) (by decide +kernel)⟩
theorem lw_p29 : lw_okq (⟨"TagCarrierModel", "areApart", "(II)Z"⟩, 22) := ⟨⟨by decide +kernel, by decide +kernel⟩, List.mem_of_getElem? (i := 522) (by decide +kernel), List.mem_of_getElem? (i := 655) (by decide +kernel), List.mem_of_getElem? (i := 656) (by decide +kernel)⟩
theorem lw_p30 : lw_okq (⟨"TagCarrierModel", "isHeld", "(II)Z"⟩, 22) := ⟨⟨by decide +kernel, by decide +kernel⟩, List.mem_of_getElem? (i := 522) (by decide +kernel), List.mem_of_getElem? (i := 662) (by decide +kernel), List.mem_of_getElem? (i := 663) (by decide +kernel)⟩
theorem lw_p31 : lw_okq (⟨"TagCarrierModel", "code", "(III)J"⟩, 22) := ⟨⟨by decide +kernel, by decide +kernel⟩, List.mem_of_getElem? (i := 522) (by decide +kernel), List.mem_of_getElem? (i := 666) (by decide +kernel), List.mem_of_getElem? (i := 667) (by decide +kernel)⟩
def lw_privs_2 : List (MethodName × Nat) := [(⟨"TagCarrier$Writer", "rankClosing", "(LTagCarrier$Source;LTagCarrier$PairPlacer;)V"⟩, 3), (⟨"TagCarrier$Writer", "addRanked", "(II)V"⟩, 3), (⟨"TagCarrier$Writer", "greatestRank", "(I)I"⟩, 3), (⟨"TagCarrier$Writer", "addMarks", "(LTagCarrier$Source;LTagCarrier$MarkPlacer;I)V"⟩, 3), (⟨"TagCarrier$Writer", "rankOpening", "(LTagCarrier$Source;LTagCarrier$PairPlacer;)V"⟩, 3), (⟨"TagCarrier$Wanted", "cross", "(II)Z"⟩, 4), (⟨"TagCarrier$Wanted", "overlapsFromAhead", "(II)Z"⟩, 4), (⟨"TagCarrierModel", "faultOf", "()I"⟩, 22), (⟨"TagCarrierModel", "unlink", "()V"⟩, 22), (⟨"TagCarrierModel", "isThere", "(I)Z"⟩, 22), (⟨"TagCarrierModel", "place", "()V"⟩, 22), (⟨"TagCarrierModel", "there", "()I"⟩, 22), (⟨"TagCarrierModel", "leastOf", "(III)J"⟩, 22), (⟨"TagCarrierModel", "areApart", "(II)Z"⟩, 22), (⟨"TagCarrierModel", "isHeld", "(II)Z"⟩, 22), (⟨"TagCarrierModel", "code", "(III)J"⟩, 22)]
theorem lw_r2 : ∀ q ∈ lw_privs_2, lw_okq q := List.forall_mem_cons.mpr ⟨lw_p16, List.forall_mem_cons.mpr ⟨lw_p17, List.forall_mem_cons.mpr ⟨lw_p18, List.forall_mem_cons.mpr ⟨lw_p19, List.forall_mem_cons.mpr ⟨lw_p20, List.forall_mem_cons.mpr ⟨lw_p21, List.forall_mem_cons.mpr ⟨lw_p22, List.forall_mem_cons.mpr ⟨lw_p23, List.forall_mem_cons.mpr ⟨lw_p24, List.forall_mem_cons.mpr ⟨lw_p25, List.forall_mem_cons.mpr ⟨lw_p26, List.forall_mem_cons.mpr ⟨lw_p27, List.forall_mem_cons.mpr ⟨lw_p28, List.forall_mem_cons.mpr ⟨lw_p29, List.forall_mem_cons.mpr ⟨lw_p30, List.forall_mem_cons.mpr ⟨lw_p31, fun _ h => absurd h List.not_mem_nil⟩⟩⟩⟩⟩⟩⟩⟩⟩⟩⟩⟩⟩⟩⟩⟩
theorem lw_p32 : lw_okq (⟨"TagCarrierModel", "costOf", "(III)I"⟩, 22) := ⟨⟨by decide +kernel, by decide +kernel⟩, List.mem_of_getElem? (i := 522) (by decide +kernel), List.mem_of_getElem? (i := 670) (by decide +kernel), List.mem_of_getElem? (i := 671) (by decide +kernel)⟩
theorem lw_p33 : lw_okq (⟨"TagCarrierModel", "wantedFrom", "(I)I"⟩, 22) := ⟨⟨by decide +kernel, by decide +kernel⟩, List.mem_of_getElem? (i := 522) (by decide +kernel), List.mem_of_getElem? (i := 674) (by decide +kernel), List.mem_of_getElem? (i := 675) (by decide +kernel)⟩
theorem lw_p34 : lw_okq (⟨"TagCarrierModel", "linksOf", "(I)I"⟩, 22) := ⟨⟨by decide +kernel, by decide +kernel⟩, List.mem_of_getElem? (i := 522) (by decide +kernel), List.mem_of_getElem? (i := 678) (by decide +kernel), List.mem_of_getElem? (i := 679) (by decide +kernel)⟩
theorem lw_p35 : lw_okq (⟨"TagCarrierModel", "anchor", "(I)I"⟩, 22) := ⟨⟨by decide +kernel, by decide +kernel⟩, List.mem_of_getElem? (i := 522) (by decide +kernel), List.mem_of_getElem? (i := 682) (by decide +kernel), List.mem_of_getElem? (i := 683) (by decide +kernel)⟩
theorem lw_p36 : lw_okq (⟨"TagCarrierModel", "wantedTo", "(I)I"⟩, 22) := ⟨⟨by decide +kernel, by decide +kernel⟩, List.mem_of_getElem? (i := 522) (by decide +kernel), List.mem_of_getElem? (i := 686) (by decide +kernel), List.mem_of_getElem? (i := 687) (by decide +kernel)⟩
theorem lw_p37 : lw_okq (⟨"TagCarrierModel", "placeMarks", "()V"⟩, 22) := ⟨⟨by decide +kernel, by decide +kernel⟩, List.mem_of_getElem? (i := 522) (by decide +kernel), List.mem_of_getElem? (i := 697) (by decide +kernel), List.mem_of_getElem? (i := 698) (by decide +kernel)⟩
theorem lw_p38 : lw_okq (⟨"TagCarrierModel", "depth", "(I)I"⟩, 22) := ⟨⟨by decide +kernel, by decide +kernel⟩, List.mem_of_getElem? (i := 522) (by decide +kernel), List.mem_of_getElem? (i := 701) (by decide +kernel), List.mem_of_getElem? (i := 702) (by decide +kernel)⟩
theorem lw_p39 : lw_okq (⟨"TagCarrierModel", "isCrossing", "(II)Z"⟩, 22) := ⟨⟨by decide +kernel, by decide +kernel⟩, List.mem_of_getElem? (i := 522) (by decide +kernel), List.mem_of_getElem? (i := 716) (by decide +kernel), List.mem_of_getElem? (i := 717) (by decide +kernel)⟩
theorem lw_p40 : lw_okq (⟨"TagCarrierModel", "writeEmpty", "(II)V"⟩, 22) := ⟨⟨by decide +kernel, by decide +kernel⟩, List.mem_of_getElem? (i := 522) (by decide +kernel), List.mem_of_getElem? (i := 724) (by decide +kernel), List.mem_of_getElem? (i := 725) (by decide +kernel)⟩
theorem lw_p41 : lw_okq (⟨"TagCarrierModel", "stand", "(II)I"⟩, 22) := ⟨⟨by decide +kernel, by decide +kernel⟩, List.mem_of_getElem? (i := 522) (by decide +kernel), List.mem_of_getElem? (i := 728) (by decide +kernel), List.mem_of_getElem? (i := 729) (by decide +kernel)⟩
theorem lw_p42 : lw_okq (⟨"TagCarrierModel", "write", "(I)V"⟩, 22) := ⟨⟨by decide +kernel, by decide +kernel⟩, List.mem_of_getElem? (i := 522) (by decide +kernel), List.mem_of_getElem? (i := 732) (by decide +kernel), List.mem_of_getElem? (i := 733) (by decide +kernel)⟩
theorem lw_p43 : lw_okq (⟨"TagCarrierModel", "writeClosed", "(I)V"⟩, 22) := ⟨⟨by decide +kernel, by decide +kernel⟩, List.mem_of_getElem? (i := 522) (by decide +kernel), List.mem_of_getElem? (i := 736) (by decide +kernel), List.mem_of_getElem? (i := 737) (by decide +kernel)⟩
theorem lw_p44 : lw_okq (⟨"TagCarrierModel", "writeOpened", "(I)V"⟩, 22) := ⟨⟨by decide +kernel, by decide +kernel⟩, List.mem_of_getElem? (i := 522) (by decide +kernel), List.mem_of_getElem? (i := 740) (by decide +kernel), List.mem_of_getElem? (i := 741) (by decide +kernel)⟩
def lw_privs_3 : List (MethodName × Nat) := [(⟨"TagCarrierModel", "costOf", "(III)I"⟩, 22), (⟨"TagCarrierModel", "wantedFrom", "(I)I"⟩, 22), (⟨"TagCarrierModel", "linksOf", "(I)I"⟩, 22), (⟨"TagCarrierModel", "anchor", "(I)I"⟩, 22), (⟨"TagCarrierModel", "wantedTo", "(I)I"⟩, 22), (⟨"TagCarrierModel", "placeMarks", "()V"⟩, 22), (⟨"TagCarrierModel", "depth", "(I)I"⟩, 22), (⟨"TagCarrierModel", "isCrossing", "(II)Z"⟩, 22), (⟨"TagCarrierModel", "writeEmpty", "(II)V"⟩, 22), (⟨"TagCarrierModel", "stand", "(II)I"⟩, 22), (⟨"TagCarrierModel", "write", "(I)V"⟩, 22), (⟨"TagCarrierModel", "writeClosed", "(I)V"⟩, 22), (⟨"TagCarrierModel", "writeOpened", "(I)V"⟩, 22)]
theorem lw_r3 : ∀ q ∈ lw_privs_3, lw_okq q := List.forall_mem_cons.mpr ⟨lw_p32, List.forall_mem_cons.mpr ⟨lw_p33, List.forall_mem_cons.mpr ⟨lw_p34, List.forall_mem_cons.mpr ⟨lw_p35, List.forall_mem_cons.mpr ⟨lw_p36, List.forall_mem_cons.mpr ⟨lw_p37, List.forall_mem_cons.mpr ⟨lw_p38, List.forall_mem_cons.mpr ⟨lw_p39, List.forall_mem_cons.mpr ⟨lw_p40, List.forall_mem_cons.mpr ⟨lw_p41, List.forall_mem_cons.mpr ⟨lw_p42, List.forall_mem_cons.mpr ⟨lw_p43, List.forall_mem_cons.mpr ⟨lw_p44, fun _ h => absurd h List.not_mem_nil⟩⟩⟩⟩⟩⟩⟩⟩⟩⟩⟩⟩⟩
def lw_privs : List (MethodName × Nat) := lw_privs_1 ++ (lw_privs_2 ++ (lw_privs_3))
def lw_tbl : List Cond := k2_sels lw_privs ++ tables_1
theorem lw_privs_ok : ∀ q ∈ lw_privs, lw_okq q := by
  show ∀ q ∈ lw_privs_1 ++ (lw_privs_2 ++ (lw_privs_3)), lw_okq q
  exact List.forall_mem_append.mpr ⟨lw_r1, List.forall_mem_append.mpr ⟨lw_r2, lw_r3⟩⟩
end
section
/-! ===== BEGIN words of one list among another's, by their places ===== -/
theorem goodIn_r {big : List Cond} (ws : List Cond) (ps : List Nat) (hp : ws = ps.filterMap (fun i => big[i]?)) (h : ws.all goodWord = true) : GoodIn big ws := by
  intro w hw
  have h1 := List.all_eq_true.mp h w hw
  rw [hp] at hw
  obtain ⟨i, -, hi⟩ := List.mem_filterMap.mp hw
  have hm : w ∈ big := by first | exact List.mem_of_getElem? hi | exact List.getElem?_mem hi
  exact ⟨hm, good_of_word h1⟩
theorem goodIn_app {big a b : List Cond} (ha : GoodIn big a) (hb : GoodIn big b) : GoodIn big (a ++ b) := fun w h => (List.mem_append.mp h).elim (ha w) (hb w)
theorem goodIn_ca {big a b : List Cond} {c : Cond} (ha : GoodIn big (c :: a)) (hb : GoodIn big b) : GoodIn big (c :: (a ++ b)) := fun w h => (List.mem_cons.mp h).elim (fun e => ha w (List.mem_cons.mpr (Or.inl e))) (fun h => (List.mem_append.mp h).elim (fun h => ha w (List.mem_cons.mpr (Or.inr h))) (hb w))
theorem goodIn_sub {big ws : List Cond} (hm : ∀ w ∈ ws, w ∈ big) (h : ws.all goodWord = true) : GoodIn big ws := fun w hw => ⟨hm w hw, good_of_word (List.all_eq_true.mp h w hw)⟩
/-! ===== END ===== -/

/-! ===== BEGIN printed: names, fields, word lists, decode rows ===== -/
def RX0 : String := "TagCarrier$MarkPlacer"
def TX0 : u_T := fun k => match k with
  | 0 => ("TagCarrier$MarkPlacer", "at", "[I", true)
  | 1 => ("TagCarrier$MarkPlacer", "movedInAll", "I", false)
  | 2 => ("TagCarrier$MarkPlacer", "moved", "[I", true)
  | _ => ("TagCarrier$MarkPlacer", "chosen", "[I", true)
def tyX0 : Nat → FieldType := fun k => match k with
  | 0 => .array .int
  | 1 => .int
  | 2 => .array .int
  | _ => .array .int
abbrev wsX00 : List Cond := u_ws RX0 TX0 4
theorem nmX0 : ∀ a, a < 4 → ∀ b, b < 4 → a ≠ b → (TX0 a).2.1 ≠ (TX0 b).2.1 := by decide +kernel
theorem tyX0_ok : ∀ k, k < 4 → parseFieldDescriptor (TX0 k).2.2.1 = some (tyX0 k) := by decide +kernel
abbrev cX0_init : ByteArray := prog_2_method_1_code
def yX0_init : MethodName := ⟨RX0, "<init>", "()V"⟩
abbrev cX0_place : ByteArray := prog_2_method_2_code
def yX0_place : MethodName := ⟨RX0, "place", "(LTagCarrier$Source;LTagCarrier$Wanted;I)V"⟩
abbrev cX0_findMoves : ByteArray := prog_2_method_3_code
def yX0_findMoves : MethodName := ⟨RX0, "findMoves", "(III)V"⟩
def RX1 : String := "TagCarrier$Pad"
def TX1 : u_T := fun k => match k with
  | 0 => ("TagCarrier$Pad", "source", "LTagCarrier$Source;", true)
  | 1 => ("TagCarrier$Pad", "count", "I", false)
  | _ => ("TagCarrier$Pad", "signs", "[I", true)
def tyX1 : Nat → FieldType := fun k => match k with
  | 0 => .object "TagCarrier$Source"
  | 1 => .int
  | _ => .array .int
abbrev wsX10 : List Cond := u_ws RX1 TX1 3
theorem nmX1 : ∀ a, a < 3 → ∀ b, b < 3 → a ≠ b → (TX1 a).2.1 ≠ (TX1 b).2.1 := by decide +kernel
theorem tyX1_ok : ∀ k, k < 3 → parseFieldDescriptor (TX1 k).2.2.1 = some (tyX1 k) := by decide +kernel
abbrev cX1_init : ByteArray := prog_3_method_1_code
def yX1_init : MethodName := ⟨RX1, "<init>", "()V"⟩
abbrev cX1_add : ByteArray := prog_3_method_2_code
def yX1_add : MethodName := ⟨RX1, "add", "(I)Z"⟩
abbrev cX1_read : ByteArray := prog_3_method_3_code
def yX1_read : MethodName := ⟨RX1, "read", "()I"⟩
def RX2 : String := "TagCarrier$PairPlacer"
def TX2 : u_T := fun k => match k with
  | 0 => ("TagCarrier$PairPlacer", "from", "[I", true)
  | 1 => ("TagCarrier$PairPlacer", "to", "[I", true)
  | 2 => ("TagCarrier$PairPlacer", "cost", "[I", true)
  | 3 => ("TagCarrier$PairPlacer", "costOfAll", "I", false)
  | 4 => ("TagCarrier$PairPlacer", "prices", "[J", true)
  | 5 => ("TagCarrier$PairPlacer", "sums", "[J", true)
  | 6 => ("TagCarrier$PairPlacer", "parts", "[I", true)
  | _ => ("TagCarrier$PairPlacer", "partCount", "I", false)
def tyX2 : Nat → FieldType := fun k => match k with
  | 0 => .array .int
  | 1 => .array .int
  | 2 => .array .int
  | 3 => .int
  | 4 => .array .long
  | 5 => .array .long
  | 6 => .array .int
  | _ => .int
abbrev wsX20 : List Cond := u_ws RX2 TX2 8
theorem nmX2 : ∀ a, a < 8 → ∀ b, b < 8 → a ≠ b → (TX2 a).2.1 ≠ (TX2 b).2.1 := by decide +kernel
theorem tyX2_ok : ∀ k, k < 8 → parseFieldDescriptor (TX2 k).2.2.1 = some (tyX2 k) := by decide +kernel
abbrev cX2_init : ByteArray := prog_4_method_1_code
def yX2_init : MethodName := ⟨RX2, "<init>", "()V"⟩
abbrev cX2_place : ByteArray := prog_4_method_2_code
def yX2_place : MethodName := ⟨RX2, "place", "(LTagCarrier$Source;LTagCarrier$Wanted;I)V"⟩
abbrev cX2_findPrices : ByteArray := prog_4_method_3_code
def yX2_findPrices : MethodName := ⟨RX2, "findPrices", "(IIII)V"⟩
abbrev cX2_shiftOf : ByteArray := prog_4_method_4_code
def yX2_shiftOf : MethodName := ⟨RX2, "shiftOf", "(I)I"⟩
abbrev cX2_costOf : ByteArray := prog_4_method_5_code
def yX2_costOf : MethodName := ⟨RX2, "costOf", "(IIIII)I"⟩
abbrev cX2_findParts : ByteArray := prog_4_method_6_code
def yX2_findParts : MethodName := ⟨RX2, "findParts", "(LTagCarrier$Source;I)V"⟩
abbrev cX2_apart : ByteArray := prog_4_method_7_code
def yX2_apart : MethodName := ⟨RX2, "apart", "(LTagCarrier$Source;II)Z"⟩
abbrev cX2_findSums : ByteArray := prog_4_method_8_code
def yX2_findSums : MethodName := ⟨RX2, "findSums", "(LTagCarrier$Source;II)V"⟩
abbrev cX2_filled : ByteArray := prog_4_method_9_code
def yX2_filled : MethodName := ⟨RX2, "filled", "(LTagCarrier$Source;II)J"⟩
abbrev cX2_parted : ByteArray := prog_4_method_10_code
def yX2_parted : MethodName := ⟨RX2, "parted", "(III)J"⟩
abbrev cX2_readSpans : ByteArray := prog_4_method_11_code
def yX2_readSpans : MethodName := ⟨RX2, "readSpans", "(ILTagCarrier$Wanted;J)V"⟩
def RX3 : String := "TagCarrier$Sentences"
def TX3 : u_T := fun k => match k with
  | 0 => ("TagCarrier$Sentences", "source", "LTagCarrier$Source;", true)
  | 1 => ("TagCarrier$Sentences", "links", "[I", true)
  | _ => ("TagCarrier$Sentences", "targetWords", "I", false)
def tyX3 : Nat → FieldType := fun k => match k with
  | 0 => .object "TagCarrier$Source"
  | 1 => .array .int
  | _ => .int
abbrev wsX30 : List Cond := u_ws RX3 TX3 3
theorem nmX3 : ∀ a, a < 3 → ∀ b, b < 3 → a ≠ b → (TX3 a).2.1 ≠ (TX3 b).2.1 := by decide +kernel
theorem tyX3_ok : ∀ k, k < 3 → parseFieldDescriptor (TX3 k).2.2.1 = some (tyX3 k) := by decide +kernel
abbrev cX3_init : ByteArray := prog_5_method_1_code
def yX3_init : MethodName := ⟨RX3, "<init>", "()V"⟩
abbrev cX3_copy : ByteArray := prog_5_method_2_code
def yX3_copy : MethodName := ⟨RX3, "copy", "(LTagCarrier$Sentences;)V"⟩
abbrev cX3_dropLinks : ByteArray := prog_5_method_3_code
def yX3_dropLinks : MethodName := ⟨RX3, "dropLinks", "()V"⟩
abbrev cX3_countLinks : ByteArray := prog_5_method_4_code
def yX3_countLinks : MethodName := ⟨RX3, "countLinks", "()I"⟩
abbrev cX3_linkedBetween : ByteArray := prog_5_method_5_code
def yX3_linkedBetween : MethodName := ⟨RX3, "linkedBetween", "(II)I"⟩
abbrev cX3_anchor : ByteArray := prog_5_method_6_code
def yX3_anchor : MethodName := ⟨RX3, "anchor", "(I)I"⟩
abbrev cX3_least : ByteArray := prog_5_method_7_code
def yX3_least : MethodName := ⟨RX3, "least", "(I)I"⟩
abbrev cX3_behindGreatest : ByteArray := prog_5_method_8_code
def yX3_behindGreatest : MethodName := ⟨RX3, "behindGreatest", "(I)I"⟩
def RX4 : String := "TagCarrier$Source"
def TX4 : u_T := fun k => match k with
  | 0 => ("TagCarrier$Source", "words", "I", false)
  | 1 => ("TagCarrier$Source", "pairs", "I", false)
  | 2 => ("TagCarrier$Source", "marks", "I", false)
  | 3 => ("TagCarrier$Source", "markCount", "I", false)
  | 4 => ("TagCarrier$Source", "openCount", "I", false)
  | 5 => ("TagCarrier$Source", "opens", "[I", true)
  | 6 => ("TagCarrier$Source", "closes", "[I", true)
  | 7 => ("TagCarrier$Source", "holds", "[I", true)
  | 8 => ("TagCarrier$Source", "heldBy", "[I", true)
  | 9 => ("TagCarrier$Source", "markGap", "[I", true)
  | 10 => ("TagCarrier$Source", "markRow", "[I", true)
  | _ => ("TagCarrier$Source", "openRow", "[I", true)
def tyX4 : Nat → FieldType := fun k => match k with
  | 0 => .int
  | 1 => .int
  | 2 => .int
  | 3 => .int
  | 4 => .int
  | 5 => .array .int
  | 6 => .array .int
  | 7 => .array .int
  | 8 => .array .int
  | 9 => .array .int
  | 10 => .array .int
  | _ => .array .int
abbrev wsX40 : List Cond := u_ws RX4 TX4 12
theorem nmX4 : ∀ a, a < 12 → ∀ b, b < 12 → a ≠ b → (TX4 a).2.1 ≠ (TX4 b).2.1 := by decide +kernel
theorem tyX4_ok : ∀ k, k < 12 → parseFieldDescriptor (TX4 k).2.2.1 = some (tyX4 k) := by decide +kernel
abbrev cX4_init : ByteArray := prog_6_method_1_code
def yX4_init : MethodName := ⟨RX4, "<init>", "()V"⟩
abbrev cX4_clear : ByteArray := prog_6_method_2_code
def yX4_clear : MethodName := ⟨RX4, "clear", "()V"⟩
abbrev cX4_copy : ByteArray := prog_6_method_3_code
def yX4_copy : MethodName := ⟨RX4, "copy", "(LTagCarrier$Source;)V"⟩
abbrev cX4_take : ByteArray := prog_6_method_4_code
def yX4_take : MethodName := ⟨RX4, "take", "(I)Z"⟩
abbrev cX4_takeWord : ByteArray := prog_6_method_5_code
def yX4_takeWord : MethodName := ⟨RX4, "takeWord", "()Z"⟩
abbrev cX4_takeOpening : ByteArray := prog_6_method_6_code
def yX4_takeOpening : MethodName := ⟨RX4, "takeOpening", "(I)Z"⟩
abbrev cX4_takeClosing : ByteArray := prog_6_method_7_code
def yX4_takeClosing : MethodName := ⟨RX4, "takeClosing", "(I)Z"⟩
abbrev cX4_takeMark : ByteArray := prog_6_method_8_code
def yX4_takeMark : MethodName := ⟨RX4, "takeMark", "(I)Z"⟩
abbrev cX4_depth : ByteArray := prog_6_method_9_code
def yX4_depth : MethodName := ⟨RX4, "depth", "(I)I"⟩
abbrev cX4_countHolds : ByteArray := prog_6_method_10_code
def yX4_countHolds : MethodName := ⟨RX4, "countHolds", "()I"⟩
def RX5 : String := "TagCarrier$Wanted"
def TX5 : u_T := fun k => match k with
  | 0 => ("TagCarrier$Wanted", "from", "[I", true)
  | 1 => ("TagCarrier$Wanted", "to", "[I", true)
  | 2 => ("TagCarrier$Wanted", "mark", "[I", true)
  | _ => ("TagCarrier$Wanted", "missing", "I", false)
def tyX5 : Nat → FieldType := fun k => match k with
  | 0 => .array .int
  | 1 => .array .int
  | 2 => .array .int
  | _ => .int
abbrev wsX50 : List Cond := u_ws RX5 TX5 4
theorem nmX5 : ∀ a, a < 4 → ∀ b, b < 4 → a ≠ b → (TX5 a).2.1 ≠ (TX5 b).2.1 := by decide +kernel
theorem tyX5_ok : ∀ k, k < 4 → parseFieldDescriptor (TX5 k).2.2.1 = some (tyX5 k) := by decide +kernel
abbrev cX5_init : ByteArray := prog_7_method_1_code
def yX5_init : MethodName := ⟨RX5, "<init>", "()V"⟩
abbrev cX5_find : ByteArray := prog_7_method_2_code
def yX5_find : MethodName := ⟨RX5, "find", "(LTagCarrier$Sentences;)V"⟩
abbrev cX5_findPair : ByteArray := prog_7_method_3_code
def yX5_findPair : MethodName := ⟨RX5, "findPair", "(LTagCarrier$Sentences;I)V"⟩
abbrev cX5_countCrossings : ByteArray := prog_7_method_4_code
def yX5_countCrossings : MethodName := ⟨RX5, "countCrossings", "(I)I"⟩
abbrev cX5_cross : ByteArray := prog_7_method_5_code
def yX5_cross : MethodName := ⟨RX5, "cross", "(II)Z"⟩
abbrev cX5_overlapsFromAhead : ByteArray := prog_7_method_6_code
def yX5_overlapsFromAhead : MethodName := ⟨RX5, "overlapsFromAhead", "(II)Z"⟩
def RX6 : String := "TagCarrier$Writer"
def TX6 : u_T := fun k => match k with
  | 0 => ("TagCarrier$Writer", "signs", "[I", true)
  | 1 => ("TagCarrier$Writer", "count", "I", false)
  | _ => ("TagCarrier$Writer", "ranks", "[I", true)
def tyX6 : Nat → FieldType := fun k => match k with
  | 0 => .array .int
  | 1 => .int
  | _ => .array .int
abbrev wsX60 : List Cond := u_ws RX6 TX6 3
theorem nmX6 : ∀ a, a < 3 → ∀ b, b < 3 → a ≠ b → (TX6 a).2.1 ≠ (TX6 b).2.1 := by decide +kernel
theorem tyX6_ok : ∀ k, k < 3 → parseFieldDescriptor (TX6 k).2.2.1 = some (tyX6 k) := by decide +kernel
abbrev cX6_init : ByteArray := prog_8_method_1_code
def yX6_init : MethodName := ⟨RX6, "<init>", "()V"⟩
abbrev cX6_write : ByteArray := prog_8_method_2_code
def yX6_write : MethodName := ⟨RX6, "write", "(LTagCarrier$Sentences;LTagCarrier$PairPlacer;LTagCarrier$MarkPlacer;)V"⟩
abbrev cX6_writeGap : ByteArray := prog_8_method_3_code
def yX6_writeGap : MethodName := ⟨RX6, "writeGap", "(LTagCarrier$Source;LTagCarrier$PairPlacer;LTagCarrier$MarkPlacer;I)V"⟩
abbrev cX6_heldByAny : ByteArray := prog_8_method_4_code
def yX6_heldByAny : MethodName := ⟨RX6, "heldByAny", "(LTagCarrier$Source;I)I"⟩
abbrev cX6_addEmpty : ByteArray := prog_8_method_5_code
def yX6_addEmpty : MethodName := ⟨RX6, "addEmpty", "(I)V"⟩
abbrev cX6_rankClosing : ByteArray := prog_8_method_6_code
def yX6_rankClosing : MethodName := ⟨RX6, "rankClosing", "(LTagCarrier$Source;LTagCarrier$PairPlacer;)V"⟩
abbrev cX6_rankOpening : ByteArray := prog_8_method_7_code
def yX6_rankOpening : MethodName := ⟨RX6, "rankOpening", "(LTagCarrier$Source;LTagCarrier$PairPlacer;)V"⟩
abbrev cX6_addRanked : ByteArray := prog_8_method_8_code
def yX6_addRanked : MethodName := ⟨RX6, "addRanked", "(II)V"⟩
abbrev cX6_greatestRank : ByteArray := prog_8_method_9_code
def yX6_greatestRank : MethodName := ⟨RX6, "greatestRank", "(I)I"⟩
abbrev cX6_addMarks : ByteArray := prog_8_method_10_code
def yX6_addMarks : MethodName := ⟨RX6, "addMarks", "(LTagCarrier$Source;LTagCarrier$MarkPlacer;I)V"⟩
abbrev cX6_add : ByteArray := prog_8_method_11_code
def yX6_add : MethodName := ⟨RX6, "add", "(I)V"⟩
def RX7 : String := "TagCarrier"
def TX7 : u_T := fun k => match k with
  | 0 => ("TagCarrier", "pad", "LTagCarrier$Pad;", true)
  | 1 => ("TagCarrier", "now", "LTagCarrier$Sentences;", true)
  | 2 => ("TagCarrier", "images", "[LTagCarrier$Sentences;", true)
  | 3 => ("TagCarrier", "wanted", "LTagCarrier$Wanted;", true)
  | 4 => ("TagCarrier", "pairPlacer", "LTagCarrier$PairPlacer;", true)
  | 5 => ("TagCarrier", "markPlacer", "LTagCarrier$MarkPlacer;", true)
  | 6 => ("TagCarrier", "writer", "LTagCarrier$Writer;", true)
  | _ => ("TagCarrier", "stale", "Z", false)
def tyX7 : Nat → FieldType := fun k => match k with
  | 0 => .object "TagCarrier$Pad"
  | 1 => .object "TagCarrier$Sentences"
  | 2 => .array (.object "TagCarrier$Sentences")
  | 3 => .object "TagCarrier$Wanted"
  | 4 => .object "TagCarrier$PairPlacer"
  | 5 => .object "TagCarrier$MarkPlacer"
  | 6 => .object "TagCarrier$Writer"
  | _ => .boolean
abbrev wsX70 : List Cond := u_ws RX7 TX7 8
theorem nmX7 : ∀ a, a < 8 → ∀ b, b < 8 → a ≠ b → (TX7 a).2.1 ≠ (TX7 b).2.1 := by decide +kernel
theorem tyX7_ok : ∀ k, k < 8 → parseFieldDescriptor (TX7 k).2.2.1 = some (tyX7 k) := by decide +kernel
abbrev cX7_init : ByteArray := prog_1_method_1_code
def yX7_init : MethodName := ⟨RX7, "<init>", "()V"⟩
abbrev cX7_say : ByteArray := prog_1_method_2_code
def yX7_say : MethodName := ⟨RX7, "say", "(I)I"⟩
abbrev cX7_wipe : ByteArray := prog_1_method_3_code
def yX7_wipe : MethodName := ⟨RX7, "wipe", "()I"⟩
abbrev cX7_fault : ByteArray := prog_1_method_4_code
def yX7_fault : MethodName := ⟨RX7, "fault", "()I"⟩
abbrev cX7_load : ByteArray := prog_1_method_5_code
def yX7_load : MethodName := ⟨RX7, "load", "()I"⟩
abbrev cX7_target : ByteArray := prog_1_method_6_code
def yX7_target : MethodName := ⟨RX7, "target", "(I)I"⟩
abbrev cX7_link : ByteArray := prog_1_method_7_code
def yX7_link : MethodName := ⟨RX7, "link", "(II)I"⟩
abbrev cX7_pair : ByteArray := prog_1_method_8_code
def yX7_pair : MethodName := ⟨RX7, "pair", "(II)I"⟩
abbrev cX7_mark : ByteArray := prog_1_method_9_code
def yX7_mark : MethodName := ⟨RX7, "mark", "(II)I"⟩
abbrev cX7_total : ByteArray := prog_1_method_10_code
def yX7_total : MethodName := ⟨RX7, "total", "(I)I"⟩
abbrev cX7_sign : ByteArray := prog_1_method_11_code
def yX7_sign : MethodName := ⟨RX7, "sign", "(I)I"⟩
abbrev cX7_image : ByteArray := prog_1_method_12_code
def yX7_image : MethodName := ⟨RX7, "image", "(I)I"⟩
abbrev cX7_restore : ByteArray := prog_1_method_13_code
def yX7_restore : MethodName := ⟨RX7, "restore", "(I)I"⟩
abbrev cX7_told : ByteArray := prog_1_method_14_code
def yX7_told : MethodName := ⟨RX7, "told", "(I)I"⟩
abbrev cX7_carry : ByteArray := prog_1_method_15_code
def yX7_carry : MethodName := ⟨RX7, "carry", "()V"⟩
abbrev cX7_has : ByteArray := prog_1_method_16_code
def yX7_has : MethodName := ⟨RX7, "has", "(II)Z"⟩
def RX8 : String := "TagCarrierModel"
def TX8 : u_T := fun k => match k with
  | 0 => ("TagCarrierModel", "words", "I", false)
  | 1 => ("TagCarrierModel", "opens", "[I", true)
  | 2 => ("TagCarrierModel", "closes", "[I", true)
  | 3 => ("TagCarrierModel", "holds", "[I", true)
  | 4 => ("TagCarrierModel", "markGap", "[I", true)
  | 5 => ("TagCarrierModel", "order", "[I", true)
  | 6 => ("TagCarrierModel", "marks", "I", false)
  | 7 => ("TagCarrierModel", "target", "I", false)
  | 8 => ("TagCarrierModel", "links", "[I", true)
  | 9 => ("TagCarrierModel", "signs", "I", false)
  | 10 => ("TagCarrierModel", "pad", "[I", true)
  | 11 => ("TagCarrierModel", "pile", "[I", true)
  | 12 => ("TagCarrierModel", "best", "[J", true)
  | 13 => ("TagCarrierModel", "begins", "[I", true)
  | 14 => ("TagCarrierModel", "ends", "[I", true)
  | 15 => ("TagCarrierModel", "markAt", "[I", true)
  | 16 => ("TagCarrierModel", "whole", "J", false)
  | 17 => ("TagCarrierModel", "moved", "I", false)
  | 18 => ("TagCarrierModel", "text", "[I", true)
  | 19 => ("TagCarrierModel", "long1", "I", false)
  | 20 => ("TagCarrierModel", "image", "[I", true)
  | _ => ("TagCarrierModel", "isKept", "[Z", true)
def tyX8 : Nat → FieldType := fun k => match k with
  | 0 => .int
  | 1 => .array .int
  | 2 => .array .int
  | 3 => .array .int
  | 4 => .array .int
  | 5 => .array .int
  | 6 => .int
  | 7 => .int
  | 8 => .array .int
  | 9 => .int
  | 10 => .array .int
  | 11 => .array .int
  | 12 => .array .long
  | 13 => .array .int
  | 14 => .array .int
  | 15 => .array .int
  | 16 => .long
  | 17 => .int
  | 18 => .array .int
  | 19 => .int
  | 20 => .array .int
  | _ => .array .boolean
abbrev wsX80 : List Cond := u_ws RX8 TX8 22
theorem nmX8 : ∀ a, a < 22 → ∀ b, b < 22 → a ≠ b → (TX8 a).2.1 ≠ (TX8 b).2.1 := by decide +kernel
theorem tyX8_ok : ∀ k, k < 22 → parseFieldDescriptor (TX8 k).2.2.1 = some (tyX8 k) := by decide +kernel
abbrev cX8_init : ByteArray := prog_10_method_1_code
def yX8_init : MethodName := ⟨RX8, "<init>", "()V"⟩
abbrev cX8_in : ByteArray := prog_10_method_2_code
def yX8_in : MethodName := ⟨RX8, "in", "(III)Z"⟩
abbrev cX8_off : ByteArray := prog_10_method_3_code
def yX8_off : MethodName := ⟨RX8, "off", "(II)I"⟩
abbrev cX8_greater : ByteArray := prog_10_method_4_code
def yX8_greater : MethodName := ⟨RX8, "greater", "(II)I"⟩
abbrev cX8_say : ByteArray := prog_10_method_5_code
def yX8_say : MethodName := ⟨RX8, "say", "(I)I"⟩
abbrev cX8_wipe : ByteArray := prog_10_method_6_code
def yX8_wipe : MethodName := ⟨RX8, "wipe", "()I"⟩
abbrev cX8_faultOf : ByteArray := prog_10_method_7_code
def yX8_faultOf : MethodName := ⟨RX8, "faultOf", "()I"⟩
abbrev cX8_fault : ByteArray := prog_10_method_8_code
def yX8_fault : MethodName := ⟨RX8, "fault", "()I"⟩
abbrev cX8_unlink : ByteArray := prog_10_method_9_code
def yX8_unlink : MethodName := ⟨RX8, "unlink", "()V"⟩
abbrev cX8_load : ByteArray := prog_10_method_10_code
def yX8_load : MethodName := ⟨RX8, "load", "()I"⟩
abbrev cX8_target : ByteArray := prog_10_method_11_code
def yX8_target : MethodName := ⟨RX8, "target", "(I)I"⟩
abbrev cX8_link : ByteArray := prog_10_method_12_code
def yX8_link : MethodName := ⟨RX8, "link", "(II)I"⟩
abbrev cX8_isThere : ByteArray := prog_10_method_13_code
def yX8_isThere : MethodName := ⟨RX8, "isThere", "(I)Z"⟩
abbrev cX8_anchor : ByteArray := prog_10_method_14_code
def yX8_anchor : MethodName := ⟨RX8, "anchor", "(I)I"⟩
abbrev cX8_linksOf : ByteArray := prog_10_method_15_code
def yX8_linksOf : MethodName := ⟨RX8, "linksOf", "(I)I"⟩
abbrev cX8_wantedFrom : ByteArray := prog_10_method_16_code
def yX8_wantedFrom : MethodName := ⟨RX8, "wantedFrom", "(I)I"⟩
abbrev cX8_wantedTo : ByteArray := prog_10_method_17_code
def yX8_wantedTo : MethodName := ⟨RX8, "wantedTo", "(I)I"⟩
abbrev cX8_costOf : ByteArray := prog_10_method_18_code
def yX8_costOf : MethodName := ⟨RX8, "costOf", "(III)I"⟩
abbrev cX8_at : ByteArray := prog_10_method_19_code
def yX8_at : MethodName := ⟨RX8, "at", "(III)I"⟩
abbrev cX8_least : ByteArray := prog_10_method_20_code
def yX8_least : MethodName := ⟨RX8, "least", "(JJ)J"⟩
abbrev cX8_areApart : ByteArray := prog_10_method_21_code
def yX8_areApart : MethodName := ⟨RX8, "areApart", "(II)Z"⟩
abbrev cX8_isHeld : ByteArray := prog_10_method_22_code
def yX8_isHeld : MethodName := ⟨RX8, "isHeld", "(II)Z"⟩
abbrev cX8_code : ByteArray := prog_10_method_23_code
def yX8_code : MethodName := ⟨RX8, "code", "(III)J"⟩
abbrev cX8_leastOf : ByteArray := prog_10_method_24_code
def yX8_leastOf : MethodName := ⟨RX8, "leastOf", "(III)J"⟩
abbrev cX8_there : ByteArray := prog_10_method_25_code
def yX8_there : MethodName := ⟨RX8, "there", "()I"⟩
abbrev cX8_place : ByteArray := prog_10_method_26_code
def yX8_place : MethodName := ⟨RX8, "place", "()V"⟩
abbrev cX8_placeMarks : ByteArray := prog_10_method_27_code
def yX8_placeMarks : MethodName := ⟨RX8, "placeMarks", "()V"⟩
abbrev cX8_depth : ByteArray := prog_10_method_28_code
def yX8_depth : MethodName := ⟨RX8, "depth", "(I)I"⟩
abbrev cX8_pair : ByteArray := prog_10_method_29_code
def yX8_pair : MethodName := ⟨RX8, "pair", "(II)I"⟩
abbrev cX8_mark : ByteArray := prog_10_method_30_code
def yX8_mark : MethodName := ⟨RX8, "mark", "(II)I"⟩
abbrev cX8_isCrossing : ByteArray := prog_10_method_31_code
def yX8_isCrossing : MethodName := ⟨RX8, "isCrossing", "(II)Z"⟩
abbrev cX8_bits : ByteArray := prog_10_method_32_code
def yX8_bits : MethodName := ⟨RX8, "bits", "(I)I"⟩
abbrev cX8_total : ByteArray := prog_10_method_33_code
def yX8_total : MethodName := ⟨RX8, "total", "(I)I"⟩
abbrev cX8_write : ByteArray := prog_10_method_34_code
def yX8_write : MethodName := ⟨RX8, "write", "(I)V"⟩
abbrev cX8_writeClosed : ByteArray := prog_10_method_35_code
def yX8_writeClosed : MethodName := ⟨RX8, "writeClosed", "(I)V"⟩
abbrev cX8_writeOpened : ByteArray := prog_10_method_36_code
def yX8_writeOpened : MethodName := ⟨RX8, "writeOpened", "(I)V"⟩
abbrev cX8_stand : ByteArray := prog_10_method_37_code
def yX8_stand : MethodName := ⟨RX8, "stand", "(II)I"⟩
abbrev cX8_writeEmpty : ByteArray := prog_10_method_38_code
def yX8_writeEmpty : MethodName := ⟨RX8, "writeEmpty", "(II)V"⟩
abbrev cX8_sign : ByteArray := prog_10_method_39_code
def yX8_sign : MethodName := ⟨RX8, "sign", "(I)I"⟩
abbrev cX8_image : ByteArray := prog_10_method_40_code
def yX8_image : MethodName := ⟨RX8, "image", "(I)I"⟩
abbrev cX8_restore : ByteArray := prog_10_method_41_code
def yX8_restore : MethodName := ⟨RX8, "restore", "(I)I"⟩
abbrev cX8_told : ByteArray := prog_10_method_42_code
def yX8_told : MethodName := ⟨RX8, "told", "(I)I"⟩
def RJ6 : String := "java/lang/Integer"
def TJ6 : u_T := fun k => match k with
  | _ => ("", "", "", false)
def tyJ6 : Nat → FieldType := fun k => match k with
  | _ => .int
abbrev wsJ60 : List Cond := u_ws RJ6 TJ6 0
theorem nmJ6 : ∀ a, a < 0 → ∀ b, b < 0 → a ≠ b → (TJ6 a).2.1 ≠ (TJ6 b).2.1 := by decide +kernel
theorem tyJ6_ok : ∀ k, k < 0 → parseFieldDescriptor (TJ6 k).2.2.1 = some (tyJ6 k) := by decide +kernel
abbrev cJ6_bitCount_0f7a4 : ByteArray := prog_11_method_49_code
def yJ6_bitCount_0f7a4 : MethodName := ⟨RJ6, "bitCount", "(I)I"⟩
def RJ9 : String := "java/lang/Math"
def TJ9 : u_T := fun k => match k with
  | _ => ("", "", "", false)
def tyJ9 : Nat → FieldType := fun k => match k with
  | _ => .int
abbrev wsJ90 : List Cond := u_ws RJ9 TJ9 0
theorem nmJ9 : ∀ a, a < 0 → ∀ b, b < 0 → a ≠ b → (TJ9 a).2.1 ≠ (TJ9 b).2.1 := by decide +kernel
theorem tyJ9_ok : ∀ k, k < 0 → parseFieldDescriptor (TJ9 k).2.2.1 = some (tyJ9 k) := by decide +kernel
abbrev cJ9_abs_0f7a4 : ByteArray := prog_12_method_59_code
def yJ9_abs_0f7a4 : MethodName := ⟨RJ9, "abs", "(I)I"⟩
abbrev cJ9_max_7cf53 : ByteArray := prog_12_method_65_code
def yJ9_max_7cf53 : MethodName := ⟨RJ9, "max", "(II)I"⟩
abbrev cJ9_min_7cf53 : ByteArray := prog_12_method_69_code
def yJ9_min_7cf53 : MethodName := ⟨RJ9, "min", "(II)I"⟩
abbrev cJ9_min_f86c9 : ByteArray := prog_12_method_70_code
def yJ9_min_f86c9 : MethodName := ⟨RJ9, "min", "(JJ)J"⟩
def RL : String := "TagCarrierLaw"
abbrev cL_law : ByteArray := code
def yL_law : MethodName := ⟨RL, "law", "([I)Z"⟩
def wsX0_init : List Cond := .code yX0_init cX0_init 1 none :: ([.methodLink RX0 3 objectInit, .instanceMethod objectInit, .code objectInit ⟨#[0xb1]⟩ 1 none, .arrayClass .int, .fieldLink RX0 9 "TagCarrier$MarkPlacer" "at" "[I", .fieldLink RX0 15 "TagCarrier$MarkPlacer" "moved" "[I", .fieldLink RX0 18 "TagCarrier$MarkPlacer" "chosen" "[I"] ++ wsX00)
def wsX0_findMoves : List Cond := .code yX0_findMoves cX0_findMoves 8 none :: ([.constant RX0 42 (1048576), .methodLink RX0 43 Lib.Math.abs.name, .static Lib.Math.abs.name, .initialized "java/lang/Math", .code Lib.Math.abs.name Lib.Math.abs.code 1 (some .int), .fieldLink RX0 15 "TagCarrier$MarkPlacer" "moved" "[I", .fieldLink RX0 18 "TagCarrier$MarkPlacer" "chosen" "[I"] ++ wsX00)
def wsX0_place : List Cond := .code yX0_place cX0_place 6 none :: ([.fieldLink RX0 15 "TagCarrier$MarkPlacer" "moved" "[I", .fieldLink RX0 21 "TagCarrier$Source" "markCount" "I", .fieldLink RX0 27 "TagCarrier$Wanted" "mark" "[I", .fieldLink RX0 32 "TagCarrier$Source" "markRow" "[I", .fieldLink RX0 39 "TagCarrier$MarkPlacer" "movedInAll" "I", .fieldLink RX0 18 "TagCarrier$MarkPlacer" "chosen" "[I", .fieldLink RX0 9 "TagCarrier$MarkPlacer" "at" "[I", .methodLink RX0 35 yX0_findMoves, .instanceMethod yX0_findMoves, .selects RX0 yX0_findMoves yX0_findMoves, .initialized RX0, .code yX0_findMoves cX0_findMoves 8 none, .constant RX0 42 (1048576), .methodLink RX0 43 Lib.Math.abs.name, .static Lib.Math.abs.name, .initialized "java/lang/Math", .code Lib.Math.abs.name Lib.Math.abs.code 1 (some .int)] ++ wsX00 ++ wsX40 ++ wsX50)
def wsX4_init : List Cond := .code yX4_init cX4_init 1 none :: ([.methodLink RX4 3 objectInit, .instanceMethod objectInit, .code objectInit ⟨#[0xb1]⟩ 1 none, .arrayClass .int, .fieldLink RX4 9 "TagCarrier$Source" "opens" "[I", .fieldLink RX4 15 "TagCarrier$Source" "closes" "[I", .fieldLink RX4 18 "TagCarrier$Source" "holds" "[I", .fieldLink RX4 21 "TagCarrier$Source" "heldBy" "[I", .fieldLink RX4 24 "TagCarrier$Source" "markGap" "[I", .fieldLink RX4 27 "TagCarrier$Source" "markRow" "[I", .fieldLink RX4 30 "TagCarrier$Source" "openRow" "[I"] ++ wsX40)
def wsX1_init : List Cond := .code yX1_init cX1_init 1 none :: ([.methodLink RX1 3 objectInit, .instanceMethod objectInit, .code objectInit ⟨#[0xb1]⟩ 1 none, .classLink RX1 9 RX4, .instantiable RX4 12, .initialized RX4, .fieldLink RX1 12 "TagCarrier$Pad" "source" "LTagCarrier$Source;", .arrayClass .int, .fieldLink RX1 18 "TagCarrier$Pad" "signs" "[I", .instanceMethod yX4_init, .code yX4_init cX4_init 1 none, .methodLink RX4 3 objectInit, .fieldLink RX4 9 "TagCarrier$Source" "opens" "[I", .fieldLink RX4 15 "TagCarrier$Source" "closes" "[I", .fieldLink RX4 18 "TagCarrier$Source" "holds" "[I", .fieldLink RX4 21 "TagCarrier$Source" "heldBy" "[I", .fieldLink RX4 24 "TagCarrier$Source" "markGap" "[I", .fieldLink RX4 27 "TagCarrier$Source" "markRow" "[I", .fieldLink RX4 30 "TagCarrier$Source" "openRow" "[I"] ++ wsX40 ++ wsX10)
def wsX1_add : List Cond := .code yX1_add cX1_add 2 (some .boolean) :: ([.fieldLink RX1 22 "TagCarrier$Pad" "count" "I", .fieldLink RX1 18 "TagCarrier$Pad" "signs" "[I"] ++ wsX10)
def wsX4_clear : List Cond := .code yX4_clear cX4_clear 1 none :: ([.fieldLink RX4 33 "TagCarrier$Source" "words" "I", .fieldLink RX4 37 "TagCarrier$Source" "pairs" "I", .fieldLink RX4 40 "TagCarrier$Source" "marks" "I", .fieldLink RX4 43 "TagCarrier$Source" "markCount" "I", .fieldLink RX4 46 "TagCarrier$Source" "openCount" "I"] ++ wsX40)
def wsX4_takeWord : List Cond := .code yX4_takeWord cX4_takeWord 1 (some .boolean) :: ([.fieldLink RX4 33 "TagCarrier$Source" "words" "I"] ++ wsX40)
def wsX7_has : List Cond := .code yX7_has cX7_has 2 (some .boolean) :: ([])
def wsX4_takeOpening : List Cond := .code yX4_takeOpening cX4_takeOpening 3 (some .boolean) :: ([.fieldLink RX4 37 "TagCarrier$Source" "pairs" "I", .fieldLink RX4 46 "TagCarrier$Source" "openCount" "I", .fieldLink RX4 9 "TagCarrier$Source" "opens" "[I", .fieldLink RX4 33 "TagCarrier$Source" "words" "I", .fieldLink RX4 15 "TagCarrier$Source" "closes" "[I", .fieldLink RX4 18 "TagCarrier$Source" "holds" "[I", .fieldLink RX4 21 "TagCarrier$Source" "heldBy" "[I", .fieldLink RX4 30 "TagCarrier$Source" "openRow" "[I", .static yX7_has, .initialized RX7, .code yX7_has cX7_has 2 (some .boolean)] ++ wsX40)
def wsX4_takeClosing : List Cond := .code yX4_takeClosing cX4_takeClosing 2 (some .boolean) :: ([.fieldLink RX4 46 "TagCarrier$Source" "openCount" "I", .fieldLink RX4 30 "TagCarrier$Source" "openRow" "[I", .fieldLink RX4 15 "TagCarrier$Source" "closes" "[I", .fieldLink RX4 33 "TagCarrier$Source" "words" "I"] ++ wsX40)
def wsX4_takeMark : List Cond := .code yX4_takeMark cX4_takeMark 2 (some .boolean) :: ([.fieldLink RX4 40 "TagCarrier$Source" "marks" "I", .fieldLink RX4 43 "TagCarrier$Source" "markCount" "I", .fieldLink RX4 24 "TagCarrier$Source" "markGap" "[I", .fieldLink RX4 33 "TagCarrier$Source" "words" "I", .fieldLink RX4 27 "TagCarrier$Source" "markRow" "[I", .static yX7_has, .initialized RX7, .code yX7_has cX7_has 2 (some .boolean)] ++ wsX40)
def wsX4_take_r1 : List Cond := [Cond.methodLink RX4 49 yX4_takeWord, Cond.instanceMethod yX4_takeWord, Cond.selects RX4 yX4_takeWord yX4_takeWord, Cond.initialized RX4, Cond.code yX4_takeWord cX4_takeWord 1 (some .boolean), Cond.fieldLink RX4 33 "TagCarrier$Source" "words" "I", Cond.methodLink RX4 53 yX4_takeOpening, Cond.instanceMethod yX4_takeOpening, Cond.selects RX4 yX4_takeOpening yX4_takeOpening, Cond.code yX4_takeOpening cX4_takeOpening 3 (some .boolean), Cond.fieldLink RX4 37 "TagCarrier$Source" "pairs" "I", Cond.fieldLink RX4 46 "TagCarrier$Source" "openCount" "I", Cond.fieldLink RX4 9 "TagCarrier$Source" "opens" "[I", Cond.fieldLink RX4 15 "TagCarrier$Source" "closes" "[I", Cond.fieldLink RX4 18 "TagCarrier$Source" "holds" "[I", Cond.fieldLink RX4 21 "TagCarrier$Source" "heldBy" "[I", Cond.fieldLink RX4 30 "TagCarrier$Source" "openRow" "[I", Cond.static yX7_has, Cond.initialized RX7, Cond.code yX7_has cX7_has 2 (some .boolean), Cond.methodLink RX4 57 yX4_takeClosing, Cond.instanceMethod yX4_takeClosing, Cond.selects RX4 yX4_takeClosing yX4_takeClosing, Cond.code yX4_takeClosing cX4_takeClosing 2 (some .boolean)]
def wsX4_take_r2 : List Cond := [Cond.methodLink RX4 60 yX4_takeMark, Cond.instanceMethod yX4_takeMark, Cond.selects RX4 yX4_takeMark yX4_takeMark, Cond.code yX4_takeMark cX4_takeMark 2 (some .boolean), Cond.fieldLink RX4 40 "TagCarrier$Source" "marks" "I", Cond.fieldLink RX4 43 "TagCarrier$Source" "markCount" "I", Cond.fieldLink RX4 24 "TagCarrier$Source" "markGap" "[I", Cond.fieldLink RX4 27 "TagCarrier$Source" "markRow" "[I"]
def wsX4_take : List Cond := .code yX4_take cX4_take 2 (some .boolean) :: ((wsX4_take_r1 ++ wsX4_take_r2) ++ wsX40)
def wsX1_read_r1 : List Cond := [Cond.fieldLink RX1 12 "TagCarrier$Pad" "source" "LTagCarrier$Source;", Cond.fieldLink RX1 22 "TagCarrier$Pad" "count" "I", Cond.fieldLink RX1 18 "TagCarrier$Pad" "signs" "[I", Cond.fieldLink RX1 33 "TagCarrier$Source" "openCount" "I", Cond.methodLink RX1 26 yX4_clear, Cond.instanceMethod yX4_clear, Cond.selects RX4 yX4_clear yX4_clear, Cond.initialized RX4, Cond.code yX4_clear cX4_clear 1 none, Cond.fieldLink RX4 33 "TagCarrier$Source" "words" "I", Cond.fieldLink RX4 37 "TagCarrier$Source" "pairs" "I", Cond.fieldLink RX4 40 "TagCarrier$Source" "marks" "I", Cond.fieldLink RX4 43 "TagCarrier$Source" "markCount" "I", Cond.fieldLink RX4 46 "TagCarrier$Source" "openCount" "I", Cond.methodLink RX1 29 yX4_take, Cond.instanceMethod yX4_take, Cond.selects RX4 yX4_take yX4_take, Cond.code yX4_take cX4_take 2 (some .boolean), Cond.methodLink RX4 49 yX4_takeWord, Cond.instanceMethod yX4_takeWord, Cond.selects RX4 yX4_takeWord yX4_takeWord, Cond.code yX4_takeWord cX4_takeWord 1 (some .boolean), Cond.methodLink RX4 53 yX4_takeOpening, Cond.instanceMethod yX4_takeOpening]
def wsX1_read_r2 : List Cond := [Cond.selects RX4 yX4_takeOpening yX4_takeOpening, Cond.code yX4_takeOpening cX4_takeOpening 3 (some .boolean), Cond.fieldLink RX4 9 "TagCarrier$Source" "opens" "[I", Cond.fieldLink RX4 15 "TagCarrier$Source" "closes" "[I", Cond.fieldLink RX4 18 "TagCarrier$Source" "holds" "[I", Cond.fieldLink RX4 21 "TagCarrier$Source" "heldBy" "[I", Cond.fieldLink RX4 30 "TagCarrier$Source" "openRow" "[I", Cond.static yX7_has, Cond.initialized RX7, Cond.code yX7_has cX7_has 2 (some .boolean), Cond.methodLink RX4 57 yX4_takeClosing, Cond.instanceMethod yX4_takeClosing, Cond.selects RX4 yX4_takeClosing yX4_takeClosing, Cond.code yX4_takeClosing cX4_takeClosing 2 (some .boolean), Cond.methodLink RX4 60 yX4_takeMark, Cond.instanceMethod yX4_takeMark, Cond.selects RX4 yX4_takeMark yX4_takeMark, Cond.code yX4_takeMark cX4_takeMark 2 (some .boolean), Cond.fieldLink RX4 24 "TagCarrier$Source" "markGap" "[I", Cond.fieldLink RX4 27 "TagCarrier$Source" "markRow" "[I"]
def wsX1_read : List Cond := .code yX1_read cX1_read 2 (some .int) :: ((wsX1_read_r1 ++ wsX1_read_r2) ++ wsX10 ++ wsX40)
def wsX2_init : List Cond := .code yX2_init cX2_init 1 none :: ([.methodLink RX2 5 objectInit, .instanceMethod objectInit, .code objectInit ⟨#[0xb1]⟩ 1 none, .arrayClass .int, .fieldLink RX2 11 "TagCarrier$PairPlacer" "from" "[I", .fieldLink RX2 15 "TagCarrier$PairPlacer" "to" "[I", .fieldLink RX2 18 "TagCarrier$PairPlacer" "cost" "[I", .arrayClass .long, .fieldLink RX2 21 "TagCarrier$PairPlacer" "prices" "[J", .fieldLink RX2 25 "TagCarrier$PairPlacer" "sums" "[J", .fieldLink RX2 28 "TagCarrier$PairPlacer" "parts" "[I"] ++ wsX20)
def wsX2_shiftOf : List Cond := .code yX2_shiftOf cX2_shiftOf 1 (some .int) :: ([])
def wsX2_costOf : List Cond := .code yX2_costOf cX2_costOf 8 (some .int) :: ([.methodLink RX2 69 Lib.Math.abs.name, .static Lib.Math.abs.name, .initialized "java/lang/Math", .code Lib.Math.abs.name Lib.Math.abs.code 1 (some .int), .methodLink RX2 74 Lib.Math.max.name, .static Lib.Math.max.name, .code Lib.Math.max.name Lib.Math.max.code 2 (some .int), .methodLink RX2 78 Lib.Math.min.name, .static Lib.Math.min.name, .code Lib.Math.min.name Lib.Math.min.code 2 (some .int)])
def wsX2_findPrices : List Cond := .code yX2_findPrices cX2_findPrices 12 none :: ([.fieldLink RX2 21 "TagCarrier$PairPlacer" "prices" "[J", .methodLink RX2 61 yX2_shiftOf, .static yX2_shiftOf, .initialized RX2, .code yX2_shiftOf cX2_shiftOf 1 (some .int), .methodLink RX2 65 yX2_costOf, .static yX2_costOf, .code yX2_costOf cX2_costOf 8 (some .int), .methodLink RX2 69 Lib.Math.abs.name, .static Lib.Math.abs.name, .initialized "java/lang/Math", .code Lib.Math.abs.name Lib.Math.abs.code 1 (some .int), .methodLink RX2 74 Lib.Math.max.name, .static Lib.Math.max.name, .code Lib.Math.max.name Lib.Math.max.code 2 (some .int), .methodLink RX2 78 Lib.Math.min.name, .static Lib.Math.min.name, .code Lib.Math.min.name Lib.Math.min.code 2 (some .int)] ++ wsX20)
def wsX2_apart : List Cond := .code yX2_apart cX2_apart 4 (some .boolean) :: ([.fieldLink RX2 88 "TagCarrier$Source" "holds" "[I", .fieldLink RX2 91 "TagCarrier$Source" "heldBy" "[I", .static yX7_has, .initialized RX7, .code yX7_has cX7_has 2 (some .boolean)] ++ wsX40)
def wsX2_findParts : List Cond := .code yX2_findParts cX2_findParts 4 none :: ([.fieldLink RX2 81 "TagCarrier$PairPlacer" "partCount" "I", .fieldLink RX2 28 "TagCarrier$PairPlacer" "parts" "[I", .methodLink RX2 84 yX2_apart, .static yX2_apart, .initialized RX2, .code yX2_apart cX2_apart 4 (some .boolean), .fieldLink RX2 88 "TagCarrier$Source" "holds" "[I", .fieldLink RX2 91 "TagCarrier$Source" "heldBy" "[I", .static yX7_has, .initialized RX7, .code yX7_has cX7_has 2 (some .boolean)] ++ wsX20 ++ wsX40)
def wsX2_filled : List Cond := .code yX2_filled cX2_filled 8 (some .long) :: ([.constantLong RX2 105 (1152921504606846976), .fieldLink RX2 91 "TagCarrier$Source" "heldBy" "[I", .fieldLink RX2 21 "TagCarrier$PairPlacer" "prices" "[J", .fieldLink RX2 25 "TagCarrier$PairPlacer" "sums" "[J", .methodLink RX2 98 Lib.MathLoose.min_long.x, .static Lib.MathLoose.min_long.x, .initialized "java/lang/Math", .code Lib.MathLoose.min_long.x Lib.MathLoose.min_long.code 4 (some .long), .static yX7_has, .initialized RX7, .code yX7_has cX7_has 2 (some .boolean)] ++ wsX40 ++ wsX20)
def wsX2_parted : List Cond := .code yX2_parted cX2_parted 10 (some .long) :: ([.constantLong RX2 105 (1152921504606846976), .fieldLink RX2 81 "TagCarrier$PairPlacer" "partCount" "I", .fieldLink RX2 28 "TagCarrier$PairPlacer" "parts" "[I", .fieldLink RX2 25 "TagCarrier$PairPlacer" "sums" "[J", .methodLink RX2 98 Lib.MathLoose.min_long.x, .static Lib.MathLoose.min_long.x, .initialized "java/lang/Math", .code Lib.MathLoose.min_long.x Lib.MathLoose.min_long.code 4 (some .long)] ++ wsX20)
def wsX2_findSums : List Cond := .code yX2_findSums cX2_findSums 9 none :: ([.fieldLink RX2 25 "TagCarrier$PairPlacer" "sums" "[J", .methodLink RX2 98 Lib.MathLoose.min_long.x, .static Lib.MathLoose.min_long.x, .initialized "java/lang/Math", .code Lib.MathLoose.min_long.x Lib.MathLoose.min_long.code 4 (some .long), .methodLink RX2 94 yX2_filled, .instanceMethod yX2_filled, .selects RX2 yX2_filled yX2_filled, .initialized RX2, .code yX2_filled cX2_filled 8 (some .long), .constantLong RX2 105 (1152921504606846976), .fieldLink RX2 91 "TagCarrier$Source" "heldBy" "[I", .fieldLink RX2 21 "TagCarrier$PairPlacer" "prices" "[J", .static yX7_has, .initialized RX7, .code yX7_has cX7_has 2 (some .boolean), .methodLink RX2 101 yX2_parted, .instanceMethod yX2_parted, .selects RX2 yX2_parted yX2_parted, .code yX2_parted cX2_parted 10 (some .long), .fieldLink RX2 81 "TagCarrier$PairPlacer" "partCount" "I", .fieldLink RX2 28 "TagCarrier$PairPlacer" "parts" "[I"] ++ wsX20 ++ wsX40)
def wsX2_readSpans_r1 : List Cond := [Cond.fieldLink RX2 107 "TagCarrier$PairPlacer" "costOfAll" "I", Cond.fieldLink RX2 11 "TagCarrier$PairPlacer" "from" "[I", Cond.fieldLink RX2 15 "TagCarrier$PairPlacer" "to" "[I", Cond.fieldLink RX2 18 "TagCarrier$PairPlacer" "cost" "[I", Cond.fieldLink RX2 41 "TagCarrier$Wanted" "from" "[I", Cond.fieldLink RX2 44 "TagCarrier$Wanted" "to" "[I", Cond.static yX7_has, Cond.initialized RX7, Cond.code yX7_has cX7_has 2 (some .boolean), Cond.methodLink RX2 61 yX2_shiftOf, Cond.static yX2_shiftOf, Cond.initialized RX2, Cond.code yX2_shiftOf cX2_shiftOf 1 (some .int), Cond.methodLink RX2 65 yX2_costOf, Cond.static yX2_costOf, Cond.code yX2_costOf cX2_costOf 8 (some .int), Cond.methodLink RX2 69 Lib.Math.abs.name, Cond.static Lib.Math.abs.name, Cond.initialized "java/lang/Math", Cond.code Lib.Math.abs.name Lib.Math.abs.code 1 (some .int), Cond.methodLink RX2 74 Lib.Math.max.name, Cond.static Lib.Math.max.name, Cond.code Lib.Math.max.name Lib.Math.max.code 2 (some .int), Cond.methodLink RX2 78 Lib.Math.min.name]
def wsX2_readSpans_r2 : List Cond := [Cond.static Lib.Math.min.name, Cond.code Lib.Math.min.name Lib.Math.min.code 2 (some .int)]
def wsX2_readSpans : List Cond := .code yX2_readSpans cX2_readSpans 7 none :: ((wsX2_readSpans_r1 ++ wsX2_readSpans_r2) ++ wsX20 ++ wsX50)
def wsX2_place_r1 : List Cond := [Cond.fieldLink RX2 31 "TagCarrier$Source" "pairs" "I", Cond.fieldLink RX2 41 "TagCarrier$Wanted" "from" "[I", Cond.fieldLink RX2 44 "TagCarrier$Wanted" "to" "[I", Cond.fieldLink RX2 25 "TagCarrier$PairPlacer" "sums" "[J", Cond.static yX7_has, Cond.initialized RX7, Cond.code yX7_has cX7_has 2 (some .boolean), Cond.methodLink RX2 45 yX2_findPrices, Cond.instanceMethod yX2_findPrices, Cond.selects RX2 yX2_findPrices yX2_findPrices, Cond.initialized RX2, Cond.code yX2_findPrices cX2_findPrices 12 none, Cond.fieldLink RX2 21 "TagCarrier$PairPlacer" "prices" "[J", Cond.methodLink RX2 61 yX2_shiftOf, Cond.static yX2_shiftOf, Cond.code yX2_shiftOf cX2_shiftOf 1 (some .int), Cond.methodLink RX2 65 yX2_costOf, Cond.static yX2_costOf, Cond.code yX2_costOf cX2_costOf 8 (some .int), Cond.methodLink RX2 69 Lib.Math.abs.name, Cond.static Lib.Math.abs.name, Cond.initialized "java/lang/Math", Cond.code Lib.Math.abs.name Lib.Math.abs.code 1 (some .int), Cond.methodLink RX2 74 Lib.Math.max.name]
def wsX2_place_r2 : List Cond := [Cond.static Lib.Math.max.name, Cond.code Lib.Math.max.name Lib.Math.max.code 2 (some .int), Cond.methodLink RX2 78 Lib.Math.min.name, Cond.static Lib.Math.min.name, Cond.code Lib.Math.min.name Lib.Math.min.code 2 (some .int), Cond.methodLink RX2 49 yX2_findParts, Cond.instanceMethod yX2_findParts, Cond.selects RX2 yX2_findParts yX2_findParts, Cond.code yX2_findParts cX2_findParts 4 none, Cond.fieldLink RX2 81 "TagCarrier$PairPlacer" "partCount" "I", Cond.fieldLink RX2 28 "TagCarrier$PairPlacer" "parts" "[I", Cond.methodLink RX2 84 yX2_apart, Cond.static yX2_apart, Cond.code yX2_apart cX2_apart 4 (some .boolean), Cond.fieldLink RX2 88 "TagCarrier$Source" "holds" "[I", Cond.fieldLink RX2 91 "TagCarrier$Source" "heldBy" "[I", Cond.methodLink RX2 53 yX2_findSums, Cond.instanceMethod yX2_findSums, Cond.selects RX2 yX2_findSums yX2_findSums, Cond.code yX2_findSums cX2_findSums 9 none, Cond.methodLink RX2 98 Lib.MathLoose.min_long.x, Cond.static Lib.MathLoose.min_long.x, Cond.code Lib.MathLoose.min_long.x Lib.MathLoose.min_long.code 4 (some .long), Cond.methodLink RX2 94 yX2_filled]
def wsX2_place_r3 : List Cond := [Cond.instanceMethod yX2_filled, Cond.selects RX2 yX2_filled yX2_filled, Cond.code yX2_filled cX2_filled 8 (some .long), Cond.constantLong RX2 105 (1152921504606846976), Cond.methodLink RX2 101 yX2_parted, Cond.instanceMethod yX2_parted, Cond.selects RX2 yX2_parted yX2_parted, Cond.code yX2_parted cX2_parted 10 (some .long), Cond.methodLink RX2 57 yX2_readSpans, Cond.instanceMethod yX2_readSpans, Cond.selects RX2 yX2_readSpans yX2_readSpans, Cond.code yX2_readSpans cX2_readSpans 7 none, Cond.fieldLink RX2 107 "TagCarrier$PairPlacer" "costOfAll" "I", Cond.fieldLink RX2 11 "TagCarrier$PairPlacer" "from" "[I", Cond.fieldLink RX2 15 "TagCarrier$PairPlacer" "to" "[I", Cond.fieldLink RX2 18 "TagCarrier$PairPlacer" "cost" "[I"]
def wsX2_place : List Cond := .code yX2_place cX2_place 5 none :: ((wsX2_place_r1 ++ (wsX2_place_r2 ++ wsX2_place_r3)) ++ wsX40 ++ wsX50 ++ wsX20)
def wsX3_init : List Cond := .code yX3_init cX3_init 1 none :: ([.methodLink RX3 3 objectInit, .instanceMethod objectInit, .code objectInit ⟨#[0xb1]⟩ 1 none, .classLink RX3 9 RX4, .instantiable RX4 12, .initialized RX4, .fieldLink RX3 12 "TagCarrier$Sentences" "source" "LTagCarrier$Source;", .arrayClass .int, .fieldLink RX3 18 "TagCarrier$Sentences" "links" "[I", .instanceMethod yX4_init, .code yX4_init cX4_init 1 none, .methodLink RX4 3 objectInit, .fieldLink RX4 9 "TagCarrier$Source" "opens" "[I", .fieldLink RX4 15 "TagCarrier$Source" "closes" "[I", .fieldLink RX4 18 "TagCarrier$Source" "holds" "[I", .fieldLink RX4 21 "TagCarrier$Source" "heldBy" "[I", .fieldLink RX4 24 "TagCarrier$Source" "markGap" "[I", .fieldLink RX4 27 "TagCarrier$Source" "markRow" "[I", .fieldLink RX4 30 "TagCarrier$Source" "openRow" "[I"] ++ wsX40 ++ wsX30)
def wsX4_copy : List Cond := .code yX4_copy cX4_copy 3 none :: ([.fieldLink RX4 33 "TagCarrier$Source" "words" "I", .fieldLink RX4 37 "TagCarrier$Source" "pairs" "I", .fieldLink RX4 40 "TagCarrier$Source" "marks" "I", .fieldLink RX4 43 "TagCarrier$Source" "markCount" "I", .fieldLink RX4 46 "TagCarrier$Source" "openCount" "I", .fieldLink RX4 9 "TagCarrier$Source" "opens" "[I", .fieldLink RX4 15 "TagCarrier$Source" "closes" "[I", .fieldLink RX4 18 "TagCarrier$Source" "holds" "[I", .fieldLink RX4 21 "TagCarrier$Source" "heldBy" "[I", .fieldLink RX4 30 "TagCarrier$Source" "openRow" "[I", .fieldLink RX4 24 "TagCarrier$Source" "markGap" "[I", .fieldLink RX4 27 "TagCarrier$Source" "markRow" "[I"] ++ wsX40)
def wsX3_copy : List Cond := .code yX3_copy cX3_copy 3 none :: ([.fieldLink RX3 12 "TagCarrier$Sentences" "source" "LTagCarrier$Source;", .fieldLink RX3 26 "TagCarrier$Sentences" "targetWords" "I", .fieldLink RX3 18 "TagCarrier$Sentences" "links" "[I", .methodLink RX3 22 yX4_copy, .instanceMethod yX4_copy, .selects RX4 yX4_copy yX4_copy, .initialized RX4, .code yX4_copy cX4_copy 3 none, .fieldLink RX4 33 "TagCarrier$Source" "words" "I", .fieldLink RX4 37 "TagCarrier$Source" "pairs" "I", .fieldLink RX4 40 "TagCarrier$Source" "marks" "I", .fieldLink RX4 43 "TagCarrier$Source" "markCount" "I", .fieldLink RX4 46 "TagCarrier$Source" "openCount" "I", .fieldLink RX4 9 "TagCarrier$Source" "opens" "[I", .fieldLink RX4 15 "TagCarrier$Source" "closes" "[I", .fieldLink RX4 18 "TagCarrier$Source" "holds" "[I", .fieldLink RX4 21 "TagCarrier$Source" "heldBy" "[I", .fieldLink RX4 30 "TagCarrier$Source" "openRow" "[I", .fieldLink RX4 24 "TagCarrier$Source" "markGap" "[I", .fieldLink RX4 27 "TagCarrier$Source" "markRow" "[I"] ++ wsX30 ++ wsX40)
def wsX3_dropLinks : List Cond := .code yX3_dropLinks cX3_dropLinks 2 none :: ([.fieldLink RX3 18 "TagCarrier$Sentences" "links" "[I"] ++ wsX30)
def wsJ6_bitCount_0f7a4 : List Cond := .code yJ6_bitCount_0f7a4 cJ6_bitCount_0f7a4 1 (some .int) :: ([.constant RJ6 265 (1431655765), .constant RJ6 266 (858993459), .constant RJ6 267 (252645135)])
def wsX3_countLinks : List Cond := .code yX3_countLinks cX3_countLinks 3 (some .int) :: ([.fieldLink RX3 18 "TagCarrier$Sentences" "links" "[I", .methodLink RX3 30 yJ6_bitCount_0f7a4, .static yJ6_bitCount_0f7a4, .initialized RJ6, .code yJ6_bitCount_0f7a4 cJ6_bitCount_0f7a4 1 (some .int), .constant RJ6 265 (1431655765), .constant RJ6 266 (858993459), .constant RJ6 267 (252645135)] ++ wsX30)
def wsX3_linkedBetween : List Cond := .code yX3_linkedBetween cX3_linkedBetween 5 (some .int) :: ([.fieldLink RX3 18 "TagCarrier$Sentences" "links" "[I"] ++ wsX30)
def wsX3_behindGreatest : List Cond := .code yX3_behindGreatest cX3_behindGreatest 2 (some .int) :: ([.static yX7_has, .initialized RX7, .code yX7_has cX7_has 2 (some .boolean)])
def wsX3_anchor : List Cond := .code yX3_anchor cX3_anchor 4 (some .int) :: ([.fieldLink RX3 18 "TagCarrier$Sentences" "links" "[I", .methodLink RX3 36 yX3_behindGreatest, .static yX3_behindGreatest, .initialized RX3, .code yX3_behindGreatest cX3_behindGreatest 2 (some .int), .static yX7_has, .initialized RX7, .code yX7_has cX7_has 2 (some .boolean)] ++ wsX30)
def wsX3_least : List Cond := .code yX3_least cX3_least 2 (some .int) :: ([.static yX7_has, .initialized RX7, .code yX7_has cX7_has 2 (some .boolean)])
def wsX4_depth : List Cond := .code yX4_depth cX4_depth 2 (some .int) :: ([.fieldLink RX4 21 "TagCarrier$Source" "heldBy" "[I", .methodLink RX4 67 yJ6_bitCount_0f7a4, .static yJ6_bitCount_0f7a4, .initialized RJ6, .code yJ6_bitCount_0f7a4 cJ6_bitCount_0f7a4 1 (some .int), .constant RJ6 265 (1431655765), .constant RJ6 266 (858993459), .constant RJ6 267 (252645135)] ++ wsX40)
def wsX4_countHolds : List Cond := .code yX4_countHolds cX4_countHolds 3 (some .int) :: ([.fieldLink RX4 37 "TagCarrier$Source" "pairs" "I", .fieldLink RX4 18 "TagCarrier$Source" "holds" "[I", .static yX7_has, .initialized RX7, .code yX7_has cX7_has 2 (some .boolean), .methodLink RX4 67 yJ6_bitCount_0f7a4, .static yJ6_bitCount_0f7a4, .initialized RJ6, .code yJ6_bitCount_0f7a4 cJ6_bitCount_0f7a4 1 (some .int), .constant RJ6 265 (1431655765), .constant RJ6 266 (858993459), .constant RJ6 267 (252645135)] ++ wsX40)
def wsX5_init : List Cond := .code yX5_init cX5_init 1 none :: ([.methodLink RX5 3 objectInit, .instanceMethod objectInit, .code objectInit ⟨#[0xb1]⟩ 1 none, .arrayClass .int, .fieldLink RX5 9 "TagCarrier$Wanted" "from" "[I", .fieldLink RX5 15 "TagCarrier$Wanted" "to" "[I", .fieldLink RX5 18 "TagCarrier$Wanted" "mark" "[I"] ++ wsX50)
def wsX5_findPair_r1 : List Cond := [Cond.fieldLink RX5 25 "TagCarrier$Sentences" "source" "LTagCarrier$Source;", Cond.fieldLink RX5 54 "TagCarrier$Source" "opens" "[I", Cond.fieldLink RX5 57 "TagCarrier$Source" "closes" "[I", Cond.fieldLink RX5 21 "TagCarrier$Wanted" "missing" "I", Cond.fieldLink RX5 9 "TagCarrier$Wanted" "from" "[I", Cond.fieldLink RX5 15 "TagCarrier$Wanted" "to" "[I", Cond.methodLink RX5 60 yX3_linkedBetween, Cond.instanceMethod yX3_linkedBetween, Cond.selects RX3 yX3_linkedBetween yX3_linkedBetween, Cond.initialized RX3, Cond.code yX3_linkedBetween cX3_linkedBetween 5 (some .int), Cond.fieldLink RX3 18 "TagCarrier$Sentences" "links" "[I", Cond.methodLink RX5 50 yX3_anchor, Cond.instanceMethod yX3_anchor, Cond.selects RX3 yX3_anchor yX3_anchor, Cond.code yX3_anchor cX3_anchor 4 (some .int), Cond.methodLink RX3 36 yX3_behindGreatest, Cond.static yX3_behindGreatest, Cond.code yX3_behindGreatest cX3_behindGreatest 2 (some .int), Cond.static yX7_has, Cond.initialized RX7, Cond.code yX7_has cX7_has 2 (some .boolean), Cond.methodLink RX5 64 yX3_least, Cond.static yX3_least]
def wsX5_findPair_r2 : List Cond := [Cond.code yX3_least cX3_least 2 (some .int), Cond.methodLink RX5 67 yX3_behindGreatest]
def wsX5_findPair : List Cond := .code yX5_findPair cX5_findPair 5 none :: ((wsX5_findPair_r1 ++ wsX5_findPair_r2) ++ wsX30 ++ wsX40 ++ wsX50)
def wsX5_find_r1 : List Cond := [Cond.fieldLink RX5 21 "TagCarrier$Wanted" "missing" "I", Cond.fieldLink RX5 25 "TagCarrier$Sentences" "source" "LTagCarrier$Source;", Cond.fieldLink RX5 31 "TagCarrier$Source" "pairs" "I", Cond.fieldLink RX5 44 "TagCarrier$Source" "marks" "I", Cond.fieldLink RX5 18 "TagCarrier$Wanted" "mark" "[I", Cond.fieldLink RX5 47 "TagCarrier$Source" "markGap" "[I", Cond.static yX7_has, Cond.initialized RX7, Cond.code yX7_has cX7_has 2 (some .boolean), Cond.methodLink RX5 40 yX5_findPair, Cond.instanceMethod yX5_findPair, Cond.selects RX5 yX5_findPair yX5_findPair, Cond.initialized RX5, Cond.code yX5_findPair cX5_findPair 5 none, Cond.fieldLink RX5 54 "TagCarrier$Source" "opens" "[I", Cond.fieldLink RX5 57 "TagCarrier$Source" "closes" "[I", Cond.fieldLink RX5 9 "TagCarrier$Wanted" "from" "[I", Cond.fieldLink RX5 15 "TagCarrier$Wanted" "to" "[I", Cond.methodLink RX5 60 yX3_linkedBetween, Cond.instanceMethod yX3_linkedBetween, Cond.selects RX3 yX3_linkedBetween yX3_linkedBetween, Cond.initialized RX3, Cond.code yX3_linkedBetween cX3_linkedBetween 5 (some .int), Cond.fieldLink RX3 18 "TagCarrier$Sentences" "links" "[I"]
def wsX5_find_r2 : List Cond := [Cond.methodLink RX5 50 yX3_anchor, Cond.instanceMethod yX3_anchor, Cond.selects RX3 yX3_anchor yX3_anchor, Cond.code yX3_anchor cX3_anchor 4 (some .int), Cond.methodLink RX3 36 yX3_behindGreatest, Cond.static yX3_behindGreatest, Cond.code yX3_behindGreatest cX3_behindGreatest 2 (some .int), Cond.methodLink RX5 64 yX3_least, Cond.static yX3_least, Cond.code yX3_least cX3_least 2 (some .int), Cond.methodLink RX5 67 yX3_behindGreatest]
def wsX5_find : List Cond := .code yX5_find cX5_find 3 none :: ((wsX5_find_r1 ++ wsX5_find_r2) ++ wsX50 ++ wsX30 ++ wsX40)
def wsX5_overlapsFromAhead : List Cond := .code yX5_overlapsFromAhead cX5_overlapsFromAhead 3 (some .boolean) :: ([.fieldLink RX5 9 "TagCarrier$Wanted" "from" "[I", .fieldLink RX5 15 "TagCarrier$Wanted" "to" "[I"] ++ wsX50)
def wsX5_cross : List Cond := .code yX5_cross cX5_cross 3 (some .boolean) :: ([.methodLink RX5 73 yX5_overlapsFromAhead, .instanceMethod yX5_overlapsFromAhead, .selects RX5 yX5_overlapsFromAhead yX5_overlapsFromAhead, .initialized RX5, .code yX5_overlapsFromAhead cX5_overlapsFromAhead 3 (some .boolean), .fieldLink RX5 9 "TagCarrier$Wanted" "from" "[I", .fieldLink RX5 15 "TagCarrier$Wanted" "to" "[I"] ++ wsX50)
def wsX5_countCrossings : List Cond := .code yX5_countCrossings cX5_countCrossings 5 (some .int) :: ([.static yX7_has, .initialized RX7, .code yX7_has cX7_has 2 (some .boolean), .methodLink RX5 70 yX5_cross, .instanceMethod yX5_cross, .selects RX5 yX5_cross yX5_cross, .initialized RX5, .code yX5_cross cX5_cross 3 (some .boolean), .methodLink RX5 73 yX5_overlapsFromAhead, .instanceMethod yX5_overlapsFromAhead, .selects RX5 yX5_overlapsFromAhead yX5_overlapsFromAhead, .code yX5_overlapsFromAhead cX5_overlapsFromAhead 3 (some .boolean), .fieldLink RX5 9 "TagCarrier$Wanted" "from" "[I", .fieldLink RX5 15 "TagCarrier$Wanted" "to" "[I"] ++ wsX50)
def wsX6_init : List Cond := .code yX6_init cX6_init 1 none :: ([.methodLink RX6 3 objectInit, .instanceMethod objectInit, .code objectInit ⟨#[0xb1]⟩ 1 none, .arrayClass .int, .fieldLink RX6 9 "TagCarrier$Writer" "signs" "[I", .fieldLink RX6 15 "TagCarrier$Writer" "ranks" "[I"] ++ wsX60)
def wsX6_heldByAny : List Cond := .code yX6_heldByAny cX6_heldByAny 4 (some .int) :: ([.fieldLink RX6 78 "TagCarrier$Source" "holds" "[I", .static yX7_has, .initialized RX7, .code yX7_has cX7_has 2 (some .boolean)] ++ wsX40)
def wsX6_add : List Cond := .code yX6_add cX6_add 2 none :: ([.fieldLink RX6 18 "TagCarrier$Writer" "count" "I", .fieldLink RX6 9 "TagCarrier$Writer" "signs" "[I"] ++ wsX60)
def wsX6_addEmpty : List Cond := .code yX6_addEmpty cX6_addEmpty 3 none :: ([.static yX7_has, .initialized RX7, .code yX7_has cX7_has 2 (some .boolean), .methodLink RX6 35 yX6_add, .instanceMethod yX6_add, .selects RX6 yX6_add yX6_add, .initialized RX6, .code yX6_add cX6_add 2 none, .fieldLink RX6 18 "TagCarrier$Writer" "count" "I", .fieldLink RX6 9 "TagCarrier$Writer" "signs" "[I"] ++ wsX60)
def wsX6_rankClosing : List Cond := .code yX6_rankClosing cX6_rankClosing 4 none :: ([.fieldLink RX6 15 "TagCarrier$Writer" "ranks" "[I", .fieldLink RX6 48 "TagCarrier$PairPlacer" "from" "[I", .methodLink RX6 81 yX4_depth, .instanceMethod yX4_depth, .selects RX4 yX4_depth yX4_depth, .initialized RX4, .code yX4_depth cX4_depth 2 (some .int), .fieldLink RX4 21 "TagCarrier$Source" "heldBy" "[I", .methodLink RX4 67 yJ6_bitCount_0f7a4, .static yJ6_bitCount_0f7a4, .initialized RJ6, .code yJ6_bitCount_0f7a4 cJ6_bitCount_0f7a4 1 (some .int), .constant RJ6 265 (1431655765), .constant RJ6 266 (858993459), .constant RJ6 267 (252645135)] ++ wsX60 ++ wsX20 ++ wsX40)
def wsX6_greatestRank : List Cond := .code yX6_greatestRank cX6_greatestRank 4 (some .int) :: ([.fieldLink RX6 15 "TagCarrier$Writer" "ranks" "[I", .static yX7_has, .initialized RX7, .code yX7_has cX7_has 2 (some .boolean)] ++ wsX60)
def wsX6_addRanked : List Cond := .code yX6_addRanked cX6_addRanked 6 none :: ([.methodLink RX6 85 yX6_greatestRank, .instanceMethod yX6_greatestRank, .selects RX6 yX6_greatestRank yX6_greatestRank, .initialized RX6, .code yX6_greatestRank cX6_greatestRank 4 (some .int), .fieldLink RX6 15 "TagCarrier$Writer" "ranks" "[I", .static yX7_has, .initialized RX7, .code yX7_has cX7_has 2 (some .boolean), .methodLink RX6 35 yX6_add, .instanceMethod yX6_add, .selects RX6 yX6_add yX6_add, .code yX6_add cX6_add 2 none, .fieldLink RX6 18 "TagCarrier$Writer" "count" "I", .fieldLink RX6 9 "TagCarrier$Writer" "signs" "[I"] ++ wsX60)
def wsX6_addMarks : List Cond := .code yX6_addMarks cX6_addMarks 6 none :: ([.fieldLink RX6 88 "TagCarrier$Source" "markCount" "I", .fieldLink RX6 91 "TagCarrier$Source" "markRow" "[I", .fieldLink RX6 94 "TagCarrier$MarkPlacer" "at" "[I", .methodLink RX6 35 yX6_add, .instanceMethod yX6_add, .selects RX6 yX6_add yX6_add, .initialized RX6, .code yX6_add cX6_add 2 none, .fieldLink RX6 18 "TagCarrier$Writer" "count" "I", .fieldLink RX6 9 "TagCarrier$Writer" "signs" "[I"] ++ wsX40 ++ wsX00 ++ wsX60)
def wsX6_rankOpening : List Cond := .code yX6_rankOpening cX6_rankOpening 4 none :: ([.fieldLink RX6 15 "TagCarrier$Writer" "ranks" "[I", .fieldLink RX6 53 "TagCarrier$PairPlacer" "to" "[I", .methodLink RX6 81 yX4_depth, .instanceMethod yX4_depth, .selects RX4 yX4_depth yX4_depth, .initialized RX4, .code yX4_depth cX4_depth 2 (some .int), .fieldLink RX4 21 "TagCarrier$Source" "heldBy" "[I", .methodLink RX4 67 yJ6_bitCount_0f7a4, .static yJ6_bitCount_0f7a4, .initialized RJ6, .code yJ6_bitCount_0f7a4 cJ6_bitCount_0f7a4 1 (some .int), .constant RJ6 265 (1431655765), .constant RJ6 266 (858993459), .constant RJ6 267 (252645135)] ++ wsX60 ++ wsX20 ++ wsX40)
def wsX6_writeGap_r1 : List Cond := [Cond.fieldLink RX6 39 "TagCarrier$Source" "pairs" "I", Cond.fieldLink RX6 48 "TagCarrier$PairPlacer" "from" "[I", Cond.fieldLink RX6 53 "TagCarrier$PairPlacer" "to" "[I", Cond.static yX7_has, Cond.initialized RX7, Cond.code yX7_has cX7_has 2 (some .boolean), Cond.methodLink RX6 56 yX6_heldByAny, Cond.static yX6_heldByAny, Cond.initialized RX6, Cond.code yX6_heldByAny cX6_heldByAny 4 (some .int), Cond.fieldLink RX6 78 "TagCarrier$Source" "holds" "[I", Cond.methodLink RX6 60 yX6_addEmpty, Cond.instanceMethod yX6_addEmpty, Cond.selects RX6 yX6_addEmpty yX6_addEmpty, Cond.code yX6_addEmpty cX6_addEmpty 3 none, Cond.methodLink RX6 35 yX6_add, Cond.instanceMethod yX6_add, Cond.selects RX6 yX6_add yX6_add, Cond.code yX6_add cX6_add 2 none, Cond.fieldLink RX6 18 "TagCarrier$Writer" "count" "I", Cond.fieldLink RX6 9 "TagCarrier$Writer" "signs" "[I", Cond.methodLink RX6 63 yX6_rankClosing, Cond.instanceMethod yX6_rankClosing, Cond.selects RX6 yX6_rankClosing yX6_rankClosing]
def wsX6_writeGap_r2 : List Cond := [Cond.code yX6_rankClosing cX6_rankClosing 4 none, Cond.fieldLink RX6 15 "TagCarrier$Writer" "ranks" "[I", Cond.methodLink RX6 81 yX4_depth, Cond.instanceMethod yX4_depth, Cond.selects RX4 yX4_depth yX4_depth, Cond.initialized RX4, Cond.code yX4_depth cX4_depth 2 (some .int), Cond.fieldLink RX4 21 "TagCarrier$Source" "heldBy" "[I", Cond.methodLink RX4 67 yJ6_bitCount_0f7a4, Cond.static yJ6_bitCount_0f7a4, Cond.initialized RJ6, Cond.code yJ6_bitCount_0f7a4 cJ6_bitCount_0f7a4 1 (some .int), Cond.constant RJ6 265 (1431655765), Cond.constant RJ6 266 (858993459), Cond.constant RJ6 267 (252645135), Cond.methodLink RX6 67 yX6_addRanked, Cond.instanceMethod yX6_addRanked, Cond.selects RX6 yX6_addRanked yX6_addRanked, Cond.code yX6_addRanked cX6_addRanked 6 none, Cond.methodLink RX6 85 yX6_greatestRank, Cond.instanceMethod yX6_greatestRank, Cond.selects RX6 yX6_greatestRank yX6_greatestRank, Cond.code yX6_greatestRank cX6_greatestRank 4 (some .int), Cond.methodLink RX6 71 yX6_addMarks]
def wsX6_writeGap_r3 : List Cond := [Cond.instanceMethod yX6_addMarks, Cond.selects RX6 yX6_addMarks yX6_addMarks, Cond.code yX6_addMarks cX6_addMarks 6 none, Cond.fieldLink RX6 88 "TagCarrier$Source" "markCount" "I", Cond.fieldLink RX6 91 "TagCarrier$Source" "markRow" "[I", Cond.fieldLink RX6 94 "TagCarrier$MarkPlacer" "at" "[I", Cond.methodLink RX6 75 yX6_rankOpening, Cond.instanceMethod yX6_rankOpening, Cond.selects RX6 yX6_rankOpening yX6_rankOpening, Cond.code yX6_rankOpening cX6_rankOpening 4 none]
def wsX6_writeGap : List Cond := .code yX6_writeGap cX6_writeGap 11 none :: ((wsX6_writeGap_r1 ++ (wsX6_writeGap_r2 ++ wsX6_writeGap_r3)) ++ wsX40 ++ wsX20 ++ wsX60 ++ wsX00)
def wsX6_write_r1 : List Cond := [Cond.fieldLink RX6 18 "TagCarrier$Writer" "count" "I", Cond.fieldLink RX6 22 "TagCarrier$Sentences" "targetWords" "I", Cond.fieldLink RX6 27 "TagCarrier$Sentences" "source" "LTagCarrier$Source;", Cond.methodLink RX6 31 yX6_writeGap, Cond.instanceMethod yX6_writeGap, Cond.selects RX6 yX6_writeGap yX6_writeGap, Cond.initialized RX6, Cond.code yX6_writeGap cX6_writeGap 11 none, Cond.fieldLink RX6 39 "TagCarrier$Source" "pairs" "I", Cond.fieldLink RX6 48 "TagCarrier$PairPlacer" "from" "[I", Cond.fieldLink RX6 53 "TagCarrier$PairPlacer" "to" "[I", Cond.static yX7_has, Cond.initialized RX7, Cond.code yX7_has cX7_has 2 (some .boolean), Cond.methodLink RX6 56 yX6_heldByAny, Cond.static yX6_heldByAny, Cond.code yX6_heldByAny cX6_heldByAny 4 (some .int), Cond.fieldLink RX6 78 "TagCarrier$Source" "holds" "[I", Cond.methodLink RX6 60 yX6_addEmpty, Cond.instanceMethod yX6_addEmpty, Cond.selects RX6 yX6_addEmpty yX6_addEmpty, Cond.code yX6_addEmpty cX6_addEmpty 3 none, Cond.methodLink RX6 35 yX6_add, Cond.instanceMethod yX6_add]
def wsX6_write_r2 : List Cond := [Cond.selects RX6 yX6_add yX6_add, Cond.code yX6_add cX6_add 2 none, Cond.fieldLink RX6 9 "TagCarrier$Writer" "signs" "[I", Cond.methodLink RX6 63 yX6_rankClosing, Cond.instanceMethod yX6_rankClosing, Cond.selects RX6 yX6_rankClosing yX6_rankClosing, Cond.code yX6_rankClosing cX6_rankClosing 4 none, Cond.fieldLink RX6 15 "TagCarrier$Writer" "ranks" "[I", Cond.methodLink RX6 81 yX4_depth, Cond.instanceMethod yX4_depth, Cond.selects RX4 yX4_depth yX4_depth, Cond.initialized RX4, Cond.code yX4_depth cX4_depth 2 (some .int), Cond.fieldLink RX4 21 "TagCarrier$Source" "heldBy" "[I", Cond.methodLink RX4 67 yJ6_bitCount_0f7a4, Cond.static yJ6_bitCount_0f7a4, Cond.initialized RJ6, Cond.code yJ6_bitCount_0f7a4 cJ6_bitCount_0f7a4 1 (some .int), Cond.constant RJ6 265 (1431655765), Cond.constant RJ6 266 (858993459), Cond.constant RJ6 267 (252645135), Cond.methodLink RX6 67 yX6_addRanked, Cond.instanceMethod yX6_addRanked, Cond.selects RX6 yX6_addRanked yX6_addRanked]
def wsX6_write_r3 : List Cond := [Cond.code yX6_addRanked cX6_addRanked 6 none, Cond.methodLink RX6 85 yX6_greatestRank, Cond.instanceMethod yX6_greatestRank, Cond.selects RX6 yX6_greatestRank yX6_greatestRank, Cond.code yX6_greatestRank cX6_greatestRank 4 (some .int), Cond.methodLink RX6 71 yX6_addMarks, Cond.instanceMethod yX6_addMarks, Cond.selects RX6 yX6_addMarks yX6_addMarks, Cond.code yX6_addMarks cX6_addMarks 6 none, Cond.fieldLink RX6 88 "TagCarrier$Source" "markCount" "I", Cond.fieldLink RX6 91 "TagCarrier$Source" "markRow" "[I", Cond.fieldLink RX6 94 "TagCarrier$MarkPlacer" "at" "[I", Cond.methodLink RX6 75 yX6_rankOpening, Cond.instanceMethod yX6_rankOpening, Cond.selects RX6 yX6_rankOpening yX6_rankOpening, Cond.code yX6_rankOpening cX6_rankOpening 4 none]
def wsX6_write : List Cond := .code yX6_write cX6_write 5 none :: ((wsX6_write_r1 ++ (wsX6_write_r2 ++ wsX6_write_r3)) ++ wsX60 ++ wsX30 ++ wsX40 ++ wsX20 ++ wsX00)
def wsX7_init_r1 : List Cond := [Cond.methodLink RX7 3 objectInit, Cond.instanceMethod objectInit, Cond.code objectInit ⟨#[0xb1]⟩ 1 none, Cond.classLink RX7 9 RX1, Cond.instantiable RX1 3, Cond.initialized RX1, Cond.fieldLink RX7 12 "TagCarrier" "pad" "LTagCarrier$Pad;", Cond.classLink RX7 16 RX3, Cond.instantiable RX3 3, Cond.initialized RX3, Cond.fieldLink RX7 19 "TagCarrier" "now" "LTagCarrier$Sentences;", Cond.fieldLink RX7 23 "TagCarrier" "images" "[LTagCarrier$Sentences;", Cond.classLink RX7 27 RX5, Cond.instantiable RX5 4, Cond.initialized RX5, Cond.fieldLink RX7 30 "TagCarrier" "wanted" "LTagCarrier$Wanted;", Cond.classLink RX7 34 RX2, Cond.instantiable RX2 8, Cond.initialized RX2, Cond.fieldLink RX7 37 "TagCarrier" "pairPlacer" "LTagCarrier$PairPlacer;", Cond.classLink RX7 41 RX0, Cond.instantiable RX0 4, Cond.initialized RX0, Cond.fieldLink RX7 44 "TagCarrier" "markPlacer" "LTagCarrier$MarkPlacer;"]
def wsX7_init_r2 : List Cond := [Cond.classLink RX7 48 RX6, Cond.instantiable RX6 3, Cond.initialized RX6, Cond.fieldLink RX7 51 "TagCarrier" "writer" "LTagCarrier$Writer;", Cond.fieldLink RX7 55 "TagCarrier" "stale" "Z", Cond.instanceMethod yX1_init, Cond.code yX1_init cX1_init 1 none, Cond.methodLink RX1 3 objectInit, Cond.classLink RX1 9 RX4, Cond.instantiable RX4 12, Cond.initialized RX4, Cond.fieldLink RX1 12 "TagCarrier$Pad" "source" "LTagCarrier$Source;", Cond.arrayClass .int, Cond.fieldLink RX1 18 "TagCarrier$Pad" "signs" "[I", Cond.instanceMethod yX4_init, Cond.code yX4_init cX4_init 1 none, Cond.methodLink RX4 3 objectInit, Cond.fieldLink RX4 9 "TagCarrier$Source" "opens" "[I", Cond.fieldLink RX4 15 "TagCarrier$Source" "closes" "[I", Cond.fieldLink RX4 18 "TagCarrier$Source" "holds" "[I", Cond.fieldLink RX4 21 "TagCarrier$Source" "heldBy" "[I", Cond.fieldLink RX4 24 "TagCarrier$Source" "markGap" "[I", Cond.fieldLink RX4 27 "TagCarrier$Source" "markRow" "[I", Cond.fieldLink RX4 30 "TagCarrier$Source" "openRow" "[I"]
def wsX7_init_r3 : List Cond := [Cond.instanceMethod yX3_init, Cond.code yX3_init cX3_init 1 none, Cond.methodLink RX3 3 objectInit, Cond.classLink RX3 9 RX4, Cond.fieldLink RX3 12 "TagCarrier$Sentences" "source" "LTagCarrier$Source;", Cond.fieldLink RX3 18 "TagCarrier$Sentences" "links" "[I", Cond.instanceMethod yX5_init, Cond.code yX5_init cX5_init 1 none, Cond.methodLink RX5 3 objectInit, Cond.fieldLink RX5 9 "TagCarrier$Wanted" "from" "[I", Cond.fieldLink RX5 15 "TagCarrier$Wanted" "to" "[I", Cond.fieldLink RX5 18 "TagCarrier$Wanted" "mark" "[I", Cond.instanceMethod yX2_init, Cond.code yX2_init cX2_init 1 none, Cond.methodLink RX2 5 objectInit, Cond.fieldLink RX2 11 "TagCarrier$PairPlacer" "from" "[I", Cond.fieldLink RX2 15 "TagCarrier$PairPlacer" "to" "[I", Cond.fieldLink RX2 18 "TagCarrier$PairPlacer" "cost" "[I", Cond.arrayClass .long, Cond.fieldLink RX2 21 "TagCarrier$PairPlacer" "prices" "[J", Cond.fieldLink RX2 25 "TagCarrier$PairPlacer" "sums" "[J", Cond.fieldLink RX2 28 "TagCarrier$PairPlacer" "parts" "[I", Cond.instanceMethod yX0_init, Cond.code yX0_init cX0_init 1 none]
def wsX7_init_r4 : List Cond := [Cond.methodLink RX0 3 objectInit, Cond.fieldLink RX0 9 "TagCarrier$MarkPlacer" "at" "[I", Cond.fieldLink RX0 15 "TagCarrier$MarkPlacer" "moved" "[I", Cond.fieldLink RX0 18 "TagCarrier$MarkPlacer" "chosen" "[I", Cond.instanceMethod yX6_init, Cond.code yX6_init cX6_init 1 none, Cond.methodLink RX6 3 objectInit, Cond.fieldLink RX6 9 "TagCarrier$Writer" "signs" "[I", Cond.fieldLink RX6 15 "TagCarrier$Writer" "ranks" "[I"]
def wsX7_init : List Cond := .code yX7_init cX7_init 1 none :: ((wsX7_init_r1 ++ (wsX7_init_r2 ++ (wsX7_init_r3 ++ wsX7_init_r4))) ++ wsX10 ++ wsX70 ++ wsX30 ++ wsX50 ++ wsX20 ++ wsX00 ++ wsX60 ++ wsX40)
def wsX7_say : List Cond := .code yX7_say cX7_say 2 (some .int) :: ([.fieldLink RX7 12 "TagCarrier" "pad" "LTagCarrier$Pad;", .fieldLink RX7 63 "TagCarrier$Pad" "count" "I", .methodLink RX7 59 yX1_add, .instanceMethod yX1_add, .selects RX1 yX1_add yX1_add, .initialized RX1, .code yX1_add cX1_add 2 (some .boolean), .fieldLink RX1 22 "TagCarrier$Pad" "count" "I", .fieldLink RX1 18 "TagCarrier$Pad" "signs" "[I"] ++ wsX70 ++ wsX10)
def wsX7_wipe : List Cond := .code yX7_wipe cX7_wipe 2 (some .int) :: ([.fieldLink RX7 12 "TagCarrier" "pad" "LTagCarrier$Pad;", .fieldLink RX7 63 "TagCarrier$Pad" "count" "I"] ++ wsX70 ++ wsX10)
def wsX7_fault_r1 : List Cond := [Cond.fieldLink RX7 12 "TagCarrier" "pad" "LTagCarrier$Pad;", Cond.methodLink RX7 67 yX1_read, Cond.instanceMethod yX1_read, Cond.selects RX1 yX1_read yX1_read, Cond.initialized RX1, Cond.code yX1_read cX1_read 2 (some .int), Cond.fieldLink RX1 12 "TagCarrier$Pad" "source" "LTagCarrier$Source;", Cond.fieldLink RX1 22 "TagCarrier$Pad" "count" "I", Cond.fieldLink RX1 18 "TagCarrier$Pad" "signs" "[I", Cond.fieldLink RX1 33 "TagCarrier$Source" "openCount" "I", Cond.methodLink RX1 26 yX4_clear, Cond.instanceMethod yX4_clear, Cond.selects RX4 yX4_clear yX4_clear, Cond.initialized RX4, Cond.code yX4_clear cX4_clear 1 none, Cond.fieldLink RX4 33 "TagCarrier$Source" "words" "I", Cond.fieldLink RX4 37 "TagCarrier$Source" "pairs" "I", Cond.fieldLink RX4 40 "TagCarrier$Source" "marks" "I", Cond.fieldLink RX4 43 "TagCarrier$Source" "markCount" "I", Cond.fieldLink RX4 46 "TagCarrier$Source" "openCount" "I", Cond.methodLink RX1 29 yX4_take, Cond.instanceMethod yX4_take, Cond.selects RX4 yX4_take yX4_take, Cond.code yX4_take cX4_take 2 (some .boolean)]
def wsX7_fault_r2 : List Cond := [Cond.methodLink RX4 49 yX4_takeWord, Cond.instanceMethod yX4_takeWord, Cond.selects RX4 yX4_takeWord yX4_takeWord, Cond.code yX4_takeWord cX4_takeWord 1 (some .boolean), Cond.methodLink RX4 53 yX4_takeOpening, Cond.instanceMethod yX4_takeOpening, Cond.selects RX4 yX4_takeOpening yX4_takeOpening, Cond.code yX4_takeOpening cX4_takeOpening 3 (some .boolean), Cond.fieldLink RX4 9 "TagCarrier$Source" "opens" "[I", Cond.fieldLink RX4 15 "TagCarrier$Source" "closes" "[I", Cond.fieldLink RX4 18 "TagCarrier$Source" "holds" "[I", Cond.fieldLink RX4 21 "TagCarrier$Source" "heldBy" "[I", Cond.fieldLink RX4 30 "TagCarrier$Source" "openRow" "[I", Cond.static yX7_has, Cond.initialized RX7, Cond.code yX7_has cX7_has 2 (some .boolean), Cond.methodLink RX4 57 yX4_takeClosing, Cond.instanceMethod yX4_takeClosing, Cond.selects RX4 yX4_takeClosing yX4_takeClosing, Cond.code yX4_takeClosing cX4_takeClosing 2 (some .boolean), Cond.methodLink RX4 60 yX4_takeMark, Cond.instanceMethod yX4_takeMark, Cond.selects RX4 yX4_takeMark yX4_takeMark, Cond.code yX4_takeMark cX4_takeMark 2 (some .boolean)]
def wsX7_fault_r3 : List Cond := [Cond.fieldLink RX4 24 "TagCarrier$Source" "markGap" "[I", Cond.fieldLink RX4 27 "TagCarrier$Source" "markRow" "[I"]
def wsX7_fault : List Cond := .code yX7_fault cX7_fault 1 (some .int) :: ((wsX7_fault_r1 ++ (wsX7_fault_r2 ++ wsX7_fault_r3)) ++ wsX70 ++ wsX10 ++ wsX40)
def wsX7_load_r1 : List Cond := [Cond.fieldLink RX7 12 "TagCarrier" "pad" "LTagCarrier$Pad;", Cond.fieldLink RX7 19 "TagCarrier" "now" "LTagCarrier$Sentences;", Cond.fieldLink RX7 71 "TagCarrier$Sentences" "source" "LTagCarrier$Source;", Cond.fieldLink RX7 75 "TagCarrier$Pad" "source" "LTagCarrier$Source;", Cond.fieldLink RX7 63 "TagCarrier$Pad" "count" "I", Cond.fieldLink RX7 55 "TagCarrier" "stale" "Z", Cond.fieldLink RX7 85 "TagCarrier$Source" "words" "I", Cond.methodLink RX7 67 yX1_read, Cond.instanceMethod yX1_read, Cond.selects RX1 yX1_read yX1_read, Cond.initialized RX1, Cond.code yX1_read cX1_read 2 (some .int), Cond.fieldLink RX1 12 "TagCarrier$Pad" "source" "LTagCarrier$Source;", Cond.fieldLink RX1 22 "TagCarrier$Pad" "count" "I", Cond.fieldLink RX1 18 "TagCarrier$Pad" "signs" "[I", Cond.fieldLink RX1 33 "TagCarrier$Source" "openCount" "I", Cond.methodLink RX1 26 yX4_clear, Cond.instanceMethod yX4_clear, Cond.selects RX4 yX4_clear yX4_clear, Cond.initialized RX4, Cond.code yX4_clear cX4_clear 1 none, Cond.fieldLink RX4 33 "TagCarrier$Source" "words" "I", Cond.fieldLink RX4 37 "TagCarrier$Source" "pairs" "I", Cond.fieldLink RX4 40 "TagCarrier$Source" "marks" "I"]
def wsX7_load_r2 : List Cond := [Cond.fieldLink RX4 43 "TagCarrier$Source" "markCount" "I", Cond.fieldLink RX4 46 "TagCarrier$Source" "openCount" "I", Cond.methodLink RX1 29 yX4_take, Cond.instanceMethod yX4_take, Cond.selects RX4 yX4_take yX4_take, Cond.code yX4_take cX4_take 2 (some .boolean), Cond.methodLink RX4 49 yX4_takeWord, Cond.instanceMethod yX4_takeWord, Cond.selects RX4 yX4_takeWord yX4_takeWord, Cond.code yX4_takeWord cX4_takeWord 1 (some .boolean), Cond.methodLink RX4 53 yX4_takeOpening, Cond.instanceMethod yX4_takeOpening, Cond.selects RX4 yX4_takeOpening yX4_takeOpening, Cond.code yX4_takeOpening cX4_takeOpening 3 (some .boolean), Cond.fieldLink RX4 9 "TagCarrier$Source" "opens" "[I", Cond.fieldLink RX4 15 "TagCarrier$Source" "closes" "[I", Cond.fieldLink RX4 18 "TagCarrier$Source" "holds" "[I", Cond.fieldLink RX4 21 "TagCarrier$Source" "heldBy" "[I", Cond.fieldLink RX4 30 "TagCarrier$Source" "openRow" "[I", Cond.static yX7_has, Cond.initialized RX7, Cond.code yX7_has cX7_has 2 (some .boolean), Cond.methodLink RX4 57 yX4_takeClosing, Cond.instanceMethod yX4_takeClosing]
def wsX7_load_r3 : List Cond := [Cond.selects RX4 yX4_takeClosing yX4_takeClosing, Cond.code yX4_takeClosing cX4_takeClosing 2 (some .boolean), Cond.methodLink RX4 60 yX4_takeMark, Cond.instanceMethod yX4_takeMark, Cond.selects RX4 yX4_takeMark yX4_takeMark, Cond.code yX4_takeMark cX4_takeMark 2 (some .boolean), Cond.fieldLink RX4 24 "TagCarrier$Source" "markGap" "[I", Cond.fieldLink RX4 27 "TagCarrier$Source" "markRow" "[I", Cond.methodLink RX7 76 yX4_copy, Cond.instanceMethod yX4_copy, Cond.selects RX4 yX4_copy yX4_copy, Cond.code yX4_copy cX4_copy 3 none, Cond.methodLink RX7 82 yX3_dropLinks, Cond.instanceMethod yX3_dropLinks, Cond.selects RX3 yX3_dropLinks yX3_dropLinks, Cond.initialized RX3, Cond.code yX3_dropLinks cX3_dropLinks 2 none, Cond.fieldLink RX3 18 "TagCarrier$Sentences" "links" "[I"]
def wsX7_load : List Cond := .code yX7_load cX7_load 1 (some .int) :: ((wsX7_load_r1 ++ (wsX7_load_r2 ++ wsX7_load_r3)) ++ wsX70 ++ wsX30 ++ wsX10 ++ wsX40)
def wsX7_target : List Cond := .code yX7_target cX7_target 3 (some .int) :: ([.fieldLink RX7 19 "TagCarrier" "now" "LTagCarrier$Sentences;", .fieldLink RX7 88 "TagCarrier$Sentences" "targetWords" "I", .fieldLink RX7 55 "TagCarrier" "stale" "Z", .methodLink RX7 82 yX3_dropLinks, .instanceMethod yX3_dropLinks, .selects RX3 yX3_dropLinks yX3_dropLinks, .initialized RX3, .code yX3_dropLinks cX3_dropLinks 2 none, .fieldLink RX3 18 "TagCarrier$Sentences" "links" "[I"] ++ wsX70 ++ wsX30)
def wsX7_link : List Cond := .code yX7_link cX7_link 3 (some .int) :: ([.fieldLink RX7 19 "TagCarrier" "now" "LTagCarrier$Sentences;", .fieldLink RX7 71 "TagCarrier$Sentences" "source" "LTagCarrier$Source;", .fieldLink RX7 85 "TagCarrier$Source" "words" "I", .fieldLink RX7 88 "TagCarrier$Sentences" "targetWords" "I", .fieldLink RX7 91 "TagCarrier$Sentences" "links" "[I", .fieldLink RX7 55 "TagCarrier" "stale" "Z"] ++ wsX70 ++ wsX30 ++ wsX40)
def wsX7_carry_r1 : List Cond := [Cond.fieldLink RX7 55 "TagCarrier" "stale" "Z", Cond.fieldLink RX7 30 "TagCarrier" "wanted" "LTagCarrier$Wanted;", Cond.fieldLink RX7 19 "TagCarrier" "now" "LTagCarrier$Sentences;", Cond.fieldLink RX7 37 "TagCarrier" "pairPlacer" "LTagCarrier$PairPlacer;", Cond.fieldLink RX7 71 "TagCarrier$Sentences" "source" "LTagCarrier$Source;", Cond.fieldLink RX7 88 "TagCarrier$Sentences" "targetWords" "I", Cond.fieldLink RX7 44 "TagCarrier" "markPlacer" "LTagCarrier$MarkPlacer;", Cond.fieldLink RX7 51 "TagCarrier" "writer" "LTagCarrier$Writer;", Cond.methodLink RX7 166 yX5_find, Cond.instanceMethod yX5_find, Cond.selects RX5 yX5_find yX5_find, Cond.initialized RX5, Cond.code yX5_find cX5_find 3 none, Cond.fieldLink RX5 21 "TagCarrier$Wanted" "missing" "I", Cond.fieldLink RX5 25 "TagCarrier$Sentences" "source" "LTagCarrier$Source;", Cond.fieldLink RX5 31 "TagCarrier$Source" "pairs" "I", Cond.fieldLink RX5 44 "TagCarrier$Source" "marks" "I", Cond.fieldLink RX5 18 "TagCarrier$Wanted" "mark" "[I", Cond.fieldLink RX5 47 "TagCarrier$Source" "markGap" "[I", Cond.static yX7_has, Cond.initialized RX7, Cond.code yX7_has cX7_has 2 (some .boolean), Cond.methodLink RX5 40 yX5_findPair, Cond.instanceMethod yX5_findPair]
def wsX7_carry_r2 : List Cond := [Cond.selects RX5 yX5_findPair yX5_findPair, Cond.code yX5_findPair cX5_findPair 5 none, Cond.fieldLink RX5 54 "TagCarrier$Source" "opens" "[I", Cond.fieldLink RX5 57 "TagCarrier$Source" "closes" "[I", Cond.fieldLink RX5 9 "TagCarrier$Wanted" "from" "[I", Cond.fieldLink RX5 15 "TagCarrier$Wanted" "to" "[I", Cond.methodLink RX5 60 yX3_linkedBetween, Cond.instanceMethod yX3_linkedBetween, Cond.selects RX3 yX3_linkedBetween yX3_linkedBetween, Cond.initialized RX3, Cond.code yX3_linkedBetween cX3_linkedBetween 5 (some .int), Cond.fieldLink RX3 18 "TagCarrier$Sentences" "links" "[I", Cond.methodLink RX5 50 yX3_anchor, Cond.instanceMethod yX3_anchor, Cond.selects RX3 yX3_anchor yX3_anchor, Cond.code yX3_anchor cX3_anchor 4 (some .int), Cond.methodLink RX3 36 yX3_behindGreatest, Cond.static yX3_behindGreatest, Cond.code yX3_behindGreatest cX3_behindGreatest 2 (some .int), Cond.methodLink RX5 64 yX3_least, Cond.static yX3_least, Cond.code yX3_least cX3_least 2 (some .int), Cond.methodLink RX5 67 yX3_behindGreatest, Cond.methodLink RX7 169 yX2_place]
def wsX7_carry_r3 : List Cond := [Cond.instanceMethod yX2_place, Cond.selects RX2 yX2_place yX2_place, Cond.initialized RX2, Cond.code yX2_place cX2_place 5 none, Cond.fieldLink RX2 31 "TagCarrier$Source" "pairs" "I", Cond.fieldLink RX2 41 "TagCarrier$Wanted" "from" "[I", Cond.fieldLink RX2 44 "TagCarrier$Wanted" "to" "[I", Cond.fieldLink RX2 25 "TagCarrier$PairPlacer" "sums" "[J", Cond.methodLink RX2 45 yX2_findPrices, Cond.instanceMethod yX2_findPrices, Cond.selects RX2 yX2_findPrices yX2_findPrices, Cond.code yX2_findPrices cX2_findPrices 12 none, Cond.fieldLink RX2 21 "TagCarrier$PairPlacer" "prices" "[J", Cond.methodLink RX2 61 yX2_shiftOf, Cond.static yX2_shiftOf, Cond.code yX2_shiftOf cX2_shiftOf 1 (some .int), Cond.methodLink RX2 65 yX2_costOf, Cond.static yX2_costOf, Cond.code yX2_costOf cX2_costOf 8 (some .int), Cond.methodLink RX2 69 Lib.Math.abs.name, Cond.static Lib.Math.abs.name, Cond.initialized "java/lang/Math", Cond.code Lib.Math.abs.name Lib.Math.abs.code 1 (some .int), Cond.methodLink RX2 74 Lib.Math.max.name]
def wsX7_carry_r4 : List Cond := [Cond.static Lib.Math.max.name, Cond.code Lib.Math.max.name Lib.Math.max.code 2 (some .int), Cond.methodLink RX2 78 Lib.Math.min.name, Cond.static Lib.Math.min.name, Cond.code Lib.Math.min.name Lib.Math.min.code 2 (some .int), Cond.methodLink RX2 49 yX2_findParts, Cond.instanceMethod yX2_findParts, Cond.selects RX2 yX2_findParts yX2_findParts, Cond.code yX2_findParts cX2_findParts 4 none, Cond.fieldLink RX2 81 "TagCarrier$PairPlacer" "partCount" "I", Cond.fieldLink RX2 28 "TagCarrier$PairPlacer" "parts" "[I", Cond.methodLink RX2 84 yX2_apart, Cond.static yX2_apart, Cond.code yX2_apart cX2_apart 4 (some .boolean), Cond.fieldLink RX2 88 "TagCarrier$Source" "holds" "[I", Cond.fieldLink RX2 91 "TagCarrier$Source" "heldBy" "[I", Cond.methodLink RX2 53 yX2_findSums, Cond.instanceMethod yX2_findSums, Cond.selects RX2 yX2_findSums yX2_findSums, Cond.code yX2_findSums cX2_findSums 9 none, Cond.methodLink RX2 98 Lib.MathLoose.min_long.x, Cond.static Lib.MathLoose.min_long.x, Cond.code Lib.MathLoose.min_long.x Lib.MathLoose.min_long.code 4 (some .long), Cond.methodLink RX2 94 yX2_filled]
def wsX7_carry_r5 : List Cond := [Cond.instanceMethod yX2_filled, Cond.selects RX2 yX2_filled yX2_filled, Cond.code yX2_filled cX2_filled 8 (some .long), Cond.constantLong RX2 105 (1152921504606846976), Cond.methodLink RX2 101 yX2_parted, Cond.instanceMethod yX2_parted, Cond.selects RX2 yX2_parted yX2_parted, Cond.code yX2_parted cX2_parted 10 (some .long), Cond.methodLink RX2 57 yX2_readSpans, Cond.instanceMethod yX2_readSpans, Cond.selects RX2 yX2_readSpans yX2_readSpans, Cond.code yX2_readSpans cX2_readSpans 7 none, Cond.fieldLink RX2 107 "TagCarrier$PairPlacer" "costOfAll" "I", Cond.fieldLink RX2 11 "TagCarrier$PairPlacer" "from" "[I", Cond.fieldLink RX2 15 "TagCarrier$PairPlacer" "to" "[I", Cond.fieldLink RX2 18 "TagCarrier$PairPlacer" "cost" "[I", Cond.methodLink RX7 173 yX0_place, Cond.instanceMethod yX0_place, Cond.selects RX0 yX0_place yX0_place, Cond.initialized RX0, Cond.code yX0_place cX0_place 6 none, Cond.fieldLink RX0 15 "TagCarrier$MarkPlacer" "moved" "[I", Cond.fieldLink RX0 21 "TagCarrier$Source" "markCount" "I", Cond.fieldLink RX0 27 "TagCarrier$Wanted" "mark" "[I"]
def wsX7_carry_r6 : List Cond := [Cond.fieldLink RX0 32 "TagCarrier$Source" "markRow" "[I", Cond.fieldLink RX0 39 "TagCarrier$MarkPlacer" "movedInAll" "I", Cond.fieldLink RX0 18 "TagCarrier$MarkPlacer" "chosen" "[I", Cond.fieldLink RX0 9 "TagCarrier$MarkPlacer" "at" "[I", Cond.methodLink RX0 35 yX0_findMoves, Cond.instanceMethod yX0_findMoves, Cond.selects RX0 yX0_findMoves yX0_findMoves, Cond.code yX0_findMoves cX0_findMoves 8 none, Cond.constant RX0 42 (1048576), Cond.methodLink RX0 43 Lib.Math.abs.name, Cond.methodLink RX7 174 yX6_write, Cond.instanceMethod yX6_write, Cond.selects RX6 yX6_write yX6_write, Cond.initialized RX6, Cond.code yX6_write cX6_write 5 none, Cond.fieldLink RX6 18 "TagCarrier$Writer" "count" "I", Cond.fieldLink RX6 22 "TagCarrier$Sentences" "targetWords" "I", Cond.fieldLink RX6 27 "TagCarrier$Sentences" "source" "LTagCarrier$Source;", Cond.methodLink RX6 31 yX6_writeGap, Cond.instanceMethod yX6_writeGap, Cond.selects RX6 yX6_writeGap yX6_writeGap, Cond.code yX6_writeGap cX6_writeGap 11 none, Cond.fieldLink RX6 39 "TagCarrier$Source" "pairs" "I", Cond.fieldLink RX6 48 "TagCarrier$PairPlacer" "from" "[I"]
def wsX7_carry_r7 : List Cond := [Cond.fieldLink RX6 53 "TagCarrier$PairPlacer" "to" "[I", Cond.methodLink RX6 56 yX6_heldByAny, Cond.static yX6_heldByAny, Cond.code yX6_heldByAny cX6_heldByAny 4 (some .int), Cond.fieldLink RX6 78 "TagCarrier$Source" "holds" "[I", Cond.methodLink RX6 60 yX6_addEmpty, Cond.instanceMethod yX6_addEmpty, Cond.selects RX6 yX6_addEmpty yX6_addEmpty, Cond.code yX6_addEmpty cX6_addEmpty 3 none, Cond.methodLink RX6 35 yX6_add, Cond.instanceMethod yX6_add, Cond.selects RX6 yX6_add yX6_add, Cond.code yX6_add cX6_add 2 none, Cond.fieldLink RX6 9 "TagCarrier$Writer" "signs" "[I", Cond.methodLink RX6 63 yX6_rankClosing, Cond.instanceMethod yX6_rankClosing, Cond.selects RX6 yX6_rankClosing yX6_rankClosing, Cond.code yX6_rankClosing cX6_rankClosing 4 none, Cond.fieldLink RX6 15 "TagCarrier$Writer" "ranks" "[I", Cond.methodLink RX6 81 yX4_depth, Cond.instanceMethod yX4_depth, Cond.selects RX4 yX4_depth yX4_depth, Cond.initialized RX4, Cond.code yX4_depth cX4_depth 2 (some .int)]
def wsX7_carry_r8 : List Cond := [Cond.fieldLink RX4 21 "TagCarrier$Source" "heldBy" "[I", Cond.methodLink RX4 67 yJ6_bitCount_0f7a4, Cond.static yJ6_bitCount_0f7a4, Cond.initialized RJ6, Cond.code yJ6_bitCount_0f7a4 cJ6_bitCount_0f7a4 1 (some .int), Cond.constant RJ6 265 (1431655765), Cond.constant RJ6 266 (858993459), Cond.constant RJ6 267 (252645135), Cond.methodLink RX6 67 yX6_addRanked, Cond.instanceMethod yX6_addRanked, Cond.selects RX6 yX6_addRanked yX6_addRanked, Cond.code yX6_addRanked cX6_addRanked 6 none, Cond.methodLink RX6 85 yX6_greatestRank, Cond.instanceMethod yX6_greatestRank, Cond.selects RX6 yX6_greatestRank yX6_greatestRank, Cond.code yX6_greatestRank cX6_greatestRank 4 (some .int), Cond.methodLink RX6 71 yX6_addMarks, Cond.instanceMethod yX6_addMarks, Cond.selects RX6 yX6_addMarks yX6_addMarks, Cond.code yX6_addMarks cX6_addMarks 6 none, Cond.fieldLink RX6 88 "TagCarrier$Source" "markCount" "I", Cond.fieldLink RX6 91 "TagCarrier$Source" "markRow" "[I", Cond.fieldLink RX6 94 "TagCarrier$MarkPlacer" "at" "[I", Cond.methodLink RX6 75 yX6_rankOpening]
def wsX7_carry_r9 : List Cond := [Cond.instanceMethod yX6_rankOpening, Cond.selects RX6 yX6_rankOpening yX6_rankOpening, Cond.code yX6_rankOpening cX6_rankOpening 4 none]
def wsX7_carry : List Cond := .code yX7_carry cX7_carry 1 none :: ((wsX7_carry_r1 ++ (wsX7_carry_r2 ++ (wsX7_carry_r3 ++ (wsX7_carry_r4 ++ (wsX7_carry_r5 ++ (wsX7_carry_r6 ++ (wsX7_carry_r7 ++ (wsX7_carry_r8 ++ wsX7_carry_r9)))))))) ++ wsX70 ++ wsX30 ++ wsX50 ++ wsX40 ++ wsX20 ++ wsX00 ++ wsX60)
def wsX7_pair_r1 : List Cond := [Cond.fieldLink RX7 19 "TagCarrier" "now" "LTagCarrier$Sentences;", Cond.fieldLink RX7 71 "TagCarrier$Sentences" "source" "LTagCarrier$Source;", Cond.fieldLink RX7 95 "TagCarrier$Source" "pairs" "I", Cond.fieldLink RX7 105 "TagCarrier$Source" "opens" "[I", Cond.fieldLink RX7 108 "TagCarrier$Source" "closes" "[I", Cond.fieldLink RX7 115 "TagCarrier$Source" "holds" "[I", Cond.fieldLink RX7 30 "TagCarrier" "wanted" "LTagCarrier$Wanted;", Cond.fieldLink RX7 118 "TagCarrier$Wanted" "from" "[I", Cond.fieldLink RX7 121 "TagCarrier$Wanted" "to" "[I", Cond.fieldLink RX7 37 "TagCarrier" "pairPlacer" "LTagCarrier$PairPlacer;", Cond.fieldLink RX7 124 "TagCarrier$PairPlacer" "from" "[I", Cond.fieldLink RX7 125 "TagCarrier$PairPlacer" "to" "[I", Cond.fieldLink RX7 126 "TagCarrier$PairPlacer" "cost" "[I", Cond.fieldLink RX7 129 "TagCarrier$Wanted" "missing" "I", Cond.methodLink RX7 98 yX7_has, Cond.static yX7_has, Cond.initialized RX7, Cond.code yX7_has cX7_has 2 (some .boolean), Cond.methodLink RX7 102 yX7_carry, Cond.instanceMethod yX7_carry, Cond.selects RX7 yX7_carry yX7_carry, Cond.code yX7_carry cX7_carry 1 none, Cond.fieldLink RX7 55 "TagCarrier" "stale" "Z", Cond.fieldLink RX7 88 "TagCarrier$Sentences" "targetWords" "I"]
def wsX7_pair_r2 : List Cond := [Cond.fieldLink RX7 44 "TagCarrier" "markPlacer" "LTagCarrier$MarkPlacer;", Cond.fieldLink RX7 51 "TagCarrier" "writer" "LTagCarrier$Writer;", Cond.methodLink RX7 166 yX5_find, Cond.instanceMethod yX5_find, Cond.selects RX5 yX5_find yX5_find, Cond.initialized RX5, Cond.code yX5_find cX5_find 3 none, Cond.fieldLink RX5 21 "TagCarrier$Wanted" "missing" "I", Cond.fieldLink RX5 25 "TagCarrier$Sentences" "source" "LTagCarrier$Source;", Cond.fieldLink RX5 31 "TagCarrier$Source" "pairs" "I", Cond.fieldLink RX5 44 "TagCarrier$Source" "marks" "I", Cond.fieldLink RX5 18 "TagCarrier$Wanted" "mark" "[I", Cond.fieldLink RX5 47 "TagCarrier$Source" "markGap" "[I", Cond.methodLink RX5 40 yX5_findPair, Cond.instanceMethod yX5_findPair, Cond.selects RX5 yX5_findPair yX5_findPair, Cond.code yX5_findPair cX5_findPair 5 none, Cond.fieldLink RX5 54 "TagCarrier$Source" "opens" "[I", Cond.fieldLink RX5 57 "TagCarrier$Source" "closes" "[I", Cond.fieldLink RX5 9 "TagCarrier$Wanted" "from" "[I", Cond.fieldLink RX5 15 "TagCarrier$Wanted" "to" "[I", Cond.methodLink RX5 60 yX3_linkedBetween, Cond.instanceMethod yX3_linkedBetween, Cond.selects RX3 yX3_linkedBetween yX3_linkedBetween]
def wsX7_pair_r3 : List Cond := [Cond.initialized RX3, Cond.code yX3_linkedBetween cX3_linkedBetween 5 (some .int), Cond.fieldLink RX3 18 "TagCarrier$Sentences" "links" "[I", Cond.methodLink RX5 50 yX3_anchor, Cond.instanceMethod yX3_anchor, Cond.selects RX3 yX3_anchor yX3_anchor, Cond.code yX3_anchor cX3_anchor 4 (some .int), Cond.methodLink RX3 36 yX3_behindGreatest, Cond.static yX3_behindGreatest, Cond.code yX3_behindGreatest cX3_behindGreatest 2 (some .int), Cond.methodLink RX5 64 yX3_least, Cond.static yX3_least, Cond.code yX3_least cX3_least 2 (some .int), Cond.methodLink RX5 67 yX3_behindGreatest, Cond.methodLink RX7 169 yX2_place, Cond.instanceMethod yX2_place, Cond.selects RX2 yX2_place yX2_place, Cond.initialized RX2, Cond.code yX2_place cX2_place 5 none, Cond.fieldLink RX2 31 "TagCarrier$Source" "pairs" "I", Cond.fieldLink RX2 41 "TagCarrier$Wanted" "from" "[I", Cond.fieldLink RX2 44 "TagCarrier$Wanted" "to" "[I", Cond.fieldLink RX2 25 "TagCarrier$PairPlacer" "sums" "[J", Cond.methodLink RX2 45 yX2_findPrices]
def wsX7_pair_r4 : List Cond := [Cond.instanceMethod yX2_findPrices, Cond.selects RX2 yX2_findPrices yX2_findPrices, Cond.code yX2_findPrices cX2_findPrices 12 none, Cond.fieldLink RX2 21 "TagCarrier$PairPlacer" "prices" "[J", Cond.methodLink RX2 61 yX2_shiftOf, Cond.static yX2_shiftOf, Cond.code yX2_shiftOf cX2_shiftOf 1 (some .int), Cond.methodLink RX2 65 yX2_costOf, Cond.static yX2_costOf, Cond.code yX2_costOf cX2_costOf 8 (some .int), Cond.methodLink RX2 69 Lib.Math.abs.name, Cond.static Lib.Math.abs.name, Cond.initialized "java/lang/Math", Cond.code Lib.Math.abs.name Lib.Math.abs.code 1 (some .int), Cond.methodLink RX2 74 Lib.Math.max.name, Cond.static Lib.Math.max.name, Cond.code Lib.Math.max.name Lib.Math.max.code 2 (some .int), Cond.methodLink RX2 78 Lib.Math.min.name, Cond.static Lib.Math.min.name, Cond.code Lib.Math.min.name Lib.Math.min.code 2 (some .int), Cond.methodLink RX2 49 yX2_findParts, Cond.instanceMethod yX2_findParts, Cond.selects RX2 yX2_findParts yX2_findParts, Cond.code yX2_findParts cX2_findParts 4 none]
def wsX7_pair_r5 : List Cond := [Cond.fieldLink RX2 81 "TagCarrier$PairPlacer" "partCount" "I", Cond.fieldLink RX2 28 "TagCarrier$PairPlacer" "parts" "[I", Cond.methodLink RX2 84 yX2_apart, Cond.static yX2_apart, Cond.code yX2_apart cX2_apart 4 (some .boolean), Cond.fieldLink RX2 88 "TagCarrier$Source" "holds" "[I", Cond.fieldLink RX2 91 "TagCarrier$Source" "heldBy" "[I", Cond.methodLink RX2 53 yX2_findSums, Cond.instanceMethod yX2_findSums, Cond.selects RX2 yX2_findSums yX2_findSums, Cond.code yX2_findSums cX2_findSums 9 none, Cond.methodLink RX2 98 Lib.MathLoose.min_long.x, Cond.static Lib.MathLoose.min_long.x, Cond.code Lib.MathLoose.min_long.x Lib.MathLoose.min_long.code 4 (some .long), Cond.methodLink RX2 94 yX2_filled, Cond.instanceMethod yX2_filled, Cond.selects RX2 yX2_filled yX2_filled, Cond.code yX2_filled cX2_filled 8 (some .long), Cond.constantLong RX2 105 (1152921504606846976), Cond.methodLink RX2 101 yX2_parted, Cond.instanceMethod yX2_parted, Cond.selects RX2 yX2_parted yX2_parted, Cond.code yX2_parted cX2_parted 10 (some .long), Cond.methodLink RX2 57 yX2_readSpans]
def wsX7_pair_r6 : List Cond := [Cond.instanceMethod yX2_readSpans, Cond.selects RX2 yX2_readSpans yX2_readSpans, Cond.code yX2_readSpans cX2_readSpans 7 none, Cond.fieldLink RX2 107 "TagCarrier$PairPlacer" "costOfAll" "I", Cond.fieldLink RX2 11 "TagCarrier$PairPlacer" "from" "[I", Cond.fieldLink RX2 15 "TagCarrier$PairPlacer" "to" "[I", Cond.fieldLink RX2 18 "TagCarrier$PairPlacer" "cost" "[I", Cond.methodLink RX7 173 yX0_place, Cond.instanceMethod yX0_place, Cond.selects RX0 yX0_place yX0_place, Cond.initialized RX0, Cond.code yX0_place cX0_place 6 none, Cond.fieldLink RX0 15 "TagCarrier$MarkPlacer" "moved" "[I", Cond.fieldLink RX0 21 "TagCarrier$Source" "markCount" "I", Cond.fieldLink RX0 27 "TagCarrier$Wanted" "mark" "[I", Cond.fieldLink RX0 32 "TagCarrier$Source" "markRow" "[I", Cond.fieldLink RX0 39 "TagCarrier$MarkPlacer" "movedInAll" "I", Cond.fieldLink RX0 18 "TagCarrier$MarkPlacer" "chosen" "[I", Cond.fieldLink RX0 9 "TagCarrier$MarkPlacer" "at" "[I", Cond.methodLink RX0 35 yX0_findMoves, Cond.instanceMethod yX0_findMoves, Cond.selects RX0 yX0_findMoves yX0_findMoves, Cond.code yX0_findMoves cX0_findMoves 8 none, Cond.constant RX0 42 (1048576)]
def wsX7_pair_r7 : List Cond := [Cond.methodLink RX0 43 Lib.Math.abs.name, Cond.methodLink RX7 174 yX6_write, Cond.instanceMethod yX6_write, Cond.selects RX6 yX6_write yX6_write, Cond.initialized RX6, Cond.code yX6_write cX6_write 5 none, Cond.fieldLink RX6 18 "TagCarrier$Writer" "count" "I", Cond.fieldLink RX6 22 "TagCarrier$Sentences" "targetWords" "I", Cond.fieldLink RX6 27 "TagCarrier$Sentences" "source" "LTagCarrier$Source;", Cond.methodLink RX6 31 yX6_writeGap, Cond.instanceMethod yX6_writeGap, Cond.selects RX6 yX6_writeGap yX6_writeGap, Cond.code yX6_writeGap cX6_writeGap 11 none, Cond.fieldLink RX6 39 "TagCarrier$Source" "pairs" "I", Cond.fieldLink RX6 48 "TagCarrier$PairPlacer" "from" "[I", Cond.fieldLink RX6 53 "TagCarrier$PairPlacer" "to" "[I", Cond.methodLink RX6 56 yX6_heldByAny, Cond.static yX6_heldByAny, Cond.code yX6_heldByAny cX6_heldByAny 4 (some .int), Cond.fieldLink RX6 78 "TagCarrier$Source" "holds" "[I", Cond.methodLink RX6 60 yX6_addEmpty, Cond.instanceMethod yX6_addEmpty, Cond.selects RX6 yX6_addEmpty yX6_addEmpty, Cond.code yX6_addEmpty cX6_addEmpty 3 none]
def wsX7_pair_r8 : List Cond := [Cond.methodLink RX6 35 yX6_add, Cond.instanceMethod yX6_add, Cond.selects RX6 yX6_add yX6_add, Cond.code yX6_add cX6_add 2 none, Cond.fieldLink RX6 9 "TagCarrier$Writer" "signs" "[I", Cond.methodLink RX6 63 yX6_rankClosing, Cond.instanceMethod yX6_rankClosing, Cond.selects RX6 yX6_rankClosing yX6_rankClosing, Cond.code yX6_rankClosing cX6_rankClosing 4 none, Cond.fieldLink RX6 15 "TagCarrier$Writer" "ranks" "[I", Cond.methodLink RX6 81 yX4_depth, Cond.instanceMethod yX4_depth, Cond.selects RX4 yX4_depth yX4_depth, Cond.initialized RX4, Cond.code yX4_depth cX4_depth 2 (some .int), Cond.fieldLink RX4 21 "TagCarrier$Source" "heldBy" "[I", Cond.methodLink RX4 67 yJ6_bitCount_0f7a4, Cond.static yJ6_bitCount_0f7a4, Cond.initialized RJ6, Cond.code yJ6_bitCount_0f7a4 cJ6_bitCount_0f7a4 1 (some .int), Cond.constant RJ6 265 (1431655765), Cond.constant RJ6 266 (858993459), Cond.constant RJ6 267 (252645135), Cond.methodLink RX6 67 yX6_addRanked]
def wsX7_pair_r9 : List Cond := [Cond.instanceMethod yX6_addRanked, Cond.selects RX6 yX6_addRanked yX6_addRanked, Cond.code yX6_addRanked cX6_addRanked 6 none, Cond.methodLink RX6 85 yX6_greatestRank, Cond.instanceMethod yX6_greatestRank, Cond.selects RX6 yX6_greatestRank yX6_greatestRank, Cond.code yX6_greatestRank cX6_greatestRank 4 (some .int), Cond.methodLink RX6 71 yX6_addMarks, Cond.instanceMethod yX6_addMarks, Cond.selects RX6 yX6_addMarks yX6_addMarks, Cond.code yX6_addMarks cX6_addMarks 6 none, Cond.fieldLink RX6 88 "TagCarrier$Source" "markCount" "I", Cond.fieldLink RX6 91 "TagCarrier$Source" "markRow" "[I", Cond.fieldLink RX6 94 "TagCarrier$MarkPlacer" "at" "[I", Cond.methodLink RX6 75 yX6_rankOpening, Cond.instanceMethod yX6_rankOpening, Cond.selects RX6 yX6_rankOpening yX6_rankOpening, Cond.code yX6_rankOpening cX6_rankOpening 4 none, Cond.methodLink RX7 111 yX4_depth]
def wsX7_pair : List Cond := .code yX7_pair cX7_pair 3 (some .int) :: ((wsX7_pair_r1 ++ (wsX7_pair_r2 ++ (wsX7_pair_r3 ++ (wsX7_pair_r4 ++ (wsX7_pair_r5 ++ (wsX7_pair_r6 ++ (wsX7_pair_r7 ++ (wsX7_pair_r8 ++ wsX7_pair_r9)))))))) ++ wsX70 ++ wsX30 ++ wsX40 ++ wsX50 ++ wsX20 ++ wsX00 ++ wsX60)
def wsX7_mark_r1 : List Cond := [Cond.fieldLink RX7 19 "TagCarrier" "now" "LTagCarrier$Sentences;", Cond.fieldLink RX7 71 "TagCarrier$Sentences" "source" "LTagCarrier$Source;", Cond.fieldLink RX7 132 "TagCarrier$Source" "marks" "I", Cond.fieldLink RX7 135 "TagCarrier$Source" "markGap" "[I", Cond.fieldLink RX7 30 "TagCarrier" "wanted" "LTagCarrier$Wanted;", Cond.fieldLink RX7 138 "TagCarrier$Wanted" "mark" "[I", Cond.fieldLink RX7 44 "TagCarrier" "markPlacer" "LTagCarrier$MarkPlacer;", Cond.fieldLink RX7 141 "TagCarrier$MarkPlacer" "at" "[I", Cond.methodLink RX7 98 yX7_has, Cond.static yX7_has, Cond.initialized RX7, Cond.code yX7_has cX7_has 2 (some .boolean), Cond.methodLink RX7 102 yX7_carry, Cond.instanceMethod yX7_carry, Cond.selects RX7 yX7_carry yX7_carry, Cond.code yX7_carry cX7_carry 1 none, Cond.fieldLink RX7 55 "TagCarrier" "stale" "Z", Cond.fieldLink RX7 37 "TagCarrier" "pairPlacer" "LTagCarrier$PairPlacer;", Cond.fieldLink RX7 88 "TagCarrier$Sentences" "targetWords" "I", Cond.fieldLink RX7 51 "TagCarrier" "writer" "LTagCarrier$Writer;", Cond.methodLink RX7 166 yX5_find, Cond.instanceMethod yX5_find, Cond.selects RX5 yX5_find yX5_find, Cond.initialized RX5]
def wsX7_mark_r2 : List Cond := [Cond.code yX5_find cX5_find 3 none, Cond.fieldLink RX5 21 "TagCarrier$Wanted" "missing" "I", Cond.fieldLink RX5 25 "TagCarrier$Sentences" "source" "LTagCarrier$Source;", Cond.fieldLink RX5 31 "TagCarrier$Source" "pairs" "I", Cond.fieldLink RX5 44 "TagCarrier$Source" "marks" "I", Cond.fieldLink RX5 18 "TagCarrier$Wanted" "mark" "[I", Cond.fieldLink RX5 47 "TagCarrier$Source" "markGap" "[I", Cond.methodLink RX5 40 yX5_findPair, Cond.instanceMethod yX5_findPair, Cond.selects RX5 yX5_findPair yX5_findPair, Cond.code yX5_findPair cX5_findPair 5 none, Cond.fieldLink RX5 54 "TagCarrier$Source" "opens" "[I", Cond.fieldLink RX5 57 "TagCarrier$Source" "closes" "[I", Cond.fieldLink RX5 9 "TagCarrier$Wanted" "from" "[I", Cond.fieldLink RX5 15 "TagCarrier$Wanted" "to" "[I", Cond.methodLink RX5 60 yX3_linkedBetween, Cond.instanceMethod yX3_linkedBetween, Cond.selects RX3 yX3_linkedBetween yX3_linkedBetween, Cond.initialized RX3, Cond.code yX3_linkedBetween cX3_linkedBetween 5 (some .int), Cond.fieldLink RX3 18 "TagCarrier$Sentences" "links" "[I", Cond.methodLink RX5 50 yX3_anchor, Cond.instanceMethod yX3_anchor, Cond.selects RX3 yX3_anchor yX3_anchor]
def wsX7_mark_r3 : List Cond := [Cond.code yX3_anchor cX3_anchor 4 (some .int), Cond.methodLink RX3 36 yX3_behindGreatest, Cond.static yX3_behindGreatest, Cond.code yX3_behindGreatest cX3_behindGreatest 2 (some .int), Cond.methodLink RX5 64 yX3_least, Cond.static yX3_least, Cond.code yX3_least cX3_least 2 (some .int), Cond.methodLink RX5 67 yX3_behindGreatest, Cond.methodLink RX7 169 yX2_place, Cond.instanceMethod yX2_place, Cond.selects RX2 yX2_place yX2_place, Cond.initialized RX2, Cond.code yX2_place cX2_place 5 none, Cond.fieldLink RX2 31 "TagCarrier$Source" "pairs" "I", Cond.fieldLink RX2 41 "TagCarrier$Wanted" "from" "[I", Cond.fieldLink RX2 44 "TagCarrier$Wanted" "to" "[I", Cond.fieldLink RX2 25 "TagCarrier$PairPlacer" "sums" "[J", Cond.methodLink RX2 45 yX2_findPrices, Cond.instanceMethod yX2_findPrices, Cond.selects RX2 yX2_findPrices yX2_findPrices, Cond.code yX2_findPrices cX2_findPrices 12 none, Cond.fieldLink RX2 21 "TagCarrier$PairPlacer" "prices" "[J", Cond.methodLink RX2 61 yX2_shiftOf, Cond.static yX2_shiftOf]
def wsX7_mark_r4 : List Cond := [Cond.code yX2_shiftOf cX2_shiftOf 1 (some .int), Cond.methodLink RX2 65 yX2_costOf, Cond.static yX2_costOf, Cond.code yX2_costOf cX2_costOf 8 (some .int), Cond.methodLink RX2 69 Lib.Math.abs.name, Cond.static Lib.Math.abs.name, Cond.initialized "java/lang/Math", Cond.code Lib.Math.abs.name Lib.Math.abs.code 1 (some .int), Cond.methodLink RX2 74 Lib.Math.max.name, Cond.static Lib.Math.max.name, Cond.code Lib.Math.max.name Lib.Math.max.code 2 (some .int), Cond.methodLink RX2 78 Lib.Math.min.name, Cond.static Lib.Math.min.name, Cond.code Lib.Math.min.name Lib.Math.min.code 2 (some .int), Cond.methodLink RX2 49 yX2_findParts, Cond.instanceMethod yX2_findParts, Cond.selects RX2 yX2_findParts yX2_findParts, Cond.code yX2_findParts cX2_findParts 4 none, Cond.fieldLink RX2 81 "TagCarrier$PairPlacer" "partCount" "I", Cond.fieldLink RX2 28 "TagCarrier$PairPlacer" "parts" "[I", Cond.methodLink RX2 84 yX2_apart, Cond.static yX2_apart, Cond.code yX2_apart cX2_apart 4 (some .boolean), Cond.fieldLink RX2 88 "TagCarrier$Source" "holds" "[I"]
def wsX7_mark_r5 : List Cond := [Cond.fieldLink RX2 91 "TagCarrier$Source" "heldBy" "[I", Cond.methodLink RX2 53 yX2_findSums, Cond.instanceMethod yX2_findSums, Cond.selects RX2 yX2_findSums yX2_findSums, Cond.code yX2_findSums cX2_findSums 9 none, Cond.methodLink RX2 98 Lib.MathLoose.min_long.x, Cond.static Lib.MathLoose.min_long.x, Cond.code Lib.MathLoose.min_long.x Lib.MathLoose.min_long.code 4 (some .long), Cond.methodLink RX2 94 yX2_filled, Cond.instanceMethod yX2_filled, Cond.selects RX2 yX2_filled yX2_filled, Cond.code yX2_filled cX2_filled 8 (some .long), Cond.constantLong RX2 105 (1152921504606846976), Cond.methodLink RX2 101 yX2_parted, Cond.instanceMethod yX2_parted, Cond.selects RX2 yX2_parted yX2_parted, Cond.code yX2_parted cX2_parted 10 (some .long), Cond.methodLink RX2 57 yX2_readSpans, Cond.instanceMethod yX2_readSpans, Cond.selects RX2 yX2_readSpans yX2_readSpans, Cond.code yX2_readSpans cX2_readSpans 7 none, Cond.fieldLink RX2 107 "TagCarrier$PairPlacer" "costOfAll" "I", Cond.fieldLink RX2 11 "TagCarrier$PairPlacer" "from" "[I", Cond.fieldLink RX2 15 "TagCarrier$PairPlacer" "to" "[I"]
def wsX7_mark_r6 : List Cond := [Cond.fieldLink RX2 18 "TagCarrier$PairPlacer" "cost" "[I", Cond.methodLink RX7 173 yX0_place, Cond.instanceMethod yX0_place, Cond.selects RX0 yX0_place yX0_place, Cond.initialized RX0, Cond.code yX0_place cX0_place 6 none, Cond.fieldLink RX0 15 "TagCarrier$MarkPlacer" "moved" "[I", Cond.fieldLink RX0 21 "TagCarrier$Source" "markCount" "I", Cond.fieldLink RX0 27 "TagCarrier$Wanted" "mark" "[I", Cond.fieldLink RX0 32 "TagCarrier$Source" "markRow" "[I", Cond.fieldLink RX0 39 "TagCarrier$MarkPlacer" "movedInAll" "I", Cond.fieldLink RX0 18 "TagCarrier$MarkPlacer" "chosen" "[I", Cond.fieldLink RX0 9 "TagCarrier$MarkPlacer" "at" "[I", Cond.methodLink RX0 35 yX0_findMoves, Cond.instanceMethod yX0_findMoves, Cond.selects RX0 yX0_findMoves yX0_findMoves, Cond.code yX0_findMoves cX0_findMoves 8 none, Cond.constant RX0 42 (1048576), Cond.methodLink RX0 43 Lib.Math.abs.name, Cond.methodLink RX7 174 yX6_write, Cond.instanceMethod yX6_write, Cond.selects RX6 yX6_write yX6_write, Cond.initialized RX6, Cond.code yX6_write cX6_write 5 none]
def wsX7_mark_r7 : List Cond := [Cond.fieldLink RX6 18 "TagCarrier$Writer" "count" "I", Cond.fieldLink RX6 22 "TagCarrier$Sentences" "targetWords" "I", Cond.fieldLink RX6 27 "TagCarrier$Sentences" "source" "LTagCarrier$Source;", Cond.methodLink RX6 31 yX6_writeGap, Cond.instanceMethod yX6_writeGap, Cond.selects RX6 yX6_writeGap yX6_writeGap, Cond.code yX6_writeGap cX6_writeGap 11 none, Cond.fieldLink RX6 39 "TagCarrier$Source" "pairs" "I", Cond.fieldLink RX6 48 "TagCarrier$PairPlacer" "from" "[I", Cond.fieldLink RX6 53 "TagCarrier$PairPlacer" "to" "[I", Cond.methodLink RX6 56 yX6_heldByAny, Cond.static yX6_heldByAny, Cond.code yX6_heldByAny cX6_heldByAny 4 (some .int), Cond.fieldLink RX6 78 "TagCarrier$Source" "holds" "[I", Cond.methodLink RX6 60 yX6_addEmpty, Cond.instanceMethod yX6_addEmpty, Cond.selects RX6 yX6_addEmpty yX6_addEmpty, Cond.code yX6_addEmpty cX6_addEmpty 3 none, Cond.methodLink RX6 35 yX6_add, Cond.instanceMethod yX6_add, Cond.selects RX6 yX6_add yX6_add, Cond.code yX6_add cX6_add 2 none, Cond.fieldLink RX6 9 "TagCarrier$Writer" "signs" "[I", Cond.methodLink RX6 63 yX6_rankClosing]
def wsX7_mark_r8 : List Cond := [Cond.instanceMethod yX6_rankClosing, Cond.selects RX6 yX6_rankClosing yX6_rankClosing, Cond.code yX6_rankClosing cX6_rankClosing 4 none, Cond.fieldLink RX6 15 "TagCarrier$Writer" "ranks" "[I", Cond.methodLink RX6 81 yX4_depth, Cond.instanceMethod yX4_depth, Cond.selects RX4 yX4_depth yX4_depth, Cond.initialized RX4, Cond.code yX4_depth cX4_depth 2 (some .int), Cond.fieldLink RX4 21 "TagCarrier$Source" "heldBy" "[I", Cond.methodLink RX4 67 yJ6_bitCount_0f7a4, Cond.static yJ6_bitCount_0f7a4, Cond.initialized RJ6, Cond.code yJ6_bitCount_0f7a4 cJ6_bitCount_0f7a4 1 (some .int), Cond.constant RJ6 265 (1431655765), Cond.constant RJ6 266 (858993459), Cond.constant RJ6 267 (252645135), Cond.methodLink RX6 67 yX6_addRanked, Cond.instanceMethod yX6_addRanked, Cond.selects RX6 yX6_addRanked yX6_addRanked, Cond.code yX6_addRanked cX6_addRanked 6 none, Cond.methodLink RX6 85 yX6_greatestRank, Cond.instanceMethod yX6_greatestRank, Cond.selects RX6 yX6_greatestRank yX6_greatestRank]
def wsX7_mark_r9 : List Cond := [Cond.code yX6_greatestRank cX6_greatestRank 4 (some .int), Cond.methodLink RX6 71 yX6_addMarks, Cond.instanceMethod yX6_addMarks, Cond.selects RX6 yX6_addMarks yX6_addMarks, Cond.code yX6_addMarks cX6_addMarks 6 none, Cond.fieldLink RX6 88 "TagCarrier$Source" "markCount" "I", Cond.fieldLink RX6 91 "TagCarrier$Source" "markRow" "[I", Cond.fieldLink RX6 94 "TagCarrier$MarkPlacer" "at" "[I", Cond.methodLink RX6 75 yX6_rankOpening, Cond.instanceMethod yX6_rankOpening, Cond.selects RX6 yX6_rankOpening yX6_rankOpening, Cond.code yX6_rankOpening cX6_rankOpening 4 none]
def wsX7_mark : List Cond := .code yX7_mark cX7_mark 3 (some .int) :: ((wsX7_mark_r1 ++ (wsX7_mark_r2 ++ (wsX7_mark_r3 ++ (wsX7_mark_r4 ++ (wsX7_mark_r5 ++ (wsX7_mark_r6 ++ (wsX7_mark_r7 ++ (wsX7_mark_r8 ++ wsX7_mark_r9)))))))) ++ wsX70 ++ wsX30 ++ wsX40 ++ wsX50 ++ wsX00 ++ wsX20 ++ wsX60)
def wsX7_total_r1 : List Cond := [Cond.fieldLink RX7 37 "TagCarrier" "pairPlacer" "LTagCarrier$PairPlacer;", Cond.fieldLink RX7 144 "TagCarrier$PairPlacer" "costOfAll" "I", Cond.fieldLink RX7 44 "TagCarrier" "markPlacer" "LTagCarrier$MarkPlacer;", Cond.fieldLink RX7 147 "TagCarrier$MarkPlacer" "movedInAll" "I", Cond.fieldLink RX7 19 "TagCarrier" "now" "LTagCarrier$Sentences;", Cond.fieldLink RX7 71 "TagCarrier$Sentences" "source" "LTagCarrier$Source;", Cond.fieldLink RX7 95 "TagCarrier$Source" "pairs" "I", Cond.fieldLink RX7 30 "TagCarrier" "wanted" "LTagCarrier$Wanted;", Cond.fieldLink RX7 129 "TagCarrier$Wanted" "missing" "I", Cond.fieldLink RX7 132 "TagCarrier$Source" "marks" "I", Cond.methodLink RX7 102 yX7_carry, Cond.instanceMethod yX7_carry, Cond.selects RX7 yX7_carry yX7_carry, Cond.initialized RX7, Cond.code yX7_carry cX7_carry 1 none, Cond.fieldLink RX7 55 "TagCarrier" "stale" "Z", Cond.fieldLink RX7 88 "TagCarrier$Sentences" "targetWords" "I", Cond.fieldLink RX7 51 "TagCarrier" "writer" "LTagCarrier$Writer;", Cond.methodLink RX7 166 yX5_find, Cond.instanceMethod yX5_find, Cond.selects RX5 yX5_find yX5_find, Cond.initialized RX5, Cond.code yX5_find cX5_find 3 none, Cond.fieldLink RX5 21 "TagCarrier$Wanted" "missing" "I"]
def wsX7_total_r2 : List Cond := [Cond.fieldLink RX5 25 "TagCarrier$Sentences" "source" "LTagCarrier$Source;", Cond.fieldLink RX5 31 "TagCarrier$Source" "pairs" "I", Cond.fieldLink RX5 44 "TagCarrier$Source" "marks" "I", Cond.fieldLink RX5 18 "TagCarrier$Wanted" "mark" "[I", Cond.fieldLink RX5 47 "TagCarrier$Source" "markGap" "[I", Cond.static yX7_has, Cond.code yX7_has cX7_has 2 (some .boolean), Cond.methodLink RX5 40 yX5_findPair, Cond.instanceMethod yX5_findPair, Cond.selects RX5 yX5_findPair yX5_findPair, Cond.code yX5_findPair cX5_findPair 5 none, Cond.fieldLink RX5 54 "TagCarrier$Source" "opens" "[I", Cond.fieldLink RX5 57 "TagCarrier$Source" "closes" "[I", Cond.fieldLink RX5 9 "TagCarrier$Wanted" "from" "[I", Cond.fieldLink RX5 15 "TagCarrier$Wanted" "to" "[I", Cond.methodLink RX5 60 yX3_linkedBetween, Cond.instanceMethod yX3_linkedBetween, Cond.selects RX3 yX3_linkedBetween yX3_linkedBetween, Cond.initialized RX3, Cond.code yX3_linkedBetween cX3_linkedBetween 5 (some .int), Cond.fieldLink RX3 18 "TagCarrier$Sentences" "links" "[I", Cond.methodLink RX5 50 yX3_anchor, Cond.instanceMethod yX3_anchor, Cond.selects RX3 yX3_anchor yX3_anchor]
def wsX7_total_r3 : List Cond := [Cond.code yX3_anchor cX3_anchor 4 (some .int), Cond.methodLink RX3 36 yX3_behindGreatest, Cond.static yX3_behindGreatest, Cond.code yX3_behindGreatest cX3_behindGreatest 2 (some .int), Cond.methodLink RX5 64 yX3_least, Cond.static yX3_least, Cond.code yX3_least cX3_least 2 (some .int), Cond.methodLink RX5 67 yX3_behindGreatest, Cond.methodLink RX7 169 yX2_place, Cond.instanceMethod yX2_place, Cond.selects RX2 yX2_place yX2_place, Cond.initialized RX2, Cond.code yX2_place cX2_place 5 none, Cond.fieldLink RX2 31 "TagCarrier$Source" "pairs" "I", Cond.fieldLink RX2 41 "TagCarrier$Wanted" "from" "[I", Cond.fieldLink RX2 44 "TagCarrier$Wanted" "to" "[I", Cond.fieldLink RX2 25 "TagCarrier$PairPlacer" "sums" "[J", Cond.methodLink RX2 45 yX2_findPrices, Cond.instanceMethod yX2_findPrices, Cond.selects RX2 yX2_findPrices yX2_findPrices, Cond.code yX2_findPrices cX2_findPrices 12 none, Cond.fieldLink RX2 21 "TagCarrier$PairPlacer" "prices" "[J", Cond.methodLink RX2 61 yX2_shiftOf, Cond.static yX2_shiftOf]
def wsX7_total_r4 : List Cond := [Cond.code yX2_shiftOf cX2_shiftOf 1 (some .int), Cond.methodLink RX2 65 yX2_costOf, Cond.static yX2_costOf, Cond.code yX2_costOf cX2_costOf 8 (some .int), Cond.methodLink RX2 69 Lib.Math.abs.name, Cond.static Lib.Math.abs.name, Cond.initialized "java/lang/Math", Cond.code Lib.Math.abs.name Lib.Math.abs.code 1 (some .int), Cond.methodLink RX2 74 Lib.Math.max.name, Cond.static Lib.Math.max.name, Cond.code Lib.Math.max.name Lib.Math.max.code 2 (some .int), Cond.methodLink RX2 78 Lib.Math.min.name, Cond.static Lib.Math.min.name, Cond.code Lib.Math.min.name Lib.Math.min.code 2 (some .int), Cond.methodLink RX2 49 yX2_findParts, Cond.instanceMethod yX2_findParts, Cond.selects RX2 yX2_findParts yX2_findParts, Cond.code yX2_findParts cX2_findParts 4 none, Cond.fieldLink RX2 81 "TagCarrier$PairPlacer" "partCount" "I", Cond.fieldLink RX2 28 "TagCarrier$PairPlacer" "parts" "[I", Cond.methodLink RX2 84 yX2_apart, Cond.static yX2_apart, Cond.code yX2_apart cX2_apart 4 (some .boolean), Cond.fieldLink RX2 88 "TagCarrier$Source" "holds" "[I"]
def wsX7_total_r5 : List Cond := [Cond.fieldLink RX2 91 "TagCarrier$Source" "heldBy" "[I", Cond.methodLink RX2 53 yX2_findSums, Cond.instanceMethod yX2_findSums, Cond.selects RX2 yX2_findSums yX2_findSums, Cond.code yX2_findSums cX2_findSums 9 none, Cond.methodLink RX2 98 Lib.MathLoose.min_long.x, Cond.static Lib.MathLoose.min_long.x, Cond.code Lib.MathLoose.min_long.x Lib.MathLoose.min_long.code 4 (some .long), Cond.methodLink RX2 94 yX2_filled, Cond.instanceMethod yX2_filled, Cond.selects RX2 yX2_filled yX2_filled, Cond.code yX2_filled cX2_filled 8 (some .long), Cond.constantLong RX2 105 (1152921504606846976), Cond.methodLink RX2 101 yX2_parted, Cond.instanceMethod yX2_parted, Cond.selects RX2 yX2_parted yX2_parted, Cond.code yX2_parted cX2_parted 10 (some .long), Cond.methodLink RX2 57 yX2_readSpans, Cond.instanceMethod yX2_readSpans, Cond.selects RX2 yX2_readSpans yX2_readSpans, Cond.code yX2_readSpans cX2_readSpans 7 none, Cond.fieldLink RX2 107 "TagCarrier$PairPlacer" "costOfAll" "I", Cond.fieldLink RX2 11 "TagCarrier$PairPlacer" "from" "[I", Cond.fieldLink RX2 15 "TagCarrier$PairPlacer" "to" "[I"]
def wsX7_total_r6 : List Cond := [Cond.fieldLink RX2 18 "TagCarrier$PairPlacer" "cost" "[I", Cond.methodLink RX7 173 yX0_place, Cond.instanceMethod yX0_place, Cond.selects RX0 yX0_place yX0_place, Cond.initialized RX0, Cond.code yX0_place cX0_place 6 none, Cond.fieldLink RX0 15 "TagCarrier$MarkPlacer" "moved" "[I", Cond.fieldLink RX0 21 "TagCarrier$Source" "markCount" "I", Cond.fieldLink RX0 27 "TagCarrier$Wanted" "mark" "[I", Cond.fieldLink RX0 32 "TagCarrier$Source" "markRow" "[I", Cond.fieldLink RX0 39 "TagCarrier$MarkPlacer" "movedInAll" "I", Cond.fieldLink RX0 18 "TagCarrier$MarkPlacer" "chosen" "[I", Cond.fieldLink RX0 9 "TagCarrier$MarkPlacer" "at" "[I", Cond.methodLink RX0 35 yX0_findMoves, Cond.instanceMethod yX0_findMoves, Cond.selects RX0 yX0_findMoves yX0_findMoves, Cond.code yX0_findMoves cX0_findMoves 8 none, Cond.constant RX0 42 (1048576), Cond.methodLink RX0 43 Lib.Math.abs.name, Cond.methodLink RX7 174 yX6_write, Cond.instanceMethod yX6_write, Cond.selects RX6 yX6_write yX6_write, Cond.initialized RX6, Cond.code yX6_write cX6_write 5 none]
def wsX7_total_r7 : List Cond := [Cond.fieldLink RX6 18 "TagCarrier$Writer" "count" "I", Cond.fieldLink RX6 22 "TagCarrier$Sentences" "targetWords" "I", Cond.fieldLink RX6 27 "TagCarrier$Sentences" "source" "LTagCarrier$Source;", Cond.methodLink RX6 31 yX6_writeGap, Cond.instanceMethod yX6_writeGap, Cond.selects RX6 yX6_writeGap yX6_writeGap, Cond.code yX6_writeGap cX6_writeGap 11 none, Cond.fieldLink RX6 39 "TagCarrier$Source" "pairs" "I", Cond.fieldLink RX6 48 "TagCarrier$PairPlacer" "from" "[I", Cond.fieldLink RX6 53 "TagCarrier$PairPlacer" "to" "[I", Cond.methodLink RX6 56 yX6_heldByAny, Cond.static yX6_heldByAny, Cond.code yX6_heldByAny cX6_heldByAny 4 (some .int), Cond.fieldLink RX6 78 "TagCarrier$Source" "holds" "[I", Cond.methodLink RX6 60 yX6_addEmpty, Cond.instanceMethod yX6_addEmpty, Cond.selects RX6 yX6_addEmpty yX6_addEmpty, Cond.code yX6_addEmpty cX6_addEmpty 3 none, Cond.methodLink RX6 35 yX6_add, Cond.instanceMethod yX6_add, Cond.selects RX6 yX6_add yX6_add, Cond.code yX6_add cX6_add 2 none, Cond.fieldLink RX6 9 "TagCarrier$Writer" "signs" "[I", Cond.methodLink RX6 63 yX6_rankClosing]
def wsX7_total_r8 : List Cond := [Cond.instanceMethod yX6_rankClosing, Cond.selects RX6 yX6_rankClosing yX6_rankClosing, Cond.code yX6_rankClosing cX6_rankClosing 4 none, Cond.fieldLink RX6 15 "TagCarrier$Writer" "ranks" "[I", Cond.methodLink RX6 81 yX4_depth, Cond.instanceMethod yX4_depth, Cond.selects RX4 yX4_depth yX4_depth, Cond.initialized RX4, Cond.code yX4_depth cX4_depth 2 (some .int), Cond.fieldLink RX4 21 "TagCarrier$Source" "heldBy" "[I", Cond.methodLink RX4 67 yJ6_bitCount_0f7a4, Cond.static yJ6_bitCount_0f7a4, Cond.initialized RJ6, Cond.code yJ6_bitCount_0f7a4 cJ6_bitCount_0f7a4 1 (some .int), Cond.constant RJ6 265 (1431655765), Cond.constant RJ6 266 (858993459), Cond.constant RJ6 267 (252645135), Cond.methodLink RX6 67 yX6_addRanked, Cond.instanceMethod yX6_addRanked, Cond.selects RX6 yX6_addRanked yX6_addRanked, Cond.code yX6_addRanked cX6_addRanked 6 none, Cond.methodLink RX6 85 yX6_greatestRank, Cond.instanceMethod yX6_greatestRank, Cond.selects RX6 yX6_greatestRank yX6_greatestRank]
def wsX7_total_r9 : List Cond := [Cond.code yX6_greatestRank cX6_greatestRank 4 (some .int), Cond.methodLink RX6 71 yX6_addMarks, Cond.instanceMethod yX6_addMarks, Cond.selects RX6 yX6_addMarks yX6_addMarks, Cond.code yX6_addMarks cX6_addMarks 6 none, Cond.fieldLink RX6 88 "TagCarrier$Source" "markCount" "I", Cond.fieldLink RX6 91 "TagCarrier$Source" "markRow" "[I", Cond.fieldLink RX6 94 "TagCarrier$MarkPlacer" "at" "[I", Cond.methodLink RX6 75 yX6_rankOpening, Cond.instanceMethod yX6_rankOpening, Cond.selects RX6 yX6_rankOpening yX6_rankOpening, Cond.code yX6_rankOpening cX6_rankOpening 4 none, Cond.methodLink RX7 150 yX3_countLinks, Cond.instanceMethod yX3_countLinks, Cond.selects RX3 yX3_countLinks yX3_countLinks, Cond.code yX3_countLinks cX3_countLinks 3 (some .int), Cond.methodLink RX3 30 yJ6_bitCount_0f7a4, Cond.methodLink RX7 153 yX5_countCrossings, Cond.instanceMethod yX5_countCrossings, Cond.selects RX5 yX5_countCrossings yX5_countCrossings, Cond.code yX5_countCrossings cX5_countCrossings 5 (some .int), Cond.methodLink RX5 70 yX5_cross, Cond.instanceMethod yX5_cross, Cond.selects RX5 yX5_cross yX5_cross]
def wsX7_total_r10 : List Cond := [Cond.code yX5_cross cX5_cross 3 (some .boolean), Cond.methodLink RX5 73 yX5_overlapsFromAhead, Cond.instanceMethod yX5_overlapsFromAhead, Cond.selects RX5 yX5_overlapsFromAhead yX5_overlapsFromAhead, Cond.code yX5_overlapsFromAhead cX5_overlapsFromAhead 3 (some .boolean), Cond.methodLink RX7 156 yX4_countHolds, Cond.instanceMethod yX4_countHolds, Cond.selects RX4 yX4_countHolds yX4_countHolds, Cond.code yX4_countHolds cX4_countHolds 3 (some .int), Cond.fieldLink RX4 37 "TagCarrier$Source" "pairs" "I", Cond.fieldLink RX4 18 "TagCarrier$Source" "holds" "[I"]
def wsX7_total : List Cond := .code yX7_total cX7_total 2 (some .int) :: ((wsX7_total_r1 ++ (wsX7_total_r2 ++ (wsX7_total_r3 ++ (wsX7_total_r4 ++ (wsX7_total_r5 ++ (wsX7_total_r6 ++ (wsX7_total_r7 ++ (wsX7_total_r8 ++ (wsX7_total_r9 ++ wsX7_total_r10))))))))) ++ wsX70 ++ wsX20 ++ wsX00 ++ wsX30 ++ wsX40 ++ wsX50 ++ wsX60)
def wsX7_sign_r1 : List Cond := [Cond.fieldLink RX7 51 "TagCarrier" "writer" "LTagCarrier$Writer;", Cond.fieldLink RX7 159 "TagCarrier$Writer" "count" "I", Cond.fieldLink RX7 160 "TagCarrier$Writer" "signs" "[I", Cond.methodLink RX7 102 yX7_carry, Cond.instanceMethod yX7_carry, Cond.selects RX7 yX7_carry yX7_carry, Cond.initialized RX7, Cond.code yX7_carry cX7_carry 1 none, Cond.fieldLink RX7 55 "TagCarrier" "stale" "Z", Cond.fieldLink RX7 30 "TagCarrier" "wanted" "LTagCarrier$Wanted;", Cond.fieldLink RX7 19 "TagCarrier" "now" "LTagCarrier$Sentences;", Cond.fieldLink RX7 37 "TagCarrier" "pairPlacer" "LTagCarrier$PairPlacer;", Cond.fieldLink RX7 71 "TagCarrier$Sentences" "source" "LTagCarrier$Source;", Cond.fieldLink RX7 88 "TagCarrier$Sentences" "targetWords" "I", Cond.fieldLink RX7 44 "TagCarrier" "markPlacer" "LTagCarrier$MarkPlacer;", Cond.methodLink RX7 166 yX5_find, Cond.instanceMethod yX5_find, Cond.selects RX5 yX5_find yX5_find, Cond.initialized RX5, Cond.code yX5_find cX5_find 3 none, Cond.fieldLink RX5 21 "TagCarrier$Wanted" "missing" "I", Cond.fieldLink RX5 25 "TagCarrier$Sentences" "source" "LTagCarrier$Source;", Cond.fieldLink RX5 31 "TagCarrier$Source" "pairs" "I", Cond.fieldLink RX5 44 "TagCarrier$Source" "marks" "I"]
def wsX7_sign_r2 : List Cond := [Cond.fieldLink RX5 18 "TagCarrier$Wanted" "mark" "[I", Cond.fieldLink RX5 47 "TagCarrier$Source" "markGap" "[I", Cond.static yX7_has, Cond.code yX7_has cX7_has 2 (some .boolean), Cond.methodLink RX5 40 yX5_findPair, Cond.instanceMethod yX5_findPair, Cond.selects RX5 yX5_findPair yX5_findPair, Cond.code yX5_findPair cX5_findPair 5 none, Cond.fieldLink RX5 54 "TagCarrier$Source" "opens" "[I", Cond.fieldLink RX5 57 "TagCarrier$Source" "closes" "[I", Cond.fieldLink RX5 9 "TagCarrier$Wanted" "from" "[I", Cond.fieldLink RX5 15 "TagCarrier$Wanted" "to" "[I", Cond.methodLink RX5 60 yX3_linkedBetween, Cond.instanceMethod yX3_linkedBetween, Cond.selects RX3 yX3_linkedBetween yX3_linkedBetween, Cond.initialized RX3, Cond.code yX3_linkedBetween cX3_linkedBetween 5 (some .int), Cond.fieldLink RX3 18 "TagCarrier$Sentences" "links" "[I", Cond.methodLink RX5 50 yX3_anchor, Cond.instanceMethod yX3_anchor, Cond.selects RX3 yX3_anchor yX3_anchor, Cond.code yX3_anchor cX3_anchor 4 (some .int), Cond.methodLink RX3 36 yX3_behindGreatest, Cond.static yX3_behindGreatest]
def wsX7_sign_r3 : List Cond := [Cond.code yX3_behindGreatest cX3_behindGreatest 2 (some .int), Cond.methodLink RX5 64 yX3_least, Cond.static yX3_least, Cond.code yX3_least cX3_least 2 (some .int), Cond.methodLink RX5 67 yX3_behindGreatest, Cond.methodLink RX7 169 yX2_place, Cond.instanceMethod yX2_place, Cond.selects RX2 yX2_place yX2_place, Cond.initialized RX2, Cond.code yX2_place cX2_place 5 none, Cond.fieldLink RX2 31 "TagCarrier$Source" "pairs" "I", Cond.fieldLink RX2 41 "TagCarrier$Wanted" "from" "[I", Cond.fieldLink RX2 44 "TagCarrier$Wanted" "to" "[I", Cond.fieldLink RX2 25 "TagCarrier$PairPlacer" "sums" "[J", Cond.methodLink RX2 45 yX2_findPrices, Cond.instanceMethod yX2_findPrices, Cond.selects RX2 yX2_findPrices yX2_findPrices, Cond.code yX2_findPrices cX2_findPrices 12 none, Cond.fieldLink RX2 21 "TagCarrier$PairPlacer" "prices" "[J", Cond.methodLink RX2 61 yX2_shiftOf, Cond.static yX2_shiftOf, Cond.code yX2_shiftOf cX2_shiftOf 1 (some .int), Cond.methodLink RX2 65 yX2_costOf, Cond.static yX2_costOf]
def wsX7_sign_r4 : List Cond := [Cond.code yX2_costOf cX2_costOf 8 (some .int), Cond.methodLink RX2 69 Lib.Math.abs.name, Cond.static Lib.Math.abs.name, Cond.initialized "java/lang/Math", Cond.code Lib.Math.abs.name Lib.Math.abs.code 1 (some .int), Cond.methodLink RX2 74 Lib.Math.max.name, Cond.static Lib.Math.max.name, Cond.code Lib.Math.max.name Lib.Math.max.code 2 (some .int), Cond.methodLink RX2 78 Lib.Math.min.name, Cond.static Lib.Math.min.name, Cond.code Lib.Math.min.name Lib.Math.min.code 2 (some .int), Cond.methodLink RX2 49 yX2_findParts, Cond.instanceMethod yX2_findParts, Cond.selects RX2 yX2_findParts yX2_findParts, Cond.code yX2_findParts cX2_findParts 4 none, Cond.fieldLink RX2 81 "TagCarrier$PairPlacer" "partCount" "I", Cond.fieldLink RX2 28 "TagCarrier$PairPlacer" "parts" "[I", Cond.methodLink RX2 84 yX2_apart, Cond.static yX2_apart, Cond.code yX2_apart cX2_apart 4 (some .boolean), Cond.fieldLink RX2 88 "TagCarrier$Source" "holds" "[I", Cond.fieldLink RX2 91 "TagCarrier$Source" "heldBy" "[I", Cond.methodLink RX2 53 yX2_findSums, Cond.instanceMethod yX2_findSums]
def wsX7_sign_r5 : List Cond := [Cond.selects RX2 yX2_findSums yX2_findSums, Cond.code yX2_findSums cX2_findSums 9 none, Cond.methodLink RX2 98 Lib.MathLoose.min_long.x, Cond.static Lib.MathLoose.min_long.x, Cond.code Lib.MathLoose.min_long.x Lib.MathLoose.min_long.code 4 (some .long), Cond.methodLink RX2 94 yX2_filled, Cond.instanceMethod yX2_filled, Cond.selects RX2 yX2_filled yX2_filled, Cond.code yX2_filled cX2_filled 8 (some .long), Cond.constantLong RX2 105 (1152921504606846976), Cond.methodLink RX2 101 yX2_parted, Cond.instanceMethod yX2_parted, Cond.selects RX2 yX2_parted yX2_parted, Cond.code yX2_parted cX2_parted 10 (some .long), Cond.methodLink RX2 57 yX2_readSpans, Cond.instanceMethod yX2_readSpans, Cond.selects RX2 yX2_readSpans yX2_readSpans, Cond.code yX2_readSpans cX2_readSpans 7 none, Cond.fieldLink RX2 107 "TagCarrier$PairPlacer" "costOfAll" "I", Cond.fieldLink RX2 11 "TagCarrier$PairPlacer" "from" "[I", Cond.fieldLink RX2 15 "TagCarrier$PairPlacer" "to" "[I", Cond.fieldLink RX2 18 "TagCarrier$PairPlacer" "cost" "[I", Cond.methodLink RX7 173 yX0_place, Cond.instanceMethod yX0_place]
def wsX7_sign_r6 : List Cond := [Cond.selects RX0 yX0_place yX0_place, Cond.initialized RX0, Cond.code yX0_place cX0_place 6 none, Cond.fieldLink RX0 15 "TagCarrier$MarkPlacer" "moved" "[I", Cond.fieldLink RX0 21 "TagCarrier$Source" "markCount" "I", Cond.fieldLink RX0 27 "TagCarrier$Wanted" "mark" "[I", Cond.fieldLink RX0 32 "TagCarrier$Source" "markRow" "[I", Cond.fieldLink RX0 39 "TagCarrier$MarkPlacer" "movedInAll" "I", Cond.fieldLink RX0 18 "TagCarrier$MarkPlacer" "chosen" "[I", Cond.fieldLink RX0 9 "TagCarrier$MarkPlacer" "at" "[I", Cond.methodLink RX0 35 yX0_findMoves, Cond.instanceMethod yX0_findMoves, Cond.selects RX0 yX0_findMoves yX0_findMoves, Cond.code yX0_findMoves cX0_findMoves 8 none, Cond.constant RX0 42 (1048576), Cond.methodLink RX0 43 Lib.Math.abs.name, Cond.methodLink RX7 174 yX6_write, Cond.instanceMethod yX6_write, Cond.selects RX6 yX6_write yX6_write, Cond.initialized RX6, Cond.code yX6_write cX6_write 5 none, Cond.fieldLink RX6 18 "TagCarrier$Writer" "count" "I", Cond.fieldLink RX6 22 "TagCarrier$Sentences" "targetWords" "I", Cond.fieldLink RX6 27 "TagCarrier$Sentences" "source" "LTagCarrier$Source;"]
def wsX7_sign_r7 : List Cond := [Cond.methodLink RX6 31 yX6_writeGap, Cond.instanceMethod yX6_writeGap, Cond.selects RX6 yX6_writeGap yX6_writeGap, Cond.code yX6_writeGap cX6_writeGap 11 none, Cond.fieldLink RX6 39 "TagCarrier$Source" "pairs" "I", Cond.fieldLink RX6 48 "TagCarrier$PairPlacer" "from" "[I", Cond.fieldLink RX6 53 "TagCarrier$PairPlacer" "to" "[I", Cond.methodLink RX6 56 yX6_heldByAny, Cond.static yX6_heldByAny, Cond.code yX6_heldByAny cX6_heldByAny 4 (some .int), Cond.fieldLink RX6 78 "TagCarrier$Source" "holds" "[I", Cond.methodLink RX6 60 yX6_addEmpty, Cond.instanceMethod yX6_addEmpty, Cond.selects RX6 yX6_addEmpty yX6_addEmpty, Cond.code yX6_addEmpty cX6_addEmpty 3 none, Cond.methodLink RX6 35 yX6_add, Cond.instanceMethod yX6_add, Cond.selects RX6 yX6_add yX6_add, Cond.code yX6_add cX6_add 2 none, Cond.fieldLink RX6 9 "TagCarrier$Writer" "signs" "[I", Cond.methodLink RX6 63 yX6_rankClosing, Cond.instanceMethod yX6_rankClosing, Cond.selects RX6 yX6_rankClosing yX6_rankClosing, Cond.code yX6_rankClosing cX6_rankClosing 4 none]
def wsX7_sign_r8 : List Cond := [Cond.fieldLink RX6 15 "TagCarrier$Writer" "ranks" "[I", Cond.methodLink RX6 81 yX4_depth, Cond.instanceMethod yX4_depth, Cond.selects RX4 yX4_depth yX4_depth, Cond.initialized RX4, Cond.code yX4_depth cX4_depth 2 (some .int), Cond.fieldLink RX4 21 "TagCarrier$Source" "heldBy" "[I", Cond.methodLink RX4 67 yJ6_bitCount_0f7a4, Cond.static yJ6_bitCount_0f7a4, Cond.initialized RJ6, Cond.code yJ6_bitCount_0f7a4 cJ6_bitCount_0f7a4 1 (some .int), Cond.constant RJ6 265 (1431655765), Cond.constant RJ6 266 (858993459), Cond.constant RJ6 267 (252645135), Cond.methodLink RX6 67 yX6_addRanked, Cond.instanceMethod yX6_addRanked, Cond.selects RX6 yX6_addRanked yX6_addRanked, Cond.code yX6_addRanked cX6_addRanked 6 none, Cond.methodLink RX6 85 yX6_greatestRank, Cond.instanceMethod yX6_greatestRank, Cond.selects RX6 yX6_greatestRank yX6_greatestRank, Cond.code yX6_greatestRank cX6_greatestRank 4 (some .int), Cond.methodLink RX6 71 yX6_addMarks, Cond.instanceMethod yX6_addMarks]
def wsX7_sign_r9 : List Cond := [Cond.selects RX6 yX6_addMarks yX6_addMarks, Cond.code yX6_addMarks cX6_addMarks 6 none, Cond.fieldLink RX6 88 "TagCarrier$Source" "markCount" "I", Cond.fieldLink RX6 91 "TagCarrier$Source" "markRow" "[I", Cond.fieldLink RX6 94 "TagCarrier$MarkPlacer" "at" "[I", Cond.methodLink RX6 75 yX6_rankOpening, Cond.instanceMethod yX6_rankOpening, Cond.selects RX6 yX6_rankOpening yX6_rankOpening, Cond.code yX6_rankOpening cX6_rankOpening 4 none]
def wsX7_sign : List Cond := .code yX7_sign cX7_sign 2 (some .int) :: ((wsX7_sign_r1 ++ (wsX7_sign_r2 ++ (wsX7_sign_r3 ++ (wsX7_sign_r4 ++ (wsX7_sign_r5 ++ (wsX7_sign_r6 ++ (wsX7_sign_r7 ++ (wsX7_sign_r8 ++ wsX7_sign_r9)))))))) ++ wsX70 ++ wsX60 ++ wsX30 ++ wsX50 ++ wsX40 ++ wsX20 ++ wsX00)
def wsX7_image_r1 : List Cond := [Cond.fieldLink RX7 23 "TagCarrier" "images" "[LTagCarrier$Sentences;", Cond.classLink RX7 16 RX3, Cond.instantiable RX3 3, Cond.initialized RX3, Cond.fieldLink RX7 19 "TagCarrier" "now" "LTagCarrier$Sentences;", Cond.instanceMethod yX3_init, Cond.code yX3_init cX3_init 1 none, Cond.methodLink RX3 3 objectInit, Cond.instanceMethod objectInit, Cond.code objectInit ⟨#[0xb1]⟩ 1 none, Cond.classLink RX3 9 RX4, Cond.instantiable RX4 12, Cond.initialized RX4, Cond.fieldLink RX3 12 "TagCarrier$Sentences" "source" "LTagCarrier$Source;", Cond.arrayClass .int, Cond.fieldLink RX3 18 "TagCarrier$Sentences" "links" "[I", Cond.instanceMethod yX4_init, Cond.code yX4_init cX4_init 1 none, Cond.methodLink RX4 3 objectInit, Cond.fieldLink RX4 9 "TagCarrier$Source" "opens" "[I", Cond.fieldLink RX4 15 "TagCarrier$Source" "closes" "[I", Cond.fieldLink RX4 18 "TagCarrier$Source" "holds" "[I", Cond.fieldLink RX4 21 "TagCarrier$Source" "heldBy" "[I", Cond.fieldLink RX4 24 "TagCarrier$Source" "markGap" "[I"]
def wsX7_image_r2 : List Cond := [Cond.fieldLink RX4 27 "TagCarrier$Source" "markRow" "[I", Cond.fieldLink RX4 30 "TagCarrier$Source" "openRow" "[I", Cond.methodLink RX7 163 yX3_copy, Cond.instanceMethod yX3_copy, Cond.selects RX3 yX3_copy yX3_copy, Cond.code yX3_copy cX3_copy 3 none, Cond.fieldLink RX3 26 "TagCarrier$Sentences" "targetWords" "I", Cond.methodLink RX3 22 yX4_copy, Cond.instanceMethod yX4_copy, Cond.selects RX4 yX4_copy yX4_copy, Cond.code yX4_copy cX4_copy 3 none, Cond.fieldLink RX4 33 "TagCarrier$Source" "words" "I", Cond.fieldLink RX4 37 "TagCarrier$Source" "pairs" "I", Cond.fieldLink RX4 40 "TagCarrier$Source" "marks" "I", Cond.fieldLink RX4 43 "TagCarrier$Source" "markCount" "I", Cond.fieldLink RX4 46 "TagCarrier$Source" "openCount" "I"]
def wsX7_image : List Cond := .code yX7_image cX7_image 3 (some .int) :: ((wsX7_image_r1 ++ wsX7_image_r2) ++ wsX70 ++ wsX30 ++ wsX40)
def wsX7_restore_r1 : List Cond := [Cond.fieldLink RX7 23 "TagCarrier" "images" "[LTagCarrier$Sentences;", Cond.fieldLink RX7 19 "TagCarrier" "now" "LTagCarrier$Sentences;", Cond.fieldLink RX7 55 "TagCarrier" "stale" "Z", Cond.methodLink RX7 163 yX3_copy, Cond.instanceMethod yX3_copy, Cond.selects RX3 yX3_copy yX3_copy, Cond.initialized RX3, Cond.code yX3_copy cX3_copy 3 none, Cond.fieldLink RX3 12 "TagCarrier$Sentences" "source" "LTagCarrier$Source;", Cond.fieldLink RX3 26 "TagCarrier$Sentences" "targetWords" "I", Cond.fieldLink RX3 18 "TagCarrier$Sentences" "links" "[I", Cond.methodLink RX3 22 yX4_copy, Cond.instanceMethod yX4_copy, Cond.selects RX4 yX4_copy yX4_copy, Cond.initialized RX4, Cond.code yX4_copy cX4_copy 3 none, Cond.fieldLink RX4 33 "TagCarrier$Source" "words" "I", Cond.fieldLink RX4 37 "TagCarrier$Source" "pairs" "I", Cond.fieldLink RX4 40 "TagCarrier$Source" "marks" "I", Cond.fieldLink RX4 43 "TagCarrier$Source" "markCount" "I", Cond.fieldLink RX4 46 "TagCarrier$Source" "openCount" "I", Cond.fieldLink RX4 9 "TagCarrier$Source" "opens" "[I", Cond.fieldLink RX4 15 "TagCarrier$Source" "closes" "[I", Cond.fieldLink RX4 18 "TagCarrier$Source" "holds" "[I"]
def wsX7_restore_r2 : List Cond := [Cond.fieldLink RX4 21 "TagCarrier$Source" "heldBy" "[I", Cond.fieldLink RX4 30 "TagCarrier$Source" "openRow" "[I", Cond.fieldLink RX4 24 "TagCarrier$Source" "markGap" "[I", Cond.fieldLink RX4 27 "TagCarrier$Source" "markRow" "[I"]
def wsX7_restore : List Cond := .code yX7_restore cX7_restore 3 (some .int) :: ((wsX7_restore_r1 ++ wsX7_restore_r2) ++ wsX70 ++ wsX30 ++ wsX40)
def wsX7_told : List Cond := .code yX7_told cX7_told 2 (some .int) :: ([.fieldLink RX7 19 "TagCarrier" "now" "LTagCarrier$Sentences;", .fieldLink RX7 71 "TagCarrier$Sentences" "source" "LTagCarrier$Source;", .fieldLink RX7 85 "TagCarrier$Source" "words" "I", .fieldLink RX7 91 "TagCarrier$Sentences" "links" "[I", .fieldLink RX7 12 "TagCarrier" "pad" "LTagCarrier$Pad;", .fieldLink RX7 63 "TagCarrier$Pad" "count" "I", .fieldLink RX7 88 "TagCarrier$Sentences" "targetWords" "I"] ++ wsX70 ++ wsX30 ++ wsX40 ++ wsX10)
def wsX8_init : List Cond := .code yX8_init cX8_init 2 none :: ([.methodLink RX8 1 objectInit, .instanceMethod objectInit, .code objectInit ⟨#[0xb1]⟩ 1 none, .arrayClass .int, .fieldLink RX8 7 "TagCarrierModel" "opens" "[I", .fieldLink RX8 13 "TagCarrierModel" "closes" "[I", .fieldLink RX8 16 "TagCarrierModel" "holds" "[I", .fieldLink RX8 19 "TagCarrierModel" "markGap" "[I", .fieldLink RX8 22 "TagCarrierModel" "order" "[I", .fieldLink RX8 25 "TagCarrierModel" "links" "[I", .fieldLink RX8 28 "TagCarrierModel" "pad" "[I", .fieldLink RX8 31 "TagCarrierModel" "pile" "[I", .arrayClass .long, .fieldLink RX8 34 "TagCarrierModel" "best" "[J", .fieldLink RX8 38 "TagCarrierModel" "begins" "[I", .fieldLink RX8 41 "TagCarrierModel" "ends" "[I", .fieldLink RX8 44 "TagCarrierModel" "markAt" "[I", .fieldLink RX8 47 "TagCarrierModel" "text" "[I", .fieldLink RX8 50 "TagCarrierModel" "image" "[I", .arrayClass .boolean, .fieldLink RX8 53 "TagCarrierModel" "isKept" "[Z"] ++ wsX80)
def wsX8_in : List Cond := .code yX8_in cX8_in 3 (some .boolean) :: ([])
def wsX8_off : List Cond := .code yX8_off cX8_off 2 (some .int) :: ([])
def wsX8_greater : List Cond := .code yX8_greater cX8_greater 2 (some .int) :: ([])
def wsX8_say : List Cond := .code yX8_say cX8_say 2 (some .int) :: ([.fieldLink RX8 61 "TagCarrierModel" "signs" "I", .fieldLink RX8 28 "TagCarrierModel" "pad" "[I", .methodLink RX8 57 yX8_in, .static yX8_in, .initialized RX8, .code yX8_in cX8_in 3 (some .boolean)] ++ wsX80)
def wsX8_wipe : List Cond := .code yX8_wipe cX8_wipe 2 (some .int) :: ([.fieldLink RX8 61 "TagCarrierModel" "signs" "I"] ++ wsX80)
def wsX8_faultOf : List Cond := .code yX8_faultOf cX8_faultOf 7 (some .int) :: ([.fieldLink RX8 61 "TagCarrierModel" "signs" "I", .fieldLink RX8 28 "TagCarrierModel" "pad" "[I", .fieldLink RX8 31 "TagCarrierModel" "pile" "[I", .methodLink RX8 57 yX8_in, .static yX8_in, .initialized RX8, .code yX8_in cX8_in 3 (some .boolean)] ++ wsX80)
def wsX8_fault : List Cond := .code yX8_fault cX8_fault 1 (some .int) :: ([.methodLink RX8 65 yX8_faultOf, .instanceMethod yX8_faultOf, .selects RX8 yX8_faultOf yX8_faultOf, .initialized RX8, .code yX8_faultOf cX8_faultOf 7 (some .int), .fieldLink RX8 61 "TagCarrierModel" "signs" "I", .fieldLink RX8 28 "TagCarrierModel" "pad" "[I", .fieldLink RX8 31 "TagCarrierModel" "pile" "[I", .methodLink RX8 57 yX8_in, .static yX8_in, .code yX8_in cX8_in 3 (some .boolean)] ++ wsX80)
def wsX8_unlink : List Cond := .code yX8_unlink cX8_unlink 2 none :: ([.fieldLink RX8 25 "TagCarrierModel" "links" "[I"] ++ wsX80)
def wsX8_load : List Cond := .code yX8_load cX8_load 5 (some .int) :: ([.fieldLink RX8 69 "TagCarrierModel" "words" "I", .fieldLink RX8 72 "TagCarrierModel" "marks" "I", .fieldLink RX8 7 "TagCarrierModel" "opens" "[I", .fieldLink RX8 16 "TagCarrierModel" "holds" "[I", .fieldLink RX8 19 "TagCarrierModel" "markGap" "[I", .fieldLink RX8 61 "TagCarrierModel" "signs" "I", .fieldLink RX8 28 "TagCarrierModel" "pad" "[I", .fieldLink RX8 13 "TagCarrierModel" "closes" "[I", .fieldLink RX8 22 "TagCarrierModel" "order" "[I", .methodLink RX8 65 yX8_faultOf, .instanceMethod yX8_faultOf, .selects RX8 yX8_faultOf yX8_faultOf, .initialized RX8, .code yX8_faultOf cX8_faultOf 7 (some .int), .fieldLink RX8 31 "TagCarrierModel" "pile" "[I", .methodLink RX8 57 yX8_in, .static yX8_in, .code yX8_in cX8_in 3 (some .boolean), .methodLink RX8 75 yX8_unlink, .instanceMethod yX8_unlink, .selects RX8 yX8_unlink yX8_unlink, .code yX8_unlink cX8_unlink 2 none, .fieldLink RX8 25 "TagCarrierModel" "links" "[I"] ++ wsX80)
def wsX8_target : List Cond := .code yX8_target cX8_target 3 (some .int) :: ([.fieldLink RX8 78 "TagCarrierModel" "target" "I", .methodLink RX8 57 yX8_in, .static yX8_in, .initialized RX8, .code yX8_in cX8_in 3 (some .boolean), .methodLink RX8 75 yX8_unlink, .instanceMethod yX8_unlink, .selects RX8 yX8_unlink yX8_unlink, .code yX8_unlink cX8_unlink 2 none, .fieldLink RX8 25 "TagCarrierModel" "links" "[I"] ++ wsX80)
def wsX8_link : List Cond := .code yX8_link cX8_link 3 (some .int) :: ([.fieldLink RX8 69 "TagCarrierModel" "words" "I", .fieldLink RX8 78 "TagCarrierModel" "target" "I", .fieldLink RX8 25 "TagCarrierModel" "links" "[I", .methodLink RX8 57 yX8_in, .static yX8_in, .initialized RX8, .code yX8_in cX8_in 3 (some .boolean)] ++ wsX80)
def wsX8_isThere : List Cond := .code yX8_isThere cX8_isThere 2 (some .boolean) :: ([.fieldLink RX8 7 "TagCarrierModel" "opens" "[I", .methodLink RX8 57 yX8_in, .static yX8_in, .initialized RX8, .code yX8_in cX8_in 3 (some .boolean)] ++ wsX80)
def wsX8_anchor : List Cond := .code yX8_anchor cX8_anchor 4 (some .int) :: ([.fieldLink RX8 78 "TagCarrierModel" "target" "I", .fieldLink RX8 25 "TagCarrierModel" "links" "[I"] ++ wsX80)
def wsX8_linksOf : List Cond := .code yX8_linksOf cX8_linksOf 4 (some .int) :: ([.fieldLink RX8 7 "TagCarrierModel" "opens" "[I", .fieldLink RX8 13 "TagCarrierModel" "closes" "[I", .fieldLink RX8 25 "TagCarrierModel" "links" "[I"] ++ wsX80)
def wsX8_wantedFrom : List Cond := .code yX8_wantedFrom cX8_wantedFrom 4 (some .int) :: ([.fieldLink RX8 7 "TagCarrierModel" "opens" "[I", .methodLink RX8 81 yX8_linksOf, .instanceMethod yX8_linksOf, .selects RX8 yX8_linksOf yX8_linksOf, .initialized RX8, .code yX8_linksOf cX8_linksOf 4 (some .int), .fieldLink RX8 13 "TagCarrierModel" "closes" "[I", .fieldLink RX8 25 "TagCarrierModel" "links" "[I", .methodLink RX8 85 yX8_anchor, .instanceMethod yX8_anchor, .selects RX8 yX8_anchor yX8_anchor, .code yX8_anchor cX8_anchor 4 (some .int), .fieldLink RX8 78 "TagCarrierModel" "target" "I"] ++ wsX80)
def wsX8_wantedTo : List Cond := .code yX8_wantedTo cX8_wantedTo 4 (some .int) :: ([.fieldLink RX8 7 "TagCarrierModel" "opens" "[I", .fieldLink RX8 78 "TagCarrierModel" "target" "I", .methodLink RX8 81 yX8_linksOf, .instanceMethod yX8_linksOf, .selects RX8 yX8_linksOf yX8_linksOf, .initialized RX8, .code yX8_linksOf cX8_linksOf 4 (some .int), .fieldLink RX8 13 "TagCarrierModel" "closes" "[I", .fieldLink RX8 25 "TagCarrierModel" "links" "[I", .methodLink RX8 85 yX8_anchor, .instanceMethod yX8_anchor, .selects RX8 yX8_anchor yX8_anchor, .code yX8_anchor cX8_anchor 4 (some .int)] ++ wsX80)
def wsX8_costOf_r1 : List Cond := [Cond.methodLink RX8 88 yX8_wantedFrom, Cond.instanceMethod yX8_wantedFrom, Cond.selects RX8 yX8_wantedFrom yX8_wantedFrom, Cond.initialized RX8, Cond.code yX8_wantedFrom cX8_wantedFrom 4 (some .int), Cond.fieldLink RX8 7 "TagCarrierModel" "opens" "[I", Cond.methodLink RX8 81 yX8_linksOf, Cond.instanceMethod yX8_linksOf, Cond.selects RX8 yX8_linksOf yX8_linksOf, Cond.code yX8_linksOf cX8_linksOf 4 (some .int), Cond.fieldLink RX8 13 "TagCarrierModel" "closes" "[I", Cond.fieldLink RX8 25 "TagCarrierModel" "links" "[I", Cond.methodLink RX8 85 yX8_anchor, Cond.instanceMethod yX8_anchor, Cond.selects RX8 yX8_anchor yX8_anchor, Cond.code yX8_anchor cX8_anchor 4 (some .int), Cond.fieldLink RX8 78 "TagCarrierModel" "target" "I", Cond.methodLink RX8 91 yX8_wantedTo, Cond.instanceMethod yX8_wantedTo, Cond.selects RX8 yX8_wantedTo yX8_wantedTo, Cond.code yX8_wantedTo cX8_wantedTo 4 (some .int), Cond.methodLink RX8 94 yX8_off, Cond.static yX8_off, Cond.code yX8_off cX8_off 2 (some .int)]
def wsX8_costOf_r2 : List Cond := [Cond.methodLink RX8 98 yX8_greater, Cond.static yX8_greater, Cond.code yX8_greater cX8_greater 2 (some .int)]
def wsX8_costOf : List Cond := .code yX8_costOf cX8_costOf 8 (some .int) :: ((wsX8_costOf_r1 ++ wsX8_costOf_r2) ++ wsX80)
def wsX8_at : List Cond := .code yX8_at cX8_at 3 (some .int) :: ([])
def wsX8_least : List Cond := .code yX8_least cX8_least 4 (some .long) :: ([])
def wsX8_areApart : List Cond := .code yX8_areApart cX8_areApart 5 (some .boolean) :: ([.fieldLink RX8 16 "TagCarrierModel" "holds" "[I"] ++ wsX80)
def wsX8_isHeld : List Cond := .code yX8_isHeld cX8_isHeld 5 (some .boolean) :: ([.fieldLink RX8 16 "TagCarrierModel" "holds" "[I"] ++ wsX80)
def wsX8_code_r1 : List Cond := [Cond.methodLink RX8 101 yX8_costOf, Cond.instanceMethod yX8_costOf, Cond.selects RX8 yX8_costOf yX8_costOf, Cond.initialized RX8, Cond.code yX8_costOf cX8_costOf 8 (some .int), Cond.methodLink RX8 88 yX8_wantedFrom, Cond.instanceMethod yX8_wantedFrom, Cond.selects RX8 yX8_wantedFrom yX8_wantedFrom, Cond.code yX8_wantedFrom cX8_wantedFrom 4 (some .int), Cond.fieldLink RX8 7 "TagCarrierModel" "opens" "[I", Cond.methodLink RX8 81 yX8_linksOf, Cond.instanceMethod yX8_linksOf, Cond.selects RX8 yX8_linksOf yX8_linksOf, Cond.code yX8_linksOf cX8_linksOf 4 (some .int), Cond.fieldLink RX8 13 "TagCarrierModel" "closes" "[I", Cond.fieldLink RX8 25 "TagCarrierModel" "links" "[I", Cond.methodLink RX8 85 yX8_anchor, Cond.instanceMethod yX8_anchor, Cond.selects RX8 yX8_anchor yX8_anchor, Cond.code yX8_anchor cX8_anchor 4 (some .int), Cond.fieldLink RX8 78 "TagCarrierModel" "target" "I", Cond.methodLink RX8 91 yX8_wantedTo, Cond.instanceMethod yX8_wantedTo, Cond.selects RX8 yX8_wantedTo yX8_wantedTo]
def wsX8_code_r2 : List Cond := [Cond.code yX8_wantedTo cX8_wantedTo 4 (some .int), Cond.methodLink RX8 94 yX8_off, Cond.static yX8_off, Cond.code yX8_off cX8_off 2 (some .int), Cond.methodLink RX8 98 yX8_greater, Cond.static yX8_greater, Cond.code yX8_greater cX8_greater 2 (some .int)]
def wsX8_code : List Cond := .code yX8_code cX8_code 4 (some .long) :: ((wsX8_code_r1 ++ wsX8_code_r2) ++ wsX80)
def wsX8_leastOf_r1 : List Cond := [Cond.constantLong RX8 105 (4611686018427387904), Cond.fieldLink RX8 34 "TagCarrierModel" "best" "[J", Cond.methodLink RX8 107 yX8_areApart, Cond.instanceMethod yX8_areApart, Cond.selects RX8 yX8_areApart yX8_areApart, Cond.initialized RX8, Cond.code yX8_areApart cX8_areApart 5 (some .boolean), Cond.fieldLink RX8 16 "TagCarrierModel" "holds" "[I", Cond.methodLink RX8 111 yX8_at, Cond.static yX8_at, Cond.code yX8_at cX8_at 3 (some .int), Cond.methodLink RX8 114 yX8_least, Cond.static yX8_least, Cond.code yX8_least cX8_least 4 (some .long), Cond.methodLink RX8 118 yX8_isHeld, Cond.instanceMethod yX8_isHeld, Cond.selects RX8 yX8_isHeld yX8_isHeld, Cond.code yX8_isHeld cX8_isHeld 5 (some .boolean), Cond.methodLink RX8 121 yX8_code, Cond.instanceMethod yX8_code, Cond.selects RX8 yX8_code yX8_code, Cond.code yX8_code cX8_code 4 (some .long), Cond.methodLink RX8 101 yX8_costOf, Cond.instanceMethod yX8_costOf]
def wsX8_leastOf_r2 : List Cond := [Cond.selects RX8 yX8_costOf yX8_costOf, Cond.code yX8_costOf cX8_costOf 8 (some .int), Cond.methodLink RX8 88 yX8_wantedFrom, Cond.instanceMethod yX8_wantedFrom, Cond.selects RX8 yX8_wantedFrom yX8_wantedFrom, Cond.code yX8_wantedFrom cX8_wantedFrom 4 (some .int), Cond.fieldLink RX8 7 "TagCarrierModel" "opens" "[I", Cond.methodLink RX8 81 yX8_linksOf, Cond.instanceMethod yX8_linksOf, Cond.selects RX8 yX8_linksOf yX8_linksOf, Cond.code yX8_linksOf cX8_linksOf 4 (some .int), Cond.fieldLink RX8 13 "TagCarrierModel" "closes" "[I", Cond.fieldLink RX8 25 "TagCarrierModel" "links" "[I", Cond.methodLink RX8 85 yX8_anchor, Cond.instanceMethod yX8_anchor, Cond.selects RX8 yX8_anchor yX8_anchor, Cond.code yX8_anchor cX8_anchor 4 (some .int), Cond.fieldLink RX8 78 "TagCarrierModel" "target" "I", Cond.methodLink RX8 91 yX8_wantedTo, Cond.instanceMethod yX8_wantedTo, Cond.selects RX8 yX8_wantedTo yX8_wantedTo, Cond.code yX8_wantedTo cX8_wantedTo 4 (some .int), Cond.methodLink RX8 94 yX8_off, Cond.static yX8_off]
def wsX8_leastOf_r3 : List Cond := [Cond.code yX8_off cX8_off 2 (some .int), Cond.methodLink RX8 98 yX8_greater, Cond.static yX8_greater, Cond.code yX8_greater cX8_greater 2 (some .int)]
def wsX8_leastOf : List Cond := .code yX8_leastOf cX8_leastOf 12 (some .long) :: ((wsX8_leastOf_r1 ++ (wsX8_leastOf_r2 ++ wsX8_leastOf_r3)) ++ wsX80)
def wsX8_there : List Cond := .code yX8_there cX8_there 3 (some .int) :: ([.methodLink RX8 125 yX8_isThere, .instanceMethod yX8_isThere, .selects RX8 yX8_isThere yX8_isThere, .initialized RX8, .code yX8_isThere cX8_isThere 2 (some .boolean), .fieldLink RX8 7 "TagCarrierModel" "opens" "[I", .methodLink RX8 57 yX8_in, .static yX8_in, .code yX8_in cX8_in 3 (some .boolean)] ++ wsX80)
def wsX8_placeMarks : List Cond := .code yX8_placeMarks cX8_placeMarks 10 none :: ([.fieldLink RX8 78 "TagCarrierModel" "target" "I", .fieldLink RX8 72 "TagCarrierModel" "marks" "I", .fieldLink RX8 144 "TagCarrierModel" "moved" "I", .fieldLink RX8 19 "TagCarrierModel" "markGap" "[I", .fieldLink RX8 22 "TagCarrierModel" "order" "[I", .fieldLink RX8 44 "TagCarrierModel" "markAt" "[I", .methodLink RX8 85 yX8_anchor, .instanceMethod yX8_anchor, .selects RX8 yX8_anchor yX8_anchor, .initialized RX8, .code yX8_anchor cX8_anchor 4 (some .int), .fieldLink RX8 25 "TagCarrierModel" "links" "[I", .methodLink RX8 94 yX8_off, .static yX8_off, .code yX8_off cX8_off 2 (some .int)] ++ wsX80)
def wsX8_place_r1 : List Cond := [Cond.fieldLink RX8 78 "TagCarrierModel" "target" "I", Cond.fieldLink RX8 34 "TagCarrierModel" "best" "[J", Cond.constantLong RX8 105 (4611686018427387904), Cond.fieldLink RX8 135 "TagCarrierModel" "whole" "J", Cond.constantLong RX8 139 (255), Cond.fieldLink RX8 38 "TagCarrierModel" "begins" "[I", Cond.fieldLink RX8 41 "TagCarrierModel" "ends" "[I", Cond.methodLink RX8 129 yX8_there, Cond.instanceMethod yX8_there, Cond.selects RX8 yX8_there yX8_there, Cond.initialized RX8, Cond.code yX8_there cX8_there 3 (some .int), Cond.methodLink RX8 125 yX8_isThere, Cond.instanceMethod yX8_isThere, Cond.selects RX8 yX8_isThere yX8_isThere, Cond.code yX8_isThere cX8_isThere 2 (some .boolean), Cond.fieldLink RX8 7 "TagCarrierModel" "opens" "[I", Cond.methodLink RX8 57 yX8_in, Cond.static yX8_in, Cond.code yX8_in cX8_in 3 (some .boolean), Cond.methodLink RX8 111 yX8_at, Cond.static yX8_at, Cond.code yX8_at cX8_at 3 (some .int), Cond.methodLink RX8 132 yX8_leastOf]
def wsX8_place_r2 : List Cond := [Cond.instanceMethod yX8_leastOf, Cond.selects RX8 yX8_leastOf yX8_leastOf, Cond.code yX8_leastOf cX8_leastOf 12 (some .long), Cond.methodLink RX8 107 yX8_areApart, Cond.instanceMethod yX8_areApart, Cond.selects RX8 yX8_areApart yX8_areApart, Cond.code yX8_areApart cX8_areApart 5 (some .boolean), Cond.fieldLink RX8 16 "TagCarrierModel" "holds" "[I", Cond.methodLink RX8 114 yX8_least, Cond.static yX8_least, Cond.code yX8_least cX8_least 4 (some .long), Cond.methodLink RX8 118 yX8_isHeld, Cond.instanceMethod yX8_isHeld, Cond.selects RX8 yX8_isHeld yX8_isHeld, Cond.code yX8_isHeld cX8_isHeld 5 (some .boolean), Cond.methodLink RX8 121 yX8_code, Cond.instanceMethod yX8_code, Cond.selects RX8 yX8_code yX8_code, Cond.code yX8_code cX8_code 4 (some .long), Cond.methodLink RX8 101 yX8_costOf, Cond.instanceMethod yX8_costOf, Cond.selects RX8 yX8_costOf yX8_costOf, Cond.code yX8_costOf cX8_costOf 8 (some .int), Cond.methodLink RX8 88 yX8_wantedFrom]
def wsX8_place_r3 : List Cond := [Cond.instanceMethod yX8_wantedFrom, Cond.selects RX8 yX8_wantedFrom yX8_wantedFrom, Cond.code yX8_wantedFrom cX8_wantedFrom 4 (some .int), Cond.methodLink RX8 81 yX8_linksOf, Cond.instanceMethod yX8_linksOf, Cond.selects RX8 yX8_linksOf yX8_linksOf, Cond.code yX8_linksOf cX8_linksOf 4 (some .int), Cond.fieldLink RX8 13 "TagCarrierModel" "closes" "[I", Cond.fieldLink RX8 25 "TagCarrierModel" "links" "[I", Cond.methodLink RX8 85 yX8_anchor, Cond.instanceMethod yX8_anchor, Cond.selects RX8 yX8_anchor yX8_anchor, Cond.code yX8_anchor cX8_anchor 4 (some .int), Cond.methodLink RX8 91 yX8_wantedTo, Cond.instanceMethod yX8_wantedTo, Cond.selects RX8 yX8_wantedTo yX8_wantedTo, Cond.code yX8_wantedTo cX8_wantedTo 4 (some .int), Cond.methodLink RX8 94 yX8_off, Cond.static yX8_off, Cond.code yX8_off cX8_off 2 (some .int), Cond.methodLink RX8 98 yX8_greater, Cond.static yX8_greater, Cond.code yX8_greater cX8_greater 2 (some .int), Cond.methodLink RX8 141 yX8_placeMarks]
def wsX8_place_r4 : List Cond := [Cond.instanceMethod yX8_placeMarks, Cond.selects RX8 yX8_placeMarks yX8_placeMarks, Cond.code yX8_placeMarks cX8_placeMarks 10 none, Cond.fieldLink RX8 72 "TagCarrierModel" "marks" "I", Cond.fieldLink RX8 144 "TagCarrierModel" "moved" "I", Cond.fieldLink RX8 19 "TagCarrierModel" "markGap" "[I", Cond.fieldLink RX8 22 "TagCarrierModel" "order" "[I", Cond.fieldLink RX8 44 "TagCarrierModel" "markAt" "[I"]
def wsX8_place : List Cond := .code yX8_place cX8_place 5 none :: ((wsX8_place_r1 ++ (wsX8_place_r2 ++ (wsX8_place_r3 ++ wsX8_place_r4))) ++ wsX80)
def wsX8_depth : List Cond := .code yX8_depth cX8_depth 4 (some .int) :: ([.fieldLink RX8 16 "TagCarrierModel" "holds" "[I", .methodLink RX8 125 yX8_isThere, .instanceMethod yX8_isThere, .selects RX8 yX8_isThere yX8_isThere, .initialized RX8, .code yX8_isThere cX8_isThere 2 (some .boolean), .fieldLink RX8 7 "TagCarrierModel" "opens" "[I", .methodLink RX8 57 yX8_in, .static yX8_in, .code yX8_in cX8_in 3 (some .boolean)] ++ wsX80)
def wsX8_pair_r1 : List Cond := [Cond.fieldLink RX8 7 "TagCarrierModel" "opens" "[I", Cond.fieldLink RX8 13 "TagCarrierModel" "closes" "[I", Cond.fieldLink RX8 16 "TagCarrierModel" "holds" "[I", Cond.fieldLink RX8 38 "TagCarrierModel" "begins" "[I", Cond.fieldLink RX8 41 "TagCarrierModel" "ends" "[I", Cond.methodLink RX8 125 yX8_isThere, Cond.instanceMethod yX8_isThere, Cond.selects RX8 yX8_isThere yX8_isThere, Cond.initialized RX8, Cond.code yX8_isThere cX8_isThere 2 (some .boolean), Cond.methodLink RX8 57 yX8_in, Cond.static yX8_in, Cond.code yX8_in cX8_in 3 (some .boolean), Cond.methodLink RX8 147 yX8_place, Cond.instanceMethod yX8_place, Cond.selects RX8 yX8_place yX8_place, Cond.code yX8_place cX8_place 5 none, Cond.fieldLink RX8 78 "TagCarrierModel" "target" "I", Cond.fieldLink RX8 34 "TagCarrierModel" "best" "[J", Cond.constantLong RX8 105 (4611686018427387904), Cond.fieldLink RX8 135 "TagCarrierModel" "whole" "J", Cond.constantLong RX8 139 (255), Cond.methodLink RX8 129 yX8_there, Cond.instanceMethod yX8_there]
def wsX8_pair_r2 : List Cond := [Cond.selects RX8 yX8_there yX8_there, Cond.code yX8_there cX8_there 3 (some .int), Cond.methodLink RX8 111 yX8_at, Cond.static yX8_at, Cond.code yX8_at cX8_at 3 (some .int), Cond.methodLink RX8 132 yX8_leastOf, Cond.instanceMethod yX8_leastOf, Cond.selects RX8 yX8_leastOf yX8_leastOf, Cond.code yX8_leastOf cX8_leastOf 12 (some .long), Cond.methodLink RX8 107 yX8_areApart, Cond.instanceMethod yX8_areApart, Cond.selects RX8 yX8_areApart yX8_areApart, Cond.code yX8_areApart cX8_areApart 5 (some .boolean), Cond.methodLink RX8 114 yX8_least, Cond.static yX8_least, Cond.code yX8_least cX8_least 4 (some .long), Cond.methodLink RX8 118 yX8_isHeld, Cond.instanceMethod yX8_isHeld, Cond.selects RX8 yX8_isHeld yX8_isHeld, Cond.code yX8_isHeld cX8_isHeld 5 (some .boolean), Cond.methodLink RX8 121 yX8_code, Cond.instanceMethod yX8_code, Cond.selects RX8 yX8_code yX8_code, Cond.code yX8_code cX8_code 4 (some .long)]
def wsX8_pair_r3 : List Cond := [Cond.methodLink RX8 101 yX8_costOf, Cond.instanceMethod yX8_costOf, Cond.selects RX8 yX8_costOf yX8_costOf, Cond.code yX8_costOf cX8_costOf 8 (some .int), Cond.methodLink RX8 88 yX8_wantedFrom, Cond.instanceMethod yX8_wantedFrom, Cond.selects RX8 yX8_wantedFrom yX8_wantedFrom, Cond.code yX8_wantedFrom cX8_wantedFrom 4 (some .int), Cond.methodLink RX8 81 yX8_linksOf, Cond.instanceMethod yX8_linksOf, Cond.selects RX8 yX8_linksOf yX8_linksOf, Cond.code yX8_linksOf cX8_linksOf 4 (some .int), Cond.fieldLink RX8 25 "TagCarrierModel" "links" "[I", Cond.methodLink RX8 85 yX8_anchor, Cond.instanceMethod yX8_anchor, Cond.selects RX8 yX8_anchor yX8_anchor, Cond.code yX8_anchor cX8_anchor 4 (some .int), Cond.methodLink RX8 91 yX8_wantedTo, Cond.instanceMethod yX8_wantedTo, Cond.selects RX8 yX8_wantedTo yX8_wantedTo, Cond.code yX8_wantedTo cX8_wantedTo 4 (some .int), Cond.methodLink RX8 94 yX8_off, Cond.static yX8_off, Cond.code yX8_off cX8_off 2 (some .int)]
def wsX8_pair_r4 : List Cond := [Cond.methodLink RX8 98 yX8_greater, Cond.static yX8_greater, Cond.code yX8_greater cX8_greater 2 (some .int), Cond.methodLink RX8 141 yX8_placeMarks, Cond.instanceMethod yX8_placeMarks, Cond.selects RX8 yX8_placeMarks yX8_placeMarks, Cond.code yX8_placeMarks cX8_placeMarks 10 none, Cond.fieldLink RX8 72 "TagCarrierModel" "marks" "I", Cond.fieldLink RX8 144 "TagCarrierModel" "moved" "I", Cond.fieldLink RX8 19 "TagCarrierModel" "markGap" "[I", Cond.fieldLink RX8 22 "TagCarrierModel" "order" "[I", Cond.fieldLink RX8 44 "TagCarrierModel" "markAt" "[I", Cond.methodLink RX8 150 yX8_depth, Cond.instanceMethod yX8_depth, Cond.selects RX8 yX8_depth yX8_depth, Cond.code yX8_depth cX8_depth 4 (some .int)]
def wsX8_pair : List Cond := .code yX8_pair cX8_pair 3 (some .int) :: ((wsX8_pair_r1 ++ (wsX8_pair_r2 ++ (wsX8_pair_r3 ++ wsX8_pair_r4))) ++ wsX80)
def wsX8_mark_r1 : List Cond := [Cond.fieldLink RX8 19 "TagCarrierModel" "markGap" "[I", Cond.fieldLink RX8 44 "TagCarrierModel" "markAt" "[I", Cond.methodLink RX8 57 yX8_in, Cond.static yX8_in, Cond.initialized RX8, Cond.code yX8_in cX8_in 3 (some .boolean), Cond.methodLink RX8 147 yX8_place, Cond.instanceMethod yX8_place, Cond.selects RX8 yX8_place yX8_place, Cond.code yX8_place cX8_place 5 none, Cond.fieldLink RX8 78 "TagCarrierModel" "target" "I", Cond.fieldLink RX8 34 "TagCarrierModel" "best" "[J", Cond.constantLong RX8 105 (4611686018427387904), Cond.fieldLink RX8 135 "TagCarrierModel" "whole" "J", Cond.constantLong RX8 139 (255), Cond.fieldLink RX8 38 "TagCarrierModel" "begins" "[I", Cond.fieldLink RX8 41 "TagCarrierModel" "ends" "[I", Cond.methodLink RX8 129 yX8_there, Cond.instanceMethod yX8_there, Cond.selects RX8 yX8_there yX8_there, Cond.code yX8_there cX8_there 3 (some .int), Cond.methodLink RX8 125 yX8_isThere, Cond.instanceMethod yX8_isThere, Cond.selects RX8 yX8_isThere yX8_isThere]
def wsX8_mark_r2 : List Cond := [Cond.code yX8_isThere cX8_isThere 2 (some .boolean), Cond.fieldLink RX8 7 "TagCarrierModel" "opens" "[I", Cond.methodLink RX8 111 yX8_at, Cond.static yX8_at, Cond.code yX8_at cX8_at 3 (some .int), Cond.methodLink RX8 132 yX8_leastOf, Cond.instanceMethod yX8_leastOf, Cond.selects RX8 yX8_leastOf yX8_leastOf, Cond.code yX8_leastOf cX8_leastOf 12 (some .long), Cond.methodLink RX8 107 yX8_areApart, Cond.instanceMethod yX8_areApart, Cond.selects RX8 yX8_areApart yX8_areApart, Cond.code yX8_areApart cX8_areApart 5 (some .boolean), Cond.fieldLink RX8 16 "TagCarrierModel" "holds" "[I", Cond.methodLink RX8 114 yX8_least, Cond.static yX8_least, Cond.code yX8_least cX8_least 4 (some .long), Cond.methodLink RX8 118 yX8_isHeld, Cond.instanceMethod yX8_isHeld, Cond.selects RX8 yX8_isHeld yX8_isHeld, Cond.code yX8_isHeld cX8_isHeld 5 (some .boolean), Cond.methodLink RX8 121 yX8_code, Cond.instanceMethod yX8_code, Cond.selects RX8 yX8_code yX8_code]
def wsX8_mark_r3 : List Cond := [Cond.code yX8_code cX8_code 4 (some .long), Cond.methodLink RX8 101 yX8_costOf, Cond.instanceMethod yX8_costOf, Cond.selects RX8 yX8_costOf yX8_costOf, Cond.code yX8_costOf cX8_costOf 8 (some .int), Cond.methodLink RX8 88 yX8_wantedFrom, Cond.instanceMethod yX8_wantedFrom, Cond.selects RX8 yX8_wantedFrom yX8_wantedFrom, Cond.code yX8_wantedFrom cX8_wantedFrom 4 (some .int), Cond.methodLink RX8 81 yX8_linksOf, Cond.instanceMethod yX8_linksOf, Cond.selects RX8 yX8_linksOf yX8_linksOf, Cond.code yX8_linksOf cX8_linksOf 4 (some .int), Cond.fieldLink RX8 13 "TagCarrierModel" "closes" "[I", Cond.fieldLink RX8 25 "TagCarrierModel" "links" "[I", Cond.methodLink RX8 85 yX8_anchor, Cond.instanceMethod yX8_anchor, Cond.selects RX8 yX8_anchor yX8_anchor, Cond.code yX8_anchor cX8_anchor 4 (some .int), Cond.methodLink RX8 91 yX8_wantedTo, Cond.instanceMethod yX8_wantedTo, Cond.selects RX8 yX8_wantedTo yX8_wantedTo, Cond.code yX8_wantedTo cX8_wantedTo 4 (some .int), Cond.methodLink RX8 94 yX8_off]
def wsX8_mark_r4 : List Cond := [Cond.static yX8_off, Cond.code yX8_off cX8_off 2 (some .int), Cond.methodLink RX8 98 yX8_greater, Cond.static yX8_greater, Cond.code yX8_greater cX8_greater 2 (some .int), Cond.methodLink RX8 141 yX8_placeMarks, Cond.instanceMethod yX8_placeMarks, Cond.selects RX8 yX8_placeMarks yX8_placeMarks, Cond.code yX8_placeMarks cX8_placeMarks 10 none, Cond.fieldLink RX8 72 "TagCarrierModel" "marks" "I", Cond.fieldLink RX8 144 "TagCarrierModel" "moved" "I", Cond.fieldLink RX8 22 "TagCarrierModel" "order" "[I"]
def wsX8_mark : List Cond := .code yX8_mark cX8_mark 3 (some .int) :: ((wsX8_mark_r1 ++ (wsX8_mark_r2 ++ (wsX8_mark_r3 ++ wsX8_mark_r4))) ++ wsX80)
def wsX8_isCrossing : List Cond := .code yX8_isCrossing cX8_isCrossing 8 (some .boolean) :: ([.methodLink RX8 88 yX8_wantedFrom, .instanceMethod yX8_wantedFrom, .selects RX8 yX8_wantedFrom yX8_wantedFrom, .initialized RX8, .code yX8_wantedFrom cX8_wantedFrom 4 (some .int), .fieldLink RX8 7 "TagCarrierModel" "opens" "[I", .methodLink RX8 81 yX8_linksOf, .instanceMethod yX8_linksOf, .selects RX8 yX8_linksOf yX8_linksOf, .code yX8_linksOf cX8_linksOf 4 (some .int), .fieldLink RX8 13 "TagCarrierModel" "closes" "[I", .fieldLink RX8 25 "TagCarrierModel" "links" "[I", .methodLink RX8 85 yX8_anchor, .instanceMethod yX8_anchor, .selects RX8 yX8_anchor yX8_anchor, .code yX8_anchor cX8_anchor 4 (some .int), .fieldLink RX8 78 "TagCarrierModel" "target" "I", .methodLink RX8 91 yX8_wantedTo, .instanceMethod yX8_wantedTo, .selects RX8 yX8_wantedTo yX8_wantedTo, .code yX8_wantedTo cX8_wantedTo 4 (some .int)] ++ wsX80)
def wsX8_bits : List Cond := .code yX8_bits cX8_bits 3 (some .int) :: ([])
def wsX8_total_r1 : List Cond := [Cond.fieldLink RX8 135 "TagCarrierModel" "whole" "J", Cond.fieldLink RX8 144 "TagCarrierModel" "moved" "I", Cond.fieldLink RX8 72 "TagCarrierModel" "marks" "I", Cond.fieldLink RX8 22 "TagCarrierModel" "order" "[I", Cond.fieldLink RX8 69 "TagCarrierModel" "words" "I", Cond.fieldLink RX8 25 "TagCarrierModel" "links" "[I", Cond.fieldLink RX8 16 "TagCarrierModel" "holds" "[I", Cond.methodLink RX8 57 yX8_in, Cond.static yX8_in, Cond.initialized RX8, Cond.code yX8_in cX8_in 3 (some .boolean), Cond.methodLink RX8 147 yX8_place, Cond.instanceMethod yX8_place, Cond.selects RX8 yX8_place yX8_place, Cond.code yX8_place cX8_place 5 none, Cond.fieldLink RX8 78 "TagCarrierModel" "target" "I", Cond.fieldLink RX8 34 "TagCarrierModel" "best" "[J", Cond.constantLong RX8 105 (4611686018427387904), Cond.constantLong RX8 139 (255), Cond.fieldLink RX8 38 "TagCarrierModel" "begins" "[I", Cond.fieldLink RX8 41 "TagCarrierModel" "ends" "[I", Cond.methodLink RX8 129 yX8_there, Cond.instanceMethod yX8_there, Cond.selects RX8 yX8_there yX8_there]
def wsX8_total_r2 : List Cond := [Cond.code yX8_there cX8_there 3 (some .int), Cond.methodLink RX8 125 yX8_isThere, Cond.instanceMethod yX8_isThere, Cond.selects RX8 yX8_isThere yX8_isThere, Cond.code yX8_isThere cX8_isThere 2 (some .boolean), Cond.fieldLink RX8 7 "TagCarrierModel" "opens" "[I", Cond.methodLink RX8 111 yX8_at, Cond.static yX8_at, Cond.code yX8_at cX8_at 3 (some .int), Cond.methodLink RX8 132 yX8_leastOf, Cond.instanceMethod yX8_leastOf, Cond.selects RX8 yX8_leastOf yX8_leastOf, Cond.code yX8_leastOf cX8_leastOf 12 (some .long), Cond.methodLink RX8 107 yX8_areApart, Cond.instanceMethod yX8_areApart, Cond.selects RX8 yX8_areApart yX8_areApart, Cond.code yX8_areApart cX8_areApart 5 (some .boolean), Cond.methodLink RX8 114 yX8_least, Cond.static yX8_least, Cond.code yX8_least cX8_least 4 (some .long), Cond.methodLink RX8 118 yX8_isHeld, Cond.instanceMethod yX8_isHeld, Cond.selects RX8 yX8_isHeld yX8_isHeld, Cond.code yX8_isHeld cX8_isHeld 5 (some .boolean)]
def wsX8_total_r3 : List Cond := [Cond.methodLink RX8 121 yX8_code, Cond.instanceMethod yX8_code, Cond.selects RX8 yX8_code yX8_code, Cond.code yX8_code cX8_code 4 (some .long), Cond.methodLink RX8 101 yX8_costOf, Cond.instanceMethod yX8_costOf, Cond.selects RX8 yX8_costOf yX8_costOf, Cond.code yX8_costOf cX8_costOf 8 (some .int), Cond.methodLink RX8 88 yX8_wantedFrom, Cond.instanceMethod yX8_wantedFrom, Cond.selects RX8 yX8_wantedFrom yX8_wantedFrom, Cond.code yX8_wantedFrom cX8_wantedFrom 4 (some .int), Cond.methodLink RX8 81 yX8_linksOf, Cond.instanceMethod yX8_linksOf, Cond.selects RX8 yX8_linksOf yX8_linksOf, Cond.code yX8_linksOf cX8_linksOf 4 (some .int), Cond.fieldLink RX8 13 "TagCarrierModel" "closes" "[I", Cond.methodLink RX8 85 yX8_anchor, Cond.instanceMethod yX8_anchor, Cond.selects RX8 yX8_anchor yX8_anchor, Cond.code yX8_anchor cX8_anchor 4 (some .int), Cond.methodLink RX8 91 yX8_wantedTo, Cond.instanceMethod yX8_wantedTo, Cond.selects RX8 yX8_wantedTo yX8_wantedTo]
def wsX8_total_r4 : List Cond := [Cond.code yX8_wantedTo cX8_wantedTo 4 (some .int), Cond.methodLink RX8 94 yX8_off, Cond.static yX8_off, Cond.code yX8_off cX8_off 2 (some .int), Cond.methodLink RX8 98 yX8_greater, Cond.static yX8_greater, Cond.code yX8_greater cX8_greater 2 (some .int), Cond.methodLink RX8 141 yX8_placeMarks, Cond.instanceMethod yX8_placeMarks, Cond.selects RX8 yX8_placeMarks yX8_placeMarks, Cond.code yX8_placeMarks cX8_placeMarks 10 none, Cond.fieldLink RX8 19 "TagCarrierModel" "markGap" "[I", Cond.fieldLink RX8 44 "TagCarrierModel" "markAt" "[I", Cond.methodLink RX8 153 yX8_bits, Cond.static yX8_bits, Cond.code yX8_bits cX8_bits 3 (some .int), Cond.methodLink RX8 156 yX8_isCrossing, Cond.instanceMethod yX8_isCrossing, Cond.selects RX8 yX8_isCrossing yX8_isCrossing, Cond.code yX8_isCrossing cX8_isCrossing 8 (some .boolean)]
def wsX8_total : List Cond := .code yX8_total cX8_total 5 (some .int) :: ((wsX8_total_r1 ++ (wsX8_total_r2 ++ (wsX8_total_r3 ++ wsX8_total_r4))) ++ wsX80)
def wsX8_write : List Cond := .code yX8_write cX8_write 2 none :: ([.fieldLink RX8 47 "TagCarrierModel" "text" "[I", .fieldLink RX8 159 "TagCarrierModel" "long1" "I"] ++ wsX80)
def wsX8_writeClosed : List Cond := .code yX8_writeClosed cX8_writeClosed 7 none :: ([.fieldLink RX8 41 "TagCarrierModel" "ends" "[I", .fieldLink RX8 38 "TagCarrierModel" "begins" "[I", .methodLink RX8 125 yX8_isThere, .instanceMethod yX8_isThere, .selects RX8 yX8_isThere yX8_isThere, .initialized RX8, .code yX8_isThere cX8_isThere 2 (some .boolean), .fieldLink RX8 7 "TagCarrierModel" "opens" "[I", .methodLink RX8 57 yX8_in, .static yX8_in, .code yX8_in cX8_in 3 (some .boolean), .methodLink RX8 150 yX8_depth, .instanceMethod yX8_depth, .selects RX8 yX8_depth yX8_depth, .code yX8_depth cX8_depth 4 (some .int), .fieldLink RX8 16 "TagCarrierModel" "holds" "[I", .methodLink RX8 162 yX8_write, .instanceMethod yX8_write, .selects RX8 yX8_write yX8_write, .code yX8_write cX8_write 2 none, .fieldLink RX8 47 "TagCarrierModel" "text" "[I", .fieldLink RX8 159 "TagCarrierModel" "long1" "I"] ++ wsX80)
def wsX8_writeOpened : List Cond := .code yX8_writeOpened cX8_writeOpened 7 none :: ([.fieldLink RX8 38 "TagCarrierModel" "begins" "[I", .fieldLink RX8 41 "TagCarrierModel" "ends" "[I", .methodLink RX8 125 yX8_isThere, .instanceMethod yX8_isThere, .selects RX8 yX8_isThere yX8_isThere, .initialized RX8, .code yX8_isThere cX8_isThere 2 (some .boolean), .fieldLink RX8 7 "TagCarrierModel" "opens" "[I", .methodLink RX8 57 yX8_in, .static yX8_in, .code yX8_in cX8_in 3 (some .boolean), .methodLink RX8 150 yX8_depth, .instanceMethod yX8_depth, .selects RX8 yX8_depth yX8_depth, .code yX8_depth cX8_depth 4 (some .int), .fieldLink RX8 16 "TagCarrierModel" "holds" "[I", .methodLink RX8 162 yX8_write, .instanceMethod yX8_write, .selects RX8 yX8_write yX8_write, .code yX8_write cX8_write 2 none, .fieldLink RX8 47 "TagCarrierModel" "text" "[I", .fieldLink RX8 159 "TagCarrierModel" "long1" "I"] ++ wsX80)
def wsX8_stand : List Cond := .code yX8_stand cX8_stand 6 (some .int) :: ([.fieldLink RX8 16 "TagCarrierModel" "holds" "[I", .fieldLink RX8 38 "TagCarrierModel" "begins" "[I", .fieldLink RX8 41 "TagCarrierModel" "ends" "[I", .methodLink RX8 125 yX8_isThere, .instanceMethod yX8_isThere, .selects RX8 yX8_isThere yX8_isThere, .initialized RX8, .code yX8_isThere cX8_isThere 2 (some .boolean), .fieldLink RX8 7 "TagCarrierModel" "opens" "[I", .methodLink RX8 57 yX8_in, .static yX8_in, .code yX8_in cX8_in 3 (some .boolean)] ++ wsX80)
def wsX8_writeEmpty : List Cond := .code yX8_writeEmpty cX8_writeEmpty 4 none :: ([.fieldLink RX8 38 "TagCarrierModel" "begins" "[I", .fieldLink RX8 41 "TagCarrierModel" "ends" "[I", .methodLink RX8 125 yX8_isThere, .instanceMethod yX8_isThere, .selects RX8 yX8_isThere yX8_isThere, .initialized RX8, .code yX8_isThere cX8_isThere 2 (some .boolean), .fieldLink RX8 7 "TagCarrierModel" "opens" "[I", .methodLink RX8 57 yX8_in, .static yX8_in, .code yX8_in cX8_in 3 (some .boolean), .methodLink RX8 166 yX8_stand, .instanceMethod yX8_stand, .selects RX8 yX8_stand yX8_stand, .code yX8_stand cX8_stand 6 (some .int), .fieldLink RX8 16 "TagCarrierModel" "holds" "[I", .methodLink RX8 162 yX8_write, .instanceMethod yX8_write, .selects RX8 yX8_write yX8_write, .code yX8_write cX8_write 2 none, .fieldLink RX8 47 "TagCarrierModel" "text" "[I", .fieldLink RX8 159 "TagCarrierModel" "long1" "I"] ++ wsX80)
def wsX8_sign_r1 : List Cond := [Cond.fieldLink RX8 159 "TagCarrierModel" "long1" "I", Cond.fieldLink RX8 78 "TagCarrierModel" "target" "I", Cond.fieldLink RX8 72 "TagCarrierModel" "marks" "I", Cond.fieldLink RX8 44 "TagCarrierModel" "markAt" "[I", Cond.fieldLink RX8 22 "TagCarrierModel" "order" "[I", Cond.fieldLink RX8 47 "TagCarrierModel" "text" "[I", Cond.methodLink RX8 147 yX8_place, Cond.instanceMethod yX8_place, Cond.selects RX8 yX8_place yX8_place, Cond.initialized RX8, Cond.code yX8_place cX8_place 5 none, Cond.fieldLink RX8 34 "TagCarrierModel" "best" "[J", Cond.constantLong RX8 105 (4611686018427387904), Cond.fieldLink RX8 135 "TagCarrierModel" "whole" "J", Cond.constantLong RX8 139 (255), Cond.fieldLink RX8 38 "TagCarrierModel" "begins" "[I", Cond.fieldLink RX8 41 "TagCarrierModel" "ends" "[I", Cond.methodLink RX8 129 yX8_there, Cond.instanceMethod yX8_there, Cond.selects RX8 yX8_there yX8_there, Cond.code yX8_there cX8_there 3 (some .int), Cond.methodLink RX8 125 yX8_isThere, Cond.instanceMethod yX8_isThere, Cond.selects RX8 yX8_isThere yX8_isThere]
def wsX8_sign_r2 : List Cond := [Cond.code yX8_isThere cX8_isThere 2 (some .boolean), Cond.fieldLink RX8 7 "TagCarrierModel" "opens" "[I", Cond.methodLink RX8 57 yX8_in, Cond.static yX8_in, Cond.code yX8_in cX8_in 3 (some .boolean), Cond.methodLink RX8 111 yX8_at, Cond.static yX8_at, Cond.code yX8_at cX8_at 3 (some .int), Cond.methodLink RX8 132 yX8_leastOf, Cond.instanceMethod yX8_leastOf, Cond.selects RX8 yX8_leastOf yX8_leastOf, Cond.code yX8_leastOf cX8_leastOf 12 (some .long), Cond.methodLink RX8 107 yX8_areApart, Cond.instanceMethod yX8_areApart, Cond.selects RX8 yX8_areApart yX8_areApart, Cond.code yX8_areApart cX8_areApart 5 (some .boolean), Cond.fieldLink RX8 16 "TagCarrierModel" "holds" "[I", Cond.methodLink RX8 114 yX8_least, Cond.static yX8_least, Cond.code yX8_least cX8_least 4 (some .long), Cond.methodLink RX8 118 yX8_isHeld, Cond.instanceMethod yX8_isHeld, Cond.selects RX8 yX8_isHeld yX8_isHeld, Cond.code yX8_isHeld cX8_isHeld 5 (some .boolean)]
def wsX8_sign_r3 : List Cond := [Cond.methodLink RX8 121 yX8_code, Cond.instanceMethod yX8_code, Cond.selects RX8 yX8_code yX8_code, Cond.code yX8_code cX8_code 4 (some .long), Cond.methodLink RX8 101 yX8_costOf, Cond.instanceMethod yX8_costOf, Cond.selects RX8 yX8_costOf yX8_costOf, Cond.code yX8_costOf cX8_costOf 8 (some .int), Cond.methodLink RX8 88 yX8_wantedFrom, Cond.instanceMethod yX8_wantedFrom, Cond.selects RX8 yX8_wantedFrom yX8_wantedFrom, Cond.code yX8_wantedFrom cX8_wantedFrom 4 (some .int), Cond.methodLink RX8 81 yX8_linksOf, Cond.instanceMethod yX8_linksOf, Cond.selects RX8 yX8_linksOf yX8_linksOf, Cond.code yX8_linksOf cX8_linksOf 4 (some .int), Cond.fieldLink RX8 13 "TagCarrierModel" "closes" "[I", Cond.fieldLink RX8 25 "TagCarrierModel" "links" "[I", Cond.methodLink RX8 85 yX8_anchor, Cond.instanceMethod yX8_anchor, Cond.selects RX8 yX8_anchor yX8_anchor, Cond.code yX8_anchor cX8_anchor 4 (some .int), Cond.methodLink RX8 91 yX8_wantedTo, Cond.instanceMethod yX8_wantedTo]
def wsX8_sign_r4 : List Cond := [Cond.selects RX8 yX8_wantedTo yX8_wantedTo, Cond.code yX8_wantedTo cX8_wantedTo 4 (some .int), Cond.methodLink RX8 94 yX8_off, Cond.static yX8_off, Cond.code yX8_off cX8_off 2 (some .int), Cond.methodLink RX8 98 yX8_greater, Cond.static yX8_greater, Cond.code yX8_greater cX8_greater 2 (some .int), Cond.methodLink RX8 141 yX8_placeMarks, Cond.instanceMethod yX8_placeMarks, Cond.selects RX8 yX8_placeMarks yX8_placeMarks, Cond.code yX8_placeMarks cX8_placeMarks 10 none, Cond.fieldLink RX8 144 "TagCarrierModel" "moved" "I", Cond.fieldLink RX8 19 "TagCarrierModel" "markGap" "[I", Cond.methodLink RX8 169 yX8_writeEmpty, Cond.instanceMethod yX8_writeEmpty, Cond.selects RX8 yX8_writeEmpty yX8_writeEmpty, Cond.code yX8_writeEmpty cX8_writeEmpty 4 none, Cond.methodLink RX8 166 yX8_stand, Cond.instanceMethod yX8_stand, Cond.selects RX8 yX8_stand yX8_stand, Cond.code yX8_stand cX8_stand 6 (some .int), Cond.methodLink RX8 162 yX8_write, Cond.instanceMethod yX8_write]
def wsX8_sign_r5 : List Cond := [Cond.selects RX8 yX8_write yX8_write, Cond.code yX8_write cX8_write 2 none, Cond.methodLink RX8 173 yX8_writeClosed, Cond.instanceMethod yX8_writeClosed, Cond.selects RX8 yX8_writeClosed yX8_writeClosed, Cond.code yX8_writeClosed cX8_writeClosed 7 none, Cond.methodLink RX8 150 yX8_depth, Cond.instanceMethod yX8_depth, Cond.selects RX8 yX8_depth yX8_depth, Cond.code yX8_depth cX8_depth 4 (some .int), Cond.methodLink RX8 176 yX8_writeOpened, Cond.instanceMethod yX8_writeOpened, Cond.selects RX8 yX8_writeOpened yX8_writeOpened, Cond.code yX8_writeOpened cX8_writeOpened 7 none]
def wsX8_sign : List Cond := .code yX8_sign cX8_sign 4 (some .int) :: ((wsX8_sign_r1 ++ (wsX8_sign_r2 ++ (wsX8_sign_r3 ++ (wsX8_sign_r4 ++ wsX8_sign_r5)))) ++ wsX80)
def wsX8_image : List Cond := .code yX8_image cX8_image 4 (some .int) :: ([.fieldLink RX8 50 "TagCarrierModel" "image" "[I", .fieldLink RX8 7 "TagCarrierModel" "opens" "[I", .fieldLink RX8 13 "TagCarrierModel" "closes" "[I", .fieldLink RX8 16 "TagCarrierModel" "holds" "[I", .fieldLink RX8 19 "TagCarrierModel" "markGap" "[I", .fieldLink RX8 22 "TagCarrierModel" "order" "[I", .fieldLink RX8 25 "TagCarrierModel" "links" "[I", .fieldLink RX8 69 "TagCarrierModel" "words" "I", .fieldLink RX8 72 "TagCarrierModel" "marks" "I", .fieldLink RX8 78 "TagCarrierModel" "target" "I", .fieldLink RX8 53 "TagCarrierModel" "isKept" "[Z", .methodLink RX8 57 yX8_in, .static yX8_in, .initialized RX8, .code yX8_in cX8_in 3 (some .boolean)] ++ wsX80)
def wsX8_restore : List Cond := .code yX8_restore cX8_restore 4 (some .int) :: ([.fieldLink RX8 53 "TagCarrierModel" "isKept" "[Z", .fieldLink RX8 7 "TagCarrierModel" "opens" "[I", .fieldLink RX8 50 "TagCarrierModel" "image" "[I", .fieldLink RX8 13 "TagCarrierModel" "closes" "[I", .fieldLink RX8 16 "TagCarrierModel" "holds" "[I", .fieldLink RX8 19 "TagCarrierModel" "markGap" "[I", .fieldLink RX8 22 "TagCarrierModel" "order" "[I", .fieldLink RX8 25 "TagCarrierModel" "links" "[I", .fieldLink RX8 69 "TagCarrierModel" "words" "I", .fieldLink RX8 72 "TagCarrierModel" "marks" "I", .fieldLink RX8 78 "TagCarrierModel" "target" "I", .methodLink RX8 57 yX8_in, .static yX8_in, .initialized RX8, .code yX8_in cX8_in 3 (some .boolean)] ++ wsX80)
def wsX8_told : List Cond := .code yX8_told cX8_told 2 (some .int) :: ([.fieldLink RX8 61 "TagCarrierModel" "signs" "I", .fieldLink RX8 69 "TagCarrierModel" "words" "I", .fieldLink RX8 78 "TagCarrierModel" "target" "I", .fieldLink RX8 25 "TagCarrierModel" "links" "[I", .methodLink RX8 57 yX8_in, .static yX8_in, .initialized RX8, .code yX8_in cX8_in 3 (some .boolean)] ++ wsX80)
def wsJ9_abs_0f7a4 : List Cond := .code yJ9_abs_0f7a4 cJ9_abs_0f7a4 1 (some .int) :: ([])
def wsJ9_max_7cf53 : List Cond := .code yJ9_max_7cf53 cJ9_max_7cf53 2 (some .int) :: ([])
def wsJ9_min_7cf53 : List Cond := .code yJ9_min_7cf53 cJ9_min_7cf53 2 (some .int) :: ([])
def wsJ9_min_f86c9 : List Cond := .code yJ9_min_f86c9 cJ9_min_f86c9 4 (some .long) :: ([])
def wsL_law_r1 : List Cond := [Cond.classLink RL 7 RX7, Cond.instantiable RX7 8, Cond.initialized RX7, Cond.classLink RL 10 RX8, Cond.instantiable RX8 22, Cond.initialized RX8, Cond.methodLink RL 9 yX7_init, Cond.instanceMethod yX7_init, Cond.code yX7_init cX7_init 1 none, Cond.methodLink RX7 3 objectInit, Cond.instanceMethod objectInit, Cond.code objectInit ⟨#[0xb1]⟩ 1 none, Cond.classLink RX7 9 RX1, Cond.instantiable RX1 3, Cond.initialized RX1, Cond.fieldLink RX7 12 "TagCarrier" "pad" "LTagCarrier$Pad;", Cond.classLink RX7 16 RX3, Cond.instantiable RX3 3, Cond.initialized RX3, Cond.fieldLink RX7 19 "TagCarrier" "now" "LTagCarrier$Sentences;", Cond.fieldLink RX7 23 "TagCarrier" "images" "[LTagCarrier$Sentences;", Cond.classLink RX7 27 RX5, Cond.instantiable RX5 4, Cond.initialized RX5]
def wsL_law_r2 : List Cond := [Cond.fieldLink RX7 30 "TagCarrier" "wanted" "LTagCarrier$Wanted;", Cond.classLink RX7 34 RX2, Cond.instantiable RX2 8, Cond.initialized RX2, Cond.fieldLink RX7 37 "TagCarrier" "pairPlacer" "LTagCarrier$PairPlacer;", Cond.classLink RX7 41 RX0, Cond.instantiable RX0 4, Cond.initialized RX0, Cond.fieldLink RX7 44 "TagCarrier" "markPlacer" "LTagCarrier$MarkPlacer;", Cond.classLink RX7 48 RX6, Cond.instantiable RX6 3, Cond.initialized RX6, Cond.fieldLink RX7 51 "TagCarrier" "writer" "LTagCarrier$Writer;", Cond.fieldLink RX7 55 "TagCarrier" "stale" "Z", Cond.instanceMethod yX1_init, Cond.code yX1_init cX1_init 1 none, Cond.methodLink RX1 3 objectInit, Cond.classLink RX1 9 RX4, Cond.instantiable RX4 12, Cond.initialized RX4, Cond.fieldLink RX1 12 "TagCarrier$Pad" "source" "LTagCarrier$Source;", Cond.arrayClass .int, Cond.fieldLink RX1 18 "TagCarrier$Pad" "signs" "[I", Cond.instanceMethod yX4_init]
def wsL_law_r3 : List Cond := [Cond.code yX4_init cX4_init 1 none, Cond.methodLink RX4 3 objectInit, Cond.fieldLink RX4 9 "TagCarrier$Source" "opens" "[I", Cond.fieldLink RX4 15 "TagCarrier$Source" "closes" "[I", Cond.fieldLink RX4 18 "TagCarrier$Source" "holds" "[I", Cond.fieldLink RX4 21 "TagCarrier$Source" "heldBy" "[I", Cond.fieldLink RX4 24 "TagCarrier$Source" "markGap" "[I", Cond.fieldLink RX4 27 "TagCarrier$Source" "markRow" "[I", Cond.fieldLink RX4 30 "TagCarrier$Source" "openRow" "[I", Cond.instanceMethod yX3_init, Cond.code yX3_init cX3_init 1 none, Cond.methodLink RX3 3 objectInit, Cond.classLink RX3 9 RX4, Cond.fieldLink RX3 12 "TagCarrier$Sentences" "source" "LTagCarrier$Source;", Cond.fieldLink RX3 18 "TagCarrier$Sentences" "links" "[I", Cond.instanceMethod yX5_init, Cond.code yX5_init cX5_init 1 none, Cond.methodLink RX5 3 objectInit, Cond.fieldLink RX5 9 "TagCarrier$Wanted" "from" "[I", Cond.fieldLink RX5 15 "TagCarrier$Wanted" "to" "[I", Cond.fieldLink RX5 18 "TagCarrier$Wanted" "mark" "[I", Cond.instanceMethod yX2_init, Cond.code yX2_init cX2_init 1 none, Cond.methodLink RX2 5 objectInit]
def wsL_law_r4 : List Cond := [Cond.fieldLink RX2 11 "TagCarrier$PairPlacer" "from" "[I", Cond.fieldLink RX2 15 "TagCarrier$PairPlacer" "to" "[I", Cond.fieldLink RX2 18 "TagCarrier$PairPlacer" "cost" "[I", Cond.arrayClass .long, Cond.fieldLink RX2 21 "TagCarrier$PairPlacer" "prices" "[J", Cond.fieldLink RX2 25 "TagCarrier$PairPlacer" "sums" "[J", Cond.fieldLink RX2 28 "TagCarrier$PairPlacer" "parts" "[I", Cond.instanceMethod yX0_init, Cond.code yX0_init cX0_init 1 none, Cond.methodLink RX0 3 objectInit, Cond.fieldLink RX0 9 "TagCarrier$MarkPlacer" "at" "[I", Cond.fieldLink RX0 15 "TagCarrier$MarkPlacer" "moved" "[I", Cond.fieldLink RX0 18 "TagCarrier$MarkPlacer" "chosen" "[I", Cond.instanceMethod yX6_init, Cond.code yX6_init cX6_init 1 none, Cond.methodLink RX6 3 objectInit, Cond.fieldLink RX6 9 "TagCarrier$Writer" "signs" "[I", Cond.fieldLink RX6 15 "TagCarrier$Writer" "ranks" "[I", Cond.methodLink RL 12 yX8_init, Cond.instanceMethod yX8_init, Cond.code yX8_init cX8_init 2 none, Cond.methodLink RX8 1 objectInit, Cond.fieldLink RX8 7 "TagCarrierModel" "opens" "[I", Cond.fieldLink RX8 13 "TagCarrierModel" "closes" "[I"]
def wsL_law_r5 : List Cond := [Cond.fieldLink RX8 16 "TagCarrierModel" "holds" "[I", Cond.fieldLink RX8 19 "TagCarrierModel" "markGap" "[I", Cond.fieldLink RX8 22 "TagCarrierModel" "order" "[I", Cond.fieldLink RX8 25 "TagCarrierModel" "links" "[I", Cond.fieldLink RX8 28 "TagCarrierModel" "pad" "[I", Cond.fieldLink RX8 31 "TagCarrierModel" "pile" "[I", Cond.fieldLink RX8 34 "TagCarrierModel" "best" "[J", Cond.fieldLink RX8 38 "TagCarrierModel" "begins" "[I", Cond.fieldLink RX8 41 "TagCarrierModel" "ends" "[I", Cond.fieldLink RX8 44 "TagCarrierModel" "markAt" "[I", Cond.fieldLink RX8 47 "TagCarrierModel" "text" "[I", Cond.fieldLink RX8 50 "TagCarrierModel" "image" "[I", Cond.arrayClass .boolean, Cond.fieldLink RX8 53 "TagCarrierModel" "isKept" "[Z", Cond.methodLink RL 13 yX7_say, Cond.instanceMethod yX7_say, Cond.selects RX7 yX7_say yX7_say, Cond.code yX7_say cX7_say 2 (some .int), Cond.fieldLink RX7 63 "TagCarrier$Pad" "count" "I", Cond.methodLink RX7 59 yX1_add, Cond.instanceMethod yX1_add, Cond.selects RX1 yX1_add yX1_add, Cond.code yX1_add cX1_add 2 (some .boolean), Cond.fieldLink RX1 22 "TagCarrier$Pad" "count" "I"]
def wsL_law_r6 : List Cond := [Cond.methodLink RL 17 yX8_say, Cond.instanceMethod yX8_say, Cond.selects RX8 yX8_say yX8_say, Cond.code yX8_say cX8_say 2 (some .int), Cond.fieldLink RX8 61 "TagCarrierModel" "signs" "I", Cond.methodLink RX8 57 yX8_in, Cond.static yX8_in, Cond.code yX8_in cX8_in 3 (some .boolean), Cond.methodLink RL 18 yX7_wipe, Cond.instanceMethod yX7_wipe, Cond.selects RX7 yX7_wipe yX7_wipe, Cond.code yX7_wipe cX7_wipe 2 (some .int), Cond.methodLink RL 22 yX8_wipe, Cond.instanceMethod yX8_wipe, Cond.selects RX8 yX8_wipe yX8_wipe, Cond.code yX8_wipe cX8_wipe 2 (some .int), Cond.methodLink RL 23 yX7_fault, Cond.instanceMethod yX7_fault, Cond.selects RX7 yX7_fault yX7_fault, Cond.code yX7_fault cX7_fault 1 (some .int), Cond.methodLink RX7 67 yX1_read, Cond.instanceMethod yX1_read, Cond.selects RX1 yX1_read yX1_read, Cond.code yX1_read cX1_read 2 (some .int)]
def wsL_law_r7 : List Cond := [Cond.fieldLink RX1 33 "TagCarrier$Source" "openCount" "I", Cond.methodLink RX1 26 yX4_clear, Cond.instanceMethod yX4_clear, Cond.selects RX4 yX4_clear yX4_clear, Cond.code yX4_clear cX4_clear 1 none, Cond.fieldLink RX4 33 "TagCarrier$Source" "words" "I", Cond.fieldLink RX4 37 "TagCarrier$Source" "pairs" "I", Cond.fieldLink RX4 40 "TagCarrier$Source" "marks" "I", Cond.fieldLink RX4 43 "TagCarrier$Source" "markCount" "I", Cond.fieldLink RX4 46 "TagCarrier$Source" "openCount" "I", Cond.methodLink RX1 29 yX4_take, Cond.instanceMethod yX4_take, Cond.selects RX4 yX4_take yX4_take, Cond.code yX4_take cX4_take 2 (some .boolean), Cond.methodLink RX4 49 yX4_takeWord, Cond.instanceMethod yX4_takeWord, Cond.selects RX4 yX4_takeWord yX4_takeWord, Cond.code yX4_takeWord cX4_takeWord 1 (some .boolean), Cond.methodLink RX4 53 yX4_takeOpening, Cond.instanceMethod yX4_takeOpening, Cond.selects RX4 yX4_takeOpening yX4_takeOpening, Cond.code yX4_takeOpening cX4_takeOpening 3 (some .boolean), Cond.static yX7_has, Cond.code yX7_has cX7_has 2 (some .boolean)]
def wsL_law_r8 : List Cond := [Cond.methodLink RX4 57 yX4_takeClosing, Cond.instanceMethod yX4_takeClosing, Cond.selects RX4 yX4_takeClosing yX4_takeClosing, Cond.code yX4_takeClosing cX4_takeClosing 2 (some .boolean), Cond.methodLink RX4 60 yX4_takeMark, Cond.instanceMethod yX4_takeMark, Cond.selects RX4 yX4_takeMark yX4_takeMark, Cond.code yX4_takeMark cX4_takeMark 2 (some .boolean), Cond.methodLink RL 26 yX8_fault, Cond.instanceMethod yX8_fault, Cond.selects RX8 yX8_fault yX8_fault, Cond.code yX8_fault cX8_fault 1 (some .int), Cond.methodLink RX8 65 yX8_faultOf, Cond.instanceMethod yX8_faultOf, Cond.selects RX8 yX8_faultOf yX8_faultOf, Cond.code yX8_faultOf cX8_faultOf 7 (some .int), Cond.methodLink RL 27 yX7_load, Cond.instanceMethod yX7_load, Cond.selects RX7 yX7_load yX7_load, Cond.code yX7_load cX7_load 1 (some .int), Cond.fieldLink RX7 71 "TagCarrier$Sentences" "source" "LTagCarrier$Source;", Cond.fieldLink RX7 75 "TagCarrier$Pad" "source" "LTagCarrier$Source;", Cond.fieldLink RX7 85 "TagCarrier$Source" "words" "I", Cond.methodLink RX7 76 yX4_copy]
def wsL_law_r9 : List Cond := [Cond.instanceMethod yX4_copy, Cond.selects RX4 yX4_copy yX4_copy, Cond.code yX4_copy cX4_copy 3 none, Cond.methodLink RX7 82 yX3_dropLinks, Cond.instanceMethod yX3_dropLinks, Cond.selects RX3 yX3_dropLinks yX3_dropLinks, Cond.code yX3_dropLinks cX3_dropLinks 2 none, Cond.methodLink RL 30 yX8_load, Cond.instanceMethod yX8_load, Cond.selects RX8 yX8_load yX8_load, Cond.code yX8_load cX8_load 5 (some .int), Cond.fieldLink RX8 69 "TagCarrierModel" "words" "I", Cond.fieldLink RX8 72 "TagCarrierModel" "marks" "I", Cond.methodLink RX8 75 yX8_unlink, Cond.instanceMethod yX8_unlink, Cond.selects RX8 yX8_unlink yX8_unlink, Cond.code yX8_unlink cX8_unlink 2 none, Cond.methodLink RL 31 yX7_target, Cond.instanceMethod yX7_target, Cond.selects RX7 yX7_target yX7_target, Cond.code yX7_target cX7_target 3 (some .int), Cond.fieldLink RX7 88 "TagCarrier$Sentences" "targetWords" "I", Cond.methodLink RL 34 yX8_target, Cond.instanceMethod yX8_target]
def wsL_law_r10 : List Cond := [Cond.selects RX8 yX8_target yX8_target, Cond.code yX8_target cX8_target 3 (some .int), Cond.fieldLink RX8 78 "TagCarrierModel" "target" "I", Cond.methodLink RL 35 yX7_link, Cond.instanceMethod yX7_link, Cond.selects RX7 yX7_link yX7_link, Cond.code yX7_link cX7_link 3 (some .int), Cond.fieldLink RX7 91 "TagCarrier$Sentences" "links" "[I", Cond.methodLink RL 39 yX8_link, Cond.instanceMethod yX8_link, Cond.selects RX8 yX8_link yX8_link, Cond.code yX8_link cX8_link 3 (some .int), Cond.methodLink RL 40 yX7_pair, Cond.instanceMethod yX7_pair, Cond.selects RX7 yX7_pair yX7_pair, Cond.code yX7_pair cX7_pair 3 (some .int), Cond.fieldLink RX7 95 "TagCarrier$Source" "pairs" "I", Cond.fieldLink RX7 105 "TagCarrier$Source" "opens" "[I", Cond.fieldLink RX7 108 "TagCarrier$Source" "closes" "[I", Cond.fieldLink RX7 115 "TagCarrier$Source" "holds" "[I", Cond.fieldLink RX7 118 "TagCarrier$Wanted" "from" "[I", Cond.fieldLink RX7 121 "TagCarrier$Wanted" "to" "[I", Cond.fieldLink RX7 124 "TagCarrier$PairPlacer" "from" "[I", Cond.fieldLink RX7 125 "TagCarrier$PairPlacer" "to" "[I"]
def wsL_law_r11 : List Cond := [Cond.fieldLink RX7 126 "TagCarrier$PairPlacer" "cost" "[I", Cond.fieldLink RX7 129 "TagCarrier$Wanted" "missing" "I", Cond.methodLink RX7 98 yX7_has, Cond.methodLink RX7 102 yX7_carry, Cond.instanceMethod yX7_carry, Cond.selects RX7 yX7_carry yX7_carry, Cond.code yX7_carry cX7_carry 1 none, Cond.methodLink RX7 166 yX5_find, Cond.instanceMethod yX5_find, Cond.selects RX5 yX5_find yX5_find, Cond.code yX5_find cX5_find 3 none, Cond.fieldLink RX5 21 "TagCarrier$Wanted" "missing" "I", Cond.fieldLink RX5 25 "TagCarrier$Sentences" "source" "LTagCarrier$Source;", Cond.fieldLink RX5 31 "TagCarrier$Source" "pairs" "I", Cond.fieldLink RX5 44 "TagCarrier$Source" "marks" "I", Cond.fieldLink RX5 47 "TagCarrier$Source" "markGap" "[I", Cond.methodLink RX5 40 yX5_findPair, Cond.instanceMethod yX5_findPair, Cond.selects RX5 yX5_findPair yX5_findPair, Cond.code yX5_findPair cX5_findPair 5 none, Cond.fieldLink RX5 54 "TagCarrier$Source" "opens" "[I", Cond.fieldLink RX5 57 "TagCarrier$Source" "closes" "[I", Cond.methodLink RX5 60 yX3_linkedBetween, Cond.instanceMethod yX3_linkedBetween]
def wsL_law_r12 : List Cond := [Cond.selects RX3 yX3_linkedBetween yX3_linkedBetween, Cond.code yX3_linkedBetween cX3_linkedBetween 5 (some .int), Cond.methodLink RX5 50 yX3_anchor, Cond.instanceMethod yX3_anchor, Cond.selects RX3 yX3_anchor yX3_anchor, Cond.code yX3_anchor cX3_anchor 4 (some .int), Cond.methodLink RX3 36 yX3_behindGreatest, Cond.static yX3_behindGreatest, Cond.code yX3_behindGreatest cX3_behindGreatest 2 (some .int), Cond.methodLink RX5 64 yX3_least, Cond.static yX3_least, Cond.code yX3_least cX3_least 2 (some .int), Cond.methodLink RX5 67 yX3_behindGreatest, Cond.methodLink RX7 169 yX2_place, Cond.instanceMethod yX2_place, Cond.selects RX2 yX2_place yX2_place, Cond.code yX2_place cX2_place 5 none, Cond.fieldLink RX2 31 "TagCarrier$Source" "pairs" "I", Cond.fieldLink RX2 41 "TagCarrier$Wanted" "from" "[I", Cond.fieldLink RX2 44 "TagCarrier$Wanted" "to" "[I", Cond.methodLink RX2 45 yX2_findPrices, Cond.instanceMethod yX2_findPrices, Cond.selects RX2 yX2_findPrices yX2_findPrices, Cond.code yX2_findPrices cX2_findPrices 12 none]
def wsL_law_r13 : List Cond := [Cond.methodLink RX2 61 yX2_shiftOf, Cond.static yX2_shiftOf, Cond.code yX2_shiftOf cX2_shiftOf 1 (some .int), Cond.methodLink RX2 65 yX2_costOf, Cond.static yX2_costOf, Cond.code yX2_costOf cX2_costOf 8 (some .int), Cond.methodLink RX2 69 Lib.Math.abs.name, Cond.static Lib.Math.abs.name, Cond.initialized "java/lang/Math", Cond.code Lib.Math.abs.name Lib.Math.abs.code 1 (some .int), Cond.methodLink RX2 74 Lib.Math.max.name, Cond.static Lib.Math.max.name, Cond.code Lib.Math.max.name Lib.Math.max.code 2 (some .int), Cond.methodLink RX2 78 Lib.Math.min.name, Cond.static Lib.Math.min.name, Cond.code Lib.Math.min.name Lib.Math.min.code 2 (some .int), Cond.methodLink RX2 49 yX2_findParts, Cond.instanceMethod yX2_findParts, Cond.selects RX2 yX2_findParts yX2_findParts, Cond.code yX2_findParts cX2_findParts 4 none, Cond.fieldLink RX2 81 "TagCarrier$PairPlacer" "partCount" "I", Cond.methodLink RX2 84 yX2_apart, Cond.static yX2_apart, Cond.code yX2_apart cX2_apart 4 (some .boolean)]
def wsL_law_r14 : List Cond := [Cond.fieldLink RX2 88 "TagCarrier$Source" "holds" "[I", Cond.fieldLink RX2 91 "TagCarrier$Source" "heldBy" "[I", Cond.methodLink RX2 53 yX2_findSums, Cond.instanceMethod yX2_findSums, Cond.selects RX2 yX2_findSums yX2_findSums, Cond.code yX2_findSums cX2_findSums 9 none, Cond.methodLink RX2 98 Lib.MathLoose.min_long.x, Cond.static Lib.MathLoose.min_long.x, Cond.code Lib.MathLoose.min_long.x Lib.MathLoose.min_long.code 4 (some .long), Cond.methodLink RX2 94 yX2_filled, Cond.instanceMethod yX2_filled, Cond.selects RX2 yX2_filled yX2_filled, Cond.code yX2_filled cX2_filled 8 (some .long), Cond.constantLong RX2 105 (1152921504606846976), Cond.methodLink RX2 101 yX2_parted, Cond.instanceMethod yX2_parted, Cond.selects RX2 yX2_parted yX2_parted, Cond.code yX2_parted cX2_parted 10 (some .long), Cond.methodLink RX2 57 yX2_readSpans, Cond.instanceMethod yX2_readSpans, Cond.selects RX2 yX2_readSpans yX2_readSpans, Cond.code yX2_readSpans cX2_readSpans 7 none, Cond.fieldLink RX2 107 "TagCarrier$PairPlacer" "costOfAll" "I", Cond.methodLink RX7 173 yX0_place]
def wsL_law_r15 : List Cond := [Cond.instanceMethod yX0_place, Cond.selects RX0 yX0_place yX0_place, Cond.code yX0_place cX0_place 6 none, Cond.fieldLink RX0 21 "TagCarrier$Source" "markCount" "I", Cond.fieldLink RX0 27 "TagCarrier$Wanted" "mark" "[I", Cond.fieldLink RX0 32 "TagCarrier$Source" "markRow" "[I", Cond.fieldLink RX0 39 "TagCarrier$MarkPlacer" "movedInAll" "I", Cond.methodLink RX0 35 yX0_findMoves, Cond.instanceMethod yX0_findMoves, Cond.selects RX0 yX0_findMoves yX0_findMoves, Cond.code yX0_findMoves cX0_findMoves 8 none, Cond.constant RX0 42 (1048576), Cond.methodLink RX0 43 Lib.Math.abs.name, Cond.methodLink RX7 174 yX6_write, Cond.instanceMethod yX6_write, Cond.selects RX6 yX6_write yX6_write, Cond.code yX6_write cX6_write 5 none, Cond.fieldLink RX6 18 "TagCarrier$Writer" "count" "I", Cond.fieldLink RX6 22 "TagCarrier$Sentences" "targetWords" "I", Cond.fieldLink RX6 27 "TagCarrier$Sentences" "source" "LTagCarrier$Source;", Cond.methodLink RX6 31 yX6_writeGap, Cond.instanceMethod yX6_writeGap, Cond.selects RX6 yX6_writeGap yX6_writeGap, Cond.code yX6_writeGap cX6_writeGap 11 none]
def wsL_law_r16 : List Cond := [Cond.fieldLink RX6 39 "TagCarrier$Source" "pairs" "I", Cond.fieldLink RX6 48 "TagCarrier$PairPlacer" "from" "[I", Cond.fieldLink RX6 53 "TagCarrier$PairPlacer" "to" "[I", Cond.methodLink RX6 56 yX6_heldByAny, Cond.static yX6_heldByAny, Cond.code yX6_heldByAny cX6_heldByAny 4 (some .int), Cond.fieldLink RX6 78 "TagCarrier$Source" "holds" "[I", Cond.methodLink RX6 60 yX6_addEmpty, Cond.instanceMethod yX6_addEmpty, Cond.selects RX6 yX6_addEmpty yX6_addEmpty, Cond.code yX6_addEmpty cX6_addEmpty 3 none, Cond.methodLink RX6 35 yX6_add, Cond.instanceMethod yX6_add, Cond.selects RX6 yX6_add yX6_add, Cond.code yX6_add cX6_add 2 none, Cond.methodLink RX6 63 yX6_rankClosing, Cond.instanceMethod yX6_rankClosing, Cond.selects RX6 yX6_rankClosing yX6_rankClosing, Cond.code yX6_rankClosing cX6_rankClosing 4 none, Cond.methodLink RX6 81 yX4_depth, Cond.instanceMethod yX4_depth, Cond.selects RX4 yX4_depth yX4_depth, Cond.code yX4_depth cX4_depth 2 (some .int), Cond.methodLink RX4 67 yJ6_bitCount_0f7a4]
def wsL_law_r17 : List Cond := [Cond.static yJ6_bitCount_0f7a4, Cond.initialized RJ6, Cond.code yJ6_bitCount_0f7a4 cJ6_bitCount_0f7a4 1 (some .int), Cond.constant RJ6 265 (1431655765), Cond.constant RJ6 266 (858993459), Cond.constant RJ6 267 (252645135), Cond.methodLink RX6 67 yX6_addRanked, Cond.instanceMethod yX6_addRanked, Cond.selects RX6 yX6_addRanked yX6_addRanked, Cond.code yX6_addRanked cX6_addRanked 6 none, Cond.methodLink RX6 85 yX6_greatestRank, Cond.instanceMethod yX6_greatestRank, Cond.selects RX6 yX6_greatestRank yX6_greatestRank, Cond.code yX6_greatestRank cX6_greatestRank 4 (some .int), Cond.methodLink RX6 71 yX6_addMarks, Cond.instanceMethod yX6_addMarks, Cond.selects RX6 yX6_addMarks yX6_addMarks, Cond.code yX6_addMarks cX6_addMarks 6 none, Cond.fieldLink RX6 88 "TagCarrier$Source" "markCount" "I", Cond.fieldLink RX6 91 "TagCarrier$Source" "markRow" "[I", Cond.fieldLink RX6 94 "TagCarrier$MarkPlacer" "at" "[I", Cond.methodLink RX6 75 yX6_rankOpening, Cond.instanceMethod yX6_rankOpening, Cond.selects RX6 yX6_rankOpening yX6_rankOpening]
def wsL_law_r18 : List Cond := [Cond.code yX6_rankOpening cX6_rankOpening 4 none, Cond.methodLink RX7 111 yX4_depth, Cond.methodLink RL 43 yX8_pair, Cond.instanceMethod yX8_pair, Cond.selects RX8 yX8_pair yX8_pair, Cond.code yX8_pair cX8_pair 3 (some .int), Cond.methodLink RX8 125 yX8_isThere, Cond.instanceMethod yX8_isThere, Cond.selects RX8 yX8_isThere yX8_isThere, Cond.code yX8_isThere cX8_isThere 2 (some .boolean), Cond.methodLink RX8 147 yX8_place, Cond.instanceMethod yX8_place, Cond.selects RX8 yX8_place yX8_place, Cond.code yX8_place cX8_place 5 none, Cond.constantLong RX8 105 (4611686018427387904), Cond.fieldLink RX8 135 "TagCarrierModel" "whole" "J", Cond.constantLong RX8 139 (255), Cond.methodLink RX8 129 yX8_there, Cond.instanceMethod yX8_there, Cond.selects RX8 yX8_there yX8_there, Cond.code yX8_there cX8_there 3 (some .int), Cond.methodLink RX8 111 yX8_at, Cond.static yX8_at, Cond.code yX8_at cX8_at 3 (some .int)]
def wsL_law_r19 : List Cond := [Cond.methodLink RX8 132 yX8_leastOf, Cond.instanceMethod yX8_leastOf, Cond.selects RX8 yX8_leastOf yX8_leastOf, Cond.code yX8_leastOf cX8_leastOf 12 (some .long), Cond.methodLink RX8 107 yX8_areApart, Cond.instanceMethod yX8_areApart, Cond.selects RX8 yX8_areApart yX8_areApart, Cond.code yX8_areApart cX8_areApart 5 (some .boolean), Cond.methodLink RX8 114 yX8_least, Cond.static yX8_least, Cond.code yX8_least cX8_least 4 (some .long), Cond.methodLink RX8 118 yX8_isHeld, Cond.instanceMethod yX8_isHeld, Cond.selects RX8 yX8_isHeld yX8_isHeld, Cond.code yX8_isHeld cX8_isHeld 5 (some .boolean), Cond.methodLink RX8 121 yX8_code, Cond.instanceMethod yX8_code, Cond.selects RX8 yX8_code yX8_code, Cond.code yX8_code cX8_code 4 (some .long), Cond.methodLink RX8 101 yX8_costOf, Cond.instanceMethod yX8_costOf, Cond.selects RX8 yX8_costOf yX8_costOf, Cond.code yX8_costOf cX8_costOf 8 (some .int), Cond.methodLink RX8 88 yX8_wantedFrom]
def wsL_law_r20 : List Cond := [Cond.instanceMethod yX8_wantedFrom, Cond.selects RX8 yX8_wantedFrom yX8_wantedFrom, Cond.code yX8_wantedFrom cX8_wantedFrom 4 (some .int), Cond.methodLink RX8 81 yX8_linksOf, Cond.instanceMethod yX8_linksOf, Cond.selects RX8 yX8_linksOf yX8_linksOf, Cond.code yX8_linksOf cX8_linksOf 4 (some .int), Cond.methodLink RX8 85 yX8_anchor, Cond.instanceMethod yX8_anchor, Cond.selects RX8 yX8_anchor yX8_anchor, Cond.code yX8_anchor cX8_anchor 4 (some .int), Cond.methodLink RX8 91 yX8_wantedTo, Cond.instanceMethod yX8_wantedTo, Cond.selects RX8 yX8_wantedTo yX8_wantedTo, Cond.code yX8_wantedTo cX8_wantedTo 4 (some .int), Cond.methodLink RX8 94 yX8_off, Cond.static yX8_off, Cond.code yX8_off cX8_off 2 (some .int), Cond.methodLink RX8 98 yX8_greater, Cond.static yX8_greater, Cond.code yX8_greater cX8_greater 2 (some .int), Cond.methodLink RX8 141 yX8_placeMarks, Cond.instanceMethod yX8_placeMarks, Cond.selects RX8 yX8_placeMarks yX8_placeMarks]
def wsL_law_r21 : List Cond := [Cond.code yX8_placeMarks cX8_placeMarks 10 none, Cond.fieldLink RX8 144 "TagCarrierModel" "moved" "I", Cond.methodLink RX8 150 yX8_depth, Cond.instanceMethod yX8_depth, Cond.selects RX8 yX8_depth yX8_depth, Cond.code yX8_depth cX8_depth 4 (some .int), Cond.methodLink RL 44 yX7_mark, Cond.instanceMethod yX7_mark, Cond.selects RX7 yX7_mark yX7_mark, Cond.code yX7_mark cX7_mark 3 (some .int), Cond.fieldLink RX7 132 "TagCarrier$Source" "marks" "I", Cond.fieldLink RX7 135 "TagCarrier$Source" "markGap" "[I", Cond.fieldLink RX7 138 "TagCarrier$Wanted" "mark" "[I", Cond.fieldLink RX7 141 "TagCarrier$MarkPlacer" "at" "[I", Cond.methodLink RL 47 yX8_mark, Cond.instanceMethod yX8_mark, Cond.selects RX8 yX8_mark yX8_mark, Cond.code yX8_mark cX8_mark 3 (some .int), Cond.methodLink RL 48 yX7_total, Cond.instanceMethod yX7_total, Cond.selects RX7 yX7_total yX7_total, Cond.code yX7_total cX7_total 2 (some .int), Cond.fieldLink RX7 144 "TagCarrier$PairPlacer" "costOfAll" "I", Cond.fieldLink RX7 147 "TagCarrier$MarkPlacer" "movedInAll" "I"]
def wsL_law_r22 : List Cond := [Cond.methodLink RX7 150 yX3_countLinks, Cond.instanceMethod yX3_countLinks, Cond.selects RX3 yX3_countLinks yX3_countLinks, Cond.code yX3_countLinks cX3_countLinks 3 (some .int), Cond.methodLink RX3 30 yJ6_bitCount_0f7a4, Cond.methodLink RX7 153 yX5_countCrossings, Cond.instanceMethod yX5_countCrossings, Cond.selects RX5 yX5_countCrossings yX5_countCrossings, Cond.code yX5_countCrossings cX5_countCrossings 5 (some .int), Cond.methodLink RX5 70 yX5_cross, Cond.instanceMethod yX5_cross, Cond.selects RX5 yX5_cross yX5_cross, Cond.code yX5_cross cX5_cross 3 (some .boolean), Cond.methodLink RX5 73 yX5_overlapsFromAhead, Cond.instanceMethod yX5_overlapsFromAhead, Cond.selects RX5 yX5_overlapsFromAhead yX5_overlapsFromAhead, Cond.code yX5_overlapsFromAhead cX5_overlapsFromAhead 3 (some .boolean), Cond.methodLink RX7 156 yX4_countHolds, Cond.instanceMethod yX4_countHolds, Cond.selects RX4 yX4_countHolds yX4_countHolds, Cond.code yX4_countHolds cX4_countHolds 3 (some .int), Cond.methodLink RL 51 yX8_total, Cond.instanceMethod yX8_total, Cond.selects RX8 yX8_total yX8_total]
def wsL_law_r23 : List Cond := [Cond.code yX8_total cX8_total 5 (some .int), Cond.methodLink RX8 153 yX8_bits, Cond.static yX8_bits, Cond.code yX8_bits cX8_bits 3 (some .int), Cond.methodLink RX8 156 yX8_isCrossing, Cond.instanceMethod yX8_isCrossing, Cond.selects RX8 yX8_isCrossing yX8_isCrossing, Cond.code yX8_isCrossing cX8_isCrossing 8 (some .boolean), Cond.methodLink RL 52 yX7_sign, Cond.instanceMethod yX7_sign, Cond.selects RX7 yX7_sign yX7_sign, Cond.code yX7_sign cX7_sign 2 (some .int), Cond.fieldLink RX7 159 "TagCarrier$Writer" "count" "I", Cond.fieldLink RX7 160 "TagCarrier$Writer" "signs" "[I", Cond.methodLink RL 55 yX8_sign, Cond.instanceMethod yX8_sign, Cond.selects RX8 yX8_sign yX8_sign, Cond.code yX8_sign cX8_sign 4 (some .int), Cond.fieldLink RX8 159 "TagCarrierModel" "long1" "I", Cond.methodLink RX8 169 yX8_writeEmpty, Cond.instanceMethod yX8_writeEmpty, Cond.selects RX8 yX8_writeEmpty yX8_writeEmpty, Cond.code yX8_writeEmpty cX8_writeEmpty 4 none, Cond.methodLink RX8 166 yX8_stand]
def wsL_law_r24 : List Cond := [Cond.instanceMethod yX8_stand, Cond.selects RX8 yX8_stand yX8_stand, Cond.code yX8_stand cX8_stand 6 (some .int), Cond.methodLink RX8 162 yX8_write, Cond.instanceMethod yX8_write, Cond.selects RX8 yX8_write yX8_write, Cond.code yX8_write cX8_write 2 none, Cond.methodLink RX8 173 yX8_writeClosed, Cond.instanceMethod yX8_writeClosed, Cond.selects RX8 yX8_writeClosed yX8_writeClosed, Cond.code yX8_writeClosed cX8_writeClosed 7 none, Cond.methodLink RX8 176 yX8_writeOpened, Cond.instanceMethod yX8_writeOpened, Cond.selects RX8 yX8_writeOpened yX8_writeOpened, Cond.code yX8_writeOpened cX8_writeOpened 7 none, Cond.methodLink RL 56 yX7_image, Cond.instanceMethod yX7_image, Cond.selects RX7 yX7_image yX7_image, Cond.code yX7_image cX7_image 3 (some .int), Cond.methodLink RX7 163 yX3_copy, Cond.instanceMethod yX3_copy, Cond.selects RX3 yX3_copy yX3_copy, Cond.code yX3_copy cX3_copy 3 none, Cond.fieldLink RX3 26 "TagCarrier$Sentences" "targetWords" "I"]
def wsL_law_r25 : List Cond := [Cond.methodLink RX3 22 yX4_copy, Cond.methodLink RL 59 yX8_image, Cond.instanceMethod yX8_image, Cond.selects RX8 yX8_image yX8_image, Cond.code yX8_image cX8_image 4 (some .int), Cond.methodLink RL 60 yX7_restore, Cond.instanceMethod yX7_restore, Cond.selects RX7 yX7_restore yX7_restore, Cond.code yX7_restore cX7_restore 3 (some .int), Cond.methodLink RL 63 yX8_restore, Cond.instanceMethod yX8_restore, Cond.selects RX8 yX8_restore yX8_restore, Cond.code yX8_restore cX8_restore 4 (some .int), Cond.methodLink RL 64 yX7_told, Cond.instanceMethod yX7_told, Cond.selects RX7 yX7_told yX7_told, Cond.code yX7_told cX7_told 2 (some .int), Cond.methodLink RL 67 yX8_told, Cond.instanceMethod yX8_told, Cond.selects RX8 yX8_told yX8_told, Cond.code yX8_told cX8_told 2 (some .int)]
def wsL_law : List Cond := (wsL_law_r1 ++ (wsL_law_r2 ++ (wsL_law_r3 ++ (wsL_law_r4 ++ (wsL_law_r5 ++ (wsL_law_r6 ++ (wsL_law_r7 ++ (wsL_law_r8 ++ (wsL_law_r9 ++ (wsL_law_r10 ++ (wsL_law_r11 ++ (wsL_law_r12 ++ (wsL_law_r13 ++ (wsL_law_r14 ++ (wsL_law_r15 ++ (wsL_law_r16 ++ (wsL_law_r17 ++ (wsL_law_r18 ++ (wsL_law_r19 ++ (wsL_law_r20 ++ (wsL_law_r21 ++ (wsL_law_r22 ++ (wsL_law_r23 ++ (wsL_law_r24 ++ wsL_law_r25)))))))))))))))))))))))) ++ wsX70 ++ wsX80 ++ wsX10 ++ wsX30 ++ wsX50 ++ wsX20 ++ wsX00 ++ wsX60 ++ wsX40 ++ ([] : List Cond)
theorem inlX0 : ∀ w ∈ wsX00, w ∈ wsL_law := fun _ h => List.mem_append_left _ (List.mem_append_left _ (List.mem_append_left _ (List.mem_append_right _ h)))
theorem inlX1 : ∀ w ∈ wsX10, w ∈ wsL_law := fun _ h => List.mem_append_left _ (List.mem_append_left _ (List.mem_append_left _ (List.mem_append_left _ (List.mem_append_left _ (List.mem_append_left _ (List.mem_append_left _ (List.mem_append_right _ h)))))))
theorem inlX2 : ∀ w ∈ wsX20, w ∈ wsL_law := fun _ h => List.mem_append_left _ (List.mem_append_left _ (List.mem_append_left _ (List.mem_append_left _ (List.mem_append_right _ h))))
theorem inlX3 : ∀ w ∈ wsX30, w ∈ wsL_law := fun _ h => List.mem_append_left _ (List.mem_append_left _ (List.mem_append_left _ (List.mem_append_left _ (List.mem_append_left _ (List.mem_append_left _ (List.mem_append_right _ h))))))
theorem inlX4 : ∀ w ∈ wsX40, w ∈ wsL_law := fun _ h => List.mem_append_left _ (List.mem_append_right _ h)
theorem inlX5 : ∀ w ∈ wsX50, w ∈ wsL_law := fun _ h => List.mem_append_left _ (List.mem_append_left _ (List.mem_append_left _ (List.mem_append_left _ (List.mem_append_left _ (List.mem_append_right _ h)))))
theorem inlX6 : ∀ w ∈ wsX60, w ∈ wsL_law := fun _ h => List.mem_append_left _ (List.mem_append_left _ (List.mem_append_right _ h))
theorem inlX7 : ∀ w ∈ wsX70, w ∈ wsL_law := fun _ h => List.mem_append_left _ (List.mem_append_left _ (List.mem_append_left _ (List.mem_append_left _ (List.mem_append_left _ (List.mem_append_left _ (List.mem_append_left _ (List.mem_append_left _ (List.mem_append_left _ (List.mem_append_right _ h)))))))))
theorem inlX8 : ∀ w ∈ wsX80, w ∈ wsL_law := fun _ h => List.mem_append_left _ (List.mem_append_left _ (List.mem_append_left _ (List.mem_append_left _ (List.mem_append_left _ (List.mem_append_left _ (List.mem_append_left _ (List.mem_append_left _ (List.mem_append_right _ h))))))))
end
section
theorem dX0_init_0 : decode cX0_init 0 = .ok (.aload_n 0, 1) := by decide +kernel
theorem dX0_init_1 : decode cX0_init 1 = .ok (.invokespecial 3, 3) := by decide +kernel
theorem dX0_init_4 : decode cX0_init 4 = .ok (.aload_n 0, 1) := by decide +kernel
theorem dX0_init_5 : decode cX0_init 5 = .ok (.iconst 3, 1) := by decide +kernel
theorem dX0_init_6 : decode cX0_init 6 = .ok (.newarray .int, 2) := by decide +kernel
theorem dX0_init_8 : decode cX0_init 8 = .ok (.putfield 9, 3) := by decide +kernel
theorem dX0_init_11 : decode cX0_init 11 = .ok (.aload_n 0, 1) := by decide +kernel
theorem dX0_init_12 : decode cX0_init 12 = .ok (.bipush 36, 2) := by decide +kernel
theorem dX0_init_14 : decode cX0_init 14 = .ok (.newarray .int, 2) := by decide +kernel
theorem dX0_init_16 : decode cX0_init 16 = .ok (.putfield 15, 3) := by decide +kernel
theorem dX0_init_19 : decode cX0_init 19 = .ok (.aload_n 0, 1) := by decide +kernel
theorem dX0_init_20 : decode cX0_init 20 = .ok (.bipush 27, 2) := by decide +kernel
theorem dX0_init_22 : decode cX0_init 22 = .ok (.newarray .int, 2) := by decide +kernel
theorem dX0_init_24 : decode cX0_init 24 = .ok (.putfield 18, 3) := by decide +kernel
theorem dX0_init_27 : decode cX0_init 27 = .ok (.return_, 1) := by decide +kernel
set_option maxRecDepth 20000 in
theorem ggX0_place_X0_findMoves : GoodIn wsX0_place wsX0_findMoves := goodIn_r _ [12, 13, 14, 15, 16, 17, 1, 6, 18, 19, 20, 21] (by decide +kernel) (by decide +kernel)
set_option maxRecDepth 20000 in
theorem gX0_place_X0_findMoves : GoodIn wsX0_place (wsV RX0 35 RX0 yX0_findMoves wsX0_findMoves) := goodIn_app (goodIn_of _ (by decide +kernel)) ggX0_place_X0_findMoves
theorem dX0_place_0 : decode cX0_place 0 = .ok (.iconst 0, 1) := by decide +kernel
theorem dX0_place_1 : decode cX0_place 1 = .ok (.istore 4, 2) := by decide +kernel
theorem dX0_place_3 : decode cX0_place 3 = .ok (.iload 4, 2) := by decide +kernel
theorem dX0_place_5 : decode cX0_place 5 = .ok (.bipush 9, 2) := by decide +kernel
theorem dX0_place_7 : decode cX0_place 7 = .ok (.if_icmp .ge 25, 3) := by decide +kernel
theorem dX0_place_10 : decode cX0_place 10 = .ok (.aload_n 0, 1) := by decide +kernel
theorem dX0_place_11 : decode cX0_place 11 = .ok (.getfield 15, 3) := by decide +kernel
theorem dX0_place_14 : decode cX0_place 14 = .ok (.aload_n 1, 1) := by decide +kernel
theorem dX0_place_15 : decode cX0_place 15 = .ok (.getfield 21, 3) := by decide +kernel
theorem dX0_place_18 : decode cX0_place 18 = .ok (.bipush 9, 2) := by decide +kernel
theorem dX0_place_20 : decode cX0_place 20 = .ok (.imul, 1) := by decide +kernel
theorem dX0_place_21 : decode cX0_place 21 = .ok (.iload 4, 2) := by decide +kernel
theorem dX0_place_23 : decode cX0_place 23 = .ok (.iadd, 1) := by decide +kernel
theorem dX0_place_24 : decode cX0_place 24 = .ok (.iconst 0, 1) := by decide +kernel
theorem dX0_place_25 : decode cX0_place 25 = .ok (.iastore, 1) := by decide +kernel
theorem dX0_place_26 : decode cX0_place 26 = .ok (.iinc 4 1, 3) := by decide +kernel
theorem dX0_place_29 : decode cX0_place 29 = .ok (.goto (-26), 3) := by decide +kernel
theorem dX0_place_32 : decode cX0_place 32 = .ok (.aload_n 1, 1) := by decide +kernel
theorem dX0_place_33 : decode cX0_place 33 = .ok (.getfield 21, 3) := by decide +kernel
theorem dX0_place_36 : decode cX0_place 36 = .ok (.iconst 1, 1) := by decide +kernel
theorem dX0_place_37 : decode cX0_place 37 = .ok (.isub, 1) := by decide +kernel
theorem dX0_place_38 : decode cX0_place 38 = .ok (.istore 4, 2) := by decide +kernel
theorem dX0_place_40 : decode cX0_place 40 = .ok (.iload 4, 2) := by decide +kernel
theorem dX0_place_42 : decode cX0_place 42 = .ok (.ifCond .lt 28, 3) := by decide +kernel
theorem dX0_place_45 : decode cX0_place 45 = .ok (.aload_n 0, 1) := by decide +kernel
theorem dX0_place_46 : decode cX0_place 46 = .ok (.iload 4, 2) := by decide +kernel
theorem dX0_place_48 : decode cX0_place 48 = .ok (.aload_n 2, 1) := by decide +kernel
theorem dX0_place_49 : decode cX0_place 49 = .ok (.getfield 27, 3) := by decide +kernel
theorem dX0_place_52 : decode cX0_place 52 = .ok (.aload_n 1, 1) := by decide +kernel
theorem dX0_place_53 : decode cX0_place 53 = .ok (.getfield 32, 3) := by decide +kernel
theorem dX0_place_56 : decode cX0_place 56 = .ok (.iload 4, 2) := by decide +kernel
theorem dX0_place_58 : decode cX0_place 58 = .ok (.iaload, 1) := by decide +kernel
theorem dX0_place_59 : decode cX0_place 59 = .ok (.iaload, 1) := by decide +kernel
theorem dX0_place_60 : decode cX0_place 60 = .ok (.iload_n 3, 1) := by decide +kernel
theorem dX0_place_61 : decode cX0_place 61 = .ok (.invokevirtual 35, 3) := by decide +kernel
theorem dX0_place_64 : decode cX0_place 64 = .ok (.iinc 4 (-1), 3) := by decide +kernel
theorem dX0_place_67 : decode cX0_place 67 = .ok (.goto (-27), 3) := by decide +kernel
theorem dX0_place_70 : decode cX0_place 70 = .ok (.aload_n 0, 1) := by decide +kernel
theorem dX0_place_71 : decode cX0_place 71 = .ok (.aload_n 0, 1) := by decide +kernel
theorem dX0_place_72 : decode cX0_place 72 = .ok (.getfield 15, 3) := by decide +kernel
theorem dX0_place_75 : decode cX0_place 75 = .ok (.iconst 0, 1) := by decide +kernel
theorem dX0_place_76 : decode cX0_place 76 = .ok (.iaload, 1) := by decide +kernel
theorem dX0_place_77 : decode cX0_place 77 = .ok (.putfield 39, 3) := by decide +kernel
theorem dX0_place_80 : decode cX0_place 80 = .ok (.iconst 0, 1) := by decide +kernel
theorem dX0_place_81 : decode cX0_place 81 = .ok (.istore 4, 2) := by decide +kernel
theorem dX0_place_83 : decode cX0_place 83 = .ok (.iconst 0, 1) := by decide +kernel
theorem dX0_place_84 : decode cX0_place 84 = .ok (.istore 5, 2) := by decide +kernel
theorem dX0_place_86 : decode cX0_place 86 = .ok (.iload 5, 2) := by decide +kernel
theorem dX0_place_88 : decode cX0_place 88 = .ok (.aload_n 1, 1) := by decide +kernel
theorem dX0_place_89 : decode cX0_place 89 = .ok (.getfield 21, 3) := by decide +kernel
theorem dX0_place_92 : decode cX0_place 92 = .ok (.if_icmp .ge 38, 3) := by decide +kernel
theorem dX0_place_95 : decode cX0_place 95 = .ok (.aload_n 0, 1) := by decide +kernel
theorem dX0_place_96 : decode cX0_place 96 = .ok (.getfield 18, 3) := by decide +kernel
theorem dX0_place_99 : decode cX0_place 99 = .ok (.iload 5, 2) := by decide +kernel
theorem dX0_place_101 : decode cX0_place 101 = .ok (.bipush 9, 2) := by decide +kernel
theorem dX0_place_103 : decode cX0_place 103 = .ok (.imul, 1) := by decide +kernel
theorem dX0_place_104 : decode cX0_place 104 = .ok (.iload 4, 2) := by decide +kernel
theorem dX0_place_106 : decode cX0_place 106 = .ok (.iadd, 1) := by decide +kernel
theorem dX0_place_107 : decode cX0_place 107 = .ok (.iaload, 1) := by decide +kernel
theorem dX0_place_108 : decode cX0_place 108 = .ok (.istore 4, 2) := by decide +kernel
theorem dX0_place_110 : decode cX0_place 110 = .ok (.aload_n 0, 1) := by decide +kernel
theorem dX0_place_111 : decode cX0_place 111 = .ok (.getfield 9, 3) := by decide +kernel
theorem dX0_place_114 : decode cX0_place 114 = .ok (.aload_n 1, 1) := by decide +kernel
theorem dX0_place_115 : decode cX0_place 115 = .ok (.getfield 32, 3) := by decide +kernel
theorem dX0_place_118 : decode cX0_place 118 = .ok (.iload 5, 2) := by decide +kernel
theorem dX0_place_120 : decode cX0_place 120 = .ok (.iaload, 1) := by decide +kernel
theorem dX0_place_121 : decode cX0_place 121 = .ok (.iload 4, 2) := by decide +kernel
theorem dX0_place_123 : decode cX0_place 123 = .ok (.iastore, 1) := by decide +kernel
theorem dX0_place_124 : decode cX0_place 124 = .ok (.iinc 5 1, 3) := by decide +kernel
theorem dX0_place_127 : decode cX0_place 127 = .ok (.goto (-41), 3) := by decide +kernel
theorem dX0_place_130 : decode cX0_place 130 = .ok (.return_, 1) := by decide +kernel
theorem dX0_findMoves_0 : decode cX0_findMoves 0 = .ok (.ldc 42, 2) := by decide +kernel
theorem dX0_findMoves_2 : decode cX0_findMoves 2 = .ok (.istore 4, 2) := by decide +kernel
theorem dX0_findMoves_4 : decode cX0_findMoves 4 = .ok (.iload_n 3, 1) := by decide +kernel
theorem dX0_findMoves_5 : decode cX0_findMoves 5 = .ok (.istore 5, 2) := by decide +kernel
theorem dX0_findMoves_7 : decode cX0_findMoves 7 = .ok (.iload_n 3, 1) := by decide +kernel
theorem dX0_findMoves_8 : decode cX0_findMoves 8 = .ok (.istore 6, 2) := by decide +kernel
theorem dX0_findMoves_10 : decode cX0_findMoves 10 = .ok (.iload 6, 2) := by decide +kernel
theorem dX0_findMoves_12 : decode cX0_findMoves 12 = .ok (.ifCond .lt 76, 3) := by decide +kernel
theorem dX0_findMoves_15 : decode cX0_findMoves 15 = .ok (.iload 6, 2) := by decide +kernel
theorem dX0_findMoves_17 : decode cX0_findMoves 17 = .ok (.iload_n 2, 1) := by decide +kernel
theorem dX0_findMoves_18 : decode cX0_findMoves 18 = .ok (.isub, 1) := by decide +kernel
theorem dX0_findMoves_19 : decode cX0_findMoves 19 = .ok (.invokestatic 43, 3) := by decide +kernel
theorem dX0_findMoves_22 : decode cX0_findMoves 22 = .ok (.aload_n 0, 1) := by decide +kernel
theorem dX0_findMoves_23 : decode cX0_findMoves 23 = .ok (.getfield 15, 3) := by decide +kernel
theorem dX0_findMoves_26 : decode cX0_findMoves 26 = .ok (.iload_n 1, 1) := by decide +kernel
theorem dX0_findMoves_27 : decode cX0_findMoves 27 = .ok (.iconst 1, 1) := by decide +kernel
theorem dX0_findMoves_28 : decode cX0_findMoves 28 = .ok (.iadd, 1) := by decide +kernel
theorem dX0_findMoves_29 : decode cX0_findMoves 29 = .ok (.bipush 9, 2) := by decide +kernel
theorem dX0_findMoves_31 : decode cX0_findMoves 31 = .ok (.imul, 1) := by decide +kernel
theorem dX0_findMoves_32 : decode cX0_findMoves 32 = .ok (.iload 6, 2) := by decide +kernel
theorem dX0_findMoves_34 : decode cX0_findMoves 34 = .ok (.iadd, 1) := by decide +kernel
theorem dX0_findMoves_35 : decode cX0_findMoves 35 = .ok (.iaload, 1) := by decide +kernel
theorem dX0_findMoves_36 : decode cX0_findMoves 36 = .ok (.iadd, 1) := by decide +kernel
theorem dX0_findMoves_37 : decode cX0_findMoves 37 = .ok (.istore 7, 2) := by decide +kernel
theorem dX0_findMoves_39 : decode cX0_findMoves 39 = .ok (.iload 7, 2) := by decide +kernel
theorem dX0_findMoves_41 : decode cX0_findMoves 41 = .ok (.iload 4, 2) := by decide +kernel
theorem dX0_findMoves_43 : decode cX0_findMoves 43 = .ok (.if_icmp .gt 11, 3) := by decide +kernel
theorem dX0_findMoves_46 : decode cX0_findMoves 46 = .ok (.iload 7, 2) := by decide +kernel
theorem dX0_findMoves_48 : decode cX0_findMoves 48 = .ok (.istore 4, 2) := by decide +kernel
theorem dX0_findMoves_50 : decode cX0_findMoves 50 = .ok (.iload 6, 2) := by decide +kernel
theorem dX0_findMoves_52 : decode cX0_findMoves 52 = .ok (.istore 5, 2) := by decide +kernel
theorem dX0_findMoves_54 : decode cX0_findMoves 54 = .ok (.aload_n 0, 1) := by decide +kernel
theorem dX0_findMoves_55 : decode cX0_findMoves 55 = .ok (.getfield 15, 3) := by decide +kernel
theorem dX0_findMoves_58 : decode cX0_findMoves 58 = .ok (.iload_n 1, 1) := by decide +kernel
theorem dX0_findMoves_59 : decode cX0_findMoves 59 = .ok (.bipush 9, 2) := by decide +kernel
theorem dX0_findMoves_61 : decode cX0_findMoves 61 = .ok (.imul, 1) := by decide +kernel
theorem dX0_findMoves_62 : decode cX0_findMoves 62 = .ok (.iload 6, 2) := by decide +kernel
theorem dX0_findMoves_64 : decode cX0_findMoves 64 = .ok (.iadd, 1) := by decide +kernel
theorem dX0_findMoves_65 : decode cX0_findMoves 65 = .ok (.iload 4, 2) := by decide +kernel
theorem dX0_findMoves_67 : decode cX0_findMoves 67 = .ok (.iastore, 1) := by decide +kernel
theorem dX0_findMoves_68 : decode cX0_findMoves 68 = .ok (.aload_n 0, 1) := by decide +kernel
theorem dX0_findMoves_69 : decode cX0_findMoves 69 = .ok (.getfield 18, 3) := by decide +kernel
theorem dX0_findMoves_72 : decode cX0_findMoves 72 = .ok (.iload_n 1, 1) := by decide +kernel
theorem dX0_findMoves_73 : decode cX0_findMoves 73 = .ok (.bipush 9, 2) := by decide +kernel
theorem dX0_findMoves_75 : decode cX0_findMoves 75 = .ok (.imul, 1) := by decide +kernel
theorem dX0_findMoves_76 : decode cX0_findMoves 76 = .ok (.iload 6, 2) := by decide +kernel
theorem dX0_findMoves_78 : decode cX0_findMoves 78 = .ok (.iadd, 1) := by decide +kernel
theorem dX0_findMoves_79 : decode cX0_findMoves 79 = .ok (.iload 5, 2) := by decide +kernel
theorem dX0_findMoves_81 : decode cX0_findMoves 81 = .ok (.iastore, 1) := by decide +kernel
theorem dX0_findMoves_82 : decode cX0_findMoves 82 = .ok (.iinc 6 (-1), 3) := by decide +kernel
theorem dX0_findMoves_85 : decode cX0_findMoves 85 = .ok (.goto (-75), 3) := by decide +kernel
theorem dX0_findMoves_88 : decode cX0_findMoves 88 = .ok (.return_, 1) := by decide +kernel
set_option maxRecDepth 20000 in
theorem ggX1_init_X4_init : GoodIn wsX1_init wsX4_init := goodIn_r _ [11, 12, 2, 3, 8, 13, 14, 15, 16, 17, 18, 19, 20, 21, 22, 23, 24, 25, 26, 27, 28, 29, 30, 31] (by decide +kernel) (by decide +kernel)
set_option maxRecDepth 20000 in
theorem gX1_init_X4_init_n11 : GoodIn wsX1_init (wsX4_init) := ggX1_init_X4_init
theorem dX1_init_0 : decode cX1_init 0 = .ok (.aload_n 0, 1) := by decide +kernel
theorem dX1_init_1 : decode cX1_init 1 = .ok (.invokespecial 3, 3) := by decide +kernel
theorem dX1_init_4 : decode cX1_init 4 = .ok (.aload_n 0, 1) := by decide +kernel
theorem dX1_init_5 : decode cX1_init 5 = .ok (.new 9, 3) := by decide +kernel
theorem dX1_init_8 : decode cX1_init 8 = .ok (.dup, 1) := by decide +kernel
theorem dX1_init_9 : decode cX1_init 9 = .ok (.invokespecial 11, 3) := by decide +kernel
theorem dX1_init_12 : decode cX1_init 12 = .ok (.putfield 12, 3) := by decide +kernel
theorem dX1_init_15 : decode cX1_init 15 = .ok (.aload_n 0, 1) := by decide +kernel
theorem dX1_init_16 : decode cX1_init 16 = .ok (.bipush 30, 2) := by decide +kernel
theorem dX1_init_18 : decode cX1_init 18 = .ok (.newarray .int, 2) := by decide +kernel
theorem dX1_init_20 : decode cX1_init 20 = .ok (.putfield 18, 3) := by decide +kernel
theorem dX1_init_23 : decode cX1_init 23 = .ok (.return_, 1) := by decide +kernel
theorem dX1_add_0 : decode cX1_add 0 = .ok (.aload_n 0, 1) := by decide +kernel
theorem dX1_add_1 : decode cX1_add 1 = .ok (.getfield 22, 3) := by decide +kernel
theorem dX1_add_4 : decode cX1_add 4 = .ok (.bipush 30, 2) := by decide +kernel
theorem dX1_add_6 : decode cX1_add 6 = .ok (.if_icmp .lt 5, 3) := by decide +kernel
theorem dX1_add_9 : decode cX1_add 9 = .ok (.iconst 0, 1) := by decide +kernel
theorem dX1_add_10 : decode cX1_add 10 = .ok (.ireturn, 1) := by decide +kernel
theorem dX1_add_11 : decode cX1_add 11 = .ok (.aload_n 0, 1) := by decide +kernel
theorem dX1_add_12 : decode cX1_add 12 = .ok (.getfield 18, 3) := by decide +kernel
theorem dX1_add_15 : decode cX1_add 15 = .ok (.aload_n 0, 1) := by decide +kernel
theorem dX1_add_16 : decode cX1_add 16 = .ok (.getfield 22, 3) := by decide +kernel
theorem dX1_add_19 : decode cX1_add 19 = .ok (.iload_n 1, 1) := by decide +kernel
theorem dX1_add_20 : decode cX1_add 20 = .ok (.iastore, 1) := by decide +kernel
theorem dX1_add_21 : decode cX1_add 21 = .ok (.aload_n 0, 1) := by decide +kernel
theorem dX1_add_22 : decode cX1_add 22 = .ok (.dup, 1) := by decide +kernel
theorem dX1_add_23 : decode cX1_add 23 = .ok (.getfield 22, 3) := by decide +kernel
theorem dX1_add_26 : decode cX1_add 26 = .ok (.iconst 1, 1) := by decide +kernel
theorem dX1_add_27 : decode cX1_add 27 = .ok (.iadd, 1) := by decide +kernel
theorem dX1_add_28 : decode cX1_add 28 = .ok (.putfield 22, 3) := by decide +kernel
theorem dX1_add_31 : decode cX1_add 31 = .ok (.iconst 1, 1) := by decide +kernel
theorem dX1_add_32 : decode cX1_add 32 = .ok (.ireturn, 1) := by decide +kernel
set_option maxRecDepth 20000 in
theorem ggX1_read_X4_clear : GoodIn wsX1_read wsX4_clear := goodIn_r _ [9, 10, 11, 12, 13, 14, 48, 49, 50, 51, 52, 53, 54, 55, 56, 57, 58, 59] (by decide +kernel) (by decide +kernel)
set_option maxRecDepth 20000 in
theorem gX1_read_X4_clear : GoodIn wsX1_read (wsV RX1 26 RX4 yX4_clear wsX4_clear) := goodIn_app (goodIn_of _ (by decide +kernel)) ggX1_read_X4_clear
set_option maxRecDepth 20000 in
theorem ggX1_read_X4_take : GoodIn wsX1_read wsX4_take := goodIn_r _ [18, 19, 20, 21, 8, 22, 10, 23, 24, 25, 26, 11, 14, 27, 28, 29, 30, 31, 32, 33, 34, 35, 36, 37, 38, 39, 40, 41, 42, 12, 13, 43, 44, 48, 49, 50, 51, 52, 53, 54, 55, 56, 57, 58, 59] (by decide +kernel) (by decide +kernel)
set_option maxRecDepth 20000 in
theorem gX1_read_X4_take : GoodIn wsX1_read (wsV RX1 29 RX4 yX4_take wsX4_take) := goodIn_app (goodIn_of _ (by decide +kernel)) ggX1_read_X4_take
theorem dX1_read_0 : decode cX1_read 0 = .ok (.aload_n 0, 1) := by decide +kernel
theorem dX1_read_1 : decode cX1_read 1 = .ok (.getfield 12, 3) := by decide +kernel
theorem dX1_read_4 : decode cX1_read 4 = .ok (.invokevirtual 26, 3) := by decide +kernel
theorem dX1_read_7 : decode cX1_read 7 = .ok (.iconst 0, 1) := by decide +kernel
theorem dX1_read_8 : decode cX1_read 8 = .ok (.istore_n 1, 1) := by decide +kernel
theorem dX1_read_9 : decode cX1_read 9 = .ok (.iload_n 1, 1) := by decide +kernel
theorem dX1_read_10 : decode cX1_read 10 = .ok (.aload_n 0, 1) := by decide +kernel
theorem dX1_read_11 : decode cX1_read 11 = .ok (.getfield 22, 3) := by decide +kernel
theorem dX1_read_14 : decode cX1_read 14 = .ok (.if_icmp .ge 33, 3) := by decide +kernel
theorem dX1_read_17 : decode cX1_read 17 = .ok (.iload_n 1, 1) := by decide +kernel
theorem dX1_read_18 : decode cX1_read 18 = .ok (.bipush 30, 2) := by decide +kernel
theorem dX1_read_20 : decode cX1_read 20 = .ok (.if_icmp .ge 27, 3) := by decide +kernel
theorem dX1_read_23 : decode cX1_read 23 = .ok (.aload_n 0, 1) := by decide +kernel
theorem dX1_read_24 : decode cX1_read 24 = .ok (.getfield 12, 3) := by decide +kernel
theorem dX1_read_27 : decode cX1_read 27 = .ok (.aload_n 0, 1) := by decide +kernel
theorem dX1_read_28 : decode cX1_read 28 = .ok (.getfield 18, 3) := by decide +kernel
theorem dX1_read_31 : decode cX1_read 31 = .ok (.iload_n 1, 1) := by decide +kernel
theorem dX1_read_32 : decode cX1_read 32 = .ok (.iaload, 1) := by decide +kernel
theorem dX1_read_33 : decode cX1_read 33 = .ok (.invokevirtual 29, 3) := by decide +kernel
theorem dX1_read_36 : decode cX1_read 36 = .ok (.ifCond .ne 5, 3) := by decide +kernel
theorem dX1_read_39 : decode cX1_read 39 = .ok (.iload_n 1, 1) := by decide +kernel
theorem dX1_read_40 : decode cX1_read 40 = .ok (.ireturn, 1) := by decide +kernel
theorem dX1_read_41 : decode cX1_read 41 = .ok (.iinc 1 1, 3) := by decide +kernel
theorem dX1_read_44 : decode cX1_read 44 = .ok (.goto (-35), 3) := by decide +kernel
theorem dX1_read_47 : decode cX1_read 47 = .ok (.aload_n 0, 1) := by decide +kernel
theorem dX1_read_48 : decode cX1_read 48 = .ok (.getfield 12, 3) := by decide +kernel
theorem dX1_read_51 : decode cX1_read 51 = .ok (.getfield 33, 3) := by decide +kernel
theorem dX1_read_54 : decode cX1_read 54 = .ok (.ifCond .le 10, 3) := by decide +kernel
theorem dX1_read_57 : decode cX1_read 57 = .ok (.aload_n 0, 1) := by decide +kernel
theorem dX1_read_58 : decode cX1_read 58 = .ok (.getfield 22, 3) := by decide +kernel
theorem dX1_read_61 : decode cX1_read 61 = .ok (.goto 5, 3) := by decide +kernel
theorem dX1_read_64 : decode cX1_read 64 = .ok (.bipush (-6), 2) := by decide +kernel
theorem dX1_read_66 : decode cX1_read 66 = .ok (.ireturn, 1) := by decide +kernel
theorem dX2_init_0 : decode cX2_init 0 = .ok (.aload_n 0, 1) := by decide +kernel
theorem dX2_init_1 : decode cX2_init 1 = .ok (.invokespecial 5, 3) := by decide +kernel
theorem dX2_init_4 : decode cX2_init 4 = .ok (.aload_n 0, 1) := by decide +kernel
theorem dX2_init_5 : decode cX2_init 5 = .ok (.iconst 5, 1) := by decide +kernel
theorem dX2_init_6 : decode cX2_init 6 = .ok (.newarray .int, 2) := by decide +kernel
theorem dX2_init_8 : decode cX2_init 8 = .ok (.putfield 11, 3) := by decide +kernel
theorem dX2_init_11 : decode cX2_init 11 = .ok (.aload_n 0, 1) := by decide +kernel
theorem dX2_init_12 : decode cX2_init 12 = .ok (.iconst 5, 1) := by decide +kernel
theorem dX2_init_13 : decode cX2_init 13 = .ok (.newarray .int, 2) := by decide +kernel
theorem dX2_init_15 : decode cX2_init 15 = .ok (.putfield 15, 3) := by decide +kernel
theorem dX2_init_18 : decode cX2_init 18 = .ok (.aload_n 0, 1) := by decide +kernel
theorem dX2_init_19 : decode cX2_init 19 = .ok (.iconst 5, 1) := by decide +kernel
theorem dX2_init_20 : decode cX2_init 20 = .ok (.newarray .int, 2) := by decide +kernel
theorem dX2_init_22 : decode cX2_init 22 = .ok (.putfield 18, 3) := by decide +kernel
theorem dX2_init_25 : decode cX2_init 25 = .ok (.aload_n 0, 1) := by decide +kernel
theorem dX2_init_26 : decode cX2_init 26 = .ok (.sipush 405, 3) := by decide +kernel
theorem dX2_init_29 : decode cX2_init 29 = .ok (.newarray .long, 2) := by decide +kernel
theorem dX2_init_31 : decode cX2_init 31 = .ok (.putfield 21, 3) := by decide +kernel
theorem dX2_init_34 : decode cX2_init 34 = .ok (.aload_n 0, 1) := by decide +kernel
theorem dX2_init_35 : decode cX2_init 35 = .ok (.sipush 2592, 3) := by decide +kernel
theorem dX2_init_38 : decode cX2_init 38 = .ok (.newarray .long, 2) := by decide +kernel
theorem dX2_init_40 : decode cX2_init 40 = .ok (.putfield 25, 3) := by decide +kernel
theorem dX2_init_43 : decode cX2_init 43 = .ok (.aload_n 0, 1) := by decide +kernel
theorem dX2_init_44 : decode cX2_init 44 = .ok (.bipush 32, 2) := by decide +kernel
theorem dX2_init_46 : decode cX2_init 46 = .ok (.newarray .int, 2) := by decide +kernel
theorem dX2_init_48 : decode cX2_init 48 = .ok (.putfield 28, 3) := by decide +kernel
theorem dX2_init_51 : decode cX2_init 51 = .ok (.return_, 1) := by decide +kernel
set_option maxRecDepth 20000 in
theorem ggX2_place_X7_has : GoodIn wsX2_place wsX7_has := goodIn_r _ [7] (by decide +kernel) (by decide +kernel)
set_option maxRecDepth 20000 in
theorem gX2_place_X7_has_n37 : GoodIn wsX2_place (wsX7_has) := ggX2_place_X7_has
set_option maxRecDepth 20000 in
theorem ggX2_place_X2_findPrices : GoodIn wsX2_place wsX2_findPrices := goodIn_r _ [12, 13, 14, 15, 11, 16, 17, 18, 19, 20, 21, 22, 23, 24, 25, 26, 27, 28, 29, 81, 82, 83, 84, 85, 86, 87, 88] (by decide +kernel) (by decide +kernel)
set_option maxRecDepth 20000 in
theorem gX2_place_X2_findPrices : GoodIn wsX2_place (wsV RX2 45 RX2 yX2_findPrices wsX2_findPrices) := goodIn_app (goodIn_of _ (by decide +kernel)) ggX2_place_X2_findPrices
set_option maxRecDepth 20000 in
theorem ggX2_place_X2_findParts : GoodIn wsX2_place wsX2_findParts := goodIn_r _ [33, 34, 35, 36, 37, 11, 38, 39, 40, 5, 6, 7, 81, 82, 83, 84, 85, 86, 87, 88, 65, 66, 67, 68, 69, 70, 71, 72, 73, 74, 75, 76] (by decide +kernel) (by decide +kernel)
set_option maxRecDepth 20000 in
theorem gX2_place_X2_findParts : GoodIn wsX2_place (wsV RX2 49 RX2 yX2_findParts wsX2_findParts) := goodIn_app (goodIn_of _ (by decide +kernel)) ggX2_place_X2_findParts
set_option maxRecDepth 20000 in
theorem ggX2_place_X2_findSums : GoodIn wsX2_place wsX2_findSums := goodIn_r _ [44, 4, 45, 46, 22, 47, 48, 49, 50, 11, 51, 52, 40, 13, 5, 6, 7, 53, 54, 55, 56, 34, 35, 81, 82, 83, 84, 85, 86, 87, 88, 65, 66, 67, 68, 69, 70, 71, 72, 73, 74, 75, 76] (by decide +kernel) (by decide +kernel)
set_option maxRecDepth 20000 in
theorem gX2_place_X2_findSums : GoodIn wsX2_place (wsV RX2 53 RX2 yX2_findSums wsX2_findSums) := goodIn_app (goodIn_of _ (by decide +kernel)) ggX2_place_X2_findSums
set_option maxRecDepth 20000 in
theorem ggX2_place_X2_readSpans : GoodIn wsX2_place wsX2_readSpans := goodIn_r _ [60, 61, 62, 63, 64, 2, 3, 5, 6, 7, 14, 15, 11, 16, 17, 18, 19, 20, 21, 22, 23, 24, 25, 26, 27, 28, 29, 81, 82, 83, 84, 85, 86, 87, 88, 77, 78, 79, 80] (by decide +kernel) (by decide +kernel)
set_option maxRecDepth 20000 in
theorem gX2_place_X2_readSpans : GoodIn wsX2_place (wsV RX2 57 RX2 yX2_readSpans wsX2_readSpans) := goodIn_app (goodIn_of _ (by decide +kernel)) ggX2_place_X2_readSpans
theorem dX2_place_0 : decode cX2_place 0 = .ok (.iconst 0, 1) := by decide +kernel
theorem dX2_place_1 : decode cX2_place 1 = .ok (.istore 4, 2) := by decide +kernel
theorem dX2_place_3 : decode cX2_place 3 = .ok (.iload 4, 2) := by decide +kernel
theorem dX2_place_5 : decode cX2_place 5 = .ok (.iconst 5, 1) := by decide +kernel
theorem dX2_place_6 : decode cX2_place 6 = .ok (.if_icmp .ge 42, 3) := by decide +kernel
theorem dX2_place_9 : decode cX2_place 9 = .ok (.aload_n 1, 1) := by decide +kernel
theorem dX2_place_10 : decode cX2_place 10 = .ok (.getfield 31, 3) := by decide +kernel
theorem dX2_place_13 : decode cX2_place 13 = .ok (.iload 4, 2) := by decide +kernel
theorem dX2_place_15 : decode cX2_place 15 = .ok (.invokestatic 37, 3) := by decide +kernel
theorem dX2_place_18 : decode cX2_place 18 = .ok (.ifCond .eq 24, 3) := by decide +kernel
theorem dX2_place_21 : decode cX2_place 21 = .ok (.aload_n 0, 1) := by decide +kernel
theorem dX2_place_22 : decode cX2_place 22 = .ok (.iload 4, 2) := by decide +kernel
theorem dX2_place_24 : decode cX2_place 24 = .ok (.aload_n 2, 1) := by decide +kernel
theorem dX2_place_25 : decode cX2_place 25 = .ok (.getfield 41, 3) := by decide +kernel
theorem dX2_place_28 : decode cX2_place 28 = .ok (.iload 4, 2) := by decide +kernel
theorem dX2_place_30 : decode cX2_place 30 = .ok (.iaload, 1) := by decide +kernel
theorem dX2_place_31 : decode cX2_place 31 = .ok (.aload_n 2, 1) := by decide +kernel
theorem dX2_place_32 : decode cX2_place 32 = .ok (.getfield 44, 3) := by decide +kernel
theorem dX2_place_35 : decode cX2_place 35 = .ok (.iload 4, 2) := by decide +kernel
theorem dX2_place_37 : decode cX2_place 37 = .ok (.iaload, 1) := by decide +kernel
theorem dX2_place_38 : decode cX2_place 38 = .ok (.iload_n 3, 1) := by decide +kernel
theorem dX2_place_39 : decode cX2_place 39 = .ok (.invokevirtual 45, 3) := by decide +kernel
theorem dX2_place_42 : decode cX2_place 42 = .ok (.iinc 4 1, 3) := by decide +kernel
theorem dX2_place_45 : decode cX2_place 45 = .ok (.goto (-42), 3) := by decide +kernel
theorem dX2_place_48 : decode cX2_place 48 = .ok (.iconst 1, 1) := by decide +kernel
theorem dX2_place_49 : decode cX2_place 49 = .ok (.istore 4, 2) := by decide +kernel
theorem dX2_place_51 : decode cX2_place 51 = .ok (.iload 4, 2) := by decide +kernel
theorem dX2_place_53 : decode cX2_place 53 = .ok (.bipush 32, 2) := by decide +kernel
theorem dX2_place_55 : decode cX2_place 55 = .ok (.if_icmp .ge 36, 3) := by decide +kernel
theorem dX2_place_58 : decode cX2_place 58 = .ok (.iload 4, 2) := by decide +kernel
theorem dX2_place_60 : decode cX2_place 60 = .ok (.aload_n 1, 1) := by decide +kernel
theorem dX2_place_61 : decode cX2_place 61 = .ok (.getfield 31, 3) := by decide +kernel
theorem dX2_place_64 : decode cX2_place 64 = .ok (.iconst (-1), 1) := by decide +kernel
theorem dX2_place_65 : decode cX2_place 65 = .ok (.ixor, 1) := by decide +kernel
theorem dX2_place_66 : decode cX2_place 66 = .ok (.iand, 1) := by decide +kernel
theorem dX2_place_67 : decode cX2_place 67 = .ok (.ifCond .ne 18, 3) := by decide +kernel
theorem dX2_place_70 : decode cX2_place 70 = .ok (.aload_n 0, 1) := by decide +kernel
theorem dX2_place_71 : decode cX2_place 71 = .ok (.aload_n 1, 1) := by decide +kernel
theorem dX2_place_72 : decode cX2_place 72 = .ok (.iload 4, 2) := by decide +kernel
theorem dX2_place_74 : decode cX2_place 74 = .ok (.invokevirtual 49, 3) := by decide +kernel
theorem dX2_place_77 : decode cX2_place 77 = .ok (.aload_n 0, 1) := by decide +kernel
theorem dX2_place_78 : decode cX2_place 78 = .ok (.aload_n 1, 1) := by decide +kernel
theorem dX2_place_79 : decode cX2_place 79 = .ok (.iload 4, 2) := by decide +kernel
theorem dX2_place_81 : decode cX2_place 81 = .ok (.iload_n 3, 1) := by decide +kernel
theorem dX2_place_82 : decode cX2_place 82 = .ok (.invokevirtual 53, 3) := by decide +kernel
theorem dX2_place_85 : decode cX2_place 85 = .ok (.iinc 4 1, 3) := by decide +kernel
theorem dX2_place_88 : decode cX2_place 88 = .ok (.goto (-37), 3) := by decide +kernel
theorem dX2_place_91 : decode cX2_place 91 = .ok (.aload_n 0, 1) := by decide +kernel
theorem dX2_place_92 : decode cX2_place 92 = .ok (.aload_n 1, 1) := by decide +kernel
theorem dX2_place_93 : decode cX2_place 93 = .ok (.getfield 31, 3) := by decide +kernel
theorem dX2_place_96 : decode cX2_place 96 = .ok (.aload_n 2, 1) := by decide +kernel
theorem dX2_place_97 : decode cX2_place 97 = .ok (.aload_n 0, 1) := by decide +kernel
theorem dX2_place_98 : decode cX2_place 98 = .ok (.getfield 25, 3) := by decide +kernel
theorem dX2_place_101 : decode cX2_place 101 = .ok (.aload_n 1, 1) := by decide +kernel
theorem dX2_place_102 : decode cX2_place 102 = .ok (.getfield 31, 3) := by decide +kernel
theorem dX2_place_105 : decode cX2_place 105 = .ok (.bipush 81, 2) := by decide +kernel
theorem dX2_place_107 : decode cX2_place 107 = .ok (.imul, 1) := by decide +kernel
theorem dX2_place_108 : decode cX2_place 108 = .ok (.iload_n 3, 1) := by decide +kernel
theorem dX2_place_109 : decode cX2_place 109 = .ok (.iadd, 1) := by decide +kernel
theorem dX2_place_110 : decode cX2_place 110 = .ok (.laload, 1) := by decide +kernel
theorem dX2_place_111 : decode cX2_place 111 = .ok (.invokevirtual 57, 3) := by decide +kernel
theorem dX2_place_114 : decode cX2_place 114 = .ok (.return_, 1) := by decide +kernel
set_option maxRecDepth 20000 in
theorem ggX2_findPrices_X2_shiftOf : GoodIn wsX2_findPrices wsX2_shiftOf := goodIn_r _ [5] (by decide +kernel) (by decide +kernel)
set_option maxRecDepth 20000 in
theorem gX2_findPrices_X2_shiftOf : GoodIn wsX2_findPrices (va_wsS RX2 61 yX2_shiftOf wsX2_shiftOf) := goodIn_app (goodIn_of _ (by decide +kernel)) ggX2_findPrices_X2_shiftOf
set_option maxRecDepth 20000 in
theorem ggX2_findPrices_X2_costOf : GoodIn wsX2_findPrices wsX2_costOf := goodIn_r _ [8, 9, 10, 11, 12, 13, 14, 15, 16, 17, 18] (by decide +kernel) (by decide +kernel)
set_option maxRecDepth 20000 in
theorem gX2_findPrices_X2_costOf : GoodIn wsX2_findPrices (va_wsS RX2 65 yX2_costOf wsX2_costOf) := goodIn_app (goodIn_of _ (by decide +kernel)) ggX2_findPrices_X2_costOf
theorem dX2_findPrices_0 : decode cX2_findPrices 0 = .ok (.iload_n 1, 1) := by decide +kernel
theorem dX2_findPrices_1 : decode cX2_findPrices 1 = .ok (.invokestatic 61, 3) := by decide +kernel
theorem dX2_findPrices_4 : decode cX2_findPrices 4 = .ok (.istore 5, 2) := by decide +kernel
theorem dX2_findPrices_6 : decode cX2_findPrices 6 = .ok (.iconst 0, 1) := by decide +kernel
theorem dX2_findPrices_7 : decode cX2_findPrices 7 = .ok (.istore 6, 2) := by decide +kernel
theorem dX2_findPrices_9 : decode cX2_findPrices 9 = .ok (.iload 6, 2) := by decide +kernel
theorem dX2_findPrices_11 : decode cX2_findPrices 11 = .ok (.iload 4, 2) := by decide +kernel
theorem dX2_findPrices_13 : decode cX2_findPrices 13 = .ok (.if_icmp .gt 78, 3) := by decide +kernel
theorem dX2_findPrices_16 : decode cX2_findPrices 16 = .ok (.iload 6, 2) := by decide +kernel
theorem dX2_findPrices_18 : decode cX2_findPrices 18 = .ok (.istore 7, 2) := by decide +kernel
theorem dX2_findPrices_20 : decode cX2_findPrices 20 = .ok (.iload 7, 2) := by decide +kernel
theorem dX2_findPrices_22 : decode cX2_findPrices 22 = .ok (.iload 4, 2) := by decide +kernel
theorem dX2_findPrices_24 : decode cX2_findPrices 24 = .ok (.if_icmp .gt 61, 3) := by decide +kernel
theorem dX2_findPrices_27 : decode cX2_findPrices 27 = .ok (.iload_n 1, 1) := by decide +kernel
theorem dX2_findPrices_28 : decode cX2_findPrices 28 = .ok (.iload_n 2, 1) := by decide +kernel
theorem dX2_findPrices_29 : decode cX2_findPrices 29 = .ok (.iload_n 3, 1) := by decide +kernel
theorem dX2_findPrices_30 : decode cX2_findPrices 30 = .ok (.iload 6, 2) := by decide +kernel
theorem dX2_findPrices_32 : decode cX2_findPrices 32 = .ok (.iload 7, 2) := by decide +kernel
theorem dX2_findPrices_34 : decode cX2_findPrices 34 = .ok (.invokestatic 65, 3) := by decide +kernel
theorem dX2_findPrices_37 : decode cX2_findPrices 37 = .ok (.i2l, 1) := by decide +kernel
theorem dX2_findPrices_38 : decode cX2_findPrices 38 = .ok (.lstore 8, 2) := by decide +kernel
theorem dX2_findPrices_40 : decode cX2_findPrices 40 = .ok (.iload 6, 2) := by decide +kernel
theorem dX2_findPrices_42 : decode cX2_findPrices 42 = .ok (.iconst 4, 1) := by decide +kernel
theorem dX2_findPrices_43 : decode cX2_findPrices 43 = .ok (.ishl, 1) := by decide +kernel
theorem dX2_findPrices_44 : decode cX2_findPrices 44 = .ok (.iload 7, 2) := by decide +kernel
theorem dX2_findPrices_46 : decode cX2_findPrices 46 = .ok (.ior, 1) := by decide +kernel
theorem dX2_findPrices_47 : decode cX2_findPrices 47 = .ok (.i2l, 1) := by decide +kernel
theorem dX2_findPrices_48 : decode cX2_findPrices 48 = .ok (.lstore 10, 2) := by decide +kernel
theorem dX2_findPrices_50 : decode cX2_findPrices 50 = .ok (.aload_n 0, 1) := by decide +kernel
theorem dX2_findPrices_51 : decode cX2_findPrices 51 = .ok (.getfield 21, 3) := by decide +kernel
theorem dX2_findPrices_54 : decode cX2_findPrices 54 = .ok (.iload_n 1, 1) := by decide +kernel
theorem dX2_findPrices_55 : decode cX2_findPrices 55 = .ok (.bipush 81, 2) := by decide +kernel
theorem dX2_findPrices_57 : decode cX2_findPrices 57 = .ok (.imul, 1) := by decide +kernel
theorem dX2_findPrices_58 : decode cX2_findPrices 58 = .ok (.iload 6, 2) := by decide +kernel
theorem dX2_findPrices_60 : decode cX2_findPrices 60 = .ok (.bipush 9, 2) := by decide +kernel
theorem dX2_findPrices_62 : decode cX2_findPrices 62 = .ok (.imul, 1) := by decide +kernel
theorem dX2_findPrices_63 : decode cX2_findPrices 63 = .ok (.iadd, 1) := by decide +kernel
theorem dX2_findPrices_64 : decode cX2_findPrices 64 = .ok (.iload 7, 2) := by decide +kernel
theorem dX2_findPrices_66 : decode cX2_findPrices 66 = .ok (.iadd, 1) := by decide +kernel
theorem dX2_findPrices_67 : decode cX2_findPrices 67 = .ok (.lload 8, 2) := by decide +kernel
theorem dX2_findPrices_69 : decode cX2_findPrices 69 = .ok (.bipush 40, 2) := by decide +kernel
theorem dX2_findPrices_71 : decode cX2_findPrices 71 = .ok (.lshl, 1) := by decide +kernel
theorem dX2_findPrices_72 : decode cX2_findPrices 72 = .ok (.lload 10, 2) := by decide +kernel
theorem dX2_findPrices_74 : decode cX2_findPrices 74 = .ok (.iload 5, 2) := by decide +kernel
theorem dX2_findPrices_76 : decode cX2_findPrices 76 = .ok (.lshl, 1) := by decide +kernel
theorem dX2_findPrices_77 : decode cX2_findPrices 77 = .ok (.lor, 1) := by decide +kernel
theorem dX2_findPrices_78 : decode cX2_findPrices 78 = .ok (.lastore, 1) := by decide +kernel
theorem dX2_findPrices_79 : decode cX2_findPrices 79 = .ok (.iinc 7 1, 3) := by decide +kernel
theorem dX2_findPrices_82 : decode cX2_findPrices 82 = .ok (.goto (-62), 3) := by decide +kernel
theorem dX2_findPrices_85 : decode cX2_findPrices 85 = .ok (.iinc 6 1, 3) := by decide +kernel
theorem dX2_findPrices_88 : decode cX2_findPrices 88 = .ok (.goto (-79), 3) := by decide +kernel
theorem dX2_findPrices_91 : decode cX2_findPrices 91 = .ok (.return_, 1) := by decide +kernel
theorem dX2_shiftOf_0 : decode cX2_shiftOf 0 = .ok (.bipush 8, 2) := by decide +kernel
theorem dX2_shiftOf_2 : decode cX2_shiftOf 2 = .ok (.iconst 4, 1) := by decide +kernel
theorem dX2_shiftOf_3 : decode cX2_shiftOf 3 = .ok (.iload_n 0, 1) := by decide +kernel
theorem dX2_shiftOf_4 : decode cX2_shiftOf 4 = .ok (.isub, 1) := by decide +kernel
theorem dX2_shiftOf_5 : decode cX2_shiftOf 5 = .ok (.imul, 1) := by decide +kernel
theorem dX2_shiftOf_6 : decode cX2_shiftOf 6 = .ok (.ireturn, 1) := by decide +kernel
theorem dX2_costOf_0 : decode cX2_costOf 0 = .ok (.iload_n 3, 1) := by decide +kernel
theorem dX2_costOf_1 : decode cX2_costOf 1 = .ok (.iload_n 1, 1) := by decide +kernel
theorem dX2_costOf_2 : decode cX2_costOf 2 = .ok (.isub, 1) := by decide +kernel
theorem dX2_costOf_3 : decode cX2_costOf 3 = .ok (.invokestatic 69, 3) := by decide +kernel
theorem dX2_costOf_6 : decode cX2_costOf 6 = .ok (.istore 5, 2) := by decide +kernel
theorem dX2_costOf_8 : decode cX2_costOf 8 = .ok (.iload 4, 2) := by decide +kernel
theorem dX2_costOf_10 : decode cX2_costOf 10 = .ok (.iload_n 2, 1) := by decide +kernel
theorem dX2_costOf_11 : decode cX2_costOf 11 = .ok (.isub, 1) := by decide +kernel
theorem dX2_costOf_12 : decode cX2_costOf 12 = .ok (.invokestatic 69, 3) := by decide +kernel
theorem dX2_costOf_15 : decode cX2_costOf 15 = .ok (.istore 6, 2) := by decide +kernel
theorem dX2_costOf_17 : decode cX2_costOf 17 = .ok (.iload_n 0, 1) := by decide +kernel
theorem dX2_costOf_18 : decode cX2_costOf 18 = .ok (.iconst 4, 1) := by decide +kernel
theorem dX2_costOf_19 : decode cX2_costOf 19 = .ok (.if_icmp .ne 13, 3) := by decide +kernel
theorem dX2_costOf_22 : decode cX2_costOf 22 = .ok (.iconst 2, 1) := by decide +kernel
theorem dX2_costOf_23 : decode cX2_costOf 23 = .ok (.iload 5, 2) := by decide +kernel
theorem dX2_costOf_25 : decode cX2_costOf 25 = .ok (.iload 6, 2) := by decide +kernel
theorem dX2_costOf_27 : decode cX2_costOf 27 = .ok (.invokestatic 74, 3) := by decide +kernel
theorem dX2_costOf_30 : decode cX2_costOf 30 = .ok (.imul, 1) := by decide +kernel
theorem dX2_costOf_31 : decode cX2_costOf 31 = .ok (.ireturn, 1) := by decide +kernel
theorem dX2_costOf_32 : decode cX2_costOf 32 = .ok (.iload_n 0, 1) := by decide +kernel
theorem dX2_costOf_33 : decode cX2_costOf 33 = .ok (.iconst 2, 1) := by decide +kernel
theorem dX2_costOf_34 : decode cX2_costOf 34 = .ok (.if_icmp .ge 9, 3) := by decide +kernel
theorem dX2_costOf_37 : decode cX2_costOf 37 = .ok (.iload 5, 2) := by decide +kernel
theorem dX2_costOf_39 : decode cX2_costOf 39 = .ok (.iload 6, 2) := by decide +kernel
theorem dX2_costOf_41 : decode cX2_costOf 41 = .ok (.iadd, 1) := by decide +kernel
theorem dX2_costOf_42 : decode cX2_costOf 42 = .ok (.ireturn, 1) := by decide +kernel
theorem dX2_costOf_43 : decode cX2_costOf 43 = .ok (.iconst 0, 1) := by decide +kernel
theorem dX2_costOf_44 : decode cX2_costOf 44 = .ok (.iload 4, 2) := by decide +kernel
theorem dX2_costOf_46 : decode cX2_costOf 46 = .ok (.iload_n 2, 1) := by decide +kernel
theorem dX2_costOf_47 : decode cX2_costOf 47 = .ok (.invokestatic 78, 3) := by decide +kernel
theorem dX2_costOf_50 : decode cX2_costOf 50 = .ok (.iload_n 3, 1) := by decide +kernel
theorem dX2_costOf_51 : decode cX2_costOf 51 = .ok (.iload_n 1, 1) := by decide +kernel
theorem dX2_costOf_52 : decode cX2_costOf 52 = .ok (.invokestatic 74, 3) := by decide +kernel
theorem dX2_costOf_55 : decode cX2_costOf 55 = .ok (.isub, 1) := by decide +kernel
theorem dX2_costOf_56 : decode cX2_costOf 56 = .ok (.invokestatic 74, 3) := by decide +kernel
theorem dX2_costOf_59 : decode cX2_costOf 59 = .ok (.istore 7, 2) := by decide +kernel
theorem dX2_costOf_61 : decode cX2_costOf 61 = .ok (.iload 5, 2) := by decide +kernel
theorem dX2_costOf_63 : decode cX2_costOf 63 = .ok (.iload 6, 2) := by decide +kernel
theorem dX2_costOf_65 : decode cX2_costOf 65 = .ok (.iadd, 1) := by decide +kernel
theorem dX2_costOf_66 : decode cX2_costOf 66 = .ok (.iconst 2, 1) := by decide +kernel
theorem dX2_costOf_67 : decode cX2_costOf 67 = .ok (.iload_n 2, 1) := by decide +kernel
theorem dX2_costOf_68 : decode cX2_costOf 68 = .ok (.iload_n 1, 1) := by decide +kernel
theorem dX2_costOf_69 : decode cX2_costOf 69 = .ok (.isub, 1) := by decide +kernel
theorem dX2_costOf_70 : decode cX2_costOf 70 = .ok (.iload 7, 2) := by decide +kernel
theorem dX2_costOf_72 : decode cX2_costOf 72 = .ok (.isub, 1) := by decide +kernel
theorem dX2_costOf_73 : decode cX2_costOf 73 = .ok (.imul, 1) := by decide +kernel
theorem dX2_costOf_74 : decode cX2_costOf 74 = .ok (.iadd, 1) := by decide +kernel
theorem dX2_costOf_75 : decode cX2_costOf 75 = .ok (.ireturn, 1) := by decide +kernel
set_option maxRecDepth 20000 in
theorem ggX2_findParts_X2_apart : GoodIn wsX2_findParts wsX2_apart := goodIn_r _ [6, 7, 8, 9, 10, 11, 20, 21, 22, 23, 24, 25, 26, 27, 28, 29, 30, 31] (by decide +kernel) (by decide +kernel)
set_option maxRecDepth 20000 in
theorem gX2_findParts_X2_apart : GoodIn wsX2_findParts (va_wsS RX2 84 yX2_apart wsX2_apart) := goodIn_app (goodIn_of _ (by decide +kernel)) ggX2_findParts_X2_apart
theorem dX2_findParts_0 : decode cX2_findParts 0 = .ok (.aload_n 0, 1) := by decide +kernel
theorem dX2_findParts_1 : decode cX2_findParts 1 = .ok (.iconst 0, 1) := by decide +kernel
theorem dX2_findParts_2 : decode cX2_findParts 2 = .ok (.putfield 81, 3) := by decide +kernel
theorem dX2_findParts_5 : decode cX2_findParts 5 = .ok (.iconst 1, 1) := by decide +kernel
theorem dX2_findParts_6 : decode cX2_findParts 6 = .ok (.istore_n 3, 1) := by decide +kernel
theorem dX2_findParts_7 : decode cX2_findParts 7 = .ok (.iload_n 3, 1) := by decide +kernel
theorem dX2_findParts_8 : decode cX2_findParts 8 = .ok (.iload_n 2, 1) := by decide +kernel
theorem dX2_findParts_9 : decode cX2_findParts 9 = .ok (.if_icmp .ge 50, 3) := by decide +kernel
theorem dX2_findParts_12 : decode cX2_findParts 12 = .ok (.iload_n 3, 1) := by decide +kernel
theorem dX2_findParts_13 : decode cX2_findParts 13 = .ok (.iload_n 2, 1) := by decide +kernel
theorem dX2_findParts_14 : decode cX2_findParts 14 = .ok (.iconst (-1), 1) := by decide +kernel
theorem dX2_findParts_15 : decode cX2_findParts 15 = .ok (.ixor, 1) := by decide +kernel
theorem dX2_findParts_16 : decode cX2_findParts 16 = .ok (.iand, 1) := by decide +kernel
theorem dX2_findParts_17 : decode cX2_findParts 17 = .ok (.ifCond .ne 36, 3) := by decide +kernel
theorem dX2_findParts_20 : decode cX2_findParts 20 = .ok (.aload_n 1, 1) := by decide +kernel
theorem dX2_findParts_21 : decode cX2_findParts 21 = .ok (.iload_n 3, 1) := by decide +kernel
theorem dX2_findParts_22 : decode cX2_findParts 22 = .ok (.iload_n 2, 1) := by decide +kernel
theorem dX2_findParts_23 : decode cX2_findParts 23 = .ok (.iload_n 3, 1) := by decide +kernel
theorem dX2_findParts_24 : decode cX2_findParts 24 = .ok (.iconst (-1), 1) := by decide +kernel
theorem dX2_findParts_25 : decode cX2_findParts 25 = .ok (.ixor, 1) := by decide +kernel
theorem dX2_findParts_26 : decode cX2_findParts 26 = .ok (.iand, 1) := by decide +kernel
theorem dX2_findParts_27 : decode cX2_findParts 27 = .ok (.invokestatic 84, 3) := by decide +kernel
theorem dX2_findParts_30 : decode cX2_findParts 30 = .ok (.ifCond .eq 23, 3) := by decide +kernel
theorem dX2_findParts_33 : decode cX2_findParts 33 = .ok (.aload_n 0, 1) := by decide +kernel
theorem dX2_findParts_34 : decode cX2_findParts 34 = .ok (.getfield 28, 3) := by decide +kernel
theorem dX2_findParts_37 : decode cX2_findParts 37 = .ok (.aload_n 0, 1) := by decide +kernel
theorem dX2_findParts_38 : decode cX2_findParts 38 = .ok (.getfield 81, 3) := by decide +kernel
theorem dX2_findParts_41 : decode cX2_findParts 41 = .ok (.iload_n 3, 1) := by decide +kernel
theorem dX2_findParts_42 : decode cX2_findParts 42 = .ok (.iastore, 1) := by decide +kernel
theorem dX2_findParts_43 : decode cX2_findParts 43 = .ok (.aload_n 0, 1) := by decide +kernel
theorem dX2_findParts_44 : decode cX2_findParts 44 = .ok (.dup, 1) := by decide +kernel
theorem dX2_findParts_45 : decode cX2_findParts 45 = .ok (.getfield 81, 3) := by decide +kernel
theorem dX2_findParts_48 : decode cX2_findParts 48 = .ok (.iconst 1, 1) := by decide +kernel
theorem dX2_findParts_49 : decode cX2_findParts 49 = .ok (.iadd, 1) := by decide +kernel
theorem dX2_findParts_50 : decode cX2_findParts 50 = .ok (.putfield 81, 3) := by decide +kernel
theorem dX2_findParts_53 : decode cX2_findParts 53 = .ok (.iinc 3 1, 3) := by decide +kernel
theorem dX2_findParts_56 : decode cX2_findParts 56 = .ok (.goto (-49), 3) := by decide +kernel
theorem dX2_findParts_59 : decode cX2_findParts 59 = .ok (.return_, 1) := by decide +kernel
set_option maxRecDepth 20000 in
theorem ggX2_apart_X7_has : GoodIn wsX2_apart wsX7_has := goodIn_r _ [5] (by decide +kernel) (by decide +kernel)
set_option maxRecDepth 20000 in
theorem gX2_apart_X7_has_n37 : GoodIn wsX2_apart (wsX7_has) := ggX2_apart_X7_has
theorem dX2_apart_0 : decode cX2_apart 0 = .ok (.iconst 0, 1) := by decide +kernel
theorem dX2_apart_1 : decode cX2_apart 1 = .ok (.istore_n 3, 1) := by decide +kernel
theorem dX2_apart_2 : decode cX2_apart 2 = .ok (.iload_n 3, 1) := by decide +kernel
theorem dX2_apart_3 : decode cX2_apart 3 = .ok (.iconst 5, 1) := by decide +kernel
theorem dX2_apart_4 : decode cX2_apart 4 = .ok (.if_icmp .ge 37, 3) := by decide +kernel
theorem dX2_apart_7 : decode cX2_apart 7 = .ok (.iload_n 1, 1) := by decide +kernel
theorem dX2_apart_8 : decode cX2_apart 8 = .ok (.iload_n 3, 1) := by decide +kernel
theorem dX2_apart_9 : decode cX2_apart 9 = .ok (.invokestatic 37, 3) := by decide +kernel
theorem dX2_apart_12 : decode cX2_apart 12 = .ok (.ifCond .eq 23, 3) := by decide +kernel
theorem dX2_apart_15 : decode cX2_apart 15 = .ok (.aload_n 0, 1) := by decide +kernel
theorem dX2_apart_16 : decode cX2_apart 16 = .ok (.getfield 88, 3) := by decide +kernel
theorem dX2_apart_19 : decode cX2_apart 19 = .ok (.iload_n 3, 1) := by decide +kernel
theorem dX2_apart_20 : decode cX2_apart 20 = .ok (.iaload, 1) := by decide +kernel
theorem dX2_apart_21 : decode cX2_apart 21 = .ok (.aload_n 0, 1) := by decide +kernel
theorem dX2_apart_22 : decode cX2_apart 22 = .ok (.getfield 91, 3) := by decide +kernel
theorem dX2_apart_25 : decode cX2_apart 25 = .ok (.iload_n 3, 1) := by decide +kernel
theorem dX2_apart_26 : decode cX2_apart 26 = .ok (.iaload, 1) := by decide +kernel
theorem dX2_apart_27 : decode cX2_apart 27 = .ok (.ior, 1) := by decide +kernel
theorem dX2_apart_28 : decode cX2_apart 28 = .ok (.iload_n 2, 1) := by decide +kernel
theorem dX2_apart_29 : decode cX2_apart 29 = .ok (.iand, 1) := by decide +kernel
theorem dX2_apart_30 : decode cX2_apart 30 = .ok (.ifCond .eq 5, 3) := by decide +kernel
theorem dX2_apart_33 : decode cX2_apart 33 = .ok (.iconst 0, 1) := by decide +kernel
theorem dX2_apart_34 : decode cX2_apart 34 = .ok (.ireturn, 1) := by decide +kernel
theorem dX2_apart_35 : decode cX2_apart 35 = .ok (.iinc 3 1, 3) := by decide +kernel
theorem dX2_apart_38 : decode cX2_apart 38 = .ok (.goto (-36), 3) := by decide +kernel
theorem dX2_apart_41 : decode cX2_apart 41 = .ok (.iconst 1, 1) := by decide +kernel
theorem dX2_apart_42 : decode cX2_apart 42 = .ok (.ireturn, 1) := by decide +kernel
set_option maxRecDepth 20000 in
theorem ggX2_findSums_X2_filled : GoodIn wsX2_findSums wsX2_filled := goodIn_r _ [10, 11, 12, 13, 1, 2, 3, 4, 5, 14, 15, 16, 31, 32, 33, 34, 35, 36, 37, 38, 39, 40, 41, 42, 23, 24, 25, 26, 27, 28, 29, 30] (by decide +kernel) (by decide +kernel)
set_option maxRecDepth 20000 in
theorem gX2_findSums_X2_filled : GoodIn wsX2_findSums (wsV RX2 94 RX2 yX2_filled wsX2_filled) := goodIn_app (goodIn_of _ (by decide +kernel)) ggX2_findSums_X2_filled
set_option maxRecDepth 20000 in
theorem ggX2_findSums_X2_parted : GoodIn wsX2_findSums wsX2_parted := goodIn_r _ [20, 11, 21, 22, 1, 2, 3, 4, 5, 23, 24, 25, 26, 27, 28, 29, 30] (by decide +kernel) (by decide +kernel)
set_option maxRecDepth 20000 in
theorem gX2_findSums_X2_parted : GoodIn wsX2_findSums (wsV RX2 101 RX2 yX2_parted wsX2_parted) := goodIn_app (goodIn_of _ (by decide +kernel)) ggX2_findSums_X2_parted
theorem dX2_findSums_0 : decode cX2_findSums 0 = .ok (.iconst 0, 1) := by decide +kernel
theorem dX2_findSums_1 : decode cX2_findSums 1 = .ok (.istore 4, 2) := by decide +kernel
theorem dX2_findSums_3 : decode cX2_findSums 3 = .ok (.iload 4, 2) := by decide +kernel
theorem dX2_findSums_5 : decode cX2_findSums 5 = .ok (.iload_n 3, 1) := by decide +kernel
theorem dX2_findSums_6 : decode cX2_findSums 6 = .ok (.if_icmp .gt 145, 3) := by decide +kernel
theorem dX2_findSums_9 : decode cX2_findSums 9 = .ok (.iconst 0, 1) := by decide +kernel
theorem dX2_findSums_10 : decode cX2_findSums 10 = .ok (.istore 5, 2) := by decide +kernel
theorem dX2_findSums_12 : decode cX2_findSums 12 = .ok (.iload 5, 2) := by decide +kernel
theorem dX2_findSums_14 : decode cX2_findSums 14 = .ok (.iload 4, 2) := by decide +kernel
theorem dX2_findSums_16 : decode cX2_findSums 16 = .ok (.iadd, 1) := by decide +kernel
theorem dX2_findSums_17 : decode cX2_findSums 17 = .ok (.iload_n 3, 1) := by decide +kernel
theorem dX2_findSums_18 : decode cX2_findSums 18 = .ok (.if_icmp .gt 127, 3) := by decide +kernel
theorem dX2_findSums_21 : decode cX2_findSums 21 = .ok (.iload 5, 2) := by decide +kernel
theorem dX2_findSums_23 : decode cX2_findSums 23 = .ok (.iload 4, 2) := by decide +kernel
theorem dX2_findSums_25 : decode cX2_findSums 25 = .ok (.iadd, 1) := by decide +kernel
theorem dX2_findSums_26 : decode cX2_findSums 26 = .ok (.istore 6, 2) := by decide +kernel
theorem dX2_findSums_28 : decode cX2_findSums 28 = .ok (.aload_n 0, 1) := by decide +kernel
theorem dX2_findSums_29 : decode cX2_findSums 29 = .ok (.aload_n 1, 1) := by decide +kernel
theorem dX2_findSums_30 : decode cX2_findSums 30 = .ok (.iload_n 2, 1) := by decide +kernel
theorem dX2_findSums_31 : decode cX2_findSums 31 = .ok (.iload 5, 2) := by decide +kernel
theorem dX2_findSums_33 : decode cX2_findSums 33 = .ok (.bipush 9, 2) := by decide +kernel
theorem dX2_findSums_35 : decode cX2_findSums 35 = .ok (.imul, 1) := by decide +kernel
theorem dX2_findSums_36 : decode cX2_findSums 36 = .ok (.iload 6, 2) := by decide +kernel
theorem dX2_findSums_38 : decode cX2_findSums 38 = .ok (.iadd, 1) := by decide +kernel
theorem dX2_findSums_39 : decode cX2_findSums 39 = .ok (.invokevirtual 94, 3) := by decide +kernel
theorem dX2_findSums_42 : decode cX2_findSums 42 = .ok (.lstore 7, 2) := by decide +kernel
theorem dX2_findSums_44 : decode cX2_findSums 44 = .ok (.iload 4, 2) := by decide +kernel
theorem dX2_findSums_46 : decode cX2_findSums 46 = .ok (.ifCond .le 73, 3) := by decide +kernel
theorem dX2_findSums_49 : decode cX2_findSums 49 = .ok (.lload 7, 2) := by decide +kernel
theorem dX2_findSums_51 : decode cX2_findSums 51 = .ok (.aload_n 0, 1) := by decide +kernel
theorem dX2_findSums_52 : decode cX2_findSums 52 = .ok (.getfield 25, 3) := by decide +kernel
theorem dX2_findSums_55 : decode cX2_findSums 55 = .ok (.iload_n 2, 1) := by decide +kernel
theorem dX2_findSums_56 : decode cX2_findSums 56 = .ok (.bipush 81, 2) := by decide +kernel
theorem dX2_findSums_58 : decode cX2_findSums 58 = .ok (.imul, 1) := by decide +kernel
theorem dX2_findSums_59 : decode cX2_findSums 59 = .ok (.iload 5, 2) := by decide +kernel
theorem dX2_findSums_61 : decode cX2_findSums 61 = .ok (.iconst 1, 1) := by decide +kernel
theorem dX2_findSums_62 : decode cX2_findSums 62 = .ok (.iadd, 1) := by decide +kernel
theorem dX2_findSums_63 : decode cX2_findSums 63 = .ok (.bipush 9, 2) := by decide +kernel
theorem dX2_findSums_65 : decode cX2_findSums 65 = .ok (.imul, 1) := by decide +kernel
theorem dX2_findSums_66 : decode cX2_findSums 66 = .ok (.iadd, 1) := by decide +kernel
theorem dX2_findSums_67 : decode cX2_findSums 67 = .ok (.iload 6, 2) := by decide +kernel
theorem dX2_findSums_69 : decode cX2_findSums 69 = .ok (.iadd, 1) := by decide +kernel
theorem dX2_findSums_70 : decode cX2_findSums 70 = .ok (.laload, 1) := by decide +kernel
theorem dX2_findSums_71 : decode cX2_findSums 71 = .ok (.invokestatic 98, 3) := by decide +kernel
theorem dX2_findSums_74 : decode cX2_findSums 74 = .ok (.lstore 7, 2) := by decide +kernel
theorem dX2_findSums_76 : decode cX2_findSums 76 = .ok (.lload 7, 2) := by decide +kernel
theorem dX2_findSums_78 : decode cX2_findSums 78 = .ok (.aload_n 0, 1) := by decide +kernel
theorem dX2_findSums_79 : decode cX2_findSums 79 = .ok (.getfield 25, 3) := by decide +kernel
theorem dX2_findSums_82 : decode cX2_findSums 82 = .ok (.iload_n 2, 1) := by decide +kernel
theorem dX2_findSums_83 : decode cX2_findSums 83 = .ok (.bipush 81, 2) := by decide +kernel
theorem dX2_findSums_85 : decode cX2_findSums 85 = .ok (.imul, 1) := by decide +kernel
theorem dX2_findSums_86 : decode cX2_findSums 86 = .ok (.iload 5, 2) := by decide +kernel
theorem dX2_findSums_88 : decode cX2_findSums 88 = .ok (.bipush 9, 2) := by decide +kernel
theorem dX2_findSums_90 : decode cX2_findSums 90 = .ok (.imul, 1) := by decide +kernel
theorem dX2_findSums_91 : decode cX2_findSums 91 = .ok (.iadd, 1) := by decide +kernel
theorem dX2_findSums_92 : decode cX2_findSums 92 = .ok (.iload 6, 2) := by decide +kernel
theorem dX2_findSums_94 : decode cX2_findSums 94 = .ok (.iadd, 1) := by decide +kernel
theorem dX2_findSums_95 : decode cX2_findSums 95 = .ok (.iconst 1, 1) := by decide +kernel
theorem dX2_findSums_96 : decode cX2_findSums 96 = .ok (.isub, 1) := by decide +kernel
theorem dX2_findSums_97 : decode cX2_findSums 97 = .ok (.laload, 1) := by decide +kernel
theorem dX2_findSums_98 : decode cX2_findSums 98 = .ok (.invokestatic 98, 3) := by decide +kernel
theorem dX2_findSums_101 : decode cX2_findSums 101 = .ok (.lstore 7, 2) := by decide +kernel
theorem dX2_findSums_103 : decode cX2_findSums 103 = .ok (.lload 7, 2) := by decide +kernel
theorem dX2_findSums_105 : decode cX2_findSums 105 = .ok (.aload_n 0, 1) := by decide +kernel
theorem dX2_findSums_106 : decode cX2_findSums 106 = .ok (.iload_n 2, 1) := by decide +kernel
theorem dX2_findSums_107 : decode cX2_findSums 107 = .ok (.iload 5, 2) := by decide +kernel
theorem dX2_findSums_109 : decode cX2_findSums 109 = .ok (.iload 6, 2) := by decide +kernel
theorem dX2_findSums_111 : decode cX2_findSums 111 = .ok (.invokevirtual 101, 3) := by decide +kernel
theorem dX2_findSums_114 : decode cX2_findSums 114 = .ok (.invokestatic 98, 3) := by decide +kernel
theorem dX2_findSums_117 : decode cX2_findSums 117 = .ok (.lstore 7, 2) := by decide +kernel
theorem dX2_findSums_119 : decode cX2_findSums 119 = .ok (.aload_n 0, 1) := by decide +kernel
theorem dX2_findSums_120 : decode cX2_findSums 120 = .ok (.getfield 25, 3) := by decide +kernel
theorem dX2_findSums_123 : decode cX2_findSums 123 = .ok (.iload_n 2, 1) := by decide +kernel
theorem dX2_findSums_124 : decode cX2_findSums 124 = .ok (.bipush 81, 2) := by decide +kernel
theorem dX2_findSums_126 : decode cX2_findSums 126 = .ok (.imul, 1) := by decide +kernel
theorem dX2_findSums_127 : decode cX2_findSums 127 = .ok (.iload 5, 2) := by decide +kernel
theorem dX2_findSums_129 : decode cX2_findSums 129 = .ok (.bipush 9, 2) := by decide +kernel
theorem dX2_findSums_131 : decode cX2_findSums 131 = .ok (.imul, 1) := by decide +kernel
theorem dX2_findSums_132 : decode cX2_findSums 132 = .ok (.iadd, 1) := by decide +kernel
theorem dX2_findSums_133 : decode cX2_findSums 133 = .ok (.iload 6, 2) := by decide +kernel
theorem dX2_findSums_135 : decode cX2_findSums 135 = .ok (.iadd, 1) := by decide +kernel
theorem dX2_findSums_136 : decode cX2_findSums 136 = .ok (.lload 7, 2) := by decide +kernel
theorem dX2_findSums_138 : decode cX2_findSums 138 = .ok (.lastore, 1) := by decide +kernel
theorem dX2_findSums_139 : decode cX2_findSums 139 = .ok (.iinc 5 1, 3) := by decide +kernel
theorem dX2_findSums_142 : decode cX2_findSums 142 = .ok (.goto (-130), 3) := by decide +kernel
theorem dX2_findSums_145 : decode cX2_findSums 145 = .ok (.iinc 4 1, 3) := by decide +kernel
theorem dX2_findSums_148 : decode cX2_findSums 148 = .ok (.goto (-145), 3) := by decide +kernel
theorem dX2_findSums_151 : decode cX2_findSums 151 = .ok (.return_, 1) := by decide +kernel
set_option maxRecDepth 20000 in
theorem ggX2_filled_X7_has : GoodIn wsX2_filled wsX7_has := goodIn_r _ [11] (by decide +kernel) (by decide +kernel)
set_option maxRecDepth 20000 in
theorem gX2_filled_X7_has_n37 : GoodIn wsX2_filled (wsX7_has) := ggX2_filled_X7_has
theorem dX2_filled_0 : decode cX2_filled 0 = .ok (.ldc2_w 105, 3) := by decide +kernel
theorem dX2_filled_3 : decode cX2_filled 3 = .ok (.lstore 4, 2) := by decide +kernel
theorem dX2_filled_5 : decode cX2_filled 5 = .ok (.iconst 0, 1) := by decide +kernel
theorem dX2_filled_6 : decode cX2_filled 6 = .ok (.istore 6, 2) := by decide +kernel
theorem dX2_filled_8 : decode cX2_filled 8 = .ok (.iload 6, 2) := by decide +kernel
theorem dX2_filled_10 : decode cX2_filled 10 = .ok (.iconst 5, 1) := by decide +kernel
theorem dX2_filled_11 : decode cX2_filled 11 = .ok (.if_icmp .ge 72, 3) := by decide +kernel
theorem dX2_filled_14 : decode cX2_filled 14 = .ok (.iload_n 2, 1) := by decide +kernel
theorem dX2_filled_15 : decode cX2_filled 15 = .ok (.iload 6, 2) := by decide +kernel
theorem dX2_filled_17 : decode cX2_filled 17 = .ok (.invokestatic 37, 3) := by decide +kernel
theorem dX2_filled_20 : decode cX2_filled 20 = .ok (.ifCond .eq 57, 3) := by decide +kernel
theorem dX2_filled_23 : decode cX2_filled 23 = .ok (.aload_n 1, 1) := by decide +kernel
theorem dX2_filled_24 : decode cX2_filled 24 = .ok (.getfield 91, 3) := by decide +kernel
theorem dX2_filled_27 : decode cX2_filled 27 = .ok (.iload 6, 2) := by decide +kernel
theorem dX2_filled_29 : decode cX2_filled 29 = .ok (.iaload, 1) := by decide +kernel
theorem dX2_filled_30 : decode cX2_filled 30 = .ok (.iload_n 2, 1) := by decide +kernel
theorem dX2_filled_31 : decode cX2_filled 31 = .ok (.iand, 1) := by decide +kernel
theorem dX2_filled_32 : decode cX2_filled 32 = .ok (.ifCond .ne 45, 3) := by decide +kernel
theorem dX2_filled_35 : decode cX2_filled 35 = .ok (.iload_n 2, 1) := by decide +kernel
theorem dX2_filled_36 : decode cX2_filled 36 = .ok (.iconst 1, 1) := by decide +kernel
theorem dX2_filled_37 : decode cX2_filled 37 = .ok (.iload 6, 2) := by decide +kernel
theorem dX2_filled_39 : decode cX2_filled 39 = .ok (.ishl, 1) := by decide +kernel
theorem dX2_filled_40 : decode cX2_filled 40 = .ok (.iconst (-1), 1) := by decide +kernel
theorem dX2_filled_41 : decode cX2_filled 41 = .ok (.ixor, 1) := by decide +kernel
theorem dX2_filled_42 : decode cX2_filled 42 = .ok (.iand, 1) := by decide +kernel
theorem dX2_filled_43 : decode cX2_filled 43 = .ok (.istore 7, 2) := by decide +kernel
theorem dX2_filled_45 : decode cX2_filled 45 = .ok (.lload 4, 2) := by decide +kernel
theorem dX2_filled_47 : decode cX2_filled 47 = .ok (.aload_n 0, 1) := by decide +kernel
theorem dX2_filled_48 : decode cX2_filled 48 = .ok (.getfield 21, 3) := by decide +kernel
theorem dX2_filled_51 : decode cX2_filled 51 = .ok (.iload 6, 2) := by decide +kernel
theorem dX2_filled_53 : decode cX2_filled 53 = .ok (.bipush 81, 2) := by decide +kernel
theorem dX2_filled_55 : decode cX2_filled 55 = .ok (.imul, 1) := by decide +kernel
theorem dX2_filled_56 : decode cX2_filled 56 = .ok (.iload_n 3, 1) := by decide +kernel
theorem dX2_filled_57 : decode cX2_filled 57 = .ok (.iadd, 1) := by decide +kernel
theorem dX2_filled_58 : decode cX2_filled 58 = .ok (.laload, 1) := by decide +kernel
theorem dX2_filled_59 : decode cX2_filled 59 = .ok (.aload_n 0, 1) := by decide +kernel
theorem dX2_filled_60 : decode cX2_filled 60 = .ok (.getfield 25, 3) := by decide +kernel
theorem dX2_filled_63 : decode cX2_filled 63 = .ok (.iload 7, 2) := by decide +kernel
theorem dX2_filled_65 : decode cX2_filled 65 = .ok (.bipush 81, 2) := by decide +kernel
theorem dX2_filled_67 : decode cX2_filled 67 = .ok (.imul, 1) := by decide +kernel
theorem dX2_filled_68 : decode cX2_filled 68 = .ok (.iload_n 3, 1) := by decide +kernel
theorem dX2_filled_69 : decode cX2_filled 69 = .ok (.iadd, 1) := by decide +kernel
theorem dX2_filled_70 : decode cX2_filled 70 = .ok (.laload, 1) := by decide +kernel
theorem dX2_filled_71 : decode cX2_filled 71 = .ok (.ladd, 1) := by decide +kernel
theorem dX2_filled_72 : decode cX2_filled 72 = .ok (.invokestatic 98, 3) := by decide +kernel
theorem dX2_filled_75 : decode cX2_filled 75 = .ok (.lstore 4, 2) := by decide +kernel
theorem dX2_filled_77 : decode cX2_filled 77 = .ok (.iinc 6 1, 3) := by decide +kernel
theorem dX2_filled_80 : decode cX2_filled 80 = .ok (.goto (-72), 3) := by decide +kernel
theorem dX2_filled_83 : decode cX2_filled 83 = .ok (.lload 4, 2) := by decide +kernel
theorem dX2_filled_85 : decode cX2_filled 85 = .ok (.lreturn, 1) := by decide +kernel
theorem dX2_parted_0 : decode cX2_parted 0 = .ok (.ldc2_w 105, 3) := by decide +kernel
theorem dX2_parted_3 : decode cX2_parted 3 = .ok (.lstore 4, 2) := by decide +kernel
theorem dX2_parted_5 : decode cX2_parted 5 = .ok (.iconst 0, 1) := by decide +kernel
theorem dX2_parted_6 : decode cX2_parted 6 = .ok (.istore 6, 2) := by decide +kernel
theorem dX2_parted_8 : decode cX2_parted 8 = .ok (.iload 6, 2) := by decide +kernel
theorem dX2_parted_10 : decode cX2_parted 10 = .ok (.aload_n 0, 1) := by decide +kernel
theorem dX2_parted_11 : decode cX2_parted 11 = .ok (.getfield 81, 3) := by decide +kernel
theorem dX2_parted_14 : decode cX2_parted 14 = .ok (.if_icmp .ge 90, 3) := by decide +kernel
theorem dX2_parted_17 : decode cX2_parted 17 = .ok (.aload_n 0, 1) := by decide +kernel
theorem dX2_parted_18 : decode cX2_parted 18 = .ok (.getfield 28, 3) := by decide +kernel
theorem dX2_parted_21 : decode cX2_parted 21 = .ok (.iload 6, 2) := by decide +kernel
theorem dX2_parted_23 : decode cX2_parted 23 = .ok (.iaload, 1) := by decide +kernel
theorem dX2_parted_24 : decode cX2_parted 24 = .ok (.bipush 81, 2) := by decide +kernel
theorem dX2_parted_26 : decode cX2_parted 26 = .ok (.imul, 1) := by decide +kernel
theorem dX2_parted_27 : decode cX2_parted 27 = .ok (.iload_n 2, 1) := by decide +kernel
theorem dX2_parted_28 : decode cX2_parted 28 = .ok (.bipush 9, 2) := by decide +kernel
theorem dX2_parted_30 : decode cX2_parted 30 = .ok (.imul, 1) := by decide +kernel
theorem dX2_parted_31 : decode cX2_parted 31 = .ok (.iadd, 1) := by decide +kernel
theorem dX2_parted_32 : decode cX2_parted 32 = .ok (.istore 7, 2) := by decide +kernel
theorem dX2_parted_34 : decode cX2_parted 34 = .ok (.iload_n 1, 1) := by decide +kernel
theorem dX2_parted_35 : decode cX2_parted 35 = .ok (.aload_n 0, 1) := by decide +kernel
theorem dX2_parted_36 : decode cX2_parted 36 = .ok (.getfield 28, 3) := by decide +kernel
theorem dX2_parted_39 : decode cX2_parted 39 = .ok (.iload 6, 2) := by decide +kernel
theorem dX2_parted_41 : decode cX2_parted 41 = .ok (.iaload, 1) := by decide +kernel
theorem dX2_parted_42 : decode cX2_parted 42 = .ok (.iconst (-1), 1) := by decide +kernel
theorem dX2_parted_43 : decode cX2_parted 43 = .ok (.ixor, 1) := by decide +kernel
theorem dX2_parted_44 : decode cX2_parted 44 = .ok (.iand, 1) := by decide +kernel
theorem dX2_parted_45 : decode cX2_parted 45 = .ok (.bipush 81, 2) := by decide +kernel
theorem dX2_parted_47 : decode cX2_parted 47 = .ok (.imul, 1) := by decide +kernel
theorem dX2_parted_48 : decode cX2_parted 48 = .ok (.iload_n 3, 1) := by decide +kernel
theorem dX2_parted_49 : decode cX2_parted 49 = .ok (.iadd, 1) := by decide +kernel
theorem dX2_parted_50 : decode cX2_parted 50 = .ok (.istore 8, 2) := by decide +kernel
theorem dX2_parted_52 : decode cX2_parted 52 = .ok (.iload_n 2, 1) := by decide +kernel
theorem dX2_parted_53 : decode cX2_parted 53 = .ok (.istore 9, 2) := by decide +kernel
theorem dX2_parted_55 : decode cX2_parted 55 = .ok (.iload 9, 2) := by decide +kernel
theorem dX2_parted_57 : decode cX2_parted 57 = .ok (.iload_n 3, 1) := by decide +kernel
theorem dX2_parted_58 : decode cX2_parted 58 = .ok (.if_icmp .ge 40, 3) := by decide +kernel
theorem dX2_parted_61 : decode cX2_parted 61 = .ok (.lload 4, 2) := by decide +kernel
theorem dX2_parted_63 : decode cX2_parted 63 = .ok (.aload_n 0, 1) := by decide +kernel
theorem dX2_parted_64 : decode cX2_parted 64 = .ok (.getfield 25, 3) := by decide +kernel
theorem dX2_parted_67 : decode cX2_parted 67 = .ok (.iload 7, 2) := by decide +kernel
theorem dX2_parted_69 : decode cX2_parted 69 = .ok (.iload 9, 2) := by decide +kernel
theorem dX2_parted_71 : decode cX2_parted 71 = .ok (.iadd, 1) := by decide +kernel
theorem dX2_parted_72 : decode cX2_parted 72 = .ok (.laload, 1) := by decide +kernel
theorem dX2_parted_73 : decode cX2_parted 73 = .ok (.aload_n 0, 1) := by decide +kernel
theorem dX2_parted_74 : decode cX2_parted 74 = .ok (.getfield 25, 3) := by decide +kernel
theorem dX2_parted_77 : decode cX2_parted 77 = .ok (.iload 8, 2) := by decide +kernel
theorem dX2_parted_79 : decode cX2_parted 79 = .ok (.iload 9, 2) := by decide +kernel
theorem dX2_parted_81 : decode cX2_parted 81 = .ok (.bipush 9, 2) := by decide +kernel
theorem dX2_parted_83 : decode cX2_parted 83 = .ok (.imul, 1) := by decide +kernel
theorem dX2_parted_84 : decode cX2_parted 84 = .ok (.iadd, 1) := by decide +kernel
theorem dX2_parted_85 : decode cX2_parted 85 = .ok (.laload, 1) := by decide +kernel
theorem dX2_parted_86 : decode cX2_parted 86 = .ok (.ladd, 1) := by decide +kernel
theorem dX2_parted_87 : decode cX2_parted 87 = .ok (.invokestatic 98, 3) := by decide +kernel
theorem dX2_parted_90 : decode cX2_parted 90 = .ok (.lstore 4, 2) := by decide +kernel
theorem dX2_parted_92 : decode cX2_parted 92 = .ok (.iinc 9 1, 3) := by decide +kernel
theorem dX2_parted_95 : decode cX2_parted 95 = .ok (.goto (-40), 3) := by decide +kernel
theorem dX2_parted_98 : decode cX2_parted 98 = .ok (.iinc 6 1, 3) := by decide +kernel
theorem dX2_parted_101 : decode cX2_parted 101 = .ok (.goto (-93), 3) := by decide +kernel
theorem dX2_parted_104 : decode cX2_parted 104 = .ok (.lload 4, 2) := by decide +kernel
theorem dX2_parted_106 : decode cX2_parted 106 = .ok (.lreturn, 1) := by decide +kernel
set_option maxRecDepth 20000 in
theorem ggX2_readSpans_X7_has : GoodIn wsX2_readSpans wsX7_has := goodIn_r _ [9] (by decide +kernel) (by decide +kernel)
set_option maxRecDepth 20000 in
theorem gX2_readSpans_X7_has_n37 : GoodIn wsX2_readSpans (wsX7_has) := ggX2_readSpans_X7_has
set_option maxRecDepth 20000 in
theorem ggX2_readSpans_X2_shiftOf : GoodIn wsX2_readSpans wsX2_shiftOf := goodIn_r _ [13] (by decide +kernel) (by decide +kernel)
set_option maxRecDepth 20000 in
theorem gX2_readSpans_X2_shiftOf : GoodIn wsX2_readSpans (va_wsS RX2 61 yX2_shiftOf wsX2_shiftOf) := goodIn_app (goodIn_of _ (by decide +kernel)) ggX2_readSpans_X2_shiftOf
set_option maxRecDepth 20000 in
theorem ggX2_readSpans_X2_costOf : GoodIn wsX2_readSpans wsX2_costOf := goodIn_r _ [16, 17, 18, 19, 20, 21, 22, 23, 24, 25, 26] (by decide +kernel) (by decide +kernel)
set_option maxRecDepth 20000 in
theorem gX2_readSpans_X2_costOf : GoodIn wsX2_readSpans (va_wsS RX2 65 yX2_costOf wsX2_costOf) := goodIn_app (goodIn_of _ (by decide +kernel)) ggX2_readSpans_X2_costOf
theorem dX2_readSpans_0 : decode cX2_readSpans 0 = .ok (.aload_n 0, 1) := by decide +kernel
theorem dX2_readSpans_1 : decode cX2_readSpans 1 = .ok (.lload_n 3, 1) := by decide +kernel
theorem dX2_readSpans_2 : decode cX2_readSpans 2 = .ok (.bipush 40, 2) := by decide +kernel
theorem dX2_readSpans_4 : decode cX2_readSpans 4 = .ok (.lshr, 1) := by decide +kernel
theorem dX2_readSpans_5 : decode cX2_readSpans 5 = .ok (.l2i, 1) := by decide +kernel
theorem dX2_readSpans_6 : decode cX2_readSpans 6 = .ok (.putfield 107, 3) := by decide +kernel
theorem dX2_readSpans_9 : decode cX2_readSpans 9 = .ok (.iconst 0, 1) := by decide +kernel
theorem dX2_readSpans_10 : decode cX2_readSpans 10 = .ok (.istore 5, 2) := by decide +kernel
theorem dX2_readSpans_12 : decode cX2_readSpans 12 = .ok (.iload 5, 2) := by decide +kernel
theorem dX2_readSpans_14 : decode cX2_readSpans 14 = .ok (.iconst 5, 1) := by decide +kernel
theorem dX2_readSpans_15 : decode cX2_readSpans 15 = .ok (.if_icmp .ge 94, 3) := by decide +kernel
theorem dX2_readSpans_18 : decode cX2_readSpans 18 = .ok (.iload_n 1, 1) := by decide +kernel
theorem dX2_readSpans_19 : decode cX2_readSpans 19 = .ok (.iload 5, 2) := by decide +kernel
theorem dX2_readSpans_21 : decode cX2_readSpans 21 = .ok (.invokestatic 37, 3) := by decide +kernel
theorem dX2_readSpans_24 : decode cX2_readSpans 24 = .ok (.ifCond .eq 79, 3) := by decide +kernel
theorem dX2_readSpans_27 : decode cX2_readSpans 27 = .ok (.lload_n 3, 1) := by decide +kernel
theorem dX2_readSpans_28 : decode cX2_readSpans 28 = .ok (.iload 5, 2) := by decide +kernel
theorem dX2_readSpans_30 : decode cX2_readSpans 30 = .ok (.invokestatic 61, 3) := by decide +kernel
theorem dX2_readSpans_33 : decode cX2_readSpans 33 = .ok (.lshr, 1) := by decide +kernel
theorem dX2_readSpans_34 : decode cX2_readSpans 34 = .ok (.l2i, 1) := by decide +kernel
theorem dX2_readSpans_35 : decode cX2_readSpans 35 = .ok (.istore 6, 2) := by decide +kernel
theorem dX2_readSpans_37 : decode cX2_readSpans 37 = .ok (.aload_n 0, 1) := by decide +kernel
theorem dX2_readSpans_38 : decode cX2_readSpans 38 = .ok (.getfield 11, 3) := by decide +kernel
theorem dX2_readSpans_41 : decode cX2_readSpans 41 = .ok (.iload 5, 2) := by decide +kernel
theorem dX2_readSpans_43 : decode cX2_readSpans 43 = .ok (.iload 6, 2) := by decide +kernel
theorem dX2_readSpans_45 : decode cX2_readSpans 45 = .ok (.iconst 4, 1) := by decide +kernel
theorem dX2_readSpans_46 : decode cX2_readSpans 46 = .ok (.ishr, 1) := by decide +kernel
theorem dX2_readSpans_47 : decode cX2_readSpans 47 = .ok (.bipush 15, 2) := by decide +kernel
theorem dX2_readSpans_49 : decode cX2_readSpans 49 = .ok (.iand, 1) := by decide +kernel
theorem dX2_readSpans_50 : decode cX2_readSpans 50 = .ok (.iastore, 1) := by decide +kernel
theorem dX2_readSpans_51 : decode cX2_readSpans 51 = .ok (.aload_n 0, 1) := by decide +kernel
theorem dX2_readSpans_52 : decode cX2_readSpans 52 = .ok (.getfield 15, 3) := by decide +kernel
theorem dX2_readSpans_55 : decode cX2_readSpans 55 = .ok (.iload 5, 2) := by decide +kernel
theorem dX2_readSpans_57 : decode cX2_readSpans 57 = .ok (.iload 6, 2) := by decide +kernel
theorem dX2_readSpans_59 : decode cX2_readSpans 59 = .ok (.bipush 15, 2) := by decide +kernel
theorem dX2_readSpans_61 : decode cX2_readSpans 61 = .ok (.iand, 1) := by decide +kernel
theorem dX2_readSpans_62 : decode cX2_readSpans 62 = .ok (.iastore, 1) := by decide +kernel
theorem dX2_readSpans_63 : decode cX2_readSpans 63 = .ok (.aload_n 0, 1) := by decide +kernel
theorem dX2_readSpans_64 : decode cX2_readSpans 64 = .ok (.getfield 18, 3) := by decide +kernel
theorem dX2_readSpans_67 : decode cX2_readSpans 67 = .ok (.iload 5, 2) := by decide +kernel
theorem dX2_readSpans_69 : decode cX2_readSpans 69 = .ok (.iload 5, 2) := by decide +kernel
theorem dX2_readSpans_71 : decode cX2_readSpans 71 = .ok (.aload_n 2, 1) := by decide +kernel
theorem dX2_readSpans_72 : decode cX2_readSpans 72 = .ok (.getfield 41, 3) := by decide +kernel
theorem dX2_readSpans_75 : decode cX2_readSpans 75 = .ok (.iload 5, 2) := by decide +kernel
theorem dX2_readSpans_77 : decode cX2_readSpans 77 = .ok (.iaload, 1) := by decide +kernel
theorem dX2_readSpans_78 : decode cX2_readSpans 78 = .ok (.aload_n 2, 1) := by decide +kernel
theorem dX2_readSpans_79 : decode cX2_readSpans 79 = .ok (.getfield 44, 3) := by decide +kernel
theorem dX2_readSpans_82 : decode cX2_readSpans 82 = .ok (.iload 5, 2) := by decide +kernel
theorem dX2_readSpans_84 : decode cX2_readSpans 84 = .ok (.iaload, 1) := by decide +kernel
theorem dX2_readSpans_85 : decode cX2_readSpans 85 = .ok (.aload_n 0, 1) := by decide +kernel
theorem dX2_readSpans_86 : decode cX2_readSpans 86 = .ok (.getfield 11, 3) := by decide +kernel
theorem dX2_readSpans_89 : decode cX2_readSpans 89 = .ok (.iload 5, 2) := by decide +kernel
theorem dX2_readSpans_91 : decode cX2_readSpans 91 = .ok (.iaload, 1) := by decide +kernel
theorem dX2_readSpans_92 : decode cX2_readSpans 92 = .ok (.aload_n 0, 1) := by decide +kernel
theorem dX2_readSpans_93 : decode cX2_readSpans 93 = .ok (.getfield 15, 3) := by decide +kernel
theorem dX2_readSpans_96 : decode cX2_readSpans 96 = .ok (.iload 5, 2) := by decide +kernel
theorem dX2_readSpans_98 : decode cX2_readSpans 98 = .ok (.iaload, 1) := by decide +kernel
theorem dX2_readSpans_99 : decode cX2_readSpans 99 = .ok (.invokestatic 65, 3) := by decide +kernel
theorem dX2_readSpans_102 : decode cX2_readSpans 102 = .ok (.iastore, 1) := by decide +kernel
theorem dX2_readSpans_103 : decode cX2_readSpans 103 = .ok (.iinc 5 1, 3) := by decide +kernel
theorem dX2_readSpans_106 : decode cX2_readSpans 106 = .ok (.goto (-94), 3) := by decide +kernel
theorem dX2_readSpans_109 : decode cX2_readSpans 109 = .ok (.return_, 1) := by decide +kernel
set_option maxRecDepth 20000 in
theorem ggX3_init_X4_init : GoodIn wsX3_init wsX4_init := goodIn_r _ [11, 12, 2, 3, 8, 13, 14, 15, 16, 17, 18, 19, 20, 21, 22, 23, 24, 25, 26, 27, 28, 29, 30, 31] (by decide +kernel) (by decide +kernel)
set_option maxRecDepth 20000 in
theorem gX3_init_X4_init_n11 : GoodIn wsX3_init (wsX4_init) := ggX3_init_X4_init
theorem dX3_init_0 : decode cX3_init 0 = .ok (.aload_n 0, 1) := by decide +kernel
theorem dX3_init_1 : decode cX3_init 1 = .ok (.invokespecial 3, 3) := by decide +kernel
theorem dX3_init_4 : decode cX3_init 4 = .ok (.aload_n 0, 1) := by decide +kernel
theorem dX3_init_5 : decode cX3_init 5 = .ok (.new 9, 3) := by decide +kernel
theorem dX3_init_8 : decode cX3_init 8 = .ok (.dup, 1) := by decide +kernel
theorem dX3_init_9 : decode cX3_init 9 = .ok (.invokespecial 11, 3) := by decide +kernel
theorem dX3_init_12 : decode cX3_init 12 = .ok (.putfield 12, 3) := by decide +kernel
theorem dX3_init_15 : decode cX3_init 15 = .ok (.aload_n 0, 1) := by decide +kernel
theorem dX3_init_16 : decode cX3_init 16 = .ok (.bipush 12, 2) := by decide +kernel
theorem dX3_init_18 : decode cX3_init 18 = .ok (.newarray .int, 2) := by decide +kernel
theorem dX3_init_20 : decode cX3_init 20 = .ok (.putfield 18, 3) := by decide +kernel
theorem dX3_init_23 : decode cX3_init 23 = .ok (.return_, 1) := by decide +kernel
set_option maxRecDepth 20000 in
theorem ggX3_copy_X4_copy : GoodIn wsX3_copy wsX4_copy := goodIn_r _ [8, 9, 10, 11, 12, 13, 14, 15, 16, 17, 18, 19, 20, 24, 25, 26, 27, 28, 29, 30, 31, 32, 33, 34, 35] (by decide +kernel) (by decide +kernel)
set_option maxRecDepth 20000 in
theorem gX3_copy_X4_copy : GoodIn wsX3_copy (wsV RX3 22 RX4 yX4_copy wsX4_copy) := goodIn_app (goodIn_of _ (by decide +kernel)) ggX3_copy_X4_copy
theorem dX3_copy_0 : decode cX3_copy 0 = .ok (.aload_n 0, 1) := by decide +kernel
theorem dX3_copy_1 : decode cX3_copy 1 = .ok (.getfield 12, 3) := by decide +kernel
theorem dX3_copy_4 : decode cX3_copy 4 = .ok (.aload_n 1, 1) := by decide +kernel
theorem dX3_copy_5 : decode cX3_copy 5 = .ok (.getfield 12, 3) := by decide +kernel
theorem dX3_copy_8 : decode cX3_copy 8 = .ok (.invokevirtual 22, 3) := by decide +kernel
theorem dX3_copy_11 : decode cX3_copy 11 = .ok (.aload_n 0, 1) := by decide +kernel
theorem dX3_copy_12 : decode cX3_copy 12 = .ok (.aload_n 1, 1) := by decide +kernel
theorem dX3_copy_13 : decode cX3_copy 13 = .ok (.getfield 26, 3) := by decide +kernel
theorem dX3_copy_16 : decode cX3_copy 16 = .ok (.putfield 26, 3) := by decide +kernel
theorem dX3_copy_19 : decode cX3_copy 19 = .ok (.iconst 0, 1) := by decide +kernel
theorem dX3_copy_20 : decode cX3_copy 20 = .ok (.istore_n 2, 1) := by decide +kernel
theorem dX3_copy_21 : decode cX3_copy 21 = .ok (.iload_n 2, 1) := by decide +kernel
theorem dX3_copy_22 : decode cX3_copy 22 = .ok (.bipush 12, 2) := by decide +kernel
theorem dX3_copy_24 : decode cX3_copy 24 = .ok (.if_icmp .ge 21, 3) := by decide +kernel
theorem dX3_copy_27 : decode cX3_copy 27 = .ok (.aload_n 0, 1) := by decide +kernel
theorem dX3_copy_28 : decode cX3_copy 28 = .ok (.getfield 18, 3) := by decide +kernel
theorem dX3_copy_31 : decode cX3_copy 31 = .ok (.iload_n 2, 1) := by decide +kernel
theorem dX3_copy_32 : decode cX3_copy 32 = .ok (.aload_n 1, 1) := by decide +kernel
theorem dX3_copy_33 : decode cX3_copy 33 = .ok (.getfield 18, 3) := by decide +kernel
theorem dX3_copy_36 : decode cX3_copy 36 = .ok (.iload_n 2, 1) := by decide +kernel
theorem dX3_copy_37 : decode cX3_copy 37 = .ok (.iaload, 1) := by decide +kernel
theorem dX3_copy_38 : decode cX3_copy 38 = .ok (.iastore, 1) := by decide +kernel
theorem dX3_copy_39 : decode cX3_copy 39 = .ok (.iinc 2 1, 3) := by decide +kernel
theorem dX3_copy_42 : decode cX3_copy 42 = .ok (.goto (-21), 3) := by decide +kernel
theorem dX3_copy_45 : decode cX3_copy 45 = .ok (.return_, 1) := by decide +kernel
theorem dX3_dropLinks_0 : decode cX3_dropLinks 0 = .ok (.iconst 0, 1) := by decide +kernel
theorem dX3_dropLinks_1 : decode cX3_dropLinks 1 = .ok (.istore_n 1, 1) := by decide +kernel
theorem dX3_dropLinks_2 : decode cX3_dropLinks 2 = .ok (.iload_n 1, 1) := by decide +kernel
theorem dX3_dropLinks_3 : decode cX3_dropLinks 3 = .ok (.bipush 12, 2) := by decide +kernel
theorem dX3_dropLinks_5 : decode cX3_dropLinks 5 = .ok (.if_icmp .ge 16, 3) := by decide +kernel
theorem dX3_dropLinks_8 : decode cX3_dropLinks 8 = .ok (.aload_n 0, 1) := by decide +kernel
theorem dX3_dropLinks_9 : decode cX3_dropLinks 9 = .ok (.getfield 18, 3) := by decide +kernel
theorem dX3_dropLinks_12 : decode cX3_dropLinks 12 = .ok (.iload_n 1, 1) := by decide +kernel
theorem dX3_dropLinks_13 : decode cX3_dropLinks 13 = .ok (.iconst 0, 1) := by decide +kernel
theorem dX3_dropLinks_14 : decode cX3_dropLinks 14 = .ok (.iastore, 1) := by decide +kernel
theorem dX3_dropLinks_15 : decode cX3_dropLinks 15 = .ok (.iinc 1 1, 3) := by decide +kernel
theorem dX3_dropLinks_18 : decode cX3_dropLinks 18 = .ok (.goto (-16), 3) := by decide +kernel
theorem dX3_dropLinks_21 : decode cX3_dropLinks 21 = .ok (.return_, 1) := by decide +kernel
set_option maxRecDepth 20000 in
theorem ggX3_countLinks_J6_bitCount_0f7a4 : GoodIn wsX3_countLinks wsJ6_bitCount_0f7a4 := goodIn_r _ [5, 6, 7, 8] (by decide +kernel) (by decide +kernel)
set_option maxRecDepth 20000 in
theorem gX3_countLinks_J6_bitCount_0f7a4 : GoodIn wsX3_countLinks (va_wsS RX3 30 yJ6_bitCount_0f7a4 wsJ6_bitCount_0f7a4) := goodIn_app (goodIn_of _ (by decide +kernel)) ggX3_countLinks_J6_bitCount_0f7a4
theorem dX3_countLinks_0 : decode cX3_countLinks 0 = .ok (.iconst 0, 1) := by decide +kernel
theorem dX3_countLinks_1 : decode cX3_countLinks 1 = .ok (.istore_n 1, 1) := by decide +kernel
theorem dX3_countLinks_2 : decode cX3_countLinks 2 = .ok (.iconst 0, 1) := by decide +kernel
theorem dX3_countLinks_3 : decode cX3_countLinks 3 = .ok (.istore_n 2, 1) := by decide +kernel
theorem dX3_countLinks_4 : decode cX3_countLinks 4 = .ok (.iload_n 2, 1) := by decide +kernel
theorem dX3_countLinks_5 : decode cX3_countLinks 5 = .ok (.bipush 12, 2) := by decide +kernel
theorem dX3_countLinks_7 : decode cX3_countLinks 7 = .ok (.if_icmp .ge 21, 3) := by decide +kernel
theorem dX3_countLinks_10 : decode cX3_countLinks 10 = .ok (.iload_n 1, 1) := by decide +kernel
theorem dX3_countLinks_11 : decode cX3_countLinks 11 = .ok (.aload_n 0, 1) := by decide +kernel
theorem dX3_countLinks_12 : decode cX3_countLinks 12 = .ok (.getfield 18, 3) := by decide +kernel
theorem dX3_countLinks_15 : decode cX3_countLinks 15 = .ok (.iload_n 2, 1) := by decide +kernel
theorem dX3_countLinks_16 : decode cX3_countLinks 16 = .ok (.iaload, 1) := by decide +kernel
theorem dX3_countLinks_17 : decode cX3_countLinks 17 = .ok (.invokestatic 30, 3) := by decide +kernel
theorem dX3_countLinks_20 : decode cX3_countLinks 20 = .ok (.iadd, 1) := by decide +kernel
theorem dX3_countLinks_21 : decode cX3_countLinks 21 = .ok (.istore_n 1, 1) := by decide +kernel
theorem dX3_countLinks_22 : decode cX3_countLinks 22 = .ok (.iinc 2 1, 3) := by decide +kernel
theorem dX3_countLinks_25 : decode cX3_countLinks 25 = .ok (.goto (-21), 3) := by decide +kernel
theorem dX3_countLinks_28 : decode cX3_countLinks 28 = .ok (.iload_n 1, 1) := by decide +kernel
theorem dX3_countLinks_29 : decode cX3_countLinks 29 = .ok (.ireturn, 1) := by decide +kernel
theorem dX3_linkedBetween_0 : decode cX3_linkedBetween 0 = .ok (.iconst 0, 1) := by decide +kernel
theorem dX3_linkedBetween_1 : decode cX3_linkedBetween 1 = .ok (.istore_n 3, 1) := by decide +kernel
theorem dX3_linkedBetween_2 : decode cX3_linkedBetween 2 = .ok (.iconst 0, 1) := by decide +kernel
theorem dX3_linkedBetween_3 : decode cX3_linkedBetween 3 = .ok (.istore 4, 2) := by decide +kernel
theorem dX3_linkedBetween_5 : decode cX3_linkedBetween 5 = .ok (.iload 4, 2) := by decide +kernel
theorem dX3_linkedBetween_7 : decode cX3_linkedBetween 7 = .ok (.bipush 12, 2) := by decide +kernel
theorem dX3_linkedBetween_9 : decode cX3_linkedBetween 9 = .ok (.if_icmp .ge 31, 3) := by decide +kernel
theorem dX3_linkedBetween_12 : decode cX3_linkedBetween 12 = .ok (.iload 4, 2) := by decide +kernel
theorem dX3_linkedBetween_14 : decode cX3_linkedBetween 14 = .ok (.iload_n 1, 1) := by decide +kernel
theorem dX3_linkedBetween_15 : decode cX3_linkedBetween 15 = .ok (.if_icmp .lt 19, 3) := by decide +kernel
theorem dX3_linkedBetween_18 : decode cX3_linkedBetween 18 = .ok (.iload 4, 2) := by decide +kernel
theorem dX3_linkedBetween_20 : decode cX3_linkedBetween 20 = .ok (.iload_n 2, 1) := by decide +kernel
theorem dX3_linkedBetween_21 : decode cX3_linkedBetween 21 = .ok (.if_icmp .ge 13, 3) := by decide +kernel
theorem dX3_linkedBetween_24 : decode cX3_linkedBetween 24 = .ok (.iload_n 3, 1) := by decide +kernel
theorem dX3_linkedBetween_25 : decode cX3_linkedBetween 25 = .ok (.aload_n 0, 1) := by decide +kernel
theorem dX3_linkedBetween_26 : decode cX3_linkedBetween 26 = .ok (.getfield 18, 3) := by decide +kernel
theorem dX3_linkedBetween_29 : decode cX3_linkedBetween 29 = .ok (.iload 4, 2) := by decide +kernel
theorem dX3_linkedBetween_31 : decode cX3_linkedBetween 31 = .ok (.iaload, 1) := by decide +kernel
theorem dX3_linkedBetween_32 : decode cX3_linkedBetween 32 = .ok (.ior, 1) := by decide +kernel
theorem dX3_linkedBetween_33 : decode cX3_linkedBetween 33 = .ok (.istore_n 3, 1) := by decide +kernel
theorem dX3_linkedBetween_34 : decode cX3_linkedBetween 34 = .ok (.iinc 4 1, 3) := by decide +kernel
theorem dX3_linkedBetween_37 : decode cX3_linkedBetween 37 = .ok (.goto (-32), 3) := by decide +kernel
theorem dX3_linkedBetween_40 : decode cX3_linkedBetween 40 = .ok (.iload_n 3, 1) := by decide +kernel
theorem dX3_linkedBetween_41 : decode cX3_linkedBetween 41 = .ok (.ireturn, 1) := by decide +kernel
set_option maxRecDepth 20000 in
theorem ggX3_anchor_X3_behindGreatest : GoodIn wsX3_anchor wsX3_behindGreatest := goodIn_r _ [5, 6, 7, 8] (by decide +kernel) (by decide +kernel)
set_option maxRecDepth 20000 in
theorem gX3_anchor_X3_behindGreatest : GoodIn wsX3_anchor (va_wsS RX3 36 yX3_behindGreatest wsX3_behindGreatest) := goodIn_app (goodIn_of _ (by decide +kernel)) ggX3_anchor_X3_behindGreatest
theorem dX3_anchor_0 : decode cX3_anchor 0 = .ok (.iconst 0, 1) := by decide +kernel
theorem dX3_anchor_1 : decode cX3_anchor 1 = .ok (.istore_n 2, 1) := by decide +kernel
theorem dX3_anchor_2 : decode cX3_anchor 2 = .ok (.iconst 0, 1) := by decide +kernel
theorem dX3_anchor_3 : decode cX3_anchor 3 = .ok (.istore_n 3, 1) := by decide +kernel
theorem dX3_anchor_4 : decode cX3_anchor 4 = .ok (.iload_n 3, 1) := by decide +kernel
theorem dX3_anchor_5 : decode cX3_anchor 5 = .ok (.bipush 12, 2) := by decide +kernel
theorem dX3_anchor_7 : decode cX3_anchor 7 = .ok (.if_icmp .ge 30, 3) := by decide +kernel
theorem dX3_anchor_10 : decode cX3_anchor 10 = .ok (.iload_n 3, 1) := by decide +kernel
theorem dX3_anchor_11 : decode cX3_anchor 11 = .ok (.iload_n 1, 1) := by decide +kernel
theorem dX3_anchor_12 : decode cX3_anchor 12 = .ok (.if_icmp .ge 19, 3) := by decide +kernel
theorem dX3_anchor_15 : decode cX3_anchor 15 = .ok (.aload_n 0, 1) := by decide +kernel
theorem dX3_anchor_16 : decode cX3_anchor 16 = .ok (.getfield 18, 3) := by decide +kernel
theorem dX3_anchor_19 : decode cX3_anchor 19 = .ok (.iload_n 3, 1) := by decide +kernel
theorem dX3_anchor_20 : decode cX3_anchor 20 = .ok (.iaload, 1) := by decide +kernel
theorem dX3_anchor_21 : decode cX3_anchor 21 = .ok (.ifCond .eq 10, 3) := by decide +kernel
theorem dX3_anchor_24 : decode cX3_anchor 24 = .ok (.aload_n 0, 1) := by decide +kernel
theorem dX3_anchor_25 : decode cX3_anchor 25 = .ok (.getfield 18, 3) := by decide +kernel
theorem dX3_anchor_28 : decode cX3_anchor 28 = .ok (.iload_n 3, 1) := by decide +kernel
theorem dX3_anchor_29 : decode cX3_anchor 29 = .ok (.iaload, 1) := by decide +kernel
theorem dX3_anchor_30 : decode cX3_anchor 30 = .ok (.istore_n 2, 1) := by decide +kernel
theorem dX3_anchor_31 : decode cX3_anchor 31 = .ok (.iinc 3 1, 3) := by decide +kernel
theorem dX3_anchor_34 : decode cX3_anchor 34 = .ok (.goto (-30), 3) := by decide +kernel
theorem dX3_anchor_37 : decode cX3_anchor 37 = .ok (.iload_n 2, 1) := by decide +kernel
theorem dX3_anchor_38 : decode cX3_anchor 38 = .ok (.invokestatic 36, 3) := by decide +kernel
theorem dX3_anchor_41 : decode cX3_anchor 41 = .ok (.ireturn, 1) := by decide +kernel
set_option maxRecDepth 20000 in
theorem ggX3_least_X7_has : GoodIn wsX3_least wsX7_has := goodIn_r _ [3] (by decide +kernel) (by decide +kernel)
set_option maxRecDepth 20000 in
theorem gX3_least_X7_has_n39 : GoodIn wsX3_least (wsX7_has) := ggX3_least_X7_has
theorem dX3_least_0 : decode cX3_least 0 = .ok (.iconst 0, 1) := by decide +kernel
theorem dX3_least_1 : decode cX3_least 1 = .ok (.istore_n 1, 1) := by decide +kernel
theorem dX3_least_2 : decode cX3_least 2 = .ok (.iload_n 1, 1) := by decide +kernel
theorem dX3_least_3 : decode cX3_least 3 = .ok (.bipush 8, 2) := by decide +kernel
theorem dX3_least_5 : decode cX3_least 5 = .ok (.if_icmp .ge 19, 3) := by decide +kernel
theorem dX3_least_8 : decode cX3_least 8 = .ok (.iload_n 0, 1) := by decide +kernel
theorem dX3_least_9 : decode cX3_least 9 = .ok (.iload_n 1, 1) := by decide +kernel
theorem dX3_least_10 : decode cX3_least 10 = .ok (.invokestatic 39, 3) := by decide +kernel
theorem dX3_least_13 : decode cX3_least 13 = .ok (.ifCond .eq 5, 3) := by decide +kernel
theorem dX3_least_16 : decode cX3_least 16 = .ok (.iload_n 1, 1) := by decide +kernel
theorem dX3_least_17 : decode cX3_least 17 = .ok (.ireturn, 1) := by decide +kernel
theorem dX3_least_18 : decode cX3_least 18 = .ok (.iinc 1 1, 3) := by decide +kernel
theorem dX3_least_21 : decode cX3_least 21 = .ok (.goto (-19), 3) := by decide +kernel
theorem dX3_least_24 : decode cX3_least 24 = .ok (.iconst 0, 1) := by decide +kernel
theorem dX3_least_25 : decode cX3_least 25 = .ok (.ireturn, 1) := by decide +kernel
set_option maxRecDepth 20000 in
theorem ggX3_behindGreatest_X7_has : GoodIn wsX3_behindGreatest wsX7_has := goodIn_r _ [3] (by decide +kernel) (by decide +kernel)
set_option maxRecDepth 20000 in
theorem gX3_behindGreatest_X7_has_n39 : GoodIn wsX3_behindGreatest (wsX7_has) := ggX3_behindGreatest_X7_has
theorem dX3_behindGreatest_0 : decode cX3_behindGreatest 0 = .ok (.bipush 7, 2) := by decide +kernel
theorem dX3_behindGreatest_2 : decode cX3_behindGreatest 2 = .ok (.istore_n 1, 1) := by decide +kernel
theorem dX3_behindGreatest_3 : decode cX3_behindGreatest 3 = .ok (.iload_n 1, 1) := by decide +kernel
theorem dX3_behindGreatest_4 : decode cX3_behindGreatest 4 = .ok (.ifCond .lt 21, 3) := by decide +kernel
theorem dX3_behindGreatest_7 : decode cX3_behindGreatest 7 = .ok (.iload_n 0, 1) := by decide +kernel
theorem dX3_behindGreatest_8 : decode cX3_behindGreatest 8 = .ok (.iload_n 1, 1) := by decide +kernel
theorem dX3_behindGreatest_9 : decode cX3_behindGreatest 9 = .ok (.invokestatic 39, 3) := by decide +kernel
theorem dX3_behindGreatest_12 : decode cX3_behindGreatest 12 = .ok (.ifCond .eq 7, 3) := by decide +kernel
theorem dX3_behindGreatest_15 : decode cX3_behindGreatest 15 = .ok (.iload_n 1, 1) := by decide +kernel
theorem dX3_behindGreatest_16 : decode cX3_behindGreatest 16 = .ok (.iconst 1, 1) := by decide +kernel
theorem dX3_behindGreatest_17 : decode cX3_behindGreatest 17 = .ok (.iadd, 1) := by decide +kernel
theorem dX3_behindGreatest_18 : decode cX3_behindGreatest 18 = .ok (.ireturn, 1) := by decide +kernel
theorem dX3_behindGreatest_19 : decode cX3_behindGreatest 19 = .ok (.iinc 1 (-1), 3) := by decide +kernel
theorem dX3_behindGreatest_22 : decode cX3_behindGreatest 22 = .ok (.goto (-19), 3) := by decide +kernel
theorem dX3_behindGreatest_25 : decode cX3_behindGreatest 25 = .ok (.iconst 0, 1) := by decide +kernel
theorem dX3_behindGreatest_26 : decode cX3_behindGreatest 26 = .ok (.ireturn, 1) := by decide +kernel
theorem dX4_init_0 : decode cX4_init 0 = .ok (.aload_n 0, 1) := by decide +kernel
theorem dX4_init_1 : decode cX4_init 1 = .ok (.invokespecial 3, 3) := by decide +kernel
theorem dX4_init_4 : decode cX4_init 4 = .ok (.aload_n 0, 1) := by decide +kernel
theorem dX4_init_5 : decode cX4_init 5 = .ok (.iconst 5, 1) := by decide +kernel
theorem dX4_init_6 : decode cX4_init 6 = .ok (.newarray .int, 2) := by decide +kernel
theorem dX4_init_8 : decode cX4_init 8 = .ok (.putfield 9, 3) := by decide +kernel
theorem dX4_init_11 : decode cX4_init 11 = .ok (.aload_n 0, 1) := by decide +kernel
theorem dX4_init_12 : decode cX4_init 12 = .ok (.iconst 5, 1) := by decide +kernel
theorem dX4_init_13 : decode cX4_init 13 = .ok (.newarray .int, 2) := by decide +kernel
theorem dX4_init_15 : decode cX4_init 15 = .ok (.putfield 15, 3) := by decide +kernel
theorem dX4_init_18 : decode cX4_init 18 = .ok (.aload_n 0, 1) := by decide +kernel
theorem dX4_init_19 : decode cX4_init 19 = .ok (.iconst 5, 1) := by decide +kernel
theorem dX4_init_20 : decode cX4_init 20 = .ok (.newarray .int, 2) := by decide +kernel
theorem dX4_init_22 : decode cX4_init 22 = .ok (.putfield 18, 3) := by decide +kernel
theorem dX4_init_25 : decode cX4_init 25 = .ok (.aload_n 0, 1) := by decide +kernel
theorem dX4_init_26 : decode cX4_init 26 = .ok (.iconst 5, 1) := by decide +kernel
theorem dX4_init_27 : decode cX4_init 27 = .ok (.newarray .int, 2) := by decide +kernel
theorem dX4_init_29 : decode cX4_init 29 = .ok (.putfield 21, 3) := by decide +kernel
theorem dX4_init_32 : decode cX4_init 32 = .ok (.aload_n 0, 1) := by decide +kernel
theorem dX4_init_33 : decode cX4_init 33 = .ok (.iconst 3, 1) := by decide +kernel
theorem dX4_init_34 : decode cX4_init 34 = .ok (.newarray .int, 2) := by decide +kernel
theorem dX4_init_36 : decode cX4_init 36 = .ok (.putfield 24, 3) := by decide +kernel
theorem dX4_init_39 : decode cX4_init 39 = .ok (.aload_n 0, 1) := by decide +kernel
theorem dX4_init_40 : decode cX4_init 40 = .ok (.iconst 3, 1) := by decide +kernel
theorem dX4_init_41 : decode cX4_init 41 = .ok (.newarray .int, 2) := by decide +kernel
theorem dX4_init_43 : decode cX4_init 43 = .ok (.putfield 27, 3) := by decide +kernel
theorem dX4_init_46 : decode cX4_init 46 = .ok (.aload_n 0, 1) := by decide +kernel
theorem dX4_init_47 : decode cX4_init 47 = .ok (.iconst 5, 1) := by decide +kernel
theorem dX4_init_48 : decode cX4_init 48 = .ok (.newarray .int, 2) := by decide +kernel
theorem dX4_init_50 : decode cX4_init 50 = .ok (.putfield 30, 3) := by decide +kernel
theorem dX4_init_53 : decode cX4_init 53 = .ok (.return_, 1) := by decide +kernel
theorem dX4_clear_0 : decode cX4_clear 0 = .ok (.aload_n 0, 1) := by decide +kernel
theorem dX4_clear_1 : decode cX4_clear 1 = .ok (.iconst 0, 1) := by decide +kernel
theorem dX4_clear_2 : decode cX4_clear 2 = .ok (.putfield 33, 3) := by decide +kernel
theorem dX4_clear_5 : decode cX4_clear 5 = .ok (.aload_n 0, 1) := by decide +kernel
theorem dX4_clear_6 : decode cX4_clear 6 = .ok (.iconst 0, 1) := by decide +kernel
theorem dX4_clear_7 : decode cX4_clear 7 = .ok (.putfield 37, 3) := by decide +kernel
theorem dX4_clear_10 : decode cX4_clear 10 = .ok (.aload_n 0, 1) := by decide +kernel
theorem dX4_clear_11 : decode cX4_clear 11 = .ok (.iconst 0, 1) := by decide +kernel
theorem dX4_clear_12 : decode cX4_clear 12 = .ok (.putfield 40, 3) := by decide +kernel
theorem dX4_clear_15 : decode cX4_clear 15 = .ok (.aload_n 0, 1) := by decide +kernel
theorem dX4_clear_16 : decode cX4_clear 16 = .ok (.iconst 0, 1) := by decide +kernel
theorem dX4_clear_17 : decode cX4_clear 17 = .ok (.putfield 43, 3) := by decide +kernel
theorem dX4_clear_20 : decode cX4_clear 20 = .ok (.aload_n 0, 1) := by decide +kernel
theorem dX4_clear_21 : decode cX4_clear 21 = .ok (.iconst 0, 1) := by decide +kernel
theorem dX4_clear_22 : decode cX4_clear 22 = .ok (.putfield 46, 3) := by decide +kernel
theorem dX4_clear_25 : decode cX4_clear 25 = .ok (.return_, 1) := by decide +kernel
theorem dX4_copy_0 : decode cX4_copy 0 = .ok (.aload_n 0, 1) := by decide +kernel
theorem dX4_copy_1 : decode cX4_copy 1 = .ok (.aload_n 1, 1) := by decide +kernel
theorem dX4_copy_2 : decode cX4_copy 2 = .ok (.getfield 33, 3) := by decide +kernel
theorem dX4_copy_5 : decode cX4_copy 5 = .ok (.putfield 33, 3) := by decide +kernel
theorem dX4_copy_8 : decode cX4_copy 8 = .ok (.aload_n 0, 1) := by decide +kernel
theorem dX4_copy_9 : decode cX4_copy 9 = .ok (.aload_n 1, 1) := by decide +kernel
theorem dX4_copy_10 : decode cX4_copy 10 = .ok (.getfield 37, 3) := by decide +kernel
theorem dX4_copy_13 : decode cX4_copy 13 = .ok (.putfield 37, 3) := by decide +kernel
theorem dX4_copy_16 : decode cX4_copy 16 = .ok (.aload_n 0, 1) := by decide +kernel
theorem dX4_copy_17 : decode cX4_copy 17 = .ok (.aload_n 1, 1) := by decide +kernel
theorem dX4_copy_18 : decode cX4_copy 18 = .ok (.getfield 40, 3) := by decide +kernel
theorem dX4_copy_21 : decode cX4_copy 21 = .ok (.putfield 40, 3) := by decide +kernel
theorem dX4_copy_24 : decode cX4_copy 24 = .ok (.aload_n 0, 1) := by decide +kernel
theorem dX4_copy_25 : decode cX4_copy 25 = .ok (.aload_n 1, 1) := by decide +kernel
theorem dX4_copy_26 : decode cX4_copy 26 = .ok (.getfield 43, 3) := by decide +kernel
theorem dX4_copy_29 : decode cX4_copy 29 = .ok (.putfield 43, 3) := by decide +kernel
theorem dX4_copy_32 : decode cX4_copy 32 = .ok (.aload_n 0, 1) := by decide +kernel
theorem dX4_copy_33 : decode cX4_copy 33 = .ok (.aload_n 1, 1) := by decide +kernel
theorem dX4_copy_34 : decode cX4_copy 34 = .ok (.getfield 46, 3) := by decide +kernel
theorem dX4_copy_37 : decode cX4_copy 37 = .ok (.putfield 46, 3) := by decide +kernel
theorem dX4_copy_40 : decode cX4_copy 40 = .ok (.iconst 0, 1) := by decide +kernel
theorem dX4_copy_41 : decode cX4_copy 41 = .ok (.istore_n 2, 1) := by decide +kernel
theorem dX4_copy_42 : decode cX4_copy 42 = .ok (.iload_n 2, 1) := by decide +kernel
theorem dX4_copy_43 : decode cX4_copy 43 = .ok (.iconst 5, 1) := by decide +kernel
theorem dX4_copy_44 : decode cX4_copy 44 = .ok (.if_icmp .ge 69, 3) := by decide +kernel
theorem dX4_copy_47 : decode cX4_copy 47 = .ok (.aload_n 0, 1) := by decide +kernel
theorem dX4_copy_48 : decode cX4_copy 48 = .ok (.getfield 9, 3) := by decide +kernel
theorem dX4_copy_51 : decode cX4_copy 51 = .ok (.iload_n 2, 1) := by decide +kernel
theorem dX4_copy_52 : decode cX4_copy 52 = .ok (.aload_n 1, 1) := by decide +kernel
theorem dX4_copy_53 : decode cX4_copy 53 = .ok (.getfield 9, 3) := by decide +kernel
theorem dX4_copy_56 : decode cX4_copy 56 = .ok (.iload_n 2, 1) := by decide +kernel
theorem dX4_copy_57 : decode cX4_copy 57 = .ok (.iaload, 1) := by decide +kernel
theorem dX4_copy_58 : decode cX4_copy 58 = .ok (.iastore, 1) := by decide +kernel
theorem dX4_copy_59 : decode cX4_copy 59 = .ok (.aload_n 0, 1) := by decide +kernel
theorem dX4_copy_60 : decode cX4_copy 60 = .ok (.getfield 15, 3) := by decide +kernel
theorem dX4_copy_63 : decode cX4_copy 63 = .ok (.iload_n 2, 1) := by decide +kernel
theorem dX4_copy_64 : decode cX4_copy 64 = .ok (.aload_n 1, 1) := by decide +kernel
theorem dX4_copy_65 : decode cX4_copy 65 = .ok (.getfield 15, 3) := by decide +kernel
theorem dX4_copy_68 : decode cX4_copy 68 = .ok (.iload_n 2, 1) := by decide +kernel
theorem dX4_copy_69 : decode cX4_copy 69 = .ok (.iaload, 1) := by decide +kernel
theorem dX4_copy_70 : decode cX4_copy 70 = .ok (.iastore, 1) := by decide +kernel
theorem dX4_copy_71 : decode cX4_copy 71 = .ok (.aload_n 0, 1) := by decide +kernel
theorem dX4_copy_72 : decode cX4_copy 72 = .ok (.getfield 18, 3) := by decide +kernel
theorem dX4_copy_75 : decode cX4_copy 75 = .ok (.iload_n 2, 1) := by decide +kernel
theorem dX4_copy_76 : decode cX4_copy 76 = .ok (.aload_n 1, 1) := by decide +kernel
theorem dX4_copy_77 : decode cX4_copy 77 = .ok (.getfield 18, 3) := by decide +kernel
theorem dX4_copy_80 : decode cX4_copy 80 = .ok (.iload_n 2, 1) := by decide +kernel
theorem dX4_copy_81 : decode cX4_copy 81 = .ok (.iaload, 1) := by decide +kernel
theorem dX4_copy_82 : decode cX4_copy 82 = .ok (.iastore, 1) := by decide +kernel
theorem dX4_copy_83 : decode cX4_copy 83 = .ok (.aload_n 0, 1) := by decide +kernel
theorem dX4_copy_84 : decode cX4_copy 84 = .ok (.getfield 21, 3) := by decide +kernel
theorem dX4_copy_87 : decode cX4_copy 87 = .ok (.iload_n 2, 1) := by decide +kernel
theorem dX4_copy_88 : decode cX4_copy 88 = .ok (.aload_n 1, 1) := by decide +kernel
theorem dX4_copy_89 : decode cX4_copy 89 = .ok (.getfield 21, 3) := by decide +kernel
theorem dX4_copy_92 : decode cX4_copy 92 = .ok (.iload_n 2, 1) := by decide +kernel
theorem dX4_copy_93 : decode cX4_copy 93 = .ok (.iaload, 1) := by decide +kernel
theorem dX4_copy_94 : decode cX4_copy 94 = .ok (.iastore, 1) := by decide +kernel
theorem dX4_copy_95 : decode cX4_copy 95 = .ok (.aload_n 0, 1) := by decide +kernel
theorem dX4_copy_96 : decode cX4_copy 96 = .ok (.getfield 30, 3) := by decide +kernel
theorem dX4_copy_99 : decode cX4_copy 99 = .ok (.iload_n 2, 1) := by decide +kernel
theorem dX4_copy_100 : decode cX4_copy 100 = .ok (.aload_n 1, 1) := by decide +kernel
theorem dX4_copy_101 : decode cX4_copy 101 = .ok (.getfield 30, 3) := by decide +kernel
theorem dX4_copy_104 : decode cX4_copy 104 = .ok (.iload_n 2, 1) := by decide +kernel
theorem dX4_copy_105 : decode cX4_copy 105 = .ok (.iaload, 1) := by decide +kernel
theorem dX4_copy_106 : decode cX4_copy 106 = .ok (.iastore, 1) := by decide +kernel
theorem dX4_copy_107 : decode cX4_copy 107 = .ok (.iinc 2 1, 3) := by decide +kernel
theorem dX4_copy_110 : decode cX4_copy 110 = .ok (.goto (-68), 3) := by decide +kernel
theorem dX4_copy_113 : decode cX4_copy 113 = .ok (.iconst 0, 1) := by decide +kernel
theorem dX4_copy_114 : decode cX4_copy 114 = .ok (.istore_n 2, 1) := by decide +kernel
theorem dX4_copy_115 : decode cX4_copy 115 = .ok (.iload_n 2, 1) := by decide +kernel
theorem dX4_copy_116 : decode cX4_copy 116 = .ok (.iconst 3, 1) := by decide +kernel
theorem dX4_copy_117 : decode cX4_copy 117 = .ok (.if_icmp .ge 33, 3) := by decide +kernel
theorem dX4_copy_120 : decode cX4_copy 120 = .ok (.aload_n 0, 1) := by decide +kernel
theorem dX4_copy_121 : decode cX4_copy 121 = .ok (.getfield 24, 3) := by decide +kernel
theorem dX4_copy_124 : decode cX4_copy 124 = .ok (.iload_n 2, 1) := by decide +kernel
theorem dX4_copy_125 : decode cX4_copy 125 = .ok (.aload_n 1, 1) := by decide +kernel
theorem dX4_copy_126 : decode cX4_copy 126 = .ok (.getfield 24, 3) := by decide +kernel
theorem dX4_copy_129 : decode cX4_copy 129 = .ok (.iload_n 2, 1) := by decide +kernel
theorem dX4_copy_130 : decode cX4_copy 130 = .ok (.iaload, 1) := by decide +kernel
theorem dX4_copy_131 : decode cX4_copy 131 = .ok (.iastore, 1) := by decide +kernel
theorem dX4_copy_132 : decode cX4_copy 132 = .ok (.aload_n 0, 1) := by decide +kernel
theorem dX4_copy_133 : decode cX4_copy 133 = .ok (.getfield 27, 3) := by decide +kernel
theorem dX4_copy_136 : decode cX4_copy 136 = .ok (.iload_n 2, 1) := by decide +kernel
theorem dX4_copy_137 : decode cX4_copy 137 = .ok (.aload_n 1, 1) := by decide +kernel
theorem dX4_copy_138 : decode cX4_copy 138 = .ok (.getfield 27, 3) := by decide +kernel
theorem dX4_copy_141 : decode cX4_copy 141 = .ok (.iload_n 2, 1) := by decide +kernel
theorem dX4_copy_142 : decode cX4_copy 142 = .ok (.iaload, 1) := by decide +kernel
theorem dX4_copy_143 : decode cX4_copy 143 = .ok (.iastore, 1) := by decide +kernel
theorem dX4_copy_144 : decode cX4_copy 144 = .ok (.iinc 2 1, 3) := by decide +kernel
theorem dX4_copy_147 : decode cX4_copy 147 = .ok (.goto (-32), 3) := by decide +kernel
theorem dX4_copy_150 : decode cX4_copy 150 = .ok (.return_, 1) := by decide +kernel
set_option maxRecDepth 20000 in
theorem ggX4_take_X4_takeWord : GoodIn wsX4_take wsX4_takeWord := goodIn_r _ [5, 6, 33, 34, 35, 36, 37, 38, 39, 40, 41, 42, 43, 44] (by decide +kernel) (by decide +kernel)
set_option maxRecDepth 20000 in
theorem gX4_take_X4_takeWord : GoodIn wsX4_take (wsV RX4 49 RX4 yX4_takeWord wsX4_takeWord) := goodIn_app (goodIn_of _ (by decide +kernel)) ggX4_take_X4_takeWord
set_option maxRecDepth 20000 in
theorem ggX4_take_X4_takeOpening : GoodIn wsX4_take wsX4_takeOpening := goodIn_r _ [10, 11, 12, 13, 6, 14, 15, 16, 17, 18, 19, 20, 33, 34, 35, 36, 37, 38, 39, 40, 41, 42, 43, 44] (by decide +kernel) (by decide +kernel)
set_option maxRecDepth 20000 in
theorem gX4_take_X4_takeOpening : GoodIn wsX4_take (wsV RX4 53 RX4 yX4_takeOpening wsX4_takeOpening) := goodIn_app (goodIn_of _ (by decide +kernel)) ggX4_take_X4_takeOpening
set_option maxRecDepth 20000 in
theorem ggX4_take_X4_takeClosing : GoodIn wsX4_take wsX4_takeClosing := goodIn_r _ [24, 12, 17, 14, 6, 33, 34, 35, 36, 37, 38, 39, 40, 41, 42, 43, 44] (by decide +kernel) (by decide +kernel)
set_option maxRecDepth 20000 in
theorem gX4_take_X4_takeClosing : GoodIn wsX4_take (wsV RX4 57 RX4 yX4_takeClosing wsX4_takeClosing) := goodIn_app (goodIn_of _ (by decide +kernel)) ggX4_take_X4_takeClosing
set_option maxRecDepth 20000 in
theorem ggX4_take_X4_takeMark : GoodIn wsX4_take wsX4_takeMark := goodIn_r _ [28, 29, 30, 31, 6, 32, 18, 19, 20, 33, 34, 35, 36, 37, 38, 39, 40, 41, 42, 43, 44] (by decide +kernel) (by decide +kernel)
set_option maxRecDepth 20000 in
theorem gX4_take_X4_takeMark : GoodIn wsX4_take (wsV RX4 60 RX4 yX4_takeMark wsX4_takeMark) := goodIn_app (goodIn_of _ (by decide +kernel)) ggX4_take_X4_takeMark
theorem dX4_take_0 : decode cX4_take 0 = .ok (.iload_n 1, 1) := by decide +kernel
theorem dX4_take_1 : decode cX4_take 1 = .ok (.bipush 46, 2) := by decide +kernel
theorem dX4_take_3 : decode cX4_take 3 = .ok (.if_icmp .ne 8, 3) := by decide +kernel
theorem dX4_take_6 : decode cX4_take 6 = .ok (.aload_n 0, 1) := by decide +kernel
theorem dX4_take_7 : decode cX4_take 7 = .ok (.invokevirtual 49, 3) := by decide +kernel
theorem dX4_take_10 : decode cX4_take 10 = .ok (.ireturn, 1) := by decide +kernel
theorem dX4_take_11 : decode cX4_take 11 = .ok (.iload_n 1, 1) := by decide +kernel
theorem dX4_take_12 : decode cX4_take 12 = .ok (.bipush 65, 2) := by decide +kernel
theorem dX4_take_14 : decode cX4_take 14 = .ok (.if_icmp .lt 18, 3) := by decide +kernel
theorem dX4_take_17 : decode cX4_take 17 = .ok (.iload_n 1, 1) := by decide +kernel
theorem dX4_take_18 : decode cX4_take 18 = .ok (.bipush 70, 2) := by decide +kernel
theorem dX4_take_20 : decode cX4_take 20 = .ok (.if_icmp .ge 12, 3) := by decide +kernel
theorem dX4_take_23 : decode cX4_take 23 = .ok (.aload_n 0, 1) := by decide +kernel
theorem dX4_take_24 : decode cX4_take 24 = .ok (.iload_n 1, 1) := by decide +kernel
theorem dX4_take_25 : decode cX4_take 25 = .ok (.bipush 65, 2) := by decide +kernel
theorem dX4_take_27 : decode cX4_take 27 = .ok (.isub, 1) := by decide +kernel
theorem dX4_take_28 : decode cX4_take 28 = .ok (.invokevirtual 53, 3) := by decide +kernel
theorem dX4_take_31 : decode cX4_take 31 = .ok (.ireturn, 1) := by decide +kernel
theorem dX4_take_32 : decode cX4_take 32 = .ok (.iload_n 1, 1) := by decide +kernel
theorem dX4_take_33 : decode cX4_take 33 = .ok (.bipush 97, 2) := by decide +kernel
theorem dX4_take_35 : decode cX4_take 35 = .ok (.if_icmp .lt 18, 3) := by decide +kernel
theorem dX4_take_38 : decode cX4_take 38 = .ok (.iload_n 1, 1) := by decide +kernel
theorem dX4_take_39 : decode cX4_take 39 = .ok (.bipush 102, 2) := by decide +kernel
theorem dX4_take_41 : decode cX4_take 41 = .ok (.if_icmp .ge 12, 3) := by decide +kernel
theorem dX4_take_44 : decode cX4_take 44 = .ok (.aload_n 0, 1) := by decide +kernel
theorem dX4_take_45 : decode cX4_take 45 = .ok (.iload_n 1, 1) := by decide +kernel
theorem dX4_take_46 : decode cX4_take 46 = .ok (.bipush 97, 2) := by decide +kernel
theorem dX4_take_48 : decode cX4_take 48 = .ok (.isub, 1) := by decide +kernel
theorem dX4_take_49 : decode cX4_take 49 = .ok (.invokevirtual 57, 3) := by decide +kernel
theorem dX4_take_52 : decode cX4_take 52 = .ok (.ireturn, 1) := by decide +kernel
theorem dX4_take_53 : decode cX4_take 53 = .ok (.iload_n 1, 1) := by decide +kernel
theorem dX4_take_54 : decode cX4_take 54 = .ok (.bipush 120, 2) := by decide +kernel
theorem dX4_take_56 : decode cX4_take 56 = .ok (.if_icmp .lt 18, 3) := by decide +kernel
theorem dX4_take_59 : decode cX4_take 59 = .ok (.iload_n 1, 1) := by decide +kernel
theorem dX4_take_60 : decode cX4_take 60 = .ok (.bipush 123, 2) := by decide +kernel
theorem dX4_take_62 : decode cX4_take 62 = .ok (.if_icmp .ge 12, 3) := by decide +kernel
theorem dX4_take_65 : decode cX4_take 65 = .ok (.aload_n 0, 1) := by decide +kernel
theorem dX4_take_66 : decode cX4_take 66 = .ok (.iload_n 1, 1) := by decide +kernel
theorem dX4_take_67 : decode cX4_take 67 = .ok (.bipush 120, 2) := by decide +kernel
theorem dX4_take_69 : decode cX4_take 69 = .ok (.isub, 1) := by decide +kernel
theorem dX4_take_70 : decode cX4_take 70 = .ok (.invokevirtual 60, 3) := by decide +kernel
theorem dX4_take_73 : decode cX4_take 73 = .ok (.ireturn, 1) := by decide +kernel
theorem dX4_take_74 : decode cX4_take 74 = .ok (.iconst 0, 1) := by decide +kernel
theorem dX4_take_75 : decode cX4_take 75 = .ok (.ireturn, 1) := by decide +kernel
theorem dX4_takeWord_0 : decode cX4_takeWord 0 = .ok (.aload_n 0, 1) := by decide +kernel
theorem dX4_takeWord_1 : decode cX4_takeWord 1 = .ok (.getfield 33, 3) := by decide +kernel
theorem dX4_takeWord_4 : decode cX4_takeWord 4 = .ok (.bipush 12, 2) := by decide +kernel
theorem dX4_takeWord_6 : decode cX4_takeWord 6 = .ok (.if_icmp .lt 5, 3) := by decide +kernel
theorem dX4_takeWord_9 : decode cX4_takeWord 9 = .ok (.iconst 0, 1) := by decide +kernel
theorem dX4_takeWord_10 : decode cX4_takeWord 10 = .ok (.ireturn, 1) := by decide +kernel
theorem dX4_takeWord_11 : decode cX4_takeWord 11 = .ok (.aload_n 0, 1) := by decide +kernel
theorem dX4_takeWord_12 : decode cX4_takeWord 12 = .ok (.dup, 1) := by decide +kernel
theorem dX4_takeWord_13 : decode cX4_takeWord 13 = .ok (.getfield 33, 3) := by decide +kernel
theorem dX4_takeWord_16 : decode cX4_takeWord 16 = .ok (.iconst 1, 1) := by decide +kernel
theorem dX4_takeWord_17 : decode cX4_takeWord 17 = .ok (.iadd, 1) := by decide +kernel
theorem dX4_takeWord_18 : decode cX4_takeWord 18 = .ok (.putfield 33, 3) := by decide +kernel
theorem dX4_takeWord_21 : decode cX4_takeWord 21 = .ok (.iconst 1, 1) := by decide +kernel
theorem dX4_takeWord_22 : decode cX4_takeWord 22 = .ok (.ireturn, 1) := by decide +kernel
set_option maxRecDepth 20000 in
theorem ggX4_takeOpening_X7_has : GoodIn wsX4_takeOpening wsX7_has := goodIn_r _ [11] (by decide +kernel) (by decide +kernel)
set_option maxRecDepth 20000 in
theorem gX4_takeOpening_X7_has_n63 : GoodIn wsX4_takeOpening (wsX7_has) := ggX4_takeOpening_X7_has
theorem dX4_takeOpening_0 : decode cX4_takeOpening 0 = .ok (.aload_n 0, 1) := by decide +kernel
theorem dX4_takeOpening_1 : decode cX4_takeOpening 1 = .ok (.getfield 37, 3) := by decide +kernel
theorem dX4_takeOpening_4 : decode cX4_takeOpening 4 = .ok (.iload_n 1, 1) := by decide +kernel
theorem dX4_takeOpening_5 : decode cX4_takeOpening 5 = .ok (.invokestatic 63, 3) := by decide +kernel
theorem dX4_takeOpening_8 : decode cX4_takeOpening 8 = .ok (.ifCond .ne 11, 3) := by decide +kernel
theorem dX4_takeOpening_11 : decode cX4_takeOpening 11 = .ok (.aload_n 0, 1) := by decide +kernel
theorem dX4_takeOpening_12 : decode cX4_takeOpening 12 = .ok (.getfield 46, 3) := by decide +kernel
theorem dX4_takeOpening_15 : decode cX4_takeOpening 15 = .ok (.iconst 5, 1) := by decide +kernel
theorem dX4_takeOpening_16 : decode cX4_takeOpening 16 = .ok (.if_icmp .lt 5, 3) := by decide +kernel
theorem dX4_takeOpening_19 : decode cX4_takeOpening 19 = .ok (.iconst 0, 1) := by decide +kernel
theorem dX4_takeOpening_20 : decode cX4_takeOpening 20 = .ok (.ireturn, 1) := by decide +kernel
theorem dX4_takeOpening_21 : decode cX4_takeOpening 21 = .ok (.aload_n 0, 1) := by decide +kernel
theorem dX4_takeOpening_22 : decode cX4_takeOpening 22 = .ok (.dup, 1) := by decide +kernel
theorem dX4_takeOpening_23 : decode cX4_takeOpening 23 = .ok (.getfield 37, 3) := by decide +kernel
theorem dX4_takeOpening_26 : decode cX4_takeOpening 26 = .ok (.iconst 1, 1) := by decide +kernel
theorem dX4_takeOpening_27 : decode cX4_takeOpening 27 = .ok (.iload_n 1, 1) := by decide +kernel
theorem dX4_takeOpening_28 : decode cX4_takeOpening 28 = .ok (.ishl, 1) := by decide +kernel
theorem dX4_takeOpening_29 : decode cX4_takeOpening 29 = .ok (.ior, 1) := by decide +kernel
theorem dX4_takeOpening_30 : decode cX4_takeOpening 30 = .ok (.putfield 37, 3) := by decide +kernel
theorem dX4_takeOpening_33 : decode cX4_takeOpening 33 = .ok (.aload_n 0, 1) := by decide +kernel
theorem dX4_takeOpening_34 : decode cX4_takeOpening 34 = .ok (.getfield 9, 3) := by decide +kernel
theorem dX4_takeOpening_37 : decode cX4_takeOpening 37 = .ok (.iload_n 1, 1) := by decide +kernel
theorem dX4_takeOpening_38 : decode cX4_takeOpening 38 = .ok (.aload_n 0, 1) := by decide +kernel
theorem dX4_takeOpening_39 : decode cX4_takeOpening 39 = .ok (.getfield 33, 3) := by decide +kernel
theorem dX4_takeOpening_42 : decode cX4_takeOpening 42 = .ok (.iastore, 1) := by decide +kernel
theorem dX4_takeOpening_43 : decode cX4_takeOpening 43 = .ok (.aload_n 0, 1) := by decide +kernel
theorem dX4_takeOpening_44 : decode cX4_takeOpening 44 = .ok (.getfield 15, 3) := by decide +kernel
theorem dX4_takeOpening_47 : decode cX4_takeOpening 47 = .ok (.iload_n 1, 1) := by decide +kernel
theorem dX4_takeOpening_48 : decode cX4_takeOpening 48 = .ok (.aload_n 0, 1) := by decide +kernel
theorem dX4_takeOpening_49 : decode cX4_takeOpening 49 = .ok (.getfield 33, 3) := by decide +kernel
theorem dX4_takeOpening_52 : decode cX4_takeOpening 52 = .ok (.iastore, 1) := by decide +kernel
theorem dX4_takeOpening_53 : decode cX4_takeOpening 53 = .ok (.aload_n 0, 1) := by decide +kernel
theorem dX4_takeOpening_54 : decode cX4_takeOpening 54 = .ok (.getfield 18, 3) := by decide +kernel
theorem dX4_takeOpening_57 : decode cX4_takeOpening 57 = .ok (.iload_n 1, 1) := by decide +kernel
theorem dX4_takeOpening_58 : decode cX4_takeOpening 58 = .ok (.iconst 0, 1) := by decide +kernel
theorem dX4_takeOpening_59 : decode cX4_takeOpening 59 = .ok (.iastore, 1) := by decide +kernel
theorem dX4_takeOpening_60 : decode cX4_takeOpening 60 = .ok (.aload_n 0, 1) := by decide +kernel
theorem dX4_takeOpening_61 : decode cX4_takeOpening 61 = .ok (.getfield 21, 3) := by decide +kernel
theorem dX4_takeOpening_64 : decode cX4_takeOpening 64 = .ok (.iload_n 1, 1) := by decide +kernel
theorem dX4_takeOpening_65 : decode cX4_takeOpening 65 = .ok (.iconst 0, 1) := by decide +kernel
theorem dX4_takeOpening_66 : decode cX4_takeOpening 66 = .ok (.iastore, 1) := by decide +kernel
theorem dX4_takeOpening_67 : decode cX4_takeOpening 67 = .ok (.iconst 0, 1) := by decide +kernel
theorem dX4_takeOpening_68 : decode cX4_takeOpening 68 = .ok (.istore_n 2, 1) := by decide +kernel
theorem dX4_takeOpening_69 : decode cX4_takeOpening 69 = .ok (.iload_n 2, 1) := by decide +kernel
theorem dX4_takeOpening_70 : decode cX4_takeOpening 70 = .ok (.aload_n 0, 1) := by decide +kernel
theorem dX4_takeOpening_71 : decode cX4_takeOpening 71 = .ok (.getfield 46, 3) := by decide +kernel
theorem dX4_takeOpening_74 : decode cX4_takeOpening 74 = .ok (.if_icmp .ge 43, 3) := by decide +kernel
theorem dX4_takeOpening_77 : decode cX4_takeOpening 77 = .ok (.aload_n 0, 1) := by decide +kernel
theorem dX4_takeOpening_78 : decode cX4_takeOpening 78 = .ok (.getfield 18, 3) := by decide +kernel
theorem dX4_takeOpening_81 : decode cX4_takeOpening 81 = .ok (.aload_n 0, 1) := by decide +kernel
theorem dX4_takeOpening_82 : decode cX4_takeOpening 82 = .ok (.getfield 30, 3) := by decide +kernel
theorem dX4_takeOpening_85 : decode cX4_takeOpening 85 = .ok (.iload_n 2, 1) := by decide +kernel
theorem dX4_takeOpening_86 : decode cX4_takeOpening 86 = .ok (.iaload, 1) := by decide +kernel
theorem dX4_takeOpening_87 : decode cX4_takeOpening 87 = .ok (.dup2, 1) := by decide +kernel
theorem dX4_takeOpening_88 : decode cX4_takeOpening 88 = .ok (.iaload, 1) := by decide +kernel
theorem dX4_takeOpening_89 : decode cX4_takeOpening 89 = .ok (.iconst 1, 1) := by decide +kernel
theorem dX4_takeOpening_90 : decode cX4_takeOpening 90 = .ok (.iload_n 1, 1) := by decide +kernel
theorem dX4_takeOpening_91 : decode cX4_takeOpening 91 = .ok (.ishl, 1) := by decide +kernel
theorem dX4_takeOpening_92 : decode cX4_takeOpening 92 = .ok (.ior, 1) := by decide +kernel
theorem dX4_takeOpening_93 : decode cX4_takeOpening 93 = .ok (.iastore, 1) := by decide +kernel
theorem dX4_takeOpening_94 : decode cX4_takeOpening 94 = .ok (.aload_n 0, 1) := by decide +kernel
theorem dX4_takeOpening_95 : decode cX4_takeOpening 95 = .ok (.getfield 21, 3) := by decide +kernel
theorem dX4_takeOpening_98 : decode cX4_takeOpening 98 = .ok (.iload_n 1, 1) := by decide +kernel
theorem dX4_takeOpening_99 : decode cX4_takeOpening 99 = .ok (.dup2, 1) := by decide +kernel
theorem dX4_takeOpening_100 : decode cX4_takeOpening 100 = .ok (.iaload, 1) := by decide +kernel
theorem dX4_takeOpening_101 : decode cX4_takeOpening 101 = .ok (.iconst 1, 1) := by decide +kernel
theorem dX4_takeOpening_102 : decode cX4_takeOpening 102 = .ok (.aload_n 0, 1) := by decide +kernel
theorem dX4_takeOpening_103 : decode cX4_takeOpening 103 = .ok (.getfield 30, 3) := by decide +kernel
theorem dX4_takeOpening_106 : decode cX4_takeOpening 106 = .ok (.iload_n 2, 1) := by decide +kernel
theorem dX4_takeOpening_107 : decode cX4_takeOpening 107 = .ok (.iaload, 1) := by decide +kernel
theorem dX4_takeOpening_108 : decode cX4_takeOpening 108 = .ok (.ishl, 1) := by decide +kernel
theorem dX4_takeOpening_109 : decode cX4_takeOpening 109 = .ok (.ior, 1) := by decide +kernel
theorem dX4_takeOpening_110 : decode cX4_takeOpening 110 = .ok (.iastore, 1) := by decide +kernel
theorem dX4_takeOpening_111 : decode cX4_takeOpening 111 = .ok (.iinc 2 1, 3) := by decide +kernel
theorem dX4_takeOpening_114 : decode cX4_takeOpening 114 = .ok (.goto (-45), 3) := by decide +kernel
theorem dX4_takeOpening_117 : decode cX4_takeOpening 117 = .ok (.aload_n 0, 1) := by decide +kernel
theorem dX4_takeOpening_118 : decode cX4_takeOpening 118 = .ok (.getfield 30, 3) := by decide +kernel
theorem dX4_takeOpening_121 : decode cX4_takeOpening 121 = .ok (.aload_n 0, 1) := by decide +kernel
theorem dX4_takeOpening_122 : decode cX4_takeOpening 122 = .ok (.getfield 46, 3) := by decide +kernel
theorem dX4_takeOpening_125 : decode cX4_takeOpening 125 = .ok (.iload_n 1, 1) := by decide +kernel
theorem dX4_takeOpening_126 : decode cX4_takeOpening 126 = .ok (.iastore, 1) := by decide +kernel
theorem dX4_takeOpening_127 : decode cX4_takeOpening 127 = .ok (.aload_n 0, 1) := by decide +kernel
theorem dX4_takeOpening_128 : decode cX4_takeOpening 128 = .ok (.dup, 1) := by decide +kernel
theorem dX4_takeOpening_129 : decode cX4_takeOpening 129 = .ok (.getfield 46, 3) := by decide +kernel
theorem dX4_takeOpening_132 : decode cX4_takeOpening 132 = .ok (.iconst 1, 1) := by decide +kernel
theorem dX4_takeOpening_133 : decode cX4_takeOpening 133 = .ok (.iadd, 1) := by decide +kernel
theorem dX4_takeOpening_134 : decode cX4_takeOpening 134 = .ok (.putfield 46, 3) := by decide +kernel
theorem dX4_takeOpening_137 : decode cX4_takeOpening 137 = .ok (.iconst 1, 1) := by decide +kernel
theorem dX4_takeOpening_138 : decode cX4_takeOpening 138 = .ok (.ireturn, 1) := by decide +kernel
theorem dX4_takeClosing_0 : decode cX4_takeClosing 0 = .ok (.aload_n 0, 1) := by decide +kernel
theorem dX4_takeClosing_1 : decode cX4_takeClosing 1 = .ok (.getfield 46, 3) := by decide +kernel
theorem dX4_takeClosing_4 : decode cX4_takeClosing 4 = .ok (.iconst 1, 1) := by decide +kernel
theorem dX4_takeClosing_5 : decode cX4_takeClosing 5 = .ok (.if_icmp .lt 18, 3) := by decide +kernel
theorem dX4_takeClosing_8 : decode cX4_takeClosing 8 = .ok (.aload_n 0, 1) := by decide +kernel
theorem dX4_takeClosing_9 : decode cX4_takeClosing 9 = .ok (.getfield 30, 3) := by decide +kernel
theorem dX4_takeClosing_12 : decode cX4_takeClosing 12 = .ok (.aload_n 0, 1) := by decide +kernel
theorem dX4_takeClosing_13 : decode cX4_takeClosing 13 = .ok (.getfield 46, 3) := by decide +kernel
theorem dX4_takeClosing_16 : decode cX4_takeClosing 16 = .ok (.iconst 1, 1) := by decide +kernel
theorem dX4_takeClosing_17 : decode cX4_takeClosing 17 = .ok (.isub, 1) := by decide +kernel
theorem dX4_takeClosing_18 : decode cX4_takeClosing 18 = .ok (.iaload, 1) := by decide +kernel
theorem dX4_takeClosing_19 : decode cX4_takeClosing 19 = .ok (.iload_n 1, 1) := by decide +kernel
theorem dX4_takeClosing_20 : decode cX4_takeClosing 20 = .ok (.if_icmp .eq 5, 3) := by decide +kernel
theorem dX4_takeClosing_23 : decode cX4_takeClosing 23 = .ok (.iconst 0, 1) := by decide +kernel
theorem dX4_takeClosing_24 : decode cX4_takeClosing 24 = .ok (.ireturn, 1) := by decide +kernel
theorem dX4_takeClosing_25 : decode cX4_takeClosing 25 = .ok (.aload_n 0, 1) := by decide +kernel
theorem dX4_takeClosing_26 : decode cX4_takeClosing 26 = .ok (.dup, 1) := by decide +kernel
theorem dX4_takeClosing_27 : decode cX4_takeClosing 27 = .ok (.getfield 46, 3) := by decide +kernel
theorem dX4_takeClosing_30 : decode cX4_takeClosing 30 = .ok (.iconst 1, 1) := by decide +kernel
theorem dX4_takeClosing_31 : decode cX4_takeClosing 31 = .ok (.isub, 1) := by decide +kernel
theorem dX4_takeClosing_32 : decode cX4_takeClosing 32 = .ok (.putfield 46, 3) := by decide +kernel
theorem dX4_takeClosing_35 : decode cX4_takeClosing 35 = .ok (.aload_n 0, 1) := by decide +kernel
theorem dX4_takeClosing_36 : decode cX4_takeClosing 36 = .ok (.getfield 15, 3) := by decide +kernel
theorem dX4_takeClosing_39 : decode cX4_takeClosing 39 = .ok (.iload_n 1, 1) := by decide +kernel
theorem dX4_takeClosing_40 : decode cX4_takeClosing 40 = .ok (.aload_n 0, 1) := by decide +kernel
theorem dX4_takeClosing_41 : decode cX4_takeClosing 41 = .ok (.getfield 33, 3) := by decide +kernel
theorem dX4_takeClosing_44 : decode cX4_takeClosing 44 = .ok (.iastore, 1) := by decide +kernel
theorem dX4_takeClosing_45 : decode cX4_takeClosing 45 = .ok (.iconst 1, 1) := by decide +kernel
theorem dX4_takeClosing_46 : decode cX4_takeClosing 46 = .ok (.ireturn, 1) := by decide +kernel
set_option maxRecDepth 20000 in
theorem ggX4_takeMark_X7_has : GoodIn wsX4_takeMark wsX7_has := goodIn_r _ [8] (by decide +kernel) (by decide +kernel)
set_option maxRecDepth 20000 in
theorem gX4_takeMark_X7_has_n63 : GoodIn wsX4_takeMark (wsX7_has) := ggX4_takeMark_X7_has
theorem dX4_takeMark_0 : decode cX4_takeMark 0 = .ok (.aload_n 0, 1) := by decide +kernel
theorem dX4_takeMark_1 : decode cX4_takeMark 1 = .ok (.getfield 40, 3) := by decide +kernel
theorem dX4_takeMark_4 : decode cX4_takeMark 4 = .ok (.iload_n 1, 1) := by decide +kernel
theorem dX4_takeMark_5 : decode cX4_takeMark 5 = .ok (.invokestatic 63, 3) := by decide +kernel
theorem dX4_takeMark_8 : decode cX4_takeMark 8 = .ok (.ifCond .ne 11, 3) := by decide +kernel
theorem dX4_takeMark_11 : decode cX4_takeMark 11 = .ok (.aload_n 0, 1) := by decide +kernel
theorem dX4_takeMark_12 : decode cX4_takeMark 12 = .ok (.getfield 43, 3) := by decide +kernel
theorem dX4_takeMark_15 : decode cX4_takeMark 15 = .ok (.iconst 3, 1) := by decide +kernel
theorem dX4_takeMark_16 : decode cX4_takeMark 16 = .ok (.if_icmp .lt 5, 3) := by decide +kernel
theorem dX4_takeMark_19 : decode cX4_takeMark 19 = .ok (.iconst 0, 1) := by decide +kernel
theorem dX4_takeMark_20 : decode cX4_takeMark 20 = .ok (.ireturn, 1) := by decide +kernel
theorem dX4_takeMark_21 : decode cX4_takeMark 21 = .ok (.aload_n 0, 1) := by decide +kernel
theorem dX4_takeMark_22 : decode cX4_takeMark 22 = .ok (.dup, 1) := by decide +kernel
theorem dX4_takeMark_23 : decode cX4_takeMark 23 = .ok (.getfield 40, 3) := by decide +kernel
theorem dX4_takeMark_26 : decode cX4_takeMark 26 = .ok (.iconst 1, 1) := by decide +kernel
theorem dX4_takeMark_27 : decode cX4_takeMark 27 = .ok (.iload_n 1, 1) := by decide +kernel
theorem dX4_takeMark_28 : decode cX4_takeMark 28 = .ok (.ishl, 1) := by decide +kernel
theorem dX4_takeMark_29 : decode cX4_takeMark 29 = .ok (.ior, 1) := by decide +kernel
theorem dX4_takeMark_30 : decode cX4_takeMark 30 = .ok (.putfield 40, 3) := by decide +kernel
theorem dX4_takeMark_33 : decode cX4_takeMark 33 = .ok (.aload_n 0, 1) := by decide +kernel
theorem dX4_takeMark_34 : decode cX4_takeMark 34 = .ok (.getfield 24, 3) := by decide +kernel
theorem dX4_takeMark_37 : decode cX4_takeMark 37 = .ok (.iload_n 1, 1) := by decide +kernel
theorem dX4_takeMark_38 : decode cX4_takeMark 38 = .ok (.aload_n 0, 1) := by decide +kernel
theorem dX4_takeMark_39 : decode cX4_takeMark 39 = .ok (.getfield 33, 3) := by decide +kernel
theorem dX4_takeMark_42 : decode cX4_takeMark 42 = .ok (.iastore, 1) := by decide +kernel
theorem dX4_takeMark_43 : decode cX4_takeMark 43 = .ok (.aload_n 0, 1) := by decide +kernel
theorem dX4_takeMark_44 : decode cX4_takeMark 44 = .ok (.getfield 27, 3) := by decide +kernel
theorem dX4_takeMark_47 : decode cX4_takeMark 47 = .ok (.aload_n 0, 1) := by decide +kernel
theorem dX4_takeMark_48 : decode cX4_takeMark 48 = .ok (.getfield 43, 3) := by decide +kernel
theorem dX4_takeMark_51 : decode cX4_takeMark 51 = .ok (.iload_n 1, 1) := by decide +kernel
theorem dX4_takeMark_52 : decode cX4_takeMark 52 = .ok (.iastore, 1) := by decide +kernel
theorem dX4_takeMark_53 : decode cX4_takeMark 53 = .ok (.aload_n 0, 1) := by decide +kernel
theorem dX4_takeMark_54 : decode cX4_takeMark 54 = .ok (.dup, 1) := by decide +kernel
theorem dX4_takeMark_55 : decode cX4_takeMark 55 = .ok (.getfield 43, 3) := by decide +kernel
theorem dX4_takeMark_58 : decode cX4_takeMark 58 = .ok (.iconst 1, 1) := by decide +kernel
theorem dX4_takeMark_59 : decode cX4_takeMark 59 = .ok (.iadd, 1) := by decide +kernel
theorem dX4_takeMark_60 : decode cX4_takeMark 60 = .ok (.putfield 43, 3) := by decide +kernel
theorem dX4_takeMark_63 : decode cX4_takeMark 63 = .ok (.iconst 1, 1) := by decide +kernel
theorem dX4_takeMark_64 : decode cX4_takeMark 64 = .ok (.ireturn, 1) := by decide +kernel
set_option maxRecDepth 20000 in
theorem ggX4_depth_J6_bitCount_0f7a4 : GoodIn wsX4_depth wsJ6_bitCount_0f7a4 := goodIn_r _ [5, 6, 7, 8] (by decide +kernel) (by decide +kernel)
set_option maxRecDepth 20000 in
theorem gX4_depth_J6_bitCount_0f7a4 : GoodIn wsX4_depth (va_wsS RX4 67 yJ6_bitCount_0f7a4 wsJ6_bitCount_0f7a4) := goodIn_app (goodIn_of _ (by decide +kernel)) ggX4_depth_J6_bitCount_0f7a4
theorem dX4_depth_0 : decode cX4_depth 0 = .ok (.aload_n 0, 1) := by decide +kernel
theorem dX4_depth_1 : decode cX4_depth 1 = .ok (.getfield 21, 3) := by decide +kernel
theorem dX4_depth_4 : decode cX4_depth 4 = .ok (.iload_n 1, 1) := by decide +kernel
theorem dX4_depth_5 : decode cX4_depth 5 = .ok (.iaload, 1) := by decide +kernel
theorem dX4_depth_6 : decode cX4_depth 6 = .ok (.invokestatic 67, 3) := by decide +kernel
theorem dX4_depth_9 : decode cX4_depth 9 = .ok (.ireturn, 1) := by decide +kernel
set_option maxRecDepth 20000 in
theorem ggX4_countHolds_X7_has : GoodIn wsX4_countHolds wsX7_has := goodIn_r _ [5] (by decide +kernel) (by decide +kernel)
set_option maxRecDepth 20000 in
theorem gX4_countHolds_X7_has_n63 : GoodIn wsX4_countHolds (wsX7_has) := ggX4_countHolds_X7_has
set_option maxRecDepth 20000 in
theorem ggX4_countHolds_J6_bitCount_0f7a4 : GoodIn wsX4_countHolds wsJ6_bitCount_0f7a4 := goodIn_r _ [9, 10, 11, 12] (by decide +kernel) (by decide +kernel)
set_option maxRecDepth 20000 in
theorem gX4_countHolds_J6_bitCount_0f7a4 : GoodIn wsX4_countHolds (va_wsS RX4 67 yJ6_bitCount_0f7a4 wsJ6_bitCount_0f7a4) := goodIn_app (goodIn_of _ (by decide +kernel)) ggX4_countHolds_J6_bitCount_0f7a4
theorem dX4_countHolds_0 : decode cX4_countHolds 0 = .ok (.iconst 0, 1) := by decide +kernel
theorem dX4_countHolds_1 : decode cX4_countHolds 1 = .ok (.istore_n 1, 1) := by decide +kernel
theorem dX4_countHolds_2 : decode cX4_countHolds 2 = .ok (.iconst 0, 1) := by decide +kernel
theorem dX4_countHolds_3 : decode cX4_countHolds 3 = .ok (.istore_n 2, 1) := by decide +kernel
theorem dX4_countHolds_4 : decode cX4_countHolds 4 = .ok (.iload_n 2, 1) := by decide +kernel
theorem dX4_countHolds_5 : decode cX4_countHolds 5 = .ok (.iconst 5, 1) := by decide +kernel
theorem dX4_countHolds_6 : decode cX4_countHolds 6 = .ok (.if_icmp .ge 32, 3) := by decide +kernel
theorem dX4_countHolds_9 : decode cX4_countHolds 9 = .ok (.aload_n 0, 1) := by decide +kernel
theorem dX4_countHolds_10 : decode cX4_countHolds 10 = .ok (.getfield 37, 3) := by decide +kernel
theorem dX4_countHolds_13 : decode cX4_countHolds 13 = .ok (.iload_n 2, 1) := by decide +kernel
theorem dX4_countHolds_14 : decode cX4_countHolds 14 = .ok (.invokestatic 63, 3) := by decide +kernel
theorem dX4_countHolds_17 : decode cX4_countHolds 17 = .ok (.ifCond .eq 15, 3) := by decide +kernel
theorem dX4_countHolds_20 : decode cX4_countHolds 20 = .ok (.iload_n 1, 1) := by decide +kernel
theorem dX4_countHolds_21 : decode cX4_countHolds 21 = .ok (.aload_n 0, 1) := by decide +kernel
theorem dX4_countHolds_22 : decode cX4_countHolds 22 = .ok (.getfield 18, 3) := by decide +kernel
theorem dX4_countHolds_25 : decode cX4_countHolds 25 = .ok (.iload_n 2, 1) := by decide +kernel
theorem dX4_countHolds_26 : decode cX4_countHolds 26 = .ok (.iaload, 1) := by decide +kernel
theorem dX4_countHolds_27 : decode cX4_countHolds 27 = .ok (.invokestatic 67, 3) := by decide +kernel
theorem dX4_countHolds_30 : decode cX4_countHolds 30 = .ok (.iadd, 1) := by decide +kernel
theorem dX4_countHolds_31 : decode cX4_countHolds 31 = .ok (.istore_n 1, 1) := by decide +kernel
theorem dX4_countHolds_32 : decode cX4_countHolds 32 = .ok (.iinc 2 1, 3) := by decide +kernel
theorem dX4_countHolds_35 : decode cX4_countHolds 35 = .ok (.goto (-31), 3) := by decide +kernel
theorem dX4_countHolds_38 : decode cX4_countHolds 38 = .ok (.iload_n 1, 1) := by decide +kernel
theorem dX4_countHolds_39 : decode cX4_countHolds 39 = .ok (.ireturn, 1) := by decide +kernel
theorem dX5_init_0 : decode cX5_init 0 = .ok (.aload_n 0, 1) := by decide +kernel
theorem dX5_init_1 : decode cX5_init 1 = .ok (.invokespecial 3, 3) := by decide +kernel
theorem dX5_init_4 : decode cX5_init 4 = .ok (.aload_n 0, 1) := by decide +kernel
theorem dX5_init_5 : decode cX5_init 5 = .ok (.iconst 5, 1) := by decide +kernel
theorem dX5_init_6 : decode cX5_init 6 = .ok (.newarray .int, 2) := by decide +kernel
theorem dX5_init_8 : decode cX5_init 8 = .ok (.putfield 9, 3) := by decide +kernel
theorem dX5_init_11 : decode cX5_init 11 = .ok (.aload_n 0, 1) := by decide +kernel
theorem dX5_init_12 : decode cX5_init 12 = .ok (.iconst 5, 1) := by decide +kernel
theorem dX5_init_13 : decode cX5_init 13 = .ok (.newarray .int, 2) := by decide +kernel
theorem dX5_init_15 : decode cX5_init 15 = .ok (.putfield 15, 3) := by decide +kernel
theorem dX5_init_18 : decode cX5_init 18 = .ok (.aload_n 0, 1) := by decide +kernel
theorem dX5_init_19 : decode cX5_init 19 = .ok (.iconst 3, 1) := by decide +kernel
theorem dX5_init_20 : decode cX5_init 20 = .ok (.newarray .int, 2) := by decide +kernel
theorem dX5_init_22 : decode cX5_init 22 = .ok (.putfield 18, 3) := by decide +kernel
theorem dX5_init_25 : decode cX5_init 25 = .ok (.return_, 1) := by decide +kernel
set_option maxRecDepth 20000 in
theorem ggX5_find_X7_has : GoodIn wsX5_find wsX7_has := goodIn_r _ [9] (by decide +kernel) (by decide +kernel)
set_option maxRecDepth 20000 in
theorem gX5_find_X7_has_n36 : GoodIn wsX5_find (wsX7_has) := ggX5_find_X7_has
set_option maxRecDepth 20000 in
theorem ggX5_find_X5_findPair : GoodIn wsX5_find wsX5_findPair := goodIn_r _ [14, 2, 15, 16, 1, 17, 18, 19, 20, 21, 22, 23, 24, 25, 26, 27, 28, 29, 30, 31, 7, 8, 9, 32, 33, 34, 35, 40, 41, 42, 43, 44, 45, 46, 47, 48, 49, 50, 51, 52, 53, 54, 36, 37, 38, 39] (by decide +kernel) (by decide +kernel)
set_option maxRecDepth 20000 in
theorem gX5_find_X5_findPair : GoodIn wsX5_find (wsV RX5 40 RX5 yX5_findPair wsX5_findPair) := goodIn_app (goodIn_of _ (by decide +kernel)) ggX5_find_X5_findPair
set_option maxRecDepth 20000 in
theorem ggX5_find_X3_anchor : GoodIn wsX5_find wsX3_anchor := goodIn_r _ [28, 24, 29, 30, 22, 31, 7, 8, 9, 40, 41, 42] (by decide +kernel) (by decide +kernel)
set_option maxRecDepth 20000 in
theorem gX5_find_X3_anchor : GoodIn wsX5_find (wsV RX5 50 RX3 yX3_anchor wsX3_anchor) := goodIn_app (goodIn_of _ (by decide +kernel)) ggX5_find_X3_anchor
theorem dX5_find_0 : decode cX5_find 0 = .ok (.aload_n 0, 1) := by decide +kernel
theorem dX5_find_1 : decode cX5_find 1 = .ok (.iconst 0, 1) := by decide +kernel
theorem dX5_find_2 : decode cX5_find 2 = .ok (.putfield 21, 3) := by decide +kernel
theorem dX5_find_5 : decode cX5_find 5 = .ok (.iconst 0, 1) := by decide +kernel
theorem dX5_find_6 : decode cX5_find 6 = .ok (.istore_n 2, 1) := by decide +kernel
theorem dX5_find_7 : decode cX5_find 7 = .ok (.iload_n 2, 1) := by decide +kernel
theorem dX5_find_8 : decode cX5_find 8 = .ok (.iconst 5, 1) := by decide +kernel
theorem dX5_find_9 : decode cX5_find 9 = .ok (.if_icmp .ge 29, 3) := by decide +kernel
theorem dX5_find_12 : decode cX5_find 12 = .ok (.aload_n 1, 1) := by decide +kernel
theorem dX5_find_13 : decode cX5_find 13 = .ok (.getfield 25, 3) := by decide +kernel
theorem dX5_find_16 : decode cX5_find 16 = .ok (.getfield 31, 3) := by decide +kernel
theorem dX5_find_19 : decode cX5_find 19 = .ok (.iload_n 2, 1) := by decide +kernel
theorem dX5_find_20 : decode cX5_find 20 = .ok (.invokestatic 36, 3) := by decide +kernel
theorem dX5_find_23 : decode cX5_find 23 = .ok (.ifCond .eq 9, 3) := by decide +kernel
theorem dX5_find_26 : decode cX5_find 26 = .ok (.aload_n 0, 1) := by decide +kernel
theorem dX5_find_27 : decode cX5_find 27 = .ok (.aload_n 1, 1) := by decide +kernel
theorem dX5_find_28 : decode cX5_find 28 = .ok (.iload_n 2, 1) := by decide +kernel
theorem dX5_find_29 : decode cX5_find 29 = .ok (.invokevirtual 40, 3) := by decide +kernel
theorem dX5_find_32 : decode cX5_find 32 = .ok (.iinc 2 1, 3) := by decide +kernel
theorem dX5_find_35 : decode cX5_find 35 = .ok (.goto (-28), 3) := by decide +kernel
theorem dX5_find_38 : decode cX5_find 38 = .ok (.iconst 0, 1) := by decide +kernel
theorem dX5_find_39 : decode cX5_find 39 = .ok (.istore_n 2, 1) := by decide +kernel
theorem dX5_find_40 : decode cX5_find 40 = .ok (.iload_n 2, 1) := by decide +kernel
theorem dX5_find_41 : decode cX5_find 41 = .ok (.iconst 3, 1) := by decide +kernel
theorem dX5_find_42 : decode cX5_find 42 = .ok (.if_icmp .ge 42, 3) := by decide +kernel
theorem dX5_find_45 : decode cX5_find 45 = .ok (.aload_n 1, 1) := by decide +kernel
theorem dX5_find_46 : decode cX5_find 46 = .ok (.getfield 25, 3) := by decide +kernel
theorem dX5_find_49 : decode cX5_find 49 = .ok (.getfield 44, 3) := by decide +kernel
theorem dX5_find_52 : decode cX5_find 52 = .ok (.iload_n 2, 1) := by decide +kernel
theorem dX5_find_53 : decode cX5_find 53 = .ok (.invokestatic 36, 3) := by decide +kernel
theorem dX5_find_56 : decode cX5_find 56 = .ok (.ifCond .eq 22, 3) := by decide +kernel
theorem dX5_find_59 : decode cX5_find 59 = .ok (.aload_n 0, 1) := by decide +kernel
theorem dX5_find_60 : decode cX5_find 60 = .ok (.getfield 18, 3) := by decide +kernel
theorem dX5_find_63 : decode cX5_find 63 = .ok (.iload_n 2, 1) := by decide +kernel
theorem dX5_find_64 : decode cX5_find 64 = .ok (.aload_n 1, 1) := by decide +kernel
theorem dX5_find_65 : decode cX5_find 65 = .ok (.aload_n 1, 1) := by decide +kernel
theorem dX5_find_66 : decode cX5_find 66 = .ok (.getfield 25, 3) := by decide +kernel
theorem dX5_find_69 : decode cX5_find 69 = .ok (.getfield 47, 3) := by decide +kernel
theorem dX5_find_72 : decode cX5_find 72 = .ok (.iload_n 2, 1) := by decide +kernel
theorem dX5_find_73 : decode cX5_find 73 = .ok (.iaload, 1) := by decide +kernel
theorem dX5_find_74 : decode cX5_find 74 = .ok (.invokevirtual 50, 3) := by decide +kernel
theorem dX5_find_77 : decode cX5_find 77 = .ok (.iastore, 1) := by decide +kernel
theorem dX5_find_78 : decode cX5_find 78 = .ok (.iinc 2 1, 3) := by decide +kernel
theorem dX5_find_81 : decode cX5_find 81 = .ok (.goto (-41), 3) := by decide +kernel
theorem dX5_find_84 : decode cX5_find 84 = .ok (.return_, 1) := by decide +kernel
set_option maxRecDepth 20000 in
theorem ggX5_findPair_X3_linkedBetween : GoodIn wsX5_findPair wsX3_linkedBetween := goodIn_r _ [11, 12, 27, 28, 29] (by decide +kernel) (by decide +kernel)
set_option maxRecDepth 20000 in
theorem gX5_findPair_X3_linkedBetween : GoodIn wsX5_findPair (wsV RX5 60 RX3 yX3_linkedBetween wsX3_linkedBetween) := goodIn_app (goodIn_of _ (by decide +kernel)) ggX5_findPair_X3_linkedBetween
set_option maxRecDepth 20000 in
theorem ggX5_findPair_X3_anchor : GoodIn wsX5_findPair wsX3_anchor := goodIn_r _ [16, 12, 17, 18, 10, 19, 20, 21, 22, 27, 28, 29] (by decide +kernel) (by decide +kernel)
set_option maxRecDepth 20000 in
theorem gX5_findPair_X3_anchor : GoodIn wsX5_findPair (wsV RX5 50 RX3 yX3_anchor wsX3_anchor) := goodIn_app (goodIn_of _ (by decide +kernel)) ggX5_findPair_X3_anchor
set_option maxRecDepth 20000 in
theorem ggX5_findPair_X3_least : GoodIn wsX5_findPair wsX3_least := goodIn_r _ [25, 20, 21, 22] (by decide +kernel) (by decide +kernel)
set_option maxRecDepth 20000 in
theorem gX5_findPair_X3_least : GoodIn wsX5_findPair (va_wsS RX5 64 yX3_least wsX3_least) := goodIn_app (goodIn_of _ (by decide +kernel)) ggX5_findPair_X3_least
set_option maxRecDepth 20000 in
theorem ggX5_findPair_X3_behindGreatest : GoodIn wsX5_findPair wsX3_behindGreatest := goodIn_r _ [19, 20, 21, 22] (by decide +kernel) (by decide +kernel)
set_option maxRecDepth 20000 in
theorem gX5_findPair_X3_behindGreatest : GoodIn wsX5_findPair (va_wsS RX5 67 yX3_behindGreatest wsX3_behindGreatest) := goodIn_app (goodIn_of _ (by decide +kernel)) ggX5_findPair_X3_behindGreatest
theorem dX5_findPair_0 : decode cX5_findPair 0 = .ok (.aload_n 1, 1) := by decide +kernel
theorem dX5_findPair_1 : decode cX5_findPair 1 = .ok (.getfield 25, 3) := by decide +kernel
theorem dX5_findPair_4 : decode cX5_findPair 4 = .ok (.getfield 54, 3) := by decide +kernel
theorem dX5_findPair_7 : decode cX5_findPair 7 = .ok (.iload_n 2, 1) := by decide +kernel
theorem dX5_findPair_8 : decode cX5_findPair 8 = .ok (.iaload, 1) := by decide +kernel
theorem dX5_findPair_9 : decode cX5_findPair 9 = .ok (.istore_n 3, 1) := by decide +kernel
theorem dX5_findPair_10 : decode cX5_findPair 10 = .ok (.aload_n 1, 1) := by decide +kernel
theorem dX5_findPair_11 : decode cX5_findPair 11 = .ok (.iload_n 3, 1) := by decide +kernel
theorem dX5_findPair_12 : decode cX5_findPair 12 = .ok (.aload_n 1, 1) := by decide +kernel
theorem dX5_findPair_13 : decode cX5_findPair 13 = .ok (.getfield 25, 3) := by decide +kernel
theorem dX5_findPair_16 : decode cX5_findPair 16 = .ok (.getfield 57, 3) := by decide +kernel
theorem dX5_findPair_19 : decode cX5_findPair 19 = .ok (.iload_n 2, 1) := by decide +kernel
theorem dX5_findPair_20 : decode cX5_findPair 20 = .ok (.iaload, 1) := by decide +kernel
theorem dX5_findPair_21 : decode cX5_findPair 21 = .ok (.invokevirtual 60, 3) := by decide +kernel
theorem dX5_findPair_24 : decode cX5_findPair 24 = .ok (.istore 4, 2) := by decide +kernel
theorem dX5_findPair_26 : decode cX5_findPair 26 = .ok (.iload 4, 2) := by decide +kernel
theorem dX5_findPair_28 : decode cX5_findPair 28 = .ok (.ifCond .ne 41, 3) := by decide +kernel
theorem dX5_findPair_31 : decode cX5_findPair 31 = .ok (.aload_n 0, 1) := by decide +kernel
theorem dX5_findPair_32 : decode cX5_findPair 32 = .ok (.dup, 1) := by decide +kernel
theorem dX5_findPair_33 : decode cX5_findPair 33 = .ok (.getfield 21, 3) := by decide +kernel
theorem dX5_findPair_36 : decode cX5_findPair 36 = .ok (.iconst 1, 1) := by decide +kernel
theorem dX5_findPair_37 : decode cX5_findPair 37 = .ok (.iload_n 2, 1) := by decide +kernel
theorem dX5_findPair_38 : decode cX5_findPair 38 = .ok (.ishl, 1) := by decide +kernel
theorem dX5_findPair_39 : decode cX5_findPair 39 = .ok (.ior, 1) := by decide +kernel
theorem dX5_findPair_40 : decode cX5_findPair 40 = .ok (.putfield 21, 3) := by decide +kernel
theorem dX5_findPair_43 : decode cX5_findPair 43 = .ok (.aload_n 0, 1) := by decide +kernel
theorem dX5_findPair_44 : decode cX5_findPair 44 = .ok (.getfield 9, 3) := by decide +kernel
theorem dX5_findPair_47 : decode cX5_findPair 47 = .ok (.iload_n 2, 1) := by decide +kernel
theorem dX5_findPair_48 : decode cX5_findPair 48 = .ok (.aload_n 1, 1) := by decide +kernel
theorem dX5_findPair_49 : decode cX5_findPair 49 = .ok (.iload_n 3, 1) := by decide +kernel
theorem dX5_findPair_50 : decode cX5_findPair 50 = .ok (.invokevirtual 50, 3) := by decide +kernel
theorem dX5_findPair_53 : decode cX5_findPair 53 = .ok (.iastore, 1) := by decide +kernel
theorem dX5_findPair_54 : decode cX5_findPair 54 = .ok (.aload_n 0, 1) := by decide +kernel
theorem dX5_findPair_55 : decode cX5_findPair 55 = .ok (.getfield 15, 3) := by decide +kernel
theorem dX5_findPair_58 : decode cX5_findPair 58 = .ok (.iload_n 2, 1) := by decide +kernel
theorem dX5_findPair_59 : decode cX5_findPair 59 = .ok (.aload_n 0, 1) := by decide +kernel
theorem dX5_findPair_60 : decode cX5_findPair 60 = .ok (.getfield 9, 3) := by decide +kernel
theorem dX5_findPair_63 : decode cX5_findPair 63 = .ok (.iload_n 2, 1) := by decide +kernel
theorem dX5_findPair_64 : decode cX5_findPair 64 = .ok (.iaload, 1) := by decide +kernel
theorem dX5_findPair_65 : decode cX5_findPair 65 = .ok (.iastore, 1) := by decide +kernel
theorem dX5_findPair_66 : decode cX5_findPair 66 = .ok (.goto 25, 3) := by decide +kernel
theorem dX5_findPair_69 : decode cX5_findPair 69 = .ok (.aload_n 0, 1) := by decide +kernel
theorem dX5_findPair_70 : decode cX5_findPair 70 = .ok (.getfield 9, 3) := by decide +kernel
theorem dX5_findPair_73 : decode cX5_findPair 73 = .ok (.iload_n 2, 1) := by decide +kernel
theorem dX5_findPair_74 : decode cX5_findPair 74 = .ok (.iload 4, 2) := by decide +kernel
theorem dX5_findPair_76 : decode cX5_findPair 76 = .ok (.invokestatic 64, 3) := by decide +kernel
theorem dX5_findPair_79 : decode cX5_findPair 79 = .ok (.iastore, 1) := by decide +kernel
theorem dX5_findPair_80 : decode cX5_findPair 80 = .ok (.aload_n 0, 1) := by decide +kernel
theorem dX5_findPair_81 : decode cX5_findPair 81 = .ok (.getfield 15, 3) := by decide +kernel
theorem dX5_findPair_84 : decode cX5_findPair 84 = .ok (.iload_n 2, 1) := by decide +kernel
theorem dX5_findPair_85 : decode cX5_findPair 85 = .ok (.iload 4, 2) := by decide +kernel
theorem dX5_findPair_87 : decode cX5_findPair 87 = .ok (.invokestatic 67, 3) := by decide +kernel
theorem dX5_findPair_90 : decode cX5_findPair 90 = .ok (.iastore, 1) := by decide +kernel
theorem dX5_findPair_91 : decode cX5_findPair 91 = .ok (.return_, 1) := by decide +kernel
set_option maxRecDepth 20000 in
theorem ggX5_countCrossings_X7_has : GoodIn wsX5_countCrossings wsX7_has := goodIn_r _ [3] (by decide +kernel) (by decide +kernel)
set_option maxRecDepth 20000 in
theorem gX5_countCrossings_X7_has_n36 : GoodIn wsX5_countCrossings (wsX7_has) := ggX5_countCrossings_X7_has
set_option maxRecDepth 20000 in
theorem ggX5_countCrossings_X5_cross : GoodIn wsX5_countCrossings wsX5_cross := goodIn_r _ [8, 9, 10, 11, 7, 12, 13, 14, 15, 16, 17, 18] (by decide +kernel) (by decide +kernel)
set_option maxRecDepth 20000 in
theorem gX5_countCrossings_X5_cross : GoodIn wsX5_countCrossings (wsV RX5 70 RX5 yX5_cross wsX5_cross) := goodIn_app (goodIn_of _ (by decide +kernel)) ggX5_countCrossings_X5_cross
theorem dX5_countCrossings_0 : decode cX5_countCrossings 0 = .ok (.iconst 0, 1) := by decide +kernel
theorem dX5_countCrossings_1 : decode cX5_countCrossings 1 = .ok (.istore_n 2, 1) := by decide +kernel
theorem dX5_countCrossings_2 : decode cX5_countCrossings 2 = .ok (.iconst 0, 1) := by decide +kernel
theorem dX5_countCrossings_3 : decode cX5_countCrossings 3 = .ok (.istore_n 3, 1) := by decide +kernel
theorem dX5_countCrossings_4 : decode cX5_countCrossings 4 = .ok (.iload_n 3, 1) := by decide +kernel
theorem dX5_countCrossings_5 : decode cX5_countCrossings 5 = .ok (.iconst 5, 1) := by decide +kernel
theorem dX5_countCrossings_6 : decode cX5_countCrossings 6 = .ok (.if_icmp .ge 56, 3) := by decide +kernel
theorem dX5_countCrossings_9 : decode cX5_countCrossings 9 = .ok (.iload_n 3, 1) := by decide +kernel
theorem dX5_countCrossings_10 : decode cX5_countCrossings 10 = .ok (.iconst 1, 1) := by decide +kernel
theorem dX5_countCrossings_11 : decode cX5_countCrossings 11 = .ok (.iadd, 1) := by decide +kernel
theorem dX5_countCrossings_12 : decode cX5_countCrossings 12 = .ok (.istore 4, 2) := by decide +kernel
theorem dX5_countCrossings_14 : decode cX5_countCrossings 14 = .ok (.iload 4, 2) := by decide +kernel
theorem dX5_countCrossings_16 : decode cX5_countCrossings 16 = .ok (.iconst 5, 1) := by decide +kernel
theorem dX5_countCrossings_17 : decode cX5_countCrossings 17 = .ok (.if_icmp .ge 39, 3) := by decide +kernel
theorem dX5_countCrossings_20 : decode cX5_countCrossings 20 = .ok (.iload_n 1, 1) := by decide +kernel
theorem dX5_countCrossings_21 : decode cX5_countCrossings 21 = .ok (.iload_n 3, 1) := by decide +kernel
theorem dX5_countCrossings_22 : decode cX5_countCrossings 22 = .ok (.invokestatic 36, 3) := by decide +kernel
theorem dX5_countCrossings_25 : decode cX5_countCrossings 25 = .ok (.ifCond .eq 25, 3) := by decide +kernel
theorem dX5_countCrossings_28 : decode cX5_countCrossings 28 = .ok (.iload_n 1, 1) := by decide +kernel
theorem dX5_countCrossings_29 : decode cX5_countCrossings 29 = .ok (.iload 4, 2) := by decide +kernel
theorem dX5_countCrossings_31 : decode cX5_countCrossings 31 = .ok (.invokestatic 36, 3) := by decide +kernel
theorem dX5_countCrossings_34 : decode cX5_countCrossings 34 = .ok (.ifCond .eq 16, 3) := by decide +kernel
theorem dX5_countCrossings_37 : decode cX5_countCrossings 37 = .ok (.aload_n 0, 1) := by decide +kernel
theorem dX5_countCrossings_38 : decode cX5_countCrossings 38 = .ok (.iload_n 3, 1) := by decide +kernel
theorem dX5_countCrossings_39 : decode cX5_countCrossings 39 = .ok (.iload 4, 2) := by decide +kernel
theorem dX5_countCrossings_41 : decode cX5_countCrossings 41 = .ok (.invokevirtual 70, 3) := by decide +kernel
theorem dX5_countCrossings_44 : decode cX5_countCrossings 44 = .ok (.ifCond .eq 6, 3) := by decide +kernel
theorem dX5_countCrossings_47 : decode cX5_countCrossings 47 = .ok (.iinc 2 1, 3) := by decide +kernel
theorem dX5_countCrossings_50 : decode cX5_countCrossings 50 = .ok (.iinc 4 1, 3) := by decide +kernel
theorem dX5_countCrossings_53 : decode cX5_countCrossings 53 = .ok (.goto (-39), 3) := by decide +kernel
theorem dX5_countCrossings_56 : decode cX5_countCrossings 56 = .ok (.iinc 3 1, 3) := by decide +kernel
theorem dX5_countCrossings_59 : decode cX5_countCrossings 59 = .ok (.goto (-55), 3) := by decide +kernel
theorem dX5_countCrossings_62 : decode cX5_countCrossings 62 = .ok (.iload_n 2, 1) := by decide +kernel
theorem dX5_countCrossings_63 : decode cX5_countCrossings 63 = .ok (.ireturn, 1) := by decide +kernel
set_option maxRecDepth 20000 in
theorem ggX5_cross_X5_overlapsFromAhead : GoodIn wsX5_cross wsX5_overlapsFromAhead := goodIn_r _ [5, 6, 7, 8, 9, 10, 11] (by decide +kernel) (by decide +kernel)
set_option maxRecDepth 20000 in
theorem gX5_cross_X5_overlapsFromAhead : GoodIn wsX5_cross (wsV RX5 73 RX5 yX5_overlapsFromAhead wsX5_overlapsFromAhead) := goodIn_app (goodIn_of _ (by decide +kernel)) ggX5_cross_X5_overlapsFromAhead
theorem dX5_cross_0 : decode cX5_cross 0 = .ok (.aload_n 0, 1) := by decide +kernel
theorem dX5_cross_1 : decode cX5_cross 1 = .ok (.iload_n 1, 1) := by decide +kernel
theorem dX5_cross_2 : decode cX5_cross 2 = .ok (.iload_n 2, 1) := by decide +kernel
theorem dX5_cross_3 : decode cX5_cross 3 = .ok (.invokevirtual 73, 3) := by decide +kernel
theorem dX5_cross_6 : decode cX5_cross 6 = .ok (.ifCond .ne 12, 3) := by decide +kernel
theorem dX5_cross_9 : decode cX5_cross 9 = .ok (.aload_n 0, 1) := by decide +kernel
theorem dX5_cross_10 : decode cX5_cross 10 = .ok (.iload_n 2, 1) := by decide +kernel
theorem dX5_cross_11 : decode cX5_cross 11 = .ok (.iload_n 1, 1) := by decide +kernel
theorem dX5_cross_12 : decode cX5_cross 12 = .ok (.invokevirtual 73, 3) := by decide +kernel
theorem dX5_cross_15 : decode cX5_cross 15 = .ok (.ifCond .eq 7, 3) := by decide +kernel
theorem dX5_cross_18 : decode cX5_cross 18 = .ok (.iconst 1, 1) := by decide +kernel
theorem dX5_cross_19 : decode cX5_cross 19 = .ok (.goto 4, 3) := by decide +kernel
theorem dX5_cross_22 : decode cX5_cross 22 = .ok (.iconst 0, 1) := by decide +kernel
theorem dX5_cross_23 : decode cX5_cross 23 = .ok (.ireturn, 1) := by decide +kernel
theorem dX5_overlapsFromAhead_0 : decode cX5_overlapsFromAhead 0 = .ok (.aload_n 0, 1) := by decide +kernel
theorem dX5_overlapsFromAhead_1 : decode cX5_overlapsFromAhead 1 = .ok (.getfield 9, 3) := by decide +kernel
theorem dX5_overlapsFromAhead_4 : decode cX5_overlapsFromAhead 4 = .ok (.iload_n 1, 1) := by decide +kernel
theorem dX5_overlapsFromAhead_5 : decode cX5_overlapsFromAhead 5 = .ok (.iaload, 1) := by decide +kernel
theorem dX5_overlapsFromAhead_6 : decode cX5_overlapsFromAhead 6 = .ok (.aload_n 0, 1) := by decide +kernel
theorem dX5_overlapsFromAhead_7 : decode cX5_overlapsFromAhead 7 = .ok (.getfield 9, 3) := by decide +kernel
theorem dX5_overlapsFromAhead_10 : decode cX5_overlapsFromAhead 10 = .ok (.iload_n 2, 1) := by decide +kernel
theorem dX5_overlapsFromAhead_11 : decode cX5_overlapsFromAhead 11 = .ok (.iaload, 1) := by decide +kernel
theorem dX5_overlapsFromAhead_12 : decode cX5_overlapsFromAhead 12 = .ok (.if_icmp .ge 37, 3) := by decide +kernel
theorem dX5_overlapsFromAhead_15 : decode cX5_overlapsFromAhead 15 = .ok (.aload_n 0, 1) := by decide +kernel
theorem dX5_overlapsFromAhead_16 : decode cX5_overlapsFromAhead 16 = .ok (.getfield 9, 3) := by decide +kernel
theorem dX5_overlapsFromAhead_19 : decode cX5_overlapsFromAhead 19 = .ok (.iload_n 2, 1) := by decide +kernel
theorem dX5_overlapsFromAhead_20 : decode cX5_overlapsFromAhead 20 = .ok (.iaload, 1) := by decide +kernel
theorem dX5_overlapsFromAhead_21 : decode cX5_overlapsFromAhead 21 = .ok (.aload_n 0, 1) := by decide +kernel
theorem dX5_overlapsFromAhead_22 : decode cX5_overlapsFromAhead 22 = .ok (.getfield 15, 3) := by decide +kernel
theorem dX5_overlapsFromAhead_25 : decode cX5_overlapsFromAhead 25 = .ok (.iload_n 1, 1) := by decide +kernel
theorem dX5_overlapsFromAhead_26 : decode cX5_overlapsFromAhead 26 = .ok (.iaload, 1) := by decide +kernel
theorem dX5_overlapsFromAhead_27 : decode cX5_overlapsFromAhead 27 = .ok (.if_icmp .ge 22, 3) := by decide +kernel
theorem dX5_overlapsFromAhead_30 : decode cX5_overlapsFromAhead 30 = .ok (.aload_n 0, 1) := by decide +kernel
theorem dX5_overlapsFromAhead_31 : decode cX5_overlapsFromAhead 31 = .ok (.getfield 15, 3) := by decide +kernel
theorem dX5_overlapsFromAhead_34 : decode cX5_overlapsFromAhead 34 = .ok (.iload_n 1, 1) := by decide +kernel
theorem dX5_overlapsFromAhead_35 : decode cX5_overlapsFromAhead 35 = .ok (.iaload, 1) := by decide +kernel
theorem dX5_overlapsFromAhead_36 : decode cX5_overlapsFromAhead 36 = .ok (.aload_n 0, 1) := by decide +kernel
theorem dX5_overlapsFromAhead_37 : decode cX5_overlapsFromAhead 37 = .ok (.getfield 15, 3) := by decide +kernel
theorem dX5_overlapsFromAhead_40 : decode cX5_overlapsFromAhead 40 = .ok (.iload_n 2, 1) := by decide +kernel
theorem dX5_overlapsFromAhead_41 : decode cX5_overlapsFromAhead 41 = .ok (.iaload, 1) := by decide +kernel
theorem dX5_overlapsFromAhead_42 : decode cX5_overlapsFromAhead 42 = .ok (.if_icmp .ge 7, 3) := by decide +kernel
theorem dX5_overlapsFromAhead_45 : decode cX5_overlapsFromAhead 45 = .ok (.iconst 1, 1) := by decide +kernel
theorem dX5_overlapsFromAhead_46 : decode cX5_overlapsFromAhead 46 = .ok (.goto 4, 3) := by decide +kernel
theorem dX5_overlapsFromAhead_49 : decode cX5_overlapsFromAhead 49 = .ok (.iconst 0, 1) := by decide +kernel
theorem dX5_overlapsFromAhead_50 : decode cX5_overlapsFromAhead 50 = .ok (.ireturn, 1) := by decide +kernel
theorem dX6_init_0 : decode cX6_init 0 = .ok (.aload_n 0, 1) := by decide +kernel
theorem dX6_init_1 : decode cX6_init 1 = .ok (.invokespecial 3, 3) := by decide +kernel
theorem dX6_init_4 : decode cX6_init 4 = .ok (.aload_n 0, 1) := by decide +kernel
theorem dX6_init_5 : decode cX6_init 5 = .ok (.bipush 21, 2) := by decide +kernel
theorem dX6_init_7 : decode cX6_init 7 = .ok (.newarray .int, 2) := by decide +kernel
theorem dX6_init_9 : decode cX6_init 9 = .ok (.putfield 9, 3) := by decide +kernel
theorem dX6_init_12 : decode cX6_init 12 = .ok (.aload_n 0, 1) := by decide +kernel
theorem dX6_init_13 : decode cX6_init 13 = .ok (.iconst 5, 1) := by decide +kernel
theorem dX6_init_14 : decode cX6_init 14 = .ok (.newarray .int, 2) := by decide +kernel
theorem dX6_init_16 : decode cX6_init 16 = .ok (.putfield 15, 3) := by decide +kernel
theorem dX6_init_19 : decode cX6_init 19 = .ok (.return_, 1) := by decide +kernel
set_option maxRecDepth 20000 in
theorem ggX6_write_X6_writeGap : GoodIn wsX6_write wsX6_writeGap := goodIn_r _ [8, 9, 10, 11, 12, 13, 14, 15, 16, 7, 17, 18, 19, 20, 21, 22, 23, 24, 25, 26, 1, 27, 28, 29, 30, 31, 32, 33, 34, 35, 36, 37, 38, 39, 40, 41, 42, 43, 44, 45, 46, 47, 48, 49, 50, 51, 52, 53, 54, 55, 56, 57, 58, 59, 60, 61, 62, 63, 64, 71, 72, 73, 74, 75, 76, 77, 78, 79, 80, 81, 82, 83, 84, 85, 86, 87, 88, 89, 90, 65, 66, 67, 91, 92, 93, 94] (by decide +kernel) (by decide +kernel)
set_option maxRecDepth 20000 in
theorem gX6_write_X6_writeGap : GoodIn wsX6_write (wsV RX6 31 RX6 yX6_writeGap wsX6_writeGap) := goodIn_app (goodIn_of _ (by decide +kernel)) ggX6_write_X6_writeGap
set_option maxRecDepth 20000 in
theorem ggX6_write_X6_add : GoodIn wsX6_write wsX6_add := goodIn_r _ [26, 1, 27, 65, 66, 67] (by decide +kernel) (by decide +kernel)
set_option maxRecDepth 20000 in
theorem gX6_write_X6_add : GoodIn wsX6_write (wsV RX6 35 RX6 yX6_add wsX6_add) := goodIn_app (goodIn_of _ (by decide +kernel)) ggX6_write_X6_add
theorem dX6_write_0 : decode cX6_write 0 = .ok (.aload_n 0, 1) := by decide +kernel
theorem dX6_write_1 : decode cX6_write 1 = .ok (.iconst 0, 1) := by decide +kernel
theorem dX6_write_2 : decode cX6_write 2 = .ok (.putfield 18, 3) := by decide +kernel
theorem dX6_write_5 : decode cX6_write 5 = .ok (.iconst 0, 1) := by decide +kernel
theorem dX6_write_6 : decode cX6_write 6 = .ok (.istore 4, 2) := by decide +kernel
theorem dX6_write_8 : decode cX6_write 8 = .ok (.iload 4, 2) := by decide +kernel
theorem dX6_write_10 : decode cX6_write 10 = .ok (.aload_n 1, 1) := by decide +kernel
theorem dX6_write_11 : decode cX6_write 11 = .ok (.getfield 22, 3) := by decide +kernel
theorem dX6_write_14 : decode cX6_write 14 = .ok (.if_icmp .gt 36, 3) := by decide +kernel
theorem dX6_write_17 : decode cX6_write 17 = .ok (.aload_n 0, 1) := by decide +kernel
theorem dX6_write_18 : decode cX6_write 18 = .ok (.aload_n 1, 1) := by decide +kernel
theorem dX6_write_19 : decode cX6_write 19 = .ok (.getfield 27, 3) := by decide +kernel
theorem dX6_write_22 : decode cX6_write 22 = .ok (.aload_n 2, 1) := by decide +kernel
theorem dX6_write_23 : decode cX6_write 23 = .ok (.aload_n 3, 1) := by decide +kernel
theorem dX6_write_24 : decode cX6_write 24 = .ok (.iload 4, 2) := by decide +kernel
theorem dX6_write_26 : decode cX6_write 26 = .ok (.invokevirtual 31, 3) := by decide +kernel
theorem dX6_write_29 : decode cX6_write 29 = .ok (.iload 4, 2) := by decide +kernel
theorem dX6_write_31 : decode cX6_write 31 = .ok (.aload_n 1, 1) := by decide +kernel
theorem dX6_write_32 : decode cX6_write 32 = .ok (.getfield 22, 3) := by decide +kernel
theorem dX6_write_35 : decode cX6_write 35 = .ok (.if_icmp .ge 9, 3) := by decide +kernel
theorem dX6_write_38 : decode cX6_write 38 = .ok (.aload_n 0, 1) := by decide +kernel
theorem dX6_write_39 : decode cX6_write 39 = .ok (.bipush 46, 2) := by decide +kernel
theorem dX6_write_41 : decode cX6_write 41 = .ok (.invokevirtual 35, 3) := by decide +kernel
theorem dX6_write_44 : decode cX6_write 44 = .ok (.iinc 4 1, 3) := by decide +kernel
theorem dX6_write_47 : decode cX6_write 47 = .ok (.goto (-39), 3) := by decide +kernel
theorem dX6_write_50 : decode cX6_write 50 = .ok (.return_, 1) := by decide +kernel
set_option maxRecDepth 20000 in
theorem ggX6_writeGap_X7_has : GoodIn wsX6_writeGap wsX7_has := goodIn_r _ [6] (by decide +kernel) (by decide +kernel)
set_option maxRecDepth 20000 in
theorem gX6_writeGap_X7_has_n44 : GoodIn wsX6_writeGap (wsX7_has) := ggX6_writeGap_X7_has
set_option maxRecDepth 20000 in
theorem ggX6_writeGap_X6_heldByAny : GoodIn wsX6_writeGap wsX6_heldByAny := goodIn_r _ [10, 11, 4, 5, 6, 59, 60, 61, 62, 63, 64, 65, 66, 67, 68, 69, 70] (by decide +kernel) (by decide +kernel)
set_option maxRecDepth 20000 in
theorem gX6_writeGap_X6_heldByAny : GoodIn wsX6_writeGap (va_wsS RX6 56 yX6_heldByAny wsX6_heldByAny) := goodIn_app (goodIn_of _ (by decide +kernel)) ggX6_writeGap_X6_heldByAny
end
section
set_option maxRecDepth 20000 in
theorem ggX6_writeGap_X6_addEmpty : GoodIn wsX6_writeGap wsX6_addEmpty := goodIn_r _ [15, 4, 5, 6, 16, 17, 18, 9, 19, 20, 21, 79, 80, 81] (by decide +kernel) (by decide +kernel)
set_option maxRecDepth 20000 in
theorem gX6_writeGap_X6_addEmpty : GoodIn wsX6_writeGap (wsV RX6 60 RX6 yX6_addEmpty wsX6_addEmpty) := goodIn_app (goodIn_of _ (by decide +kernel)) ggX6_writeGap_X6_addEmpty
set_option maxRecDepth 20000 in
theorem ggX6_writeGap_X6_rankClosing : GoodIn wsX6_writeGap wsX6_rankClosing := goodIn_r _ [25, 26, 2, 27, 28, 29, 30, 31, 32, 33, 34, 35, 36, 37, 38, 39, 79, 80, 81, 71, 72, 73, 74, 75, 76, 77, 78, 59, 60, 61, 62, 63, 64, 65, 66, 67, 68, 69, 70] (by decide +kernel) (by decide +kernel)
set_option maxRecDepth 20000 in
theorem gX6_writeGap_X6_rankClosing : GoodIn wsX6_writeGap (wsV RX6 63 RX6 yX6_rankClosing wsX6_rankClosing) := goodIn_app (goodIn_of _ (by decide +kernel)) ggX6_writeGap_X6_rankClosing
set_option maxRecDepth 20000 in
theorem ggX6_writeGap_X6_addRanked : GoodIn wsX6_writeGap wsX6_addRanked := goodIn_r _ [43, 44, 45, 46, 9, 47, 26, 4, 5, 6, 16, 17, 18, 19, 20, 21, 79, 80, 81] (by decide +kernel) (by decide +kernel)
set_option maxRecDepth 20000 in
theorem gX6_writeGap_X6_addRanked : GoodIn wsX6_writeGap (wsV RX6 67 RX6 yX6_addRanked wsX6_addRanked) := goodIn_app (goodIn_of _ (by decide +kernel)) ggX6_writeGap_X6_addRanked
set_option maxRecDepth 20000 in
theorem ggX6_writeGap_X6_addMarks : GoodIn wsX6_writeGap wsX6_addMarks := goodIn_r _ [51, 52, 53, 54, 16, 17, 18, 9, 19, 20, 21, 59, 60, 61, 62, 63, 64, 65, 66, 67, 68, 69, 70, 82, 83, 84, 85, 79, 80, 81] (by decide +kernel) (by decide +kernel)
set_option maxRecDepth 20000 in
theorem gX6_writeGap_X6_addMarks : GoodIn wsX6_writeGap (wsV RX6 71 RX6 yX6_addMarks wsX6_addMarks) := goodIn_app (goodIn_of _ (by decide +kernel)) ggX6_writeGap_X6_addMarks
set_option maxRecDepth 20000 in
theorem ggX6_writeGap_X6_rankOpening : GoodIn wsX6_writeGap wsX6_rankOpening := goodIn_r _ [58, 26, 3, 27, 28, 29, 30, 31, 32, 33, 34, 35, 36, 37, 38, 39, 79, 80, 81, 71, 72, 73, 74, 75, 76, 77, 78, 59, 60, 61, 62, 63, 64, 65, 66, 67, 68, 69, 70] (by decide +kernel) (by decide +kernel)
set_option maxRecDepth 20000 in
theorem gX6_writeGap_X6_rankOpening : GoodIn wsX6_writeGap (wsV RX6 75 RX6 yX6_rankOpening wsX6_rankOpening) := goodIn_app (goodIn_of _ (by decide +kernel)) ggX6_writeGap_X6_rankOpening
theorem dX6_writeGap_0 : decode cX6_writeGap 0 = .ok (.iconst 0, 1) := by decide +kernel
theorem dX6_writeGap_1 : decode cX6_writeGap 1 = .ok (.istore 5, 2) := by decide +kernel
theorem dX6_writeGap_3 : decode cX6_writeGap 3 = .ok (.iconst 0, 1) := by decide +kernel
theorem dX6_writeGap_4 : decode cX6_writeGap 4 = .ok (.istore 6, 2) := by decide +kernel
theorem dX6_writeGap_6 : decode cX6_writeGap 6 = .ok (.iconst 0, 1) := by decide +kernel
theorem dX6_writeGap_7 : decode cX6_writeGap 7 = .ok (.istore 7, 2) := by decide +kernel
theorem dX6_writeGap_9 : decode cX6_writeGap 9 = .ok (.iconst 0, 1) := by decide +kernel
theorem dX6_writeGap_10 : decode cX6_writeGap 10 = .ok (.istore 8, 2) := by decide +kernel
theorem dX6_writeGap_12 : decode cX6_writeGap 12 = .ok (.iload 8, 2) := by decide +kernel
theorem dX6_writeGap_14 : decode cX6_writeGap 14 = .ok (.iconst 5, 1) := by decide +kernel
theorem dX6_writeGap_15 : decode cX6_writeGap 15 = .ok (.if_icmp .ge 128, 3) := by decide +kernel
theorem dX6_writeGap_18 : decode cX6_writeGap 18 = .ok (.aload_n 1, 1) := by decide +kernel
theorem dX6_writeGap_19 : decode cX6_writeGap 19 = .ok (.getfield 39, 3) := by decide +kernel
theorem dX6_writeGap_22 : decode cX6_writeGap 22 = .ok (.iload 8, 2) := by decide +kernel
theorem dX6_writeGap_24 : decode cX6_writeGap 24 = .ok (.invokestatic 44, 3) := by decide +kernel
theorem dX6_writeGap_27 : decode cX6_writeGap 27 = .ok (.ifCond .eq 110, 3) := by decide +kernel
theorem dX6_writeGap_30 : decode cX6_writeGap 30 = .ok (.aload_n 2, 1) := by decide +kernel
theorem dX6_writeGap_31 : decode cX6_writeGap 31 = .ok (.getfield 48, 3) := by decide +kernel
theorem dX6_writeGap_34 : decode cX6_writeGap 34 = .ok (.iload 8, 2) := by decide +kernel
theorem dX6_writeGap_36 : decode cX6_writeGap 36 = .ok (.iaload, 1) := by decide +kernel
theorem dX6_writeGap_37 : decode cX6_writeGap 37 = .ok (.iload 4, 2) := by decide +kernel
theorem dX6_writeGap_39 : decode cX6_writeGap 39 = .ok (.if_icmp .ne 7, 3) := by decide +kernel
theorem dX6_writeGap_42 : decode cX6_writeGap 42 = .ok (.iconst 1, 1) := by decide +kernel
theorem dX6_writeGap_43 : decode cX6_writeGap 43 = .ok (.goto 4, 3) := by decide +kernel
theorem dX6_writeGap_46 : decode cX6_writeGap 46 = .ok (.iconst 0, 1) := by decide +kernel
theorem dX6_writeGap_47 : decode cX6_writeGap 47 = .ok (.istore 9, 2) := by decide +kernel
theorem dX6_writeGap_49 : decode cX6_writeGap 49 = .ok (.aload_n 2, 1) := by decide +kernel
theorem dX6_writeGap_50 : decode cX6_writeGap 50 = .ok (.getfield 53, 3) := by decide +kernel
theorem dX6_writeGap_53 : decode cX6_writeGap 53 = .ok (.iload 8, 2) := by decide +kernel
theorem dX6_writeGap_55 : decode cX6_writeGap 55 = .ok (.iaload, 1) := by decide +kernel
theorem dX6_writeGap_56 : decode cX6_writeGap 56 = .ok (.iload 4, 2) := by decide +kernel
theorem dX6_writeGap_58 : decode cX6_writeGap 58 = .ok (.if_icmp .ne 7, 3) := by decide +kernel
theorem dX6_writeGap_61 : decode cX6_writeGap 61 = .ok (.iconst 1, 1) := by decide +kernel
theorem dX6_writeGap_62 : decode cX6_writeGap 62 = .ok (.goto 4, 3) := by decide +kernel
theorem dX6_writeGap_65 : decode cX6_writeGap 65 = .ok (.iconst 0, 1) := by decide +kernel
theorem dX6_writeGap_66 : decode cX6_writeGap 66 = .ok (.istore 10, 2) := by decide +kernel
theorem dX6_writeGap_68 : decode cX6_writeGap 68 = .ok (.iload 5, 2) := by decide +kernel
theorem dX6_writeGap_70 : decode cX6_writeGap 70 = .ok (.iload 9, 2) := by decide +kernel
theorem dX6_writeGap_72 : decode cX6_writeGap 72 = .ok (.ifCond .eq 15, 3) := by decide +kernel
theorem dX6_writeGap_75 : decode cX6_writeGap 75 = .ok (.iload 10, 2) := by decide +kernel
theorem dX6_writeGap_77 : decode cX6_writeGap 77 = .ok (.ifCond .eq 10, 3) := by decide +kernel
theorem dX6_writeGap_80 : decode cX6_writeGap 80 = .ok (.iconst 1, 1) := by decide +kernel
theorem dX6_writeGap_81 : decode cX6_writeGap 81 = .ok (.iload 8, 2) := by decide +kernel
theorem dX6_writeGap_83 : decode cX6_writeGap 83 = .ok (.ishl, 1) := by decide +kernel
theorem dX6_writeGap_84 : decode cX6_writeGap 84 = .ok (.goto 4, 3) := by decide +kernel
theorem dX6_writeGap_87 : decode cX6_writeGap 87 = .ok (.iconst 0, 1) := by decide +kernel
theorem dX6_writeGap_88 : decode cX6_writeGap 88 = .ok (.ior, 1) := by decide +kernel
theorem dX6_writeGap_89 : decode cX6_writeGap 89 = .ok (.istore 5, 2) := by decide +kernel
theorem dX6_writeGap_91 : decode cX6_writeGap 91 = .ok (.iload 6, 2) := by decide +kernel
theorem dX6_writeGap_93 : decode cX6_writeGap 93 = .ok (.iload 10, 2) := by decide +kernel
theorem dX6_writeGap_95 : decode cX6_writeGap 95 = .ok (.ifCond .eq 15, 3) := by decide +kernel
theorem dX6_writeGap_98 : decode cX6_writeGap 98 = .ok (.iload 9, 2) := by decide +kernel
theorem dX6_writeGap_100 : decode cX6_writeGap 100 = .ok (.ifCond .ne 10, 3) := by decide +kernel
theorem dX6_writeGap_103 : decode cX6_writeGap 103 = .ok (.iconst 1, 1) := by decide +kernel
theorem dX6_writeGap_104 : decode cX6_writeGap 104 = .ok (.iload 8, 2) := by decide +kernel
theorem dX6_writeGap_106 : decode cX6_writeGap 106 = .ok (.ishl, 1) := by decide +kernel
theorem dX6_writeGap_107 : decode cX6_writeGap 107 = .ok (.goto 4, 3) := by decide +kernel
theorem dX6_writeGap_110 : decode cX6_writeGap 110 = .ok (.iconst 0, 1) := by decide +kernel
theorem dX6_writeGap_111 : decode cX6_writeGap 111 = .ok (.ior, 1) := by decide +kernel
theorem dX6_writeGap_112 : decode cX6_writeGap 112 = .ok (.istore 6, 2) := by decide +kernel
theorem dX6_writeGap_114 : decode cX6_writeGap 114 = .ok (.iload 7, 2) := by decide +kernel
theorem dX6_writeGap_116 : decode cX6_writeGap 116 = .ok (.iload 9, 2) := by decide +kernel
theorem dX6_writeGap_118 : decode cX6_writeGap 118 = .ok (.ifCond .eq 15, 3) := by decide +kernel
theorem dX6_writeGap_121 : decode cX6_writeGap 121 = .ok (.iload 10, 2) := by decide +kernel
theorem dX6_writeGap_123 : decode cX6_writeGap 123 = .ok (.ifCond .ne 10, 3) := by decide +kernel
theorem dX6_writeGap_126 : decode cX6_writeGap 126 = .ok (.iconst 1, 1) := by decide +kernel
theorem dX6_writeGap_127 : decode cX6_writeGap 127 = .ok (.iload 8, 2) := by decide +kernel
theorem dX6_writeGap_129 : decode cX6_writeGap 129 = .ok (.ishl, 1) := by decide +kernel
theorem dX6_writeGap_130 : decode cX6_writeGap 130 = .ok (.goto 4, 3) := by decide +kernel
theorem dX6_writeGap_133 : decode cX6_writeGap 133 = .ok (.iconst 0, 1) := by decide +kernel
theorem dX6_writeGap_134 : decode cX6_writeGap 134 = .ok (.ior, 1) := by decide +kernel
theorem dX6_writeGap_135 : decode cX6_writeGap 135 = .ok (.istore 7, 2) := by decide +kernel
theorem dX6_writeGap_137 : decode cX6_writeGap 137 = .ok (.iinc 8 1, 3) := by decide +kernel
theorem dX6_writeGap_140 : decode cX6_writeGap 140 = .ok (.goto (-128), 3) := by decide +kernel
theorem dX6_writeGap_143 : decode cX6_writeGap 143 = .ok (.iload 5, 2) := by decide +kernel
theorem dX6_writeGap_145 : decode cX6_writeGap 145 = .ok (.aload_n 1, 1) := by decide +kernel
theorem dX6_writeGap_146 : decode cX6_writeGap 146 = .ok (.iload 6, 2) := by decide +kernel
theorem dX6_writeGap_148 : decode cX6_writeGap 148 = .ok (.invokestatic 56, 3) := by decide +kernel
theorem dX6_writeGap_151 : decode cX6_writeGap 151 = .ok (.iand, 1) := by decide +kernel
theorem dX6_writeGap_152 : decode cX6_writeGap 152 = .ok (.istore 8, 2) := by decide +kernel
theorem dX6_writeGap_154 : decode cX6_writeGap 154 = .ok (.iload 5, 2) := by decide +kernel
theorem dX6_writeGap_156 : decode cX6_writeGap 156 = .ok (.iload 8, 2) := by decide +kernel
theorem dX6_writeGap_158 : decode cX6_writeGap 158 = .ok (.iconst (-1), 1) := by decide +kernel
theorem dX6_writeGap_159 : decode cX6_writeGap 159 = .ok (.ixor, 1) := by decide +kernel
theorem dX6_writeGap_160 : decode cX6_writeGap 160 = .ok (.iand, 1) := by decide +kernel
theorem dX6_writeGap_161 : decode cX6_writeGap 161 = .ok (.aload_n 1, 1) := by decide +kernel
theorem dX6_writeGap_162 : decode cX6_writeGap 162 = .ok (.iload 7, 2) := by decide +kernel
theorem dX6_writeGap_164 : decode cX6_writeGap 164 = .ok (.invokestatic 56, 3) := by decide +kernel
theorem dX6_writeGap_167 : decode cX6_writeGap 167 = .ok (.iand, 1) := by decide +kernel
theorem dX6_writeGap_168 : decode cX6_writeGap 168 = .ok (.istore 9, 2) := by decide +kernel
theorem dX6_writeGap_170 : decode cX6_writeGap 170 = .ok (.aload_n 0, 1) := by decide +kernel
theorem dX6_writeGap_171 : decode cX6_writeGap 171 = .ok (.iload 8, 2) := by decide +kernel
theorem dX6_writeGap_173 : decode cX6_writeGap 173 = .ok (.invokevirtual 60, 3) := by decide +kernel
theorem dX6_writeGap_176 : decode cX6_writeGap 176 = .ok (.aload_n 0, 1) := by decide +kernel
theorem dX6_writeGap_177 : decode cX6_writeGap 177 = .ok (.aload_n 1, 1) := by decide +kernel
theorem dX6_writeGap_178 : decode cX6_writeGap 178 = .ok (.aload_n 2, 1) := by decide +kernel
theorem dX6_writeGap_179 : decode cX6_writeGap 179 = .ok (.invokevirtual 63, 3) := by decide +kernel
theorem dX6_writeGap_182 : decode cX6_writeGap 182 = .ok (.aload_n 0, 1) := by decide +kernel
theorem dX6_writeGap_183 : decode cX6_writeGap 183 = .ok (.iload 6, 2) := by decide +kernel
theorem dX6_writeGap_185 : decode cX6_writeGap 185 = .ok (.bipush 97, 2) := by decide +kernel
theorem dX6_writeGap_187 : decode cX6_writeGap 187 = .ok (.invokevirtual 67, 3) := by decide +kernel
theorem dX6_writeGap_190 : decode cX6_writeGap 190 = .ok (.aload_n 0, 1) := by decide +kernel
theorem dX6_writeGap_191 : decode cX6_writeGap 191 = .ok (.aload_n 1, 1) := by decide +kernel
theorem dX6_writeGap_192 : decode cX6_writeGap 192 = .ok (.aload_n 3, 1) := by decide +kernel
theorem dX6_writeGap_193 : decode cX6_writeGap 193 = .ok (.iload 4, 2) := by decide +kernel
theorem dX6_writeGap_195 : decode cX6_writeGap 195 = .ok (.invokevirtual 71, 3) := by decide +kernel
theorem dX6_writeGap_198 : decode cX6_writeGap 198 = .ok (.aload_n 0, 1) := by decide +kernel
theorem dX6_writeGap_199 : decode cX6_writeGap 199 = .ok (.iload 5, 2) := by decide +kernel
theorem dX6_writeGap_201 : decode cX6_writeGap 201 = .ok (.iload 8, 2) := by decide +kernel
theorem dX6_writeGap_203 : decode cX6_writeGap 203 = .ok (.iconst (-1), 1) := by decide +kernel
theorem dX6_writeGap_204 : decode cX6_writeGap 204 = .ok (.ixor, 1) := by decide +kernel
theorem dX6_writeGap_205 : decode cX6_writeGap 205 = .ok (.iand, 1) := by decide +kernel
theorem dX6_writeGap_206 : decode cX6_writeGap 206 = .ok (.iload 9, 2) := by decide +kernel
theorem dX6_writeGap_208 : decode cX6_writeGap 208 = .ok (.iconst (-1), 1) := by decide +kernel
theorem dX6_writeGap_209 : decode cX6_writeGap 209 = .ok (.ixor, 1) := by decide +kernel
theorem dX6_writeGap_210 : decode cX6_writeGap 210 = .ok (.iand, 1) := by decide +kernel
theorem dX6_writeGap_211 : decode cX6_writeGap 211 = .ok (.invokevirtual 60, 3) := by decide +kernel
theorem dX6_writeGap_214 : decode cX6_writeGap 214 = .ok (.aload_n 0, 1) := by decide +kernel
theorem dX6_writeGap_215 : decode cX6_writeGap 215 = .ok (.aload_n 1, 1) := by decide +kernel
theorem dX6_writeGap_216 : decode cX6_writeGap 216 = .ok (.aload_n 2, 1) := by decide +kernel
theorem dX6_writeGap_217 : decode cX6_writeGap 217 = .ok (.invokevirtual 75, 3) := by decide +kernel
theorem dX6_writeGap_220 : decode cX6_writeGap 220 = .ok (.aload_n 0, 1) := by decide +kernel
theorem dX6_writeGap_221 : decode cX6_writeGap 221 = .ok (.iload 7, 2) := by decide +kernel
theorem dX6_writeGap_223 : decode cX6_writeGap 223 = .ok (.bipush 65, 2) := by decide +kernel
theorem dX6_writeGap_225 : decode cX6_writeGap 225 = .ok (.invokevirtual 67, 3) := by decide +kernel
theorem dX6_writeGap_228 : decode cX6_writeGap 228 = .ok (.aload_n 0, 1) := by decide +kernel
theorem dX6_writeGap_229 : decode cX6_writeGap 229 = .ok (.iload 9, 2) := by decide +kernel
theorem dX6_writeGap_231 : decode cX6_writeGap 231 = .ok (.invokevirtual 60, 3) := by decide +kernel
theorem dX6_writeGap_234 : decode cX6_writeGap 234 = .ok (.return_, 1) := by decide +kernel
set_option maxRecDepth 20000 in
theorem ggX6_heldByAny_X7_has : GoodIn wsX6_heldByAny wsX7_has := goodIn_r _ [4] (by decide +kernel) (by decide +kernel)
set_option maxRecDepth 20000 in
theorem gX6_heldByAny_X7_has_n44 : GoodIn wsX6_heldByAny (wsX7_has) := ggX6_heldByAny_X7_has
theorem dX6_heldByAny_0 : decode cX6_heldByAny 0 = .ok (.iconst 0, 1) := by decide +kernel
theorem dX6_heldByAny_1 : decode cX6_heldByAny 1 = .ok (.istore_n 2, 1) := by decide +kernel
theorem dX6_heldByAny_2 : decode cX6_heldByAny 2 = .ok (.iconst 0, 1) := by decide +kernel
theorem dX6_heldByAny_3 : decode cX6_heldByAny 3 = .ok (.istore_n 3, 1) := by decide +kernel
theorem dX6_heldByAny_4 : decode cX6_heldByAny 4 = .ok (.iload_n 3, 1) := by decide +kernel
theorem dX6_heldByAny_5 : decode cX6_heldByAny 5 = .ok (.iconst 5, 1) := by decide +kernel
theorem dX6_heldByAny_6 : decode cX6_heldByAny 6 = .ok (.if_icmp .ge 26, 3) := by decide +kernel
theorem dX6_heldByAny_9 : decode cX6_heldByAny 9 = .ok (.iload_n 1, 1) := by decide +kernel
theorem dX6_heldByAny_10 : decode cX6_heldByAny 10 = .ok (.iload_n 3, 1) := by decide +kernel
theorem dX6_heldByAny_11 : decode cX6_heldByAny 11 = .ok (.invokestatic 44, 3) := by decide +kernel
theorem dX6_heldByAny_14 : decode cX6_heldByAny 14 = .ok (.ifCond .eq 12, 3) := by decide +kernel
theorem dX6_heldByAny_17 : decode cX6_heldByAny 17 = .ok (.iload_n 2, 1) := by decide +kernel
theorem dX6_heldByAny_18 : decode cX6_heldByAny 18 = .ok (.aload_n 0, 1) := by decide +kernel
theorem dX6_heldByAny_19 : decode cX6_heldByAny 19 = .ok (.getfield 78, 3) := by decide +kernel
theorem dX6_heldByAny_22 : decode cX6_heldByAny 22 = .ok (.iload_n 3, 1) := by decide +kernel
theorem dX6_heldByAny_23 : decode cX6_heldByAny 23 = .ok (.iaload, 1) := by decide +kernel
theorem dX6_heldByAny_24 : decode cX6_heldByAny 24 = .ok (.ior, 1) := by decide +kernel
theorem dX6_heldByAny_25 : decode cX6_heldByAny 25 = .ok (.istore_n 2, 1) := by decide +kernel
theorem dX6_heldByAny_26 : decode cX6_heldByAny 26 = .ok (.iinc 3 1, 3) := by decide +kernel
theorem dX6_heldByAny_29 : decode cX6_heldByAny 29 = .ok (.goto (-25), 3) := by decide +kernel
theorem dX6_heldByAny_32 : decode cX6_heldByAny 32 = .ok (.iload_n 2, 1) := by decide +kernel
theorem dX6_heldByAny_33 : decode cX6_heldByAny 33 = .ok (.ireturn, 1) := by decide +kernel
set_option maxRecDepth 20000 in
theorem ggX6_addEmpty_X7_has : GoodIn wsX6_addEmpty wsX7_has := goodIn_r _ [3] (by decide +kernel) (by decide +kernel)
set_option maxRecDepth 20000 in
theorem gX6_addEmpty_X7_has_n44 : GoodIn wsX6_addEmpty (wsX7_has) := ggX6_addEmpty_X7_has
set_option maxRecDepth 20000 in
theorem ggX6_addEmpty_X6_add : GoodIn wsX6_addEmpty wsX6_add := goodIn_r _ [8, 9, 10, 11, 12, 13] (by decide +kernel) (by decide +kernel)
set_option maxRecDepth 20000 in
theorem gX6_addEmpty_X6_add : GoodIn wsX6_addEmpty (wsV RX6 35 RX6 yX6_add wsX6_add) := goodIn_app (goodIn_of _ (by decide +kernel)) ggX6_addEmpty_X6_add
theorem dX6_addEmpty_0 : decode cX6_addEmpty 0 = .ok (.iconst 0, 1) := by decide +kernel
theorem dX6_addEmpty_1 : decode cX6_addEmpty 1 = .ok (.istore_n 2, 1) := by decide +kernel
theorem dX6_addEmpty_2 : decode cX6_addEmpty 2 = .ok (.iload_n 2, 1) := by decide +kernel
theorem dX6_addEmpty_3 : decode cX6_addEmpty 3 = .ok (.iconst 5, 1) := by decide +kernel
theorem dX6_addEmpty_4 : decode cX6_addEmpty 4 = .ok (.if_icmp .ge 33, 3) := by decide +kernel
theorem dX6_addEmpty_7 : decode cX6_addEmpty 7 = .ok (.iload_n 1, 1) := by decide +kernel
theorem dX6_addEmpty_8 : decode cX6_addEmpty 8 = .ok (.iload_n 2, 1) := by decide +kernel
theorem dX6_addEmpty_9 : decode cX6_addEmpty 9 = .ok (.invokestatic 44, 3) := by decide +kernel
theorem dX6_addEmpty_12 : decode cX6_addEmpty 12 = .ok (.ifCond .eq 19, 3) := by decide +kernel
theorem dX6_addEmpty_15 : decode cX6_addEmpty 15 = .ok (.aload_n 0, 1) := by decide +kernel
theorem dX6_addEmpty_16 : decode cX6_addEmpty 16 = .ok (.bipush 65, 2) := by decide +kernel
theorem dX6_addEmpty_18 : decode cX6_addEmpty 18 = .ok (.iload_n 2, 1) := by decide +kernel
theorem dX6_addEmpty_19 : decode cX6_addEmpty 19 = .ok (.iadd, 1) := by decide +kernel
theorem dX6_addEmpty_20 : decode cX6_addEmpty 20 = .ok (.invokevirtual 35, 3) := by decide +kernel
theorem dX6_addEmpty_23 : decode cX6_addEmpty 23 = .ok (.aload_n 0, 1) := by decide +kernel
theorem dX6_addEmpty_24 : decode cX6_addEmpty 24 = .ok (.bipush 97, 2) := by decide +kernel
theorem dX6_addEmpty_26 : decode cX6_addEmpty 26 = .ok (.iload_n 2, 1) := by decide +kernel
theorem dX6_addEmpty_27 : decode cX6_addEmpty 27 = .ok (.iadd, 1) := by decide +kernel
theorem dX6_addEmpty_28 : decode cX6_addEmpty 28 = .ok (.invokevirtual 35, 3) := by decide +kernel
theorem dX6_addEmpty_31 : decode cX6_addEmpty 31 = .ok (.iinc 2 1, 3) := by decide +kernel
theorem dX6_addEmpty_34 : decode cX6_addEmpty 34 = .ok (.goto (-32), 3) := by decide +kernel
theorem dX6_addEmpty_37 : decode cX6_addEmpty 37 = .ok (.return_, 1) := by decide +kernel
set_option maxRecDepth 20000 in
theorem ggX6_rankClosing_X4_depth : GoodIn wsX6_rankClosing wsX4_depth := goodIn_r _ [7, 8, 9, 10, 11, 12, 13, 14, 15, 27, 28, 29, 30, 31, 32, 33, 34, 35, 36, 37, 38] (by decide +kernel) (by decide +kernel)
set_option maxRecDepth 20000 in
theorem gX6_rankClosing_X4_depth : GoodIn wsX6_rankClosing (wsV RX6 81 RX4 yX4_depth wsX4_depth) := goodIn_app (goodIn_of _ (by decide +kernel)) ggX6_rankClosing_X4_depth
theorem dX6_rankClosing_0 : decode cX6_rankClosing 0 = .ok (.iconst 0, 1) := by decide +kernel
theorem dX6_rankClosing_1 : decode cX6_rankClosing 1 = .ok (.istore_n 3, 1) := by decide +kernel
theorem dX6_rankClosing_2 : decode cX6_rankClosing 2 = .ok (.iload_n 3, 1) := by decide +kernel
theorem dX6_rankClosing_3 : decode cX6_rankClosing 3 = .ok (.iconst 5, 1) := by decide +kernel
theorem dX6_rankClosing_4 : decode cX6_rankClosing 4 = .ok (.if_icmp .ge 33, 3) := by decide +kernel
theorem dX6_rankClosing_7 : decode cX6_rankClosing 7 = .ok (.aload_n 0, 1) := by decide +kernel
theorem dX6_rankClosing_8 : decode cX6_rankClosing 8 = .ok (.getfield 15, 3) := by decide +kernel
theorem dX6_rankClosing_11 : decode cX6_rankClosing 11 = .ok (.iload_n 3, 1) := by decide +kernel
theorem dX6_rankClosing_12 : decode cX6_rankClosing 12 = .ok (.aload_n 2, 1) := by decide +kernel
theorem dX6_rankClosing_13 : decode cX6_rankClosing 13 = .ok (.getfield 48, 3) := by decide +kernel
theorem dX6_rankClosing_16 : decode cX6_rankClosing 16 = .ok (.iload_n 3, 1) := by decide +kernel
theorem dX6_rankClosing_17 : decode cX6_rankClosing 17 = .ok (.iaload, 1) := by decide +kernel
theorem dX6_rankClosing_18 : decode cX6_rankClosing 18 = .ok (.iconst 5, 1) := by decide +kernel
theorem dX6_rankClosing_19 : decode cX6_rankClosing 19 = .ok (.imul, 1) := by decide +kernel
theorem dX6_rankClosing_20 : decode cX6_rankClosing 20 = .ok (.aload_n 1, 1) := by decide +kernel
theorem dX6_rankClosing_21 : decode cX6_rankClosing 21 = .ok (.iload_n 3, 1) := by decide +kernel
theorem dX6_rankClosing_22 : decode cX6_rankClosing 22 = .ok (.invokevirtual 81, 3) := by decide +kernel
theorem dX6_rankClosing_25 : decode cX6_rankClosing 25 = .ok (.iadd, 1) := by decide +kernel
theorem dX6_rankClosing_26 : decode cX6_rankClosing 26 = .ok (.iconst 5, 1) := by decide +kernel
theorem dX6_rankClosing_27 : decode cX6_rankClosing 27 = .ok (.imul, 1) := by decide +kernel
theorem dX6_rankClosing_28 : decode cX6_rankClosing 28 = .ok (.iload_n 3, 1) := by decide +kernel
theorem dX6_rankClosing_29 : decode cX6_rankClosing 29 = .ok (.iadd, 1) := by decide +kernel
theorem dX6_rankClosing_30 : decode cX6_rankClosing 30 = .ok (.iastore, 1) := by decide +kernel
theorem dX6_rankClosing_31 : decode cX6_rankClosing 31 = .ok (.iinc 3 1, 3) := by decide +kernel
theorem dX6_rankClosing_34 : decode cX6_rankClosing 34 = .ok (.goto (-32), 3) := by decide +kernel
theorem dX6_rankClosing_37 : decode cX6_rankClosing 37 = .ok (.return_, 1) := by decide +kernel
set_option maxRecDepth 20000 in
theorem ggX6_rankOpening_X4_depth : GoodIn wsX6_rankOpening wsX4_depth := goodIn_r _ [7, 8, 9, 10, 11, 12, 13, 14, 15, 27, 28, 29, 30, 31, 32, 33, 34, 35, 36, 37, 38] (by decide +kernel) (by decide +kernel)
set_option maxRecDepth 20000 in
theorem gX6_rankOpening_X4_depth : GoodIn wsX6_rankOpening (wsV RX6 81 RX4 yX4_depth wsX4_depth) := goodIn_app (goodIn_of _ (by decide +kernel)) ggX6_rankOpening_X4_depth
theorem dX6_rankOpening_0 : decode cX6_rankOpening 0 = .ok (.iconst 0, 1) := by decide +kernel
theorem dX6_rankOpening_1 : decode cX6_rankOpening 1 = .ok (.istore_n 3, 1) := by decide +kernel
theorem dX6_rankOpening_2 : decode cX6_rankOpening 2 = .ok (.iload_n 3, 1) := by decide +kernel
theorem dX6_rankOpening_3 : decode cX6_rankOpening 3 = .ok (.iconst 5, 1) := by decide +kernel
theorem dX6_rankOpening_4 : decode cX6_rankOpening 4 = .ok (.if_icmp .ge 33, 3) := by decide +kernel
theorem dX6_rankOpening_7 : decode cX6_rankOpening 7 = .ok (.aload_n 0, 1) := by decide +kernel
theorem dX6_rankOpening_8 : decode cX6_rankOpening 8 = .ok (.getfield 15, 3) := by decide +kernel
theorem dX6_rankOpening_11 : decode cX6_rankOpening 11 = .ok (.iload_n 3, 1) := by decide +kernel
theorem dX6_rankOpening_12 : decode cX6_rankOpening 12 = .ok (.aload_n 2, 1) := by decide +kernel
theorem dX6_rankOpening_13 : decode cX6_rankOpening 13 = .ok (.getfield 53, 3) := by decide +kernel
theorem dX6_rankOpening_16 : decode cX6_rankOpening 16 = .ok (.iload_n 3, 1) := by decide +kernel
theorem dX6_rankOpening_17 : decode cX6_rankOpening 17 = .ok (.iaload, 1) := by decide +kernel
theorem dX6_rankOpening_18 : decode cX6_rankOpening 18 = .ok (.iconst 5, 1) := by decide +kernel
theorem dX6_rankOpening_19 : decode cX6_rankOpening 19 = .ok (.imul, 1) := by decide +kernel
theorem dX6_rankOpening_20 : decode cX6_rankOpening 20 = .ok (.aload_n 1, 1) := by decide +kernel
theorem dX6_rankOpening_21 : decode cX6_rankOpening 21 = .ok (.iload_n 3, 1) := by decide +kernel
theorem dX6_rankOpening_22 : decode cX6_rankOpening 22 = .ok (.invokevirtual 81, 3) := by decide +kernel
theorem dX6_rankOpening_25 : decode cX6_rankOpening 25 = .ok (.isub, 1) := by decide +kernel
theorem dX6_rankOpening_26 : decode cX6_rankOpening 26 = .ok (.iconst 5, 1) := by decide +kernel
theorem dX6_rankOpening_27 : decode cX6_rankOpening 27 = .ok (.imul, 1) := by decide +kernel
theorem dX6_rankOpening_28 : decode cX6_rankOpening 28 = .ok (.iload_n 3, 1) := by decide +kernel
theorem dX6_rankOpening_29 : decode cX6_rankOpening 29 = .ok (.isub, 1) := by decide +kernel
theorem dX6_rankOpening_30 : decode cX6_rankOpening 30 = .ok (.iastore, 1) := by decide +kernel
theorem dX6_rankOpening_31 : decode cX6_rankOpening 31 = .ok (.iinc 3 1, 3) := by decide +kernel
theorem dX6_rankOpening_34 : decode cX6_rankOpening 34 = .ok (.goto (-32), 3) := by decide +kernel
theorem dX6_rankOpening_37 : decode cX6_rankOpening 37 = .ok (.return_, 1) := by decide +kernel
set_option maxRecDepth 20000 in
theorem ggX6_addRanked_X6_greatestRank : GoodIn wsX6_addRanked wsX6_greatestRank := goodIn_r _ [5, 6, 7, 8, 9, 16, 17, 18] (by decide +kernel) (by decide +kernel)
set_option maxRecDepth 20000 in
theorem gX6_addRanked_X6_greatestRank : GoodIn wsX6_addRanked (wsV RX6 85 RX6 yX6_greatestRank wsX6_greatestRank) := goodIn_app (goodIn_of _ (by decide +kernel)) ggX6_addRanked_X6_greatestRank
set_option maxRecDepth 20000 in
theorem ggX6_addRanked_X6_add : GoodIn wsX6_addRanked wsX6_add := goodIn_r _ [13, 14, 15, 16, 17, 18] (by decide +kernel) (by decide +kernel)
set_option maxRecDepth 20000 in
theorem gX6_addRanked_X6_add : GoodIn wsX6_addRanked (wsV RX6 35 RX6 yX6_add wsX6_add) := goodIn_app (goodIn_of _ (by decide +kernel)) ggX6_addRanked_X6_add
theorem dX6_addRanked_0 : decode cX6_addRanked 0 = .ok (.iload_n 1, 1) := by decide +kernel
theorem dX6_addRanked_1 : decode cX6_addRanked 1 = .ok (.istore_n 3, 1) := by decide +kernel
theorem dX6_addRanked_2 : decode cX6_addRanked 2 = .ok (.iconst 0, 1) := by decide +kernel
theorem dX6_addRanked_3 : decode cX6_addRanked 3 = .ok (.istore 4, 2) := by decide +kernel
theorem dX6_addRanked_5 : decode cX6_addRanked 5 = .ok (.iload 4, 2) := by decide +kernel
theorem dX6_addRanked_7 : decode cX6_addRanked 7 = .ok (.iconst 5, 1) := by decide +kernel
theorem dX6_addRanked_8 : decode cX6_addRanked 8 = .ok (.if_icmp .ge 37, 3) := by decide +kernel
theorem dX6_addRanked_11 : decode cX6_addRanked 11 = .ok (.iload_n 3, 1) := by decide +kernel
theorem dX6_addRanked_12 : decode cX6_addRanked 12 = .ok (.ifCond .eq 33, 3) := by decide +kernel
theorem dX6_addRanked_15 : decode cX6_addRanked 15 = .ok (.aload_n 0, 1) := by decide +kernel
theorem dX6_addRanked_16 : decode cX6_addRanked 16 = .ok (.iload_n 3, 1) := by decide +kernel
theorem dX6_addRanked_17 : decode cX6_addRanked 17 = .ok (.invokevirtual 85, 3) := by decide +kernel
theorem dX6_addRanked_20 : decode cX6_addRanked 20 = .ok (.istore 5, 2) := by decide +kernel
theorem dX6_addRanked_22 : decode cX6_addRanked 22 = .ok (.aload_n 0, 1) := by decide +kernel
theorem dX6_addRanked_23 : decode cX6_addRanked 23 = .ok (.iload_n 2, 1) := by decide +kernel
theorem dX6_addRanked_24 : decode cX6_addRanked 24 = .ok (.iload 5, 2) := by decide +kernel
theorem dX6_addRanked_26 : decode cX6_addRanked 26 = .ok (.iadd, 1) := by decide +kernel
theorem dX6_addRanked_27 : decode cX6_addRanked 27 = .ok (.invokevirtual 35, 3) := by decide +kernel
theorem dX6_addRanked_30 : decode cX6_addRanked 30 = .ok (.iload_n 3, 1) := by decide +kernel
theorem dX6_addRanked_31 : decode cX6_addRanked 31 = .ok (.iconst 1, 1) := by decide +kernel
theorem dX6_addRanked_32 : decode cX6_addRanked 32 = .ok (.iload 5, 2) := by decide +kernel
theorem dX6_addRanked_34 : decode cX6_addRanked 34 = .ok (.ishl, 1) := by decide +kernel
theorem dX6_addRanked_35 : decode cX6_addRanked 35 = .ok (.iconst (-1), 1) := by decide +kernel
theorem dX6_addRanked_36 : decode cX6_addRanked 36 = .ok (.ixor, 1) := by decide +kernel
theorem dX6_addRanked_37 : decode cX6_addRanked 37 = .ok (.iand, 1) := by decide +kernel
theorem dX6_addRanked_38 : decode cX6_addRanked 38 = .ok (.istore_n 3, 1) := by decide +kernel
theorem dX6_addRanked_39 : decode cX6_addRanked 39 = .ok (.iinc 4 1, 3) := by decide +kernel
theorem dX6_addRanked_42 : decode cX6_addRanked 42 = .ok (.goto (-37), 3) := by decide +kernel
theorem dX6_addRanked_45 : decode cX6_addRanked 45 = .ok (.return_, 1) := by decide +kernel
set_option maxRecDepth 20000 in
theorem ggX6_greatestRank_X7_has : GoodIn wsX6_greatestRank wsX7_has := goodIn_r _ [4] (by decide +kernel) (by decide +kernel)
set_option maxRecDepth 20000 in
theorem gX6_greatestRank_X7_has_n44 : GoodIn wsX6_greatestRank (wsX7_has) := ggX6_greatestRank_X7_has
theorem dX6_greatestRank_0 : decode cX6_greatestRank 0 = .ok (.iconst (-1), 1) := by decide +kernel
theorem dX6_greatestRank_1 : decode cX6_greatestRank 1 = .ok (.istore_n 2, 1) := by decide +kernel
theorem dX6_greatestRank_2 : decode cX6_greatestRank 2 = .ok (.iconst 0, 1) := by decide +kernel
theorem dX6_greatestRank_3 : decode cX6_greatestRank 3 = .ok (.istore_n 3, 1) := by decide +kernel
theorem dX6_greatestRank_4 : decode cX6_greatestRank 4 = .ok (.iload_n 3, 1) := by decide +kernel
theorem dX6_greatestRank_5 : decode cX6_greatestRank 5 = .ok (.iconst 5, 1) := by decide +kernel
theorem dX6_greatestRank_6 : decode cX6_greatestRank 6 = .ok (.if_icmp .ge 38, 3) := by decide +kernel
theorem dX6_greatestRank_9 : decode cX6_greatestRank 9 = .ok (.iload_n 1, 1) := by decide +kernel
theorem dX6_greatestRank_10 : decode cX6_greatestRank 10 = .ok (.iload_n 3, 1) := by decide +kernel
theorem dX6_greatestRank_11 : decode cX6_greatestRank 11 = .ok (.invokestatic 44, 3) := by decide +kernel
theorem dX6_greatestRank_14 : decode cX6_greatestRank 14 = .ok (.ifCond .eq 24, 3) := by decide +kernel
theorem dX6_greatestRank_17 : decode cX6_greatestRank 17 = .ok (.iload_n 2, 1) := by decide +kernel
theorem dX6_greatestRank_18 : decode cX6_greatestRank 18 = .ok (.ifCond .lt 18, 3) := by decide +kernel
theorem dX6_greatestRank_21 : decode cX6_greatestRank 21 = .ok (.aload_n 0, 1) := by decide +kernel
theorem dX6_greatestRank_22 : decode cX6_greatestRank 22 = .ok (.getfield 15, 3) := by decide +kernel
theorem dX6_greatestRank_25 : decode cX6_greatestRank 25 = .ok (.iload_n 3, 1) := by decide +kernel
theorem dX6_greatestRank_26 : decode cX6_greatestRank 26 = .ok (.iaload, 1) := by decide +kernel
theorem dX6_greatestRank_27 : decode cX6_greatestRank 27 = .ok (.aload_n 0, 1) := by decide +kernel
theorem dX6_greatestRank_28 : decode cX6_greatestRank 28 = .ok (.getfield 15, 3) := by decide +kernel
theorem dX6_greatestRank_31 : decode cX6_greatestRank 31 = .ok (.iload_n 2, 1) := by decide +kernel
theorem dX6_greatestRank_32 : decode cX6_greatestRank 32 = .ok (.iaload, 1) := by decide +kernel
theorem dX6_greatestRank_33 : decode cX6_greatestRank 33 = .ok (.if_icmp .le 5, 3) := by decide +kernel
theorem dX6_greatestRank_36 : decode cX6_greatestRank 36 = .ok (.iload_n 3, 1) := by decide +kernel
theorem dX6_greatestRank_37 : decode cX6_greatestRank 37 = .ok (.istore_n 2, 1) := by decide +kernel
theorem dX6_greatestRank_38 : decode cX6_greatestRank 38 = .ok (.iinc 3 1, 3) := by decide +kernel
theorem dX6_greatestRank_41 : decode cX6_greatestRank 41 = .ok (.goto (-37), 3) := by decide +kernel
theorem dX6_greatestRank_44 : decode cX6_greatestRank 44 = .ok (.iload_n 2, 1) := by decide +kernel
theorem dX6_greatestRank_45 : decode cX6_greatestRank 45 = .ok (.ireturn, 1) := by decide +kernel
set_option maxRecDepth 20000 in
theorem ggX6_addMarks_X6_add : GoodIn wsX6_addMarks wsX6_add := goodIn_r _ [8, 9, 10, 27, 28, 29] (by decide +kernel) (by decide +kernel)
set_option maxRecDepth 20000 in
theorem gX6_addMarks_X6_add : GoodIn wsX6_addMarks (wsV RX6 35 RX6 yX6_add wsX6_add) := goodIn_app (goodIn_of _ (by decide +kernel)) ggX6_addMarks_X6_add
theorem dX6_addMarks_0 : decode cX6_addMarks 0 = .ok (.iconst 0, 1) := by decide +kernel
theorem dX6_addMarks_1 : decode cX6_addMarks 1 = .ok (.istore 4, 2) := by decide +kernel
theorem dX6_addMarks_3 : decode cX6_addMarks 3 = .ok (.iload 4, 2) := by decide +kernel
theorem dX6_addMarks_5 : decode cX6_addMarks 5 = .ok (.aload_n 1, 1) := by decide +kernel
theorem dX6_addMarks_6 : decode cX6_addMarks 6 = .ok (.getfield 88, 3) := by decide +kernel
theorem dX6_addMarks_9 : decode cX6_addMarks 9 = .ok (.if_icmp .ge 38, 3) := by decide +kernel
theorem dX6_addMarks_12 : decode cX6_addMarks 12 = .ok (.aload_n 1, 1) := by decide +kernel
theorem dX6_addMarks_13 : decode cX6_addMarks 13 = .ok (.getfield 91, 3) := by decide +kernel
theorem dX6_addMarks_16 : decode cX6_addMarks 16 = .ok (.iload 4, 2) := by decide +kernel
theorem dX6_addMarks_18 : decode cX6_addMarks 18 = .ok (.iaload, 1) := by decide +kernel
theorem dX6_addMarks_19 : decode cX6_addMarks 19 = .ok (.istore 5, 2) := by decide +kernel
theorem dX6_addMarks_21 : decode cX6_addMarks 21 = .ok (.aload_n 2, 1) := by decide +kernel
theorem dX6_addMarks_22 : decode cX6_addMarks 22 = .ok (.getfield 94, 3) := by decide +kernel
theorem dX6_addMarks_25 : decode cX6_addMarks 25 = .ok (.iload 5, 2) := by decide +kernel
theorem dX6_addMarks_27 : decode cX6_addMarks 27 = .ok (.iaload, 1) := by decide +kernel
theorem dX6_addMarks_28 : decode cX6_addMarks 28 = .ok (.iload_n 3, 1) := by decide +kernel
theorem dX6_addMarks_29 : decode cX6_addMarks 29 = .ok (.if_icmp .ne 12, 3) := by decide +kernel
theorem dX6_addMarks_32 : decode cX6_addMarks 32 = .ok (.aload_n 0, 1) := by decide +kernel
theorem dX6_addMarks_33 : decode cX6_addMarks 33 = .ok (.bipush 120, 2) := by decide +kernel
theorem dX6_addMarks_35 : decode cX6_addMarks 35 = .ok (.iload 5, 2) := by decide +kernel
theorem dX6_addMarks_37 : decode cX6_addMarks 37 = .ok (.iadd, 1) := by decide +kernel
theorem dX6_addMarks_38 : decode cX6_addMarks 38 = .ok (.invokevirtual 35, 3) := by decide +kernel
theorem dX6_addMarks_41 : decode cX6_addMarks 41 = .ok (.iinc 4 1, 3) := by decide +kernel
theorem dX6_addMarks_44 : decode cX6_addMarks 44 = .ok (.goto (-41), 3) := by decide +kernel
theorem dX6_addMarks_47 : decode cX6_addMarks 47 = .ok (.return_, 1) := by decide +kernel
theorem dX6_add_0 : decode cX6_add 0 = .ok (.aload_n 0, 1) := by decide +kernel
theorem dX6_add_1 : decode cX6_add 1 = .ok (.getfield 18, 3) := by decide +kernel
theorem dX6_add_4 : decode cX6_add 4 = .ok (.bipush 21, 2) := by decide +kernel
theorem dX6_add_6 : decode cX6_add 6 = .ok (.if_icmp .ge 23, 3) := by decide +kernel
theorem dX6_add_9 : decode cX6_add 9 = .ok (.aload_n 0, 1) := by decide +kernel
theorem dX6_add_10 : decode cX6_add 10 = .ok (.getfield 9, 3) := by decide +kernel
theorem dX6_add_13 : decode cX6_add 13 = .ok (.aload_n 0, 1) := by decide +kernel
theorem dX6_add_14 : decode cX6_add 14 = .ok (.getfield 18, 3) := by decide +kernel
theorem dX6_add_17 : decode cX6_add 17 = .ok (.iload_n 1, 1) := by decide +kernel
theorem dX6_add_18 : decode cX6_add 18 = .ok (.iastore, 1) := by decide +kernel
theorem dX6_add_19 : decode cX6_add 19 = .ok (.aload_n 0, 1) := by decide +kernel
theorem dX6_add_20 : decode cX6_add 20 = .ok (.dup, 1) := by decide +kernel
theorem dX6_add_21 : decode cX6_add 21 = .ok (.getfield 18, 3) := by decide +kernel
theorem dX6_add_24 : decode cX6_add 24 = .ok (.iconst 1, 1) := by decide +kernel
theorem dX6_add_25 : decode cX6_add 25 = .ok (.iadd, 1) := by decide +kernel
theorem dX6_add_26 : decode cX6_add 26 = .ok (.putfield 18, 3) := by decide +kernel
theorem dX6_add_29 : decode cX6_add 29 = .ok (.return_, 1) := by decide +kernel
set_option maxRecDepth 20000 in
theorem ggX7_init_X1_init : GoodIn wsX7_init wsX1_init := goodIn_r _ [31, 32, 2, 3, 33, 34, 35, 36, 37, 38, 39, 40, 41, 42, 43, 44, 45, 46, 47, 48, 115, 116, 117, 118, 119, 120, 121, 122, 123, 124, 125, 126, 82, 83, 84] (by decide +kernel) (by decide +kernel)
set_option maxRecDepth 20000 in
theorem gX7_init_X1_init_n11 : GoodIn wsX7_init (wsX1_init) := ggX7_init_X1_init
set_option maxRecDepth 20000 in
theorem ggX7_init_X3_init : GoodIn wsX7_init wsX3_init := goodIn_r _ [50, 51, 2, 3, 52, 34, 35, 53, 37, 54, 39, 40, 41, 42, 43, 44, 45, 46, 47, 48, 115, 116, 117, 118, 119, 120, 121, 122, 123, 124, 125, 126, 93, 94, 95] (by decide +kernel) (by decide +kernel)
set_option maxRecDepth 20000 in
theorem gX7_init_X3_init_n18 : GoodIn wsX7_init (wsX3_init) := ggX7_init_X3_init
set_option maxRecDepth 20000 in
theorem ggX7_init_X5_init : GoodIn wsX7_init wsX5_init := goodIn_r _ [56, 57, 2, 3, 37, 58, 59, 60, 96, 97, 98, 99] (by decide +kernel) (by decide +kernel)
set_option maxRecDepth 20000 in
theorem gX7_init_X5_init_n29 : GoodIn wsX7_init (wsX5_init) := ggX7_init_X5_init
set_option maxRecDepth 20000 in
theorem ggX7_init_X2_init : GoodIn wsX7_init wsX2_init := goodIn_r _ [62, 63, 2, 3, 37, 64, 65, 66, 67, 68, 69, 70, 100, 101, 102, 103, 104, 105, 106, 107] (by decide +kernel) (by decide +kernel)
set_option maxRecDepth 20000 in
theorem gX7_init_X2_init_n36 : GoodIn wsX7_init (wsX2_init) := ggX7_init_X2_init
set_option maxRecDepth 20000 in
theorem ggX7_init_X0_init : GoodIn wsX7_init wsX0_init := goodIn_r _ [72, 73, 2, 3, 37, 74, 75, 76, 108, 109, 110, 111] (by decide +kernel) (by decide +kernel)
set_option maxRecDepth 20000 in
theorem gX7_init_X0_init_n43 : GoodIn wsX7_init (wsX0_init) := ggX7_init_X0_init
set_option maxRecDepth 20000 in
theorem ggX7_init_X6_init : GoodIn wsX7_init wsX6_init := goodIn_r _ [78, 79, 2, 3, 37, 80, 81, 112, 113, 114] (by decide +kernel) (by decide +kernel)
set_option maxRecDepth 20000 in
theorem gX7_init_X6_init_n50 : GoodIn wsX7_init (wsX6_init) := ggX7_init_X6_init
theorem dX7_init_0 : decode cX7_init 0 = .ok (.aload_n 0, 1) := by decide +kernel
theorem dX7_init_1 : decode cX7_init 1 = .ok (.invokespecial 3, 3) := by decide +kernel
theorem dX7_init_4 : decode cX7_init 4 = .ok (.aload_n 0, 1) := by decide +kernel
theorem dX7_init_5 : decode cX7_init 5 = .ok (.new 9, 3) := by decide +kernel
theorem dX7_init_8 : decode cX7_init 8 = .ok (.dup, 1) := by decide +kernel
theorem dX7_init_9 : decode cX7_init 9 = .ok (.invokespecial 11, 3) := by decide +kernel
theorem dX7_init_12 : decode cX7_init 12 = .ok (.putfield 12, 3) := by decide +kernel
theorem dX7_init_15 : decode cX7_init 15 = .ok (.aload_n 0, 1) := by decide +kernel
theorem dX7_init_16 : decode cX7_init 16 = .ok (.new 16, 3) := by decide +kernel
theorem dX7_init_19 : decode cX7_init 19 = .ok (.dup, 1) := by decide +kernel
theorem dX7_init_20 : decode cX7_init 20 = .ok (.invokespecial 18, 3) := by decide +kernel
theorem dX7_init_23 : decode cX7_init 23 = .ok (.putfield 19, 3) := by decide +kernel
theorem dX7_init_26 : decode cX7_init 26 = .ok (.aload_n 0, 1) := by decide +kernel
theorem dX7_init_27 : decode cX7_init 27 = .ok (.iconst 2, 1) := by decide +kernel
theorem dX7_init_28 : decode cX7_init 28 = .ok (.anewarray 16, 3) := by decide +kernel
theorem dX7_init_31 : decode cX7_init 31 = .ok (.putfield 23, 3) := by decide +kernel
theorem dX7_init_34 : decode cX7_init 34 = .ok (.aload_n 0, 1) := by decide +kernel
theorem dX7_init_35 : decode cX7_init 35 = .ok (.new 27, 3) := by decide +kernel
theorem dX7_init_38 : decode cX7_init 38 = .ok (.dup, 1) := by decide +kernel
theorem dX7_init_39 : decode cX7_init 39 = .ok (.invokespecial 29, 3) := by decide +kernel
theorem dX7_init_42 : decode cX7_init 42 = .ok (.putfield 30, 3) := by decide +kernel
theorem dX7_init_45 : decode cX7_init 45 = .ok (.aload_n 0, 1) := by decide +kernel
theorem dX7_init_46 : decode cX7_init 46 = .ok (.new 34, 3) := by decide +kernel
theorem dX7_init_49 : decode cX7_init 49 = .ok (.dup, 1) := by decide +kernel
theorem dX7_init_50 : decode cX7_init 50 = .ok (.invokespecial 36, 3) := by decide +kernel
theorem dX7_init_53 : decode cX7_init 53 = .ok (.putfield 37, 3) := by decide +kernel
theorem dX7_init_56 : decode cX7_init 56 = .ok (.aload_n 0, 1) := by decide +kernel
theorem dX7_init_57 : decode cX7_init 57 = .ok (.new 41, 3) := by decide +kernel
theorem dX7_init_60 : decode cX7_init 60 = .ok (.dup, 1) := by decide +kernel
theorem dX7_init_61 : decode cX7_init 61 = .ok (.invokespecial 43, 3) := by decide +kernel
theorem dX7_init_64 : decode cX7_init 64 = .ok (.putfield 44, 3) := by decide +kernel
theorem dX7_init_67 : decode cX7_init 67 = .ok (.aload_n 0, 1) := by decide +kernel
theorem dX7_init_68 : decode cX7_init 68 = .ok (.new 48, 3) := by decide +kernel
theorem dX7_init_71 : decode cX7_init 71 = .ok (.dup, 1) := by decide +kernel
theorem dX7_init_72 : decode cX7_init 72 = .ok (.invokespecial 50, 3) := by decide +kernel
theorem dX7_init_75 : decode cX7_init 75 = .ok (.putfield 51, 3) := by decide +kernel
theorem dX7_init_78 : decode cX7_init 78 = .ok (.aload_n 0, 1) := by decide +kernel
theorem dX7_init_79 : decode cX7_init 79 = .ok (.iconst 1, 1) := by decide +kernel
theorem dX7_init_80 : decode cX7_init 80 = .ok (.putfield 55, 3) := by decide +kernel
theorem dX7_init_83 : decode cX7_init 83 = .ok (.return_, 1) := by decide +kernel
set_option maxRecDepth 20000 in
theorem ggX7_say_X1_add : GoodIn wsX7_say wsX1_add := goodIn_r _ [7, 8, 9, 18, 19, 20] (by decide +kernel) (by decide +kernel)
set_option maxRecDepth 20000 in
theorem gX7_say_X1_add : GoodIn wsX7_say (wsV RX7 59 RX1 yX1_add wsX1_add) := goodIn_app (goodIn_of _ (by decide +kernel)) ggX7_say_X1_add
theorem dX7_say_0 : decode cX7_say 0 = .ok (.iload_n 1, 1) := by decide +kernel
theorem dX7_say_1 : decode cX7_say 1 = .ok (.bipush 33, 2) := by decide +kernel
theorem dX7_say_3 : decode cX7_say 3 = .ok (.if_icmp .lt 9, 3) := by decide +kernel
theorem dX7_say_6 : decode cX7_say 6 = .ok (.iload_n 1, 1) := by decide +kernel
theorem dX7_say_7 : decode cX7_say 7 = .ok (.bipush 126, 2) := by decide +kernel
theorem dX7_say_9 : decode cX7_say 9 = .ok (.if_icmp .le 6, 3) := by decide +kernel
theorem dX7_say_12 : decode cX7_say 12 = .ok (.bipush (-2), 2) := by decide +kernel
theorem dX7_say_14 : decode cX7_say 14 = .ok (.ireturn, 1) := by decide +kernel
theorem dX7_say_15 : decode cX7_say 15 = .ok (.aload_n 0, 1) := by decide +kernel
theorem dX7_say_16 : decode cX7_say 16 = .ok (.getfield 12, 3) := by decide +kernel
theorem dX7_say_19 : decode cX7_say 19 = .ok (.iload_n 1, 1) := by decide +kernel
theorem dX7_say_20 : decode cX7_say 20 = .ok (.invokevirtual 59, 3) := by decide +kernel
theorem dX7_say_23 : decode cX7_say 23 = .ok (.ifCond .eq 13, 3) := by decide +kernel
theorem dX7_say_26 : decode cX7_say 26 = .ok (.aload_n 0, 1) := by decide +kernel
theorem dX7_say_27 : decode cX7_say 27 = .ok (.getfield 12, 3) := by decide +kernel
theorem dX7_say_30 : decode cX7_say 30 = .ok (.getfield 63, 3) := by decide +kernel
theorem dX7_say_33 : decode cX7_say 33 = .ok (.goto 5, 3) := by decide +kernel
theorem dX7_say_36 : decode cX7_say 36 = .ok (.bipush (-4), 2) := by decide +kernel
theorem dX7_say_38 : decode cX7_say 38 = .ok (.ireturn, 1) := by decide +kernel
theorem dX7_wipe_0 : decode cX7_wipe 0 = .ok (.aload_n 0, 1) := by decide +kernel
theorem dX7_wipe_1 : decode cX7_wipe 1 = .ok (.getfield 12, 3) := by decide +kernel
theorem dX7_wipe_4 : decode cX7_wipe 4 = .ok (.getfield 63, 3) := by decide +kernel
theorem dX7_wipe_7 : decode cX7_wipe 7 = .ok (.istore_n 1, 1) := by decide +kernel
theorem dX7_wipe_8 : decode cX7_wipe 8 = .ok (.aload_n 0, 1) := by decide +kernel
theorem dX7_wipe_9 : decode cX7_wipe 9 = .ok (.getfield 12, 3) := by decide +kernel
theorem dX7_wipe_12 : decode cX7_wipe 12 = .ok (.iconst 0, 1) := by decide +kernel
theorem dX7_wipe_13 : decode cX7_wipe 13 = .ok (.putfield 63, 3) := by decide +kernel
theorem dX7_wipe_16 : decode cX7_wipe 16 = .ok (.iload_n 1, 1) := by decide +kernel
theorem dX7_wipe_17 : decode cX7_wipe 17 = .ok (.ireturn, 1) := by decide +kernel
set_option maxRecDepth 20000 in
theorem ggX7_fault_X1_read : GoodIn wsX7_fault wsX1_read := goodIn_r _ [6, 7, 8, 9, 10, 11, 12, 13, 14, 15, 16, 17, 18, 19, 20, 21, 22, 23, 24, 25, 26, 27, 28, 29, 30, 31, 32, 33, 34, 35, 36, 37, 38, 39, 40, 41, 42, 43, 44, 45, 46, 47, 48, 49, 50, 59, 60, 61, 62, 63, 64, 65, 66, 67, 68, 69, 70, 71, 72, 73] (by decide +kernel) (by decide +kernel)
set_option maxRecDepth 20000 in
theorem gX7_fault_X1_read : GoodIn wsX7_fault (wsV RX7 67 RX1 yX1_read wsX1_read) := goodIn_app (goodIn_of _ (by decide +kernel)) ggX7_fault_X1_read
theorem dX7_fault_0 : decode cX7_fault 0 = .ok (.aload_n 0, 1) := by decide +kernel
theorem dX7_fault_1 : decode cX7_fault 1 = .ok (.getfield 12, 3) := by decide +kernel
theorem dX7_fault_4 : decode cX7_fault 4 = .ok (.invokevirtual 67, 3) := by decide +kernel
theorem dX7_fault_7 : decode cX7_fault 7 = .ok (.ireturn, 1) := by decide +kernel
set_option maxRecDepth 20000 in
theorem ggX7_load_X1_read : GoodIn wsX7_load wsX1_read := goodIn_r _ [12, 13, 14, 15, 16, 17, 18, 19, 20, 21, 22, 23, 24, 25, 26, 27, 28, 29, 30, 31, 32, 33, 34, 35, 36, 37, 38, 39, 40, 41, 42, 43, 44, 45, 46, 47, 48, 49, 50, 51, 52, 53, 54, 55, 56, 78, 79, 80, 81, 82, 83, 84, 85, 86, 87, 88, 89, 90, 91, 92] (by decide +kernel) (by decide +kernel)
set_option maxRecDepth 20000 in
theorem gX7_load_X1_read : GoodIn wsX7_load (wsV RX7 67 RX1 yX1_read wsX1_read) := goodIn_app (goodIn_of _ (by decide +kernel)) ggX7_load_X1_read
set_option maxRecDepth 20000 in
theorem ggX7_load_X4_copy : GoodIn wsX7_load wsX4_copy := goodIn_r _ [60, 22, 23, 24, 25, 26, 39, 40, 41, 42, 43, 55, 56, 81, 82, 83, 84, 85, 86, 87, 88, 89, 90, 91, 92] (by decide +kernel) (by decide +kernel)
set_option maxRecDepth 20000 in
theorem gX7_load_X4_copy : GoodIn wsX7_load (wsV RX7 76 RX4 yX4_copy wsX4_copy) := goodIn_app (goodIn_of _ (by decide +kernel)) ggX7_load_X4_copy
set_option maxRecDepth 20000 in
theorem ggX7_load_X3_dropLinks : GoodIn wsX7_load wsX3_dropLinks := goodIn_r _ [65, 66, 75, 76, 77] (by decide +kernel) (by decide +kernel)
set_option maxRecDepth 20000 in
theorem gX7_load_X3_dropLinks : GoodIn wsX7_load (wsV RX7 82 RX3 yX3_dropLinks wsX3_dropLinks) := goodIn_app (goodIn_of _ (by decide +kernel)) ggX7_load_X3_dropLinks
theorem dX7_load_0 : decode cX7_load 0 = .ok (.aload_n 0, 1) := by decide +kernel
theorem dX7_load_1 : decode cX7_load 1 = .ok (.getfield 12, 3) := by decide +kernel
theorem dX7_load_4 : decode cX7_load 4 = .ok (.invokevirtual 67, 3) := by decide +kernel
theorem dX7_load_7 : decode cX7_load 7 = .ok (.bipush (-6), 2) := by decide +kernel
theorem dX7_load_9 : decode cX7_load 9 = .ok (.if_icmp .eq 6, 3) := by decide +kernel
theorem dX7_load_12 : decode cX7_load 12 = .ok (.bipush (-5), 2) := by decide +kernel
theorem dX7_load_14 : decode cX7_load 14 = .ok (.ireturn, 1) := by decide +kernel
theorem dX7_load_15 : decode cX7_load 15 = .ok (.aload_n 0, 1) := by decide +kernel
theorem dX7_load_16 : decode cX7_load 16 = .ok (.getfield 19, 3) := by decide +kernel
theorem dX7_load_19 : decode cX7_load 19 = .ok (.getfield 71, 3) := by decide +kernel
theorem dX7_load_22 : decode cX7_load 22 = .ok (.aload_n 0, 1) := by decide +kernel
theorem dX7_load_23 : decode cX7_load 23 = .ok (.getfield 12, 3) := by decide +kernel
theorem dX7_load_26 : decode cX7_load 26 = .ok (.getfield 75, 3) := by decide +kernel
theorem dX7_load_29 : decode cX7_load 29 = .ok (.invokevirtual 76, 3) := by decide +kernel
theorem dX7_load_32 : decode cX7_load 32 = .ok (.aload_n 0, 1) := by decide +kernel
theorem dX7_load_33 : decode cX7_load 33 = .ok (.getfield 19, 3) := by decide +kernel
theorem dX7_load_36 : decode cX7_load 36 = .ok (.invokevirtual 82, 3) := by decide +kernel
theorem dX7_load_39 : decode cX7_load 39 = .ok (.aload_n 0, 1) := by decide +kernel
theorem dX7_load_40 : decode cX7_load 40 = .ok (.getfield 12, 3) := by decide +kernel
theorem dX7_load_43 : decode cX7_load 43 = .ok (.iconst 0, 1) := by decide +kernel
theorem dX7_load_44 : decode cX7_load 44 = .ok (.putfield 63, 3) := by decide +kernel
theorem dX7_load_47 : decode cX7_load 47 = .ok (.aload_n 0, 1) := by decide +kernel
theorem dX7_load_48 : decode cX7_load 48 = .ok (.iconst 1, 1) := by decide +kernel
theorem dX7_load_49 : decode cX7_load 49 = .ok (.putfield 55, 3) := by decide +kernel
theorem dX7_load_52 : decode cX7_load 52 = .ok (.aload_n 0, 1) := by decide +kernel
theorem dX7_load_53 : decode cX7_load 53 = .ok (.getfield 19, 3) := by decide +kernel
theorem dX7_load_56 : decode cX7_load 56 = .ok (.getfield 71, 3) := by decide +kernel
theorem dX7_load_59 : decode cX7_load 59 = .ok (.getfield 85, 3) := by decide +kernel
theorem dX7_load_62 : decode cX7_load 62 = .ok (.ireturn, 1) := by decide +kernel
set_option maxRecDepth 20000 in
theorem ggX7_target_X3_dropLinks : GoodIn wsX7_target wsX3_dropLinks := goodIn_r _ [8, 9, 18, 19, 20] (by decide +kernel) (by decide +kernel)
set_option maxRecDepth 20000 in
theorem gX7_target_X3_dropLinks : GoodIn wsX7_target (wsV RX7 82 RX3 yX3_dropLinks wsX3_dropLinks) := goodIn_app (goodIn_of _ (by decide +kernel)) ggX7_target_X3_dropLinks
theorem dX7_target_0 : decode cX7_target 0 = .ok (.iload_n 1, 1) := by decide +kernel
theorem dX7_target_1 : decode cX7_target 1 = .ok (.ifCond .lt 9, 3) := by decide +kernel
theorem dX7_target_4 : decode cX7_target 4 = .ok (.iload_n 1, 1) := by decide +kernel
theorem dX7_target_5 : decode cX7_target 5 = .ok (.bipush 8, 2) := by decide +kernel
theorem dX7_target_7 : decode cX7_target 7 = .ok (.if_icmp .le 6, 3) := by decide +kernel
theorem dX7_target_10 : decode cX7_target 10 = .ok (.bipush (-2), 2) := by decide +kernel
theorem dX7_target_12 : decode cX7_target 12 = .ok (.ireturn, 1) := by decide +kernel
theorem dX7_target_13 : decode cX7_target 13 = .ok (.aload_n 0, 1) := by decide +kernel
theorem dX7_target_14 : decode cX7_target 14 = .ok (.getfield 19, 3) := by decide +kernel
theorem dX7_target_17 : decode cX7_target 17 = .ok (.getfield 88, 3) := by decide +kernel
theorem dX7_target_20 : decode cX7_target 20 = .ok (.istore_n 2, 1) := by decide +kernel
theorem dX7_target_21 : decode cX7_target 21 = .ok (.aload_n 0, 1) := by decide +kernel
theorem dX7_target_22 : decode cX7_target 22 = .ok (.getfield 19, 3) := by decide +kernel
theorem dX7_target_25 : decode cX7_target 25 = .ok (.iload_n 1, 1) := by decide +kernel
theorem dX7_target_26 : decode cX7_target 26 = .ok (.putfield 88, 3) := by decide +kernel
theorem dX7_target_29 : decode cX7_target 29 = .ok (.aload_n 0, 1) := by decide +kernel
theorem dX7_target_30 : decode cX7_target 30 = .ok (.getfield 19, 3) := by decide +kernel
theorem dX7_target_33 : decode cX7_target 33 = .ok (.invokevirtual 82, 3) := by decide +kernel
theorem dX7_target_36 : decode cX7_target 36 = .ok (.aload_n 0, 1) := by decide +kernel
theorem dX7_target_37 : decode cX7_target 37 = .ok (.iconst 1, 1) := by decide +kernel
theorem dX7_target_38 : decode cX7_target 38 = .ok (.putfield 55, 3) := by decide +kernel
theorem dX7_target_41 : decode cX7_target 41 = .ok (.iload_n 2, 1) := by decide +kernel
theorem dX7_target_42 : decode cX7_target 42 = .ok (.ireturn, 1) := by decide +kernel
theorem dX7_link_0 : decode cX7_link 0 = .ok (.iload_n 1, 1) := by decide +kernel
theorem dX7_link_1 : decode cX7_link 1 = .ok (.ifCond .lt 32, 3) := by decide +kernel
theorem dX7_link_4 : decode cX7_link 4 = .ok (.iload_n 1, 1) := by decide +kernel
theorem dX7_link_5 : decode cX7_link 5 = .ok (.aload_n 0, 1) := by decide +kernel
theorem dX7_link_6 : decode cX7_link 6 = .ok (.getfield 19, 3) := by decide +kernel
theorem dX7_link_9 : decode cX7_link 9 = .ok (.getfield 71, 3) := by decide +kernel
theorem dX7_link_12 : decode cX7_link 12 = .ok (.getfield 85, 3) := by decide +kernel
theorem dX7_link_15 : decode cX7_link 15 = .ok (.if_icmp .ge 18, 3) := by decide +kernel
theorem dX7_link_18 : decode cX7_link 18 = .ok (.iload_n 2, 1) := by decide +kernel
theorem dX7_link_19 : decode cX7_link 19 = .ok (.ifCond .lt 14, 3) := by decide +kernel
theorem dX7_link_22 : decode cX7_link 22 = .ok (.iload_n 2, 1) := by decide +kernel
theorem dX7_link_23 : decode cX7_link 23 = .ok (.aload_n 0, 1) := by decide +kernel
theorem dX7_link_24 : decode cX7_link 24 = .ok (.getfield 19, 3) := by decide +kernel
theorem dX7_link_27 : decode cX7_link 27 = .ok (.getfield 88, 3) := by decide +kernel
theorem dX7_link_30 : decode cX7_link 30 = .ok (.if_icmp .lt 5, 3) := by decide +kernel
theorem dX7_link_33 : decode cX7_link 33 = .ok (.iconst (-1), 1) := by decide +kernel
theorem dX7_link_34 : decode cX7_link 34 = .ok (.ireturn, 1) := by decide +kernel
theorem dX7_link_35 : decode cX7_link 35 = .ok (.aload_n 0, 1) := by decide +kernel
theorem dX7_link_36 : decode cX7_link 36 = .ok (.getfield 19, 3) := by decide +kernel
theorem dX7_link_39 : decode cX7_link 39 = .ok (.getfield 91, 3) := by decide +kernel
theorem dX7_link_42 : decode cX7_link 42 = .ok (.iload_n 1, 1) := by decide +kernel
theorem dX7_link_43 : decode cX7_link 43 = .ok (.dup2, 1) := by decide +kernel
theorem dX7_link_44 : decode cX7_link 44 = .ok (.iaload, 1) := by decide +kernel
theorem dX7_link_45 : decode cX7_link 45 = .ok (.iconst 1, 1) := by decide +kernel
theorem dX7_link_46 : decode cX7_link 46 = .ok (.iload_n 2, 1) := by decide +kernel
theorem dX7_link_47 : decode cX7_link 47 = .ok (.ishl, 1) := by decide +kernel
theorem dX7_link_48 : decode cX7_link 48 = .ok (.ixor, 1) := by decide +kernel
theorem dX7_link_49 : decode cX7_link 49 = .ok (.iastore, 1) := by decide +kernel
theorem dX7_link_50 : decode cX7_link 50 = .ok (.aload_n 0, 1) := by decide +kernel
theorem dX7_link_51 : decode cX7_link 51 = .ok (.iconst 1, 1) := by decide +kernel
theorem dX7_link_52 : decode cX7_link 52 = .ok (.putfield 55, 3) := by decide +kernel
theorem dX7_link_55 : decode cX7_link 55 = .ok (.aload_n 0, 1) := by decide +kernel
theorem dX7_link_56 : decode cX7_link 56 = .ok (.getfield 19, 3) := by decide +kernel
theorem dX7_link_59 : decode cX7_link 59 = .ok (.getfield 91, 3) := by decide +kernel
theorem dX7_link_62 : decode cX7_link 62 = .ok (.iload_n 1, 1) := by decide +kernel
theorem dX7_link_63 : decode cX7_link 63 = .ok (.iaload, 1) := by decide +kernel
theorem dX7_link_64 : decode cX7_link 64 = .ok (.iload_n 2, 1) := by decide +kernel
theorem dX7_link_65 : decode cX7_link 65 = .ok (.ishr, 1) := by decide +kernel
theorem dX7_link_66 : decode cX7_link 66 = .ok (.iconst 1, 1) := by decide +kernel
theorem dX7_link_67 : decode cX7_link 67 = .ok (.iand, 1) := by decide +kernel
theorem dX7_link_68 : decode cX7_link 68 = .ok (.ireturn, 1) := by decide +kernel
set_option maxRecDepth 20000 in
theorem ggX7_pair_X7_has : GoodIn wsX7_pair wsX7_has := goodIn_r _ [18] (by decide +kernel) (by decide +kernel)
set_option maxRecDepth 20000 in
theorem gX7_pair_X7_has : GoodIn wsX7_pair (va_wsS RX7 98 yX7_has wsX7_has) := goodIn_app (goodIn_of _ (by decide +kernel)) ggX7_pair_X7_has
set_option maxRecDepth 20000 in
theorem ggX7_pair_X7_carry : GoodIn wsX7_pair wsX7_carry := goodIn_r _ [22, 23, 7, 1, 10, 2, 24, 25, 26, 27, 28, 29, 30, 31, 32, 33, 34, 35, 36, 37, 16, 17, 18, 38, 39, 40, 41, 42, 43, 44, 45, 46, 47, 48, 49, 50, 51, 52, 53, 54, 55, 56, 57, 58, 59, 60, 61, 62, 63, 64, 65, 66, 67, 68, 69, 70, 71, 72, 73, 74, 75, 76, 77, 78, 79, 80, 81, 82, 83, 84, 85, 86, 87, 88, 89, 90, 91, 92, 93, 94, 95, 96, 97, 98, 99, 100, 101, 102, 103, 104, 105, 106, 107, 108, 109, 110, 111, 112, 113, 114, 115, 116, 117, 118, 119, 120, 121, 122, 123, 124, 125, 126, 127, 128, 129, 130, 131, 132, 133, 134, 135, 136, 137, 138, 139, 140, 141, 142, 143, 144, 145, 146, 147, 148, 149, 150, 151, 152, 153, 154, 155, 156, 157, 158, 159, 160, 161, 162, 163, 164, 165, 166, 167, 168, 169, 170, 171, 172, 173, 174, 175, 176, 177, 178, 179, 180, 181, 182, 183, 184, 185, 186, 187, 188, 189, 190, 191, 192, 193, 194, 195, 196, 197, 198, 199, 200, 201, 202, 203, 204, 205, 206, 207, 208, 209, 210, 212, 213, 214, 215, 216, 217, 218, 219, 220, 221, 222, 235, 236, 237, 238, 223, 224, 225, 226, 227, 228, 229, 230, 231, 232, 233, 234, 239, 240, 241, 242, 243, 244, 245, 246, 247, 248, 249, 250, 251, 252, 253] (by decide +kernel) (by decide +kernel)
set_option maxRecDepth 20000 in
theorem gX7_pair_X7_carry : GoodIn wsX7_pair (wsV RX7 102 RX7 yX7_carry wsX7_carry) := goodIn_app (goodIn_of _ (by decide +kernel)) ggX7_pair_X7_carry
set_option maxRecDepth 20000 in
theorem ggX7_pair_X4_depth : GoodIn wsX7_pair wsX4_depth := goodIn_r _ [183, 184, 185, 186, 187, 188, 189, 190, 191, 223, 224, 225, 226, 227, 228, 229, 230, 231, 232, 233, 234] (by decide +kernel) (by decide +kernel)
set_option maxRecDepth 20000 in
theorem gX7_pair_X4_depth : GoodIn wsX7_pair (wsV RX7 111 RX4 yX4_depth wsX4_depth) := goodIn_app (goodIn_of _ (by decide +kernel)) ggX7_pair_X4_depth
theorem dX7_pair_0 : decode cX7_pair 0 = .ok (.iload_n 1, 1) := by decide +kernel
theorem dX7_pair_1 : decode cX7_pair 1 = .ok (.ifCond .lt 25, 3) := by decide +kernel
theorem dX7_pair_4 : decode cX7_pair 4 = .ok (.iload_n 1, 1) := by decide +kernel
theorem dX7_pair_5 : decode cX7_pair 5 = .ok (.iconst 5, 1) := by decide +kernel
theorem dX7_pair_6 : decode cX7_pair 6 = .ok (.if_icmp .ge 20, 3) := by decide +kernel
theorem dX7_pair_9 : decode cX7_pair 9 = .ok (.aload_n 0, 1) := by decide +kernel
theorem dX7_pair_10 : decode cX7_pair 10 = .ok (.getfield 19, 3) := by decide +kernel
theorem dX7_pair_13 : decode cX7_pair 13 = .ok (.getfield 71, 3) := by decide +kernel
theorem dX7_pair_16 : decode cX7_pair 16 = .ok (.getfield 95, 3) := by decide +kernel
theorem dX7_pair_19 : decode cX7_pair 19 = .ok (.iload_n 1, 1) := by decide +kernel
theorem dX7_pair_20 : decode cX7_pair 20 = .ok (.invokestatic 98, 3) := by decide +kernel
theorem dX7_pair_23 : decode cX7_pair 23 = .ok (.ifCond .ne 5, 3) := by decide +kernel
theorem dX7_pair_26 : decode cX7_pair 26 = .ok (.iconst (-1), 1) := by decide +kernel
theorem dX7_pair_27 : decode cX7_pair 27 = .ok (.ireturn, 1) := by decide +kernel
theorem dX7_pair_28 : decode cX7_pair 28 = .ok (.aload_n 0, 1) := by decide +kernel
theorem dX7_pair_29 : decode cX7_pair 29 = .ok (.invokevirtual 102, 3) := by decide +kernel
theorem dX7_pair_32 : decode cX7_pair 32 = .ok (.iload_n 2, 1) := by decide +kernel
theorem dX7_pair_33 : decode cX7_pair 33 = .ok (.tableswitch 168 0 9 #[55, 68, 81, 93, 106, 116, 126, 136, 146, 156], 55) := by decide +kernel
theorem dX7_pair_88 : decode cX7_pair 88 = .ok (.aload_n 0, 1) := by decide +kernel
theorem dX7_pair_89 : decode cX7_pair 89 = .ok (.getfield 19, 3) := by decide +kernel
theorem dX7_pair_92 : decode cX7_pair 92 = .ok (.getfield 71, 3) := by decide +kernel
theorem dX7_pair_95 : decode cX7_pair 95 = .ok (.getfield 105, 3) := by decide +kernel
theorem dX7_pair_98 : decode cX7_pair 98 = .ok (.iload_n 1, 1) := by decide +kernel
theorem dX7_pair_99 : decode cX7_pair 99 = .ok (.iaload, 1) := by decide +kernel
theorem dX7_pair_100 : decode cX7_pair 100 = .ok (.ireturn, 1) := by decide +kernel
theorem dX7_pair_101 : decode cX7_pair 101 = .ok (.aload_n 0, 1) := by decide +kernel
theorem dX7_pair_102 : decode cX7_pair 102 = .ok (.getfield 19, 3) := by decide +kernel
theorem dX7_pair_105 : decode cX7_pair 105 = .ok (.getfield 71, 3) := by decide +kernel
theorem dX7_pair_108 : decode cX7_pair 108 = .ok (.getfield 108, 3) := by decide +kernel
theorem dX7_pair_111 : decode cX7_pair 111 = .ok (.iload_n 1, 1) := by decide +kernel
theorem dX7_pair_112 : decode cX7_pair 112 = .ok (.iaload, 1) := by decide +kernel
theorem dX7_pair_113 : decode cX7_pair 113 = .ok (.ireturn, 1) := by decide +kernel
theorem dX7_pair_114 : decode cX7_pair 114 = .ok (.aload_n 0, 1) := by decide +kernel
theorem dX7_pair_115 : decode cX7_pair 115 = .ok (.getfield 19, 3) := by decide +kernel
theorem dX7_pair_118 : decode cX7_pair 118 = .ok (.getfield 71, 3) := by decide +kernel
theorem dX7_pair_121 : decode cX7_pair 121 = .ok (.iload_n 1, 1) := by decide +kernel
theorem dX7_pair_122 : decode cX7_pair 122 = .ok (.invokevirtual 111, 3) := by decide +kernel
theorem dX7_pair_125 : decode cX7_pair 125 = .ok (.ireturn, 1) := by decide +kernel
theorem dX7_pair_126 : decode cX7_pair 126 = .ok (.aload_n 0, 1) := by decide +kernel
theorem dX7_pair_127 : decode cX7_pair 127 = .ok (.getfield 19, 3) := by decide +kernel
theorem dX7_pair_130 : decode cX7_pair 130 = .ok (.getfield 71, 3) := by decide +kernel
theorem dX7_pair_133 : decode cX7_pair 133 = .ok (.getfield 115, 3) := by decide +kernel
theorem dX7_pair_136 : decode cX7_pair 136 = .ok (.iload_n 1, 1) := by decide +kernel
theorem dX7_pair_137 : decode cX7_pair 137 = .ok (.iaload, 1) := by decide +kernel
theorem dX7_pair_138 : decode cX7_pair 138 = .ok (.ireturn, 1) := by decide +kernel
theorem dX7_pair_139 : decode cX7_pair 139 = .ok (.aload_n 0, 1) := by decide +kernel
theorem dX7_pair_140 : decode cX7_pair 140 = .ok (.getfield 30, 3) := by decide +kernel
theorem dX7_pair_143 : decode cX7_pair 143 = .ok (.getfield 118, 3) := by decide +kernel
theorem dX7_pair_146 : decode cX7_pair 146 = .ok (.iload_n 1, 1) := by decide +kernel
theorem dX7_pair_147 : decode cX7_pair 147 = .ok (.iaload, 1) := by decide +kernel
theorem dX7_pair_148 : decode cX7_pair 148 = .ok (.ireturn, 1) := by decide +kernel
theorem dX7_pair_149 : decode cX7_pair 149 = .ok (.aload_n 0, 1) := by decide +kernel
theorem dX7_pair_150 : decode cX7_pair 150 = .ok (.getfield 30, 3) := by decide +kernel
theorem dX7_pair_153 : decode cX7_pair 153 = .ok (.getfield 121, 3) := by decide +kernel
theorem dX7_pair_156 : decode cX7_pair 156 = .ok (.iload_n 1, 1) := by decide +kernel
theorem dX7_pair_157 : decode cX7_pair 157 = .ok (.iaload, 1) := by decide +kernel
theorem dX7_pair_158 : decode cX7_pair 158 = .ok (.ireturn, 1) := by decide +kernel
theorem dX7_pair_159 : decode cX7_pair 159 = .ok (.aload_n 0, 1) := by decide +kernel
theorem dX7_pair_160 : decode cX7_pair 160 = .ok (.getfield 37, 3) := by decide +kernel
theorem dX7_pair_163 : decode cX7_pair 163 = .ok (.getfield 124, 3) := by decide +kernel
theorem dX7_pair_166 : decode cX7_pair 166 = .ok (.iload_n 1, 1) := by decide +kernel
theorem dX7_pair_167 : decode cX7_pair 167 = .ok (.iaload, 1) := by decide +kernel
theorem dX7_pair_168 : decode cX7_pair 168 = .ok (.ireturn, 1) := by decide +kernel
theorem dX7_pair_169 : decode cX7_pair 169 = .ok (.aload_n 0, 1) := by decide +kernel
theorem dX7_pair_170 : decode cX7_pair 170 = .ok (.getfield 37, 3) := by decide +kernel
theorem dX7_pair_173 : decode cX7_pair 173 = .ok (.getfield 125, 3) := by decide +kernel
theorem dX7_pair_176 : decode cX7_pair 176 = .ok (.iload_n 1, 1) := by decide +kernel
theorem dX7_pair_177 : decode cX7_pair 177 = .ok (.iaload, 1) := by decide +kernel
theorem dX7_pair_178 : decode cX7_pair 178 = .ok (.ireturn, 1) := by decide +kernel
theorem dX7_pair_179 : decode cX7_pair 179 = .ok (.aload_n 0, 1) := by decide +kernel
theorem dX7_pair_180 : decode cX7_pair 180 = .ok (.getfield 37, 3) := by decide +kernel
theorem dX7_pair_183 : decode cX7_pair 183 = .ok (.getfield 126, 3) := by decide +kernel
theorem dX7_pair_186 : decode cX7_pair 186 = .ok (.iload_n 1, 1) := by decide +kernel
theorem dX7_pair_187 : decode cX7_pair 187 = .ok (.iaload, 1) := by decide +kernel
theorem dX7_pair_188 : decode cX7_pair 188 = .ok (.ireturn, 1) := by decide +kernel
theorem dX7_pair_189 : decode cX7_pair 189 = .ok (.aload_n 0, 1) := by decide +kernel
theorem dX7_pair_190 : decode cX7_pair 190 = .ok (.getfield 30, 3) := by decide +kernel
theorem dX7_pair_193 : decode cX7_pair 193 = .ok (.getfield 129, 3) := by decide +kernel
theorem dX7_pair_196 : decode cX7_pair 196 = .ok (.iload_n 1, 1) := by decide +kernel
theorem dX7_pair_197 : decode cX7_pair 197 = .ok (.ishr, 1) := by decide +kernel
theorem dX7_pair_198 : decode cX7_pair 198 = .ok (.iconst 1, 1) := by decide +kernel
theorem dX7_pair_199 : decode cX7_pair 199 = .ok (.iand, 1) := by decide +kernel
theorem dX7_pair_200 : decode cX7_pair 200 = .ok (.ireturn, 1) := by decide +kernel
theorem dX7_pair_201 : decode cX7_pair 201 = .ok (.bipush (-2), 2) := by decide +kernel
theorem dX7_pair_203 : decode cX7_pair 203 = .ok (.ireturn, 1) := by decide +kernel
set_option maxRecDepth 20000 in
theorem ggX7_mark_X7_has : GoodIn wsX7_mark wsX7_has := goodIn_r _ [12] (by decide +kernel) (by decide +kernel)
set_option maxRecDepth 20000 in
theorem gX7_mark_X7_has : GoodIn wsX7_mark (va_wsS RX7 98 yX7_has wsX7_has) := goodIn_app (goodIn_of _ (by decide +kernel)) ggX7_mark_X7_has
set_option maxRecDepth 20000 in
theorem ggX7_mark_X7_carry : GoodIn wsX7_mark wsX7_carry := goodIn_r _ [16, 17, 5, 1, 18, 2, 19, 7, 20, 21, 22, 23, 24, 25, 26, 27, 28, 29, 30, 31, 10, 11, 12, 32, 33, 34, 35, 36, 37, 38, 39, 40, 41, 42, 43, 44, 45, 46, 47, 48, 49, 50, 51, 52, 53, 54, 55, 56, 57, 58, 59, 60, 61, 62, 63, 64, 65, 66, 67, 68, 69, 70, 71, 72, 73, 74, 75, 76, 77, 78, 79, 80, 81, 82, 83, 84, 85, 86, 87, 88, 89, 90, 91, 92, 93, 94, 95, 96, 97, 98, 99, 100, 101, 102, 103, 104, 105, 106, 107, 108, 109, 110, 111, 112, 113, 114, 115, 116, 117, 118, 119, 120, 121, 122, 123, 124, 125, 126, 127, 128, 129, 130, 131, 132, 133, 134, 135, 136, 137, 138, 139, 140, 141, 142, 143, 144, 145, 146, 147, 148, 149, 150, 151, 152, 153, 154, 155, 156, 157, 158, 159, 160, 161, 162, 163, 164, 165, 166, 167, 168, 169, 170, 171, 172, 173, 174, 175, 176, 177, 178, 179, 180, 181, 182, 183, 184, 185, 186, 187, 188, 189, 190, 191, 192, 193, 194, 195, 196, 197, 198, 199, 200, 201, 202, 203, 204, 205, 206, 207, 208, 209, 210, 211, 212, 213, 214, 215, 228, 229, 230, 231, 216, 217, 218, 219, 220, 221, 222, 223, 224, 225, 226, 227, 236, 237, 238, 239, 240, 241, 242, 243, 232, 233, 234, 235, 244, 245, 246] (by decide +kernel) (by decide +kernel)
set_option maxRecDepth 20000 in
theorem gX7_mark_X7_carry : GoodIn wsX7_mark (wsV RX7 102 RX7 yX7_carry wsX7_carry) := goodIn_app (goodIn_of _ (by decide +kernel)) ggX7_mark_X7_carry
theorem dX7_mark_0 : decode cX7_mark 0 = .ok (.iload_n 1, 1) := by decide +kernel
theorem dX7_mark_1 : decode cX7_mark 1 = .ok (.ifCond .lt 25, 3) := by decide +kernel
theorem dX7_mark_4 : decode cX7_mark 4 = .ok (.iload_n 1, 1) := by decide +kernel
theorem dX7_mark_5 : decode cX7_mark 5 = .ok (.iconst 3, 1) := by decide +kernel
theorem dX7_mark_6 : decode cX7_mark 6 = .ok (.if_icmp .ge 20, 3) := by decide +kernel
theorem dX7_mark_9 : decode cX7_mark 9 = .ok (.aload_n 0, 1) := by decide +kernel
theorem dX7_mark_10 : decode cX7_mark 10 = .ok (.getfield 19, 3) := by decide +kernel
theorem dX7_mark_13 : decode cX7_mark 13 = .ok (.getfield 71, 3) := by decide +kernel
theorem dX7_mark_16 : decode cX7_mark 16 = .ok (.getfield 132, 3) := by decide +kernel
theorem dX7_mark_19 : decode cX7_mark 19 = .ok (.iload_n 1, 1) := by decide +kernel
theorem dX7_mark_20 : decode cX7_mark 20 = .ok (.invokestatic 98, 3) := by decide +kernel
theorem dX7_mark_23 : decode cX7_mark 23 = .ok (.ifCond .ne 5, 3) := by decide +kernel
theorem dX7_mark_26 : decode cX7_mark 26 = .ok (.iconst (-1), 1) := by decide +kernel
theorem dX7_mark_27 : decode cX7_mark 27 = .ok (.ireturn, 1) := by decide +kernel
theorem dX7_mark_28 : decode cX7_mark 28 = .ok (.aload_n 0, 1) := by decide +kernel
theorem dX7_mark_29 : decode cX7_mark 29 = .ok (.invokevirtual 102, 3) := by decide +kernel
theorem dX7_mark_32 : decode cX7_mark 32 = .ok (.iload_n 2, 1) := by decide +kernel
theorem dX7_mark_33 : decode cX7_mark 33 = .ok (.tableswitch 60 0 2 #[27, 40, 50], 27) := by decide +kernel
theorem dX7_mark_60 : decode cX7_mark 60 = .ok (.aload_n 0, 1) := by decide +kernel
theorem dX7_mark_61 : decode cX7_mark 61 = .ok (.getfield 19, 3) := by decide +kernel
theorem dX7_mark_64 : decode cX7_mark 64 = .ok (.getfield 71, 3) := by decide +kernel
theorem dX7_mark_67 : decode cX7_mark 67 = .ok (.getfield 135, 3) := by decide +kernel
theorem dX7_mark_70 : decode cX7_mark 70 = .ok (.iload_n 1, 1) := by decide +kernel
theorem dX7_mark_71 : decode cX7_mark 71 = .ok (.iaload, 1) := by decide +kernel
theorem dX7_mark_72 : decode cX7_mark 72 = .ok (.ireturn, 1) := by decide +kernel
theorem dX7_mark_73 : decode cX7_mark 73 = .ok (.aload_n 0, 1) := by decide +kernel
theorem dX7_mark_74 : decode cX7_mark 74 = .ok (.getfield 30, 3) := by decide +kernel
theorem dX7_mark_77 : decode cX7_mark 77 = .ok (.getfield 138, 3) := by decide +kernel
theorem dX7_mark_80 : decode cX7_mark 80 = .ok (.iload_n 1, 1) := by decide +kernel
theorem dX7_mark_81 : decode cX7_mark 81 = .ok (.iaload, 1) := by decide +kernel
theorem dX7_mark_82 : decode cX7_mark 82 = .ok (.ireturn, 1) := by decide +kernel
theorem dX7_mark_83 : decode cX7_mark 83 = .ok (.aload_n 0, 1) := by decide +kernel
theorem dX7_mark_84 : decode cX7_mark 84 = .ok (.getfield 44, 3) := by decide +kernel
theorem dX7_mark_87 : decode cX7_mark 87 = .ok (.getfield 141, 3) := by decide +kernel
theorem dX7_mark_90 : decode cX7_mark 90 = .ok (.iload_n 1, 1) := by decide +kernel
theorem dX7_mark_91 : decode cX7_mark 91 = .ok (.iaload, 1) := by decide +kernel
theorem dX7_mark_92 : decode cX7_mark 92 = .ok (.ireturn, 1) := by decide +kernel
theorem dX7_mark_93 : decode cX7_mark 93 = .ok (.bipush (-2), 2) := by decide +kernel
theorem dX7_mark_95 : decode cX7_mark 95 = .ok (.ireturn, 1) := by decide +kernel
set_option maxRecDepth 20000 in
theorem ggX7_total_X7_carry : GoodIn wsX7_total wsX7_carry := goodIn_r _ [15, 16, 8, 5, 1, 6, 17, 3, 18, 19, 20, 21, 22, 23, 24, 25, 26, 27, 28, 29, 30, 14, 31, 32, 33, 34, 35, 36, 37, 38, 39, 40, 41, 42, 43, 44, 45, 46, 47, 48, 49, 50, 51, 52, 53, 54, 55, 56, 57, 58, 59, 60, 61, 62, 63, 64, 65, 66, 67, 68, 69, 70, 71, 72, 73, 74, 75, 76, 77, 78, 79, 80, 81, 82, 83, 84, 85, 86, 87, 88, 89, 90, 91, 92, 93, 94, 95, 96, 97, 98, 99, 100, 101, 102, 103, 104, 105, 106, 107, 108, 109, 110, 111, 112, 113, 114, 115, 116, 117, 118, 119, 120, 121, 122, 123, 124, 125, 126, 127, 128, 129, 130, 131, 132, 133, 134, 135, 136, 137, 138, 139, 140, 141, 142, 143, 144, 145, 146, 147, 148, 149, 150, 151, 152, 153, 154, 155, 156, 157, 158, 159, 160, 161, 162, 163, 164, 165, 166, 167, 168, 169, 170, 171, 172, 173, 174, 175, 176, 177, 178, 179, 180, 181, 182, 183, 184, 185, 186, 187, 188, 189, 190, 191, 192, 193, 194, 195, 196, 197, 198, 199, 200, 201, 202, 203, 204, 228, 229, 230, 231, 232, 233, 234, 235, 248, 249, 250, 263, 264, 265, 266, 251, 252, 253, 254, 255, 256, 257, 258, 259, 260, 261, 262, 236, 237, 238, 239, 240, 241, 242, 243, 244, 245, 246, 247, 267, 268, 269] (by decide +kernel) (by decide +kernel)
set_option maxRecDepth 20000 in
theorem gX7_total_X7_carry : GoodIn wsX7_total (wsV RX7 102 RX7 yX7_carry wsX7_carry) := goodIn_app (goodIn_of _ (by decide +kernel)) ggX7_total_X7_carry
set_option maxRecDepth 20000 in
theorem ggX7_total_X3_countLinks : GoodIn wsX7_total wsX3_countLinks := goodIn_r _ [208, 45, 209, 180, 181, 182, 183, 184, 185, 248, 249, 250] (by decide +kernel) (by decide +kernel)
set_option maxRecDepth 20000 in
theorem gX7_total_X3_countLinks : GoodIn wsX7_total (wsV RX7 150 RX3 yX3_countLinks wsX3_countLinks) := goodIn_app (goodIn_of _ (by decide +kernel)) ggX7_total_X3_countLinks
set_option maxRecDepth 20000 in
theorem ggX7_total_X5_countCrossings : GoodIn wsX7_total wsX5_countCrossings := goodIn_r _ [213, 30, 14, 31, 214, 215, 216, 22, 217, 218, 219, 220, 221, 38, 39, 263, 264, 265, 266] (by decide +kernel) (by decide +kernel)
set_option maxRecDepth 20000 in
theorem gX7_total_X5_countCrossings : GoodIn wsX7_total (wsV RX7 153 RX5 yX5_countCrossings wsX5_countCrossings) := goodIn_app (goodIn_of _ (by decide +kernel)) ggX7_total_X5_countCrossings
set_option maxRecDepth 20000 in
theorem ggX7_total_X4_countHolds : GoodIn wsX7_total wsX4_countHolds := goodIn_r _ [225, 226, 227, 30, 14, 31, 179, 180, 181, 182, 183, 184, 185, 251, 252, 253, 254, 255, 256, 257, 258, 259, 260, 261, 262] (by decide +kernel) (by decide +kernel)
set_option maxRecDepth 20000 in
theorem gX7_total_X4_countHolds : GoodIn wsX7_total (wsV RX7 156 RX4 yX4_countHolds wsX4_countHolds) := goodIn_app (goodIn_of _ (by decide +kernel)) ggX7_total_X4_countHolds
theorem dX7_total_0 : decode cX7_total 0 = .ok (.aload_n 0, 1) := by decide +kernel
theorem dX7_total_1 : decode cX7_total 1 = .ok (.invokevirtual 102, 3) := by decide +kernel
theorem dX7_total_4 : decode cX7_total 4 = .ok (.iload_n 1, 1) := by decide +kernel
theorem dX7_total_5 : decode cX7_total 5 = .ok (.tableswitch 130 0 7 #[47, 55, 63, 74, 82, 93, 101, 119], 47) := by decide +kernel
theorem dX7_total_52 : decode cX7_total 52 = .ok (.aload_n 0, 1) := by decide +kernel
theorem dX7_total_53 : decode cX7_total 53 = .ok (.getfield 37, 3) := by decide +kernel
theorem dX7_total_56 : decode cX7_total 56 = .ok (.getfield 144, 3) := by decide +kernel
theorem dX7_total_59 : decode cX7_total 59 = .ok (.ireturn, 1) := by decide +kernel
theorem dX7_total_60 : decode cX7_total 60 = .ok (.aload_n 0, 1) := by decide +kernel
theorem dX7_total_61 : decode cX7_total 61 = .ok (.getfield 44, 3) := by decide +kernel
theorem dX7_total_64 : decode cX7_total 64 = .ok (.getfield 147, 3) := by decide +kernel
theorem dX7_total_67 : decode cX7_total 67 = .ok (.ireturn, 1) := by decide +kernel
theorem dX7_total_68 : decode cX7_total 68 = .ok (.aload_n 0, 1) := by decide +kernel
theorem dX7_total_69 : decode cX7_total 69 = .ok (.getfield 19, 3) := by decide +kernel
theorem dX7_total_72 : decode cX7_total 72 = .ok (.getfield 71, 3) := by decide +kernel
theorem dX7_total_75 : decode cX7_total 75 = .ok (.getfield 95, 3) := by decide +kernel
theorem dX7_total_78 : decode cX7_total 78 = .ok (.ireturn, 1) := by decide +kernel
theorem dX7_total_79 : decode cX7_total 79 = .ok (.aload_n 0, 1) := by decide +kernel
theorem dX7_total_80 : decode cX7_total 80 = .ok (.getfield 30, 3) := by decide +kernel
theorem dX7_total_83 : decode cX7_total 83 = .ok (.getfield 129, 3) := by decide +kernel
theorem dX7_total_86 : decode cX7_total 86 = .ok (.ireturn, 1) := by decide +kernel
theorem dX7_total_87 : decode cX7_total 87 = .ok (.aload_n 0, 1) := by decide +kernel
theorem dX7_total_88 : decode cX7_total 88 = .ok (.getfield 19, 3) := by decide +kernel
theorem dX7_total_91 : decode cX7_total 91 = .ok (.getfield 71, 3) := by decide +kernel
theorem dX7_total_94 : decode cX7_total 94 = .ok (.getfield 132, 3) := by decide +kernel
theorem dX7_total_97 : decode cX7_total 97 = .ok (.ireturn, 1) := by decide +kernel
theorem dX7_total_98 : decode cX7_total 98 = .ok (.aload_n 0, 1) := by decide +kernel
theorem dX7_total_99 : decode cX7_total 99 = .ok (.getfield 19, 3) := by decide +kernel
theorem dX7_total_102 : decode cX7_total 102 = .ok (.invokevirtual 150, 3) := by decide +kernel
theorem dX7_total_105 : decode cX7_total 105 = .ok (.ireturn, 1) := by decide +kernel
theorem dX7_total_106 : decode cX7_total 106 = .ok (.aload_n 0, 1) := by decide +kernel
theorem dX7_total_107 : decode cX7_total 107 = .ok (.getfield 30, 3) := by decide +kernel
theorem dX7_total_110 : decode cX7_total 110 = .ok (.aload_n 0, 1) := by decide +kernel
theorem dX7_total_111 : decode cX7_total 111 = .ok (.getfield 19, 3) := by decide +kernel
theorem dX7_total_114 : decode cX7_total 114 = .ok (.getfield 71, 3) := by decide +kernel
theorem dX7_total_117 : decode cX7_total 117 = .ok (.getfield 95, 3) := by decide +kernel
theorem dX7_total_120 : decode cX7_total 120 = .ok (.invokevirtual 153, 3) := by decide +kernel
theorem dX7_total_123 : decode cX7_total 123 = .ok (.ireturn, 1) := by decide +kernel
theorem dX7_total_124 : decode cX7_total 124 = .ok (.aload_n 0, 1) := by decide +kernel
theorem dX7_total_125 : decode cX7_total 125 = .ok (.getfield 19, 3) := by decide +kernel
theorem dX7_total_128 : decode cX7_total 128 = .ok (.getfield 71, 3) := by decide +kernel
theorem dX7_total_131 : decode cX7_total 131 = .ok (.invokevirtual 156, 3) := by decide +kernel
theorem dX7_total_134 : decode cX7_total 134 = .ok (.ireturn, 1) := by decide +kernel
theorem dX7_total_135 : decode cX7_total 135 = .ok (.bipush (-2), 2) := by decide +kernel
theorem dX7_total_137 : decode cX7_total 137 = .ok (.ireturn, 1) := by decide +kernel
set_option maxRecDepth 20000 in
theorem ggX7_sign_X7_carry : GoodIn wsX7_sign wsX7_carry := goodIn_r _ [8, 9, 10, 11, 12, 13, 14, 15, 1, 16, 17, 18, 19, 20, 21, 22, 23, 24, 25, 26, 27, 7, 28, 29, 30, 31, 32, 33, 34, 35, 36, 37, 38, 39, 40, 41, 42, 43, 44, 45, 46, 47, 48, 49, 50, 51, 52, 53, 54, 55, 56, 57, 58, 59, 60, 61, 62, 63, 64, 65, 66, 67, 68, 69, 70, 71, 72, 73, 74, 75, 76, 77, 78, 79, 80, 81, 82, 83, 84, 85, 86, 87, 88, 89, 90, 91, 92, 93, 94, 95, 96, 97, 98, 99, 100, 101, 102, 103, 104, 105, 106, 107, 108, 109, 110, 111, 112, 113, 114, 115, 116, 117, 118, 119, 120, 121, 122, 123, 124, 125, 126, 127, 128, 129, 130, 131, 132, 133, 134, 135, 136, 137, 138, 139, 140, 141, 142, 143, 144, 145, 146, 147, 148, 149, 150, 151, 152, 153, 154, 155, 156, 157, 158, 159, 160, 161, 162, 163, 164, 165, 166, 167, 168, 169, 170, 171, 172, 173, 174, 175, 176, 177, 178, 179, 180, 181, 182, 183, 184, 185, 186, 187, 188, 189, 190, 191, 192, 193, 194, 195, 196, 197, 198, 199, 200, 201, 202, 203, 204, 205, 206, 207, 208, 209, 213, 214, 215, 216, 217, 218, 219, 220, 221, 222, 223, 224, 225, 226, 227, 228, 229, 230, 231, 232, 233, 234, 235, 236, 237, 238, 239, 240, 241, 242, 243, 210, 211, 212] (by decide +kernel) (by decide +kernel)
set_option maxRecDepth 20000 in
theorem gX7_sign_X7_carry : GoodIn wsX7_sign (wsV RX7 102 RX7 yX7_carry wsX7_carry) := goodIn_app (goodIn_of _ (by decide +kernel)) ggX7_sign_X7_carry
theorem dX7_sign_0 : decode cX7_sign 0 = .ok (.aload_n 0, 1) := by decide +kernel
theorem dX7_sign_1 : decode cX7_sign 1 = .ok (.invokevirtual 102, 3) := by decide +kernel
theorem dX7_sign_4 : decode cX7_sign 4 = .ok (.iload_n 1, 1) := by decide +kernel
theorem dX7_sign_5 : decode cX7_sign 5 = .ok (.iconst (-1), 1) := by decide +kernel
theorem dX7_sign_6 : decode cX7_sign 6 = .ok (.if_icmp .ne 11, 3) := by decide +kernel
theorem dX7_sign_9 : decode cX7_sign 9 = .ok (.aload_n 0, 1) := by decide +kernel
theorem dX7_sign_10 : decode cX7_sign 10 = .ok (.getfield 51, 3) := by decide +kernel
theorem dX7_sign_13 : decode cX7_sign 13 = .ok (.getfield 159, 3) := by decide +kernel
theorem dX7_sign_16 : decode cX7_sign 16 = .ok (.ireturn, 1) := by decide +kernel
theorem dX7_sign_17 : decode cX7_sign 17 = .ok (.iload_n 1, 1) := by decide +kernel
theorem dX7_sign_18 : decode cX7_sign 18 = .ok (.ifCond .lt 14, 3) := by decide +kernel
theorem dX7_sign_21 : decode cX7_sign 21 = .ok (.iload_n 1, 1) := by decide +kernel
theorem dX7_sign_22 : decode cX7_sign 22 = .ok (.aload_n 0, 1) := by decide +kernel
theorem dX7_sign_23 : decode cX7_sign 23 = .ok (.getfield 51, 3) := by decide +kernel
theorem dX7_sign_26 : decode cX7_sign 26 = .ok (.getfield 159, 3) := by decide +kernel
theorem dX7_sign_29 : decode cX7_sign 29 = .ok (.if_icmp .lt 6, 3) := by decide +kernel
theorem dX7_sign_32 : decode cX7_sign 32 = .ok (.bipush (-6), 2) := by decide +kernel
theorem dX7_sign_34 : decode cX7_sign 34 = .ok (.ireturn, 1) := by decide +kernel
theorem dX7_sign_35 : decode cX7_sign 35 = .ok (.aload_n 0, 1) := by decide +kernel
theorem dX7_sign_36 : decode cX7_sign 36 = .ok (.getfield 51, 3) := by decide +kernel
theorem dX7_sign_39 : decode cX7_sign 39 = .ok (.getfield 160, 3) := by decide +kernel
theorem dX7_sign_42 : decode cX7_sign 42 = .ok (.iload_n 1, 1) := by decide +kernel
theorem dX7_sign_43 : decode cX7_sign 43 = .ok (.iaload, 1) := by decide +kernel
theorem dX7_sign_44 : decode cX7_sign 44 = .ok (.ireturn, 1) := by decide +kernel
set_option maxRecDepth 20000 in
theorem ggX7_image_X3_init : GoodIn wsX7_image wsX3_init := goodIn_r _ [7, 8, 9, 10, 11, 12, 13, 14, 15, 16, 17, 18, 19, 20, 21, 22, 23, 24, 25, 26, 52, 53, 54, 55, 56, 57, 58, 59, 60, 61, 62, 63, 49, 50, 51] (by decide +kernel) (by decide +kernel)
set_option maxRecDepth 20000 in
theorem gX7_image_X3_init_n18 : GoodIn wsX7_image (wsX3_init) := ggX7_image_X3_init
set_option maxRecDepth 20000 in
theorem ggX7_image_X3_copy : GoodIn wsX7_image wsX3_copy := goodIn_r _ [30, 14, 31, 16, 32, 33, 34, 13, 35, 36, 37, 38, 39, 40, 20, 21, 22, 23, 26, 24, 25, 49, 50, 51, 52, 53, 54, 55, 56, 57, 58, 59, 60, 61, 62, 63] (by decide +kernel) (by decide +kernel)
set_option maxRecDepth 20000 in
theorem gX7_image_X3_copy : GoodIn wsX7_image (wsV RX7 163 RX3 yX3_copy wsX3_copy) := goodIn_app (goodIn_of _ (by decide +kernel)) ggX7_image_X3_copy
theorem dX7_image_0 : decode cX7_image 0 = .ok (.iload_n 1, 1) := by decide +kernel
theorem dX7_image_1 : decode cX7_image 1 = .ok (.ifCond .lt 8, 3) := by decide +kernel
theorem dX7_image_4 : decode cX7_image 4 = .ok (.iload_n 1, 1) := by decide +kernel
theorem dX7_image_5 : decode cX7_image 5 = .ok (.iconst 2, 1) := by decide +kernel
theorem dX7_image_6 : decode cX7_image 6 = .ok (.if_icmp .lt 6, 3) := by decide +kernel
theorem dX7_image_9 : decode cX7_image 9 = .ok (.bipush (-2), 2) := by decide +kernel
theorem dX7_image_11 : decode cX7_image 11 = .ok (.ireturn, 1) := by decide +kernel
theorem dX7_image_12 : decode cX7_image 12 = .ok (.aload_n 0, 1) := by decide +kernel
theorem dX7_image_13 : decode cX7_image 13 = .ok (.getfield 23, 3) := by decide +kernel
theorem dX7_image_16 : decode cX7_image 16 = .ok (.iload_n 1, 1) := by decide +kernel
theorem dX7_image_17 : decode cX7_image 17 = .ok (.aaload, 1) := by decide +kernel
theorem dX7_image_18 : decode cX7_image 18 = .ok (.astore_n 2, 1) := by decide +kernel
theorem dX7_image_19 : decode cX7_image 19 = .ok (.aload_n 2, 1) := by decide +kernel
theorem dX7_image_20 : decode cX7_image 20 = .ok (.ifnonnull 18, 3) := by decide +kernel
theorem dX7_image_23 : decode cX7_image 23 = .ok (.new 16, 3) := by decide +kernel
theorem dX7_image_26 : decode cX7_image 26 = .ok (.dup, 1) := by decide +kernel
theorem dX7_image_27 : decode cX7_image 27 = .ok (.invokespecial 18, 3) := by decide +kernel
theorem dX7_image_30 : decode cX7_image 30 = .ok (.astore_n 2, 1) := by decide +kernel
theorem dX7_image_31 : decode cX7_image 31 = .ok (.aload_n 0, 1) := by decide +kernel
theorem dX7_image_32 : decode cX7_image 32 = .ok (.getfield 23, 3) := by decide +kernel
theorem dX7_image_35 : decode cX7_image 35 = .ok (.iload_n 1, 1) := by decide +kernel
theorem dX7_image_36 : decode cX7_image 36 = .ok (.aload_n 2, 1) := by decide +kernel
theorem dX7_image_37 : decode cX7_image 37 = .ok (.aastore, 1) := by decide +kernel
theorem dX7_image_38 : decode cX7_image 38 = .ok (.aload_n 2, 1) := by decide +kernel
theorem dX7_image_39 : decode cX7_image 39 = .ok (.aload_n 0, 1) := by decide +kernel
theorem dX7_image_40 : decode cX7_image 40 = .ok (.getfield 19, 3) := by decide +kernel
theorem dX7_image_43 : decode cX7_image 43 = .ok (.invokevirtual 163, 3) := by decide +kernel
theorem dX7_image_46 : decode cX7_image 46 = .ok (.iconst 1, 1) := by decide +kernel
theorem dX7_image_47 : decode cX7_image 47 = .ok (.ireturn, 1) := by decide +kernel
set_option maxRecDepth 20000 in
theorem ggX7_restore_X3_copy : GoodIn wsX7_restore wsX3_copy := goodIn_r _ [8, 9, 10, 11, 12, 13, 14, 15, 16, 17, 18, 19, 20, 21, 22, 23, 24, 25, 26, 27, 28, 37, 38, 39, 40, 41, 42, 43, 44, 45, 46, 47, 48, 49, 50, 51] (by decide +kernel) (by decide +kernel)
set_option maxRecDepth 20000 in
theorem gX7_restore_X3_copy : GoodIn wsX7_restore (wsV RX7 163 RX3 yX3_copy wsX3_copy) := goodIn_app (goodIn_of _ (by decide +kernel)) ggX7_restore_X3_copy
theorem dX7_restore_0 : decode cX7_restore 0 = .ok (.iload_n 1, 1) := by decide +kernel
theorem dX7_restore_1 : decode cX7_restore 1 = .ok (.ifCond .lt 8, 3) := by decide +kernel
theorem dX7_restore_4 : decode cX7_restore 4 = .ok (.iload_n 1, 1) := by decide +kernel
theorem dX7_restore_5 : decode cX7_restore 5 = .ok (.iconst 2, 1) := by decide +kernel
theorem dX7_restore_6 : decode cX7_restore 6 = .ok (.if_icmp .lt 6, 3) := by decide +kernel
theorem dX7_restore_9 : decode cX7_restore 9 = .ok (.bipush (-2), 2) := by decide +kernel
theorem dX7_restore_11 : decode cX7_restore 11 = .ok (.ireturn, 1) := by decide +kernel
theorem dX7_restore_12 : decode cX7_restore 12 = .ok (.aload_n 0, 1) := by decide +kernel
theorem dX7_restore_13 : decode cX7_restore 13 = .ok (.getfield 23, 3) := by decide +kernel
theorem dX7_restore_16 : decode cX7_restore 16 = .ok (.iload_n 1, 1) := by decide +kernel
theorem dX7_restore_17 : decode cX7_restore 17 = .ok (.aaload, 1) := by decide +kernel
theorem dX7_restore_18 : decode cX7_restore 18 = .ok (.astore_n 2, 1) := by decide +kernel
theorem dX7_restore_19 : decode cX7_restore 19 = .ok (.aload_n 2, 1) := by decide +kernel
theorem dX7_restore_20 : decode cX7_restore 20 = .ok (.ifnonnull 6, 3) := by decide +kernel
theorem dX7_restore_23 : decode cX7_restore 23 = .ok (.bipush (-3), 2) := by decide +kernel
theorem dX7_restore_25 : decode cX7_restore 25 = .ok (.ireturn, 1) := by decide +kernel
theorem dX7_restore_26 : decode cX7_restore 26 = .ok (.aload_n 0, 1) := by decide +kernel
theorem dX7_restore_27 : decode cX7_restore 27 = .ok (.getfield 19, 3) := by decide +kernel
theorem dX7_restore_30 : decode cX7_restore 30 = .ok (.aload_n 2, 1) := by decide +kernel
theorem dX7_restore_31 : decode cX7_restore 31 = .ok (.invokevirtual 163, 3) := by decide +kernel
theorem dX7_restore_34 : decode cX7_restore 34 = .ok (.aload_n 0, 1) := by decide +kernel
theorem dX7_restore_35 : decode cX7_restore 35 = .ok (.iconst 1, 1) := by decide +kernel
theorem dX7_restore_36 : decode cX7_restore 36 = .ok (.putfield 55, 3) := by decide +kernel
theorem dX7_restore_39 : decode cX7_restore 39 = .ok (.iconst 1, 1) := by decide +kernel
theorem dX7_restore_40 : decode cX7_restore 40 = .ok (.ireturn, 1) := by decide +kernel
theorem dX7_told_0 : decode cX7_told 0 = .ok (.iload_n 1, 1) := by decide +kernel
theorem dX7_told_1 : decode cX7_told 1 = .ok (.bipush 10, 2) := by decide +kernel
theorem dX7_told_3 : decode cX7_told 3 = .ok (.if_icmp .lt 33, 3) := by decide +kernel
theorem dX7_told_6 : decode cX7_told 6 = .ok (.iload_n 1, 1) := by decide +kernel
theorem dX7_told_7 : decode cX7_told 7 = .ok (.bipush 10, 2) := by decide +kernel
theorem dX7_told_9 : decode cX7_told 9 = .ok (.aload_n 0, 1) := by decide +kernel
theorem dX7_told_10 : decode cX7_told 10 = .ok (.getfield 19, 3) := by decide +kernel
theorem dX7_told_13 : decode cX7_told 13 = .ok (.getfield 71, 3) := by decide +kernel
theorem dX7_told_16 : decode cX7_told 16 = .ok (.getfield 85, 3) := by decide +kernel
theorem dX7_told_19 : decode cX7_told 19 = .ok (.iadd, 1) := by decide +kernel
theorem dX7_told_20 : decode cX7_told 20 = .ok (.if_icmp .ge 16, 3) := by decide +kernel
theorem dX7_told_23 : decode cX7_told 23 = .ok (.aload_n 0, 1) := by decide +kernel
theorem dX7_told_24 : decode cX7_told 24 = .ok (.getfield 19, 3) := by decide +kernel
theorem dX7_told_27 : decode cX7_told 27 = .ok (.getfield 91, 3) := by decide +kernel
theorem dX7_told_30 : decode cX7_told 30 = .ok (.iload_n 1, 1) := by decide +kernel
theorem dX7_told_31 : decode cX7_told 31 = .ok (.bipush 10, 2) := by decide +kernel
theorem dX7_told_33 : decode cX7_told 33 = .ok (.isub, 1) := by decide +kernel
theorem dX7_told_34 : decode cX7_told 34 = .ok (.iaload, 1) := by decide +kernel
theorem dX7_told_35 : decode cX7_told 35 = .ok (.ireturn, 1) := by decide +kernel
theorem dX7_told_36 : decode cX7_told 36 = .ok (.iload_n 1, 1) := by decide +kernel
theorem dX7_told_37 : decode cX7_told 37 = .ok (.tableswitch 54 0 2 #[27, 35, 46], 27) := by decide +kernel
theorem dX7_told_64 : decode cX7_told 64 = .ok (.aload_n 0, 1) := by decide +kernel
theorem dX7_told_65 : decode cX7_told 65 = .ok (.getfield 12, 3) := by decide +kernel
theorem dX7_told_68 : decode cX7_told 68 = .ok (.getfield 63, 3) := by decide +kernel
theorem dX7_told_71 : decode cX7_told 71 = .ok (.ireturn, 1) := by decide +kernel
theorem dX7_told_72 : decode cX7_told 72 = .ok (.aload_n 0, 1) := by decide +kernel
theorem dX7_told_73 : decode cX7_told 73 = .ok (.getfield 19, 3) := by decide +kernel
theorem dX7_told_76 : decode cX7_told 76 = .ok (.getfield 71, 3) := by decide +kernel
theorem dX7_told_79 : decode cX7_told 79 = .ok (.getfield 85, 3) := by decide +kernel
theorem dX7_told_82 : decode cX7_told 82 = .ok (.ireturn, 1) := by decide +kernel
theorem dX7_told_83 : decode cX7_told 83 = .ok (.aload_n 0, 1) := by decide +kernel
theorem dX7_told_84 : decode cX7_told 84 = .ok (.getfield 19, 3) := by decide +kernel
theorem dX7_told_87 : decode cX7_told 87 = .ok (.getfield 88, 3) := by decide +kernel
theorem dX7_told_90 : decode cX7_told 90 = .ok (.ireturn, 1) := by decide +kernel
theorem dX7_told_91 : decode cX7_told 91 = .ok (.bipush (-2), 2) := by decide +kernel
theorem dX7_told_93 : decode cX7_told 93 = .ok (.ireturn, 1) := by decide +kernel
set_option maxRecDepth 20000 in
theorem ggX7_carry_X5_find : GoodIn wsX7_carry wsX5_find := goodIn_r _ [13, 14, 15, 16, 17, 18, 19, 20, 21, 22, 23, 24, 25, 12, 26, 27, 28, 29, 30, 31, 32, 33, 34, 35, 36, 37, 38, 39, 40, 41, 42, 43, 44, 45, 46, 47, 207, 208, 209, 210, 204, 205, 206, 211, 212, 213, 214, 215, 216, 217, 218, 219, 220, 221, 222] (by decide +kernel) (by decide +kernel)
set_option maxRecDepth 20000 in
theorem gX7_carry_X5_find : GoodIn wsX7_carry (wsV RX7 166 RX5 yX5_find wsX5_find) := goodIn_app (goodIn_of _ (by decide +kernel)) ggX7_carry_X5_find
set_option maxRecDepth 20000 in
theorem ggX7_carry_X2_place : GoodIn wsX7_carry wsX2_place := goodIn_r _ [52, 53, 54, 55, 56, 20, 21, 22, 57, 58, 59, 51, 60, 61, 62, 63, 64, 65, 66, 67, 68, 69, 70, 71, 72, 73, 74, 75, 76, 77, 78, 79, 80, 81, 82, 83, 84, 85, 86, 87, 88, 89, 90, 91, 92, 93, 94, 95, 96, 97, 98, 99, 100, 101, 102, 103, 104, 105, 106, 107, 108, 109, 110, 111, 112, 211, 212, 213, 214, 215, 216, 217, 218, 219, 220, 221, 222, 207, 208, 209, 210, 223, 224, 225, 226, 227, 228, 229, 230] (by decide +kernel) (by decide +kernel)
set_option maxRecDepth 20000 in
theorem gX7_carry_X2_place : GoodIn wsX7_carry (wsV RX7 169 RX2 yX2_place wsX2_place) := goodIn_app (goodIn_of _ (by decide +kernel)) ggX7_carry_X2_place
set_option maxRecDepth 20000 in
theorem ggX7_carry_X0_place : GoodIn wsX7_carry wsX0_place := goodIn_r _ [117, 118, 119, 120, 121, 122, 123, 124, 125, 126, 127, 116, 128, 129, 130, 69, 70, 71, 231, 232, 233, 234, 211, 212, 213, 214, 215, 216, 217, 218, 219, 220, 221, 222, 207, 208, 209, 210] (by decide +kernel) (by decide +kernel)
set_option maxRecDepth 20000 in
theorem gX7_carry_X0_place : GoodIn wsX7_carry (wsV RX7 173 RX0 yX0_place wsX0_place) := goodIn_app (goodIn_of _ (by decide +kernel)) ggX7_carry_X0_place
set_option maxRecDepth 20000 in
theorem ggX7_carry_X6_write : GoodIn wsX7_carry wsX6_write := goodIn_r _ [135, 136, 137, 138, 139, 140, 141, 134, 142, 143, 144, 145, 20, 21, 22, 146, 147, 148, 149, 150, 151, 152, 153, 154, 155, 156, 157, 158, 159, 160, 161, 162, 163, 164, 165, 166, 167, 168, 169, 170, 171, 172, 173, 174, 175, 176, 177, 178, 179, 180, 181, 182, 183, 184, 185, 186, 187, 188, 189, 190, 191, 192, 193, 194, 195, 235, 236, 237, 204, 205, 206, 211, 212, 213, 214, 215, 216, 217, 218, 219, 220, 221, 222, 223, 224, 225, 226, 227, 228, 229, 230, 231, 232, 233, 234] (by decide +kernel) (by decide +kernel)
set_option maxRecDepth 20000 in
theorem gX7_carry_X6_write : GoodIn wsX7_carry (wsV RX7 174 RX6 yX6_write wsX6_write) := goodIn_app (goodIn_of _ (by decide +kernel)) ggX7_carry_X6_write
theorem dX7_carry_0 : decode cX7_carry 0 = .ok (.aload_n 0, 1) := by decide +kernel
theorem dX7_carry_1 : decode cX7_carry 1 = .ok (.getfield 55, 3) := by decide +kernel
theorem dX7_carry_4 : decode cX7_carry 4 = .ok (.ifCond .ne 4, 3) := by decide +kernel
theorem dX7_carry_7 : decode cX7_carry 7 = .ok (.return_, 1) := by decide +kernel
theorem dX7_carry_8 : decode cX7_carry 8 = .ok (.aload_n 0, 1) := by decide +kernel
theorem dX7_carry_9 : decode cX7_carry 9 = .ok (.getfield 30, 3) := by decide +kernel
theorem dX7_carry_12 : decode cX7_carry 12 = .ok (.aload_n 0, 1) := by decide +kernel
theorem dX7_carry_13 : decode cX7_carry 13 = .ok (.getfield 19, 3) := by decide +kernel
theorem dX7_carry_16 : decode cX7_carry 16 = .ok (.invokevirtual 166, 3) := by decide +kernel
theorem dX7_carry_19 : decode cX7_carry 19 = .ok (.aload_n 0, 1) := by decide +kernel
theorem dX7_carry_20 : decode cX7_carry 20 = .ok (.getfield 37, 3) := by decide +kernel
theorem dX7_carry_23 : decode cX7_carry 23 = .ok (.aload_n 0, 1) := by decide +kernel
theorem dX7_carry_24 : decode cX7_carry 24 = .ok (.getfield 19, 3) := by decide +kernel
theorem dX7_carry_27 : decode cX7_carry 27 = .ok (.getfield 71, 3) := by decide +kernel
theorem dX7_carry_30 : decode cX7_carry 30 = .ok (.aload_n 0, 1) := by decide +kernel
theorem dX7_carry_31 : decode cX7_carry 31 = .ok (.getfield 30, 3) := by decide +kernel
theorem dX7_carry_34 : decode cX7_carry 34 = .ok (.aload_n 0, 1) := by decide +kernel
theorem dX7_carry_35 : decode cX7_carry 35 = .ok (.getfield 19, 3) := by decide +kernel
theorem dX7_carry_38 : decode cX7_carry 38 = .ok (.getfield 88, 3) := by decide +kernel
theorem dX7_carry_41 : decode cX7_carry 41 = .ok (.invokevirtual 169, 3) := by decide +kernel
theorem dX7_carry_44 : decode cX7_carry 44 = .ok (.aload_n 0, 1) := by decide +kernel
theorem dX7_carry_45 : decode cX7_carry 45 = .ok (.getfield 44, 3) := by decide +kernel
theorem dX7_carry_48 : decode cX7_carry 48 = .ok (.aload_n 0, 1) := by decide +kernel
theorem dX7_carry_49 : decode cX7_carry 49 = .ok (.getfield 19, 3) := by decide +kernel
theorem dX7_carry_52 : decode cX7_carry 52 = .ok (.getfield 71, 3) := by decide +kernel
theorem dX7_carry_55 : decode cX7_carry 55 = .ok (.aload_n 0, 1) := by decide +kernel
theorem dX7_carry_56 : decode cX7_carry 56 = .ok (.getfield 30, 3) := by decide +kernel
theorem dX7_carry_59 : decode cX7_carry 59 = .ok (.aload_n 0, 1) := by decide +kernel
theorem dX7_carry_60 : decode cX7_carry 60 = .ok (.getfield 19, 3) := by decide +kernel
theorem dX7_carry_63 : decode cX7_carry 63 = .ok (.getfield 88, 3) := by decide +kernel
theorem dX7_carry_66 : decode cX7_carry 66 = .ok (.invokevirtual 173, 3) := by decide +kernel
theorem dX7_carry_69 : decode cX7_carry 69 = .ok (.aload_n 0, 1) := by decide +kernel
theorem dX7_carry_70 : decode cX7_carry 70 = .ok (.getfield 51, 3) := by decide +kernel
theorem dX7_carry_73 : decode cX7_carry 73 = .ok (.aload_n 0, 1) := by decide +kernel
theorem dX7_carry_74 : decode cX7_carry 74 = .ok (.getfield 19, 3) := by decide +kernel
theorem dX7_carry_77 : decode cX7_carry 77 = .ok (.aload_n 0, 1) := by decide +kernel
theorem dX7_carry_78 : decode cX7_carry 78 = .ok (.getfield 37, 3) := by decide +kernel
theorem dX7_carry_81 : decode cX7_carry 81 = .ok (.aload_n 0, 1) := by decide +kernel
theorem dX7_carry_82 : decode cX7_carry 82 = .ok (.getfield 44, 3) := by decide +kernel
theorem dX7_carry_85 : decode cX7_carry 85 = .ok (.invokevirtual 174, 3) := by decide +kernel
theorem dX7_carry_88 : decode cX7_carry 88 = .ok (.aload_n 0, 1) := by decide +kernel
theorem dX7_carry_89 : decode cX7_carry 89 = .ok (.iconst 0, 1) := by decide +kernel
theorem dX7_carry_90 : decode cX7_carry 90 = .ok (.putfield 55, 3) := by decide +kernel
theorem dX7_carry_93 : decode cX7_carry 93 = .ok (.return_, 1) := by decide +kernel
theorem dX7_has_0 : decode cX7_has 0 = .ok (.iload_n 0, 1) := by decide +kernel
theorem dX7_has_1 : decode cX7_has 1 = .ok (.iload_n 1, 1) := by decide +kernel
theorem dX7_has_2 : decode cX7_has 2 = .ok (.ishr, 1) := by decide +kernel
theorem dX7_has_3 : decode cX7_has 3 = .ok (.iconst 1, 1) := by decide +kernel
theorem dX7_has_4 : decode cX7_has 4 = .ok (.iand, 1) := by decide +kernel
theorem dX7_has_5 : decode cX7_has 5 = .ok (.ifCond .eq 7, 3) := by decide +kernel
theorem dX7_has_8 : decode cX7_has 8 = .ok (.iconst 1, 1) := by decide +kernel
theorem dX7_has_9 : decode cX7_has 9 = .ok (.goto 4, 3) := by decide +kernel
theorem dX7_has_12 : decode cX7_has 12 = .ok (.iconst 0, 1) := by decide +kernel
theorem dX7_has_13 : decode cX7_has 13 = .ok (.ireturn, 1) := by decide +kernel
theorem dX8_init_0 : decode cX8_init 0 = .ok (.aload_n 0, 1) := by decide +kernel
theorem dX8_init_1 : decode cX8_init 1 = .ok (.invokespecial 1, 3) := by decide +kernel
theorem dX8_init_4 : decode cX8_init 4 = .ok (.aload_n 0, 1) := by decide +kernel
theorem dX8_init_5 : decode cX8_init 5 = .ok (.iconst 5, 1) := by decide +kernel
theorem dX8_init_6 : decode cX8_init 6 = .ok (.newarray .int, 2) := by decide +kernel
theorem dX8_init_8 : decode cX8_init 8 = .ok (.putfield 7, 3) := by decide +kernel
theorem dX8_init_11 : decode cX8_init 11 = .ok (.aload_n 0, 1) := by decide +kernel
theorem dX8_init_12 : decode cX8_init 12 = .ok (.iconst 5, 1) := by decide +kernel
theorem dX8_init_13 : decode cX8_init 13 = .ok (.newarray .int, 2) := by decide +kernel
theorem dX8_init_15 : decode cX8_init 15 = .ok (.putfield 13, 3) := by decide +kernel
theorem dX8_init_18 : decode cX8_init 18 = .ok (.aload_n 0, 1) := by decide +kernel
theorem dX8_init_19 : decode cX8_init 19 = .ok (.iconst 5, 1) := by decide +kernel
theorem dX8_init_20 : decode cX8_init 20 = .ok (.newarray .int, 2) := by decide +kernel
theorem dX8_init_22 : decode cX8_init 22 = .ok (.putfield 16, 3) := by decide +kernel
theorem dX8_init_25 : decode cX8_init 25 = .ok (.aload_n 0, 1) := by decide +kernel
theorem dX8_init_26 : decode cX8_init 26 = .ok (.iconst 3, 1) := by decide +kernel
theorem dX8_init_27 : decode cX8_init 27 = .ok (.newarray .int, 2) := by decide +kernel
theorem dX8_init_29 : decode cX8_init 29 = .ok (.putfield 19, 3) := by decide +kernel
theorem dX8_init_32 : decode cX8_init 32 = .ok (.aload_n 0, 1) := by decide +kernel
theorem dX8_init_33 : decode cX8_init 33 = .ok (.iconst 3, 1) := by decide +kernel
theorem dX8_init_34 : decode cX8_init 34 = .ok (.newarray .int, 2) := by decide +kernel
theorem dX8_init_36 : decode cX8_init 36 = .ok (.putfield 22, 3) := by decide +kernel
theorem dX8_init_39 : decode cX8_init 39 = .ok (.aload_n 0, 1) := by decide +kernel
theorem dX8_init_40 : decode cX8_init 40 = .ok (.bipush 12, 2) := by decide +kernel
theorem dX8_init_42 : decode cX8_init 42 = .ok (.newarray .int, 2) := by decide +kernel
theorem dX8_init_44 : decode cX8_init 44 = .ok (.putfield 25, 3) := by decide +kernel
theorem dX8_init_47 : decode cX8_init 47 = .ok (.aload_n 0, 1) := by decide +kernel
theorem dX8_init_48 : decode cX8_init 48 = .ok (.bipush 30, 2) := by decide +kernel
theorem dX8_init_50 : decode cX8_init 50 = .ok (.newarray .int, 2) := by decide +kernel
theorem dX8_init_52 : decode cX8_init 52 = .ok (.putfield 28, 3) := by decide +kernel
theorem dX8_init_55 : decode cX8_init 55 = .ok (.aload_n 0, 1) := by decide +kernel
theorem dX8_init_56 : decode cX8_init 56 = .ok (.iconst 5, 1) := by decide +kernel
theorem dX8_init_57 : decode cX8_init 57 = .ok (.newarray .int, 2) := by decide +kernel
theorem dX8_init_59 : decode cX8_init 59 = .ok (.putfield 31, 3) := by decide +kernel
theorem dX8_init_62 : decode cX8_init 62 = .ok (.aload_n 0, 1) := by decide +kernel
theorem dX8_init_63 : decode cX8_init 63 = .ok (.sipush 2592, 3) := by decide +kernel
theorem dX8_init_66 : decode cX8_init 66 = .ok (.newarray .long, 2) := by decide +kernel
theorem dX8_init_68 : decode cX8_init 68 = .ok (.putfield 34, 3) := by decide +kernel
theorem dX8_init_71 : decode cX8_init 71 = .ok (.aload_n 0, 1) := by decide +kernel
theorem dX8_init_72 : decode cX8_init 72 = .ok (.iconst 5, 1) := by decide +kernel
theorem dX8_init_73 : decode cX8_init 73 = .ok (.newarray .int, 2) := by decide +kernel
theorem dX8_init_75 : decode cX8_init 75 = .ok (.putfield 38, 3) := by decide +kernel
theorem dX8_init_78 : decode cX8_init 78 = .ok (.aload_n 0, 1) := by decide +kernel
theorem dX8_init_79 : decode cX8_init 79 = .ok (.iconst 5, 1) := by decide +kernel
theorem dX8_init_80 : decode cX8_init 80 = .ok (.newarray .int, 2) := by decide +kernel
theorem dX8_init_82 : decode cX8_init 82 = .ok (.putfield 41, 3) := by decide +kernel
theorem dX8_init_85 : decode cX8_init 85 = .ok (.aload_n 0, 1) := by decide +kernel
theorem dX8_init_86 : decode cX8_init 86 = .ok (.iconst 3, 1) := by decide +kernel
theorem dX8_init_87 : decode cX8_init 87 = .ok (.newarray .int, 2) := by decide +kernel
theorem dX8_init_89 : decode cX8_init 89 = .ok (.putfield 44, 3) := by decide +kernel
theorem dX8_init_92 : decode cX8_init 92 = .ok (.aload_n 0, 1) := by decide +kernel
theorem dX8_init_93 : decode cX8_init 93 = .ok (.bipush 30, 2) := by decide +kernel
theorem dX8_init_95 : decode cX8_init 95 = .ok (.newarray .int, 2) := by decide +kernel
theorem dX8_init_97 : decode cX8_init 97 = .ok (.putfield 47, 3) := by decide +kernel
theorem dX8_init_100 : decode cX8_init 100 = .ok (.aload_n 0, 1) := by decide +kernel
theorem dX8_init_101 : decode cX8_init 101 = .ok (.bipush 80, 2) := by decide +kernel
theorem dX8_init_103 : decode cX8_init 103 = .ok (.newarray .int, 2) := by decide +kernel
theorem dX8_init_105 : decode cX8_init 105 = .ok (.putfield 50, 3) := by decide +kernel
theorem dX8_init_108 : decode cX8_init 108 = .ok (.aload_n 0, 1) := by decide +kernel
theorem dX8_init_109 : decode cX8_init 109 = .ok (.iconst 2, 1) := by decide +kernel
theorem dX8_init_110 : decode cX8_init 110 = .ok (.newarray .boolean, 2) := by decide +kernel
theorem dX8_init_112 : decode cX8_init 112 = .ok (.putfield 53, 3) := by decide +kernel
theorem dX8_init_115 : decode cX8_init 115 = .ok (.iconst 0, 1) := by decide +kernel
theorem dX8_init_116 : decode cX8_init 116 = .ok (.istore_n 1, 1) := by decide +kernel
theorem dX8_init_117 : decode cX8_init 117 = .ok (.iload_n 1, 1) := by decide +kernel
theorem dX8_init_118 : decode cX8_init 118 = .ok (.iconst 5, 1) := by decide +kernel
theorem dX8_init_119 : decode cX8_init 119 = .ok (.if_icmp .ge 17, 3) := by decide +kernel
theorem dX8_init_122 : decode cX8_init 122 = .ok (.aload_n 0, 1) := by decide +kernel
theorem dX8_init_123 : decode cX8_init 123 = .ok (.getfield 7, 3) := by decide +kernel
theorem dX8_init_126 : decode cX8_init 126 = .ok (.iload_n 1, 1) := by decide +kernel
theorem dX8_init_127 : decode cX8_init 127 = .ok (.bipush (-6), 2) := by decide +kernel
theorem dX8_init_129 : decode cX8_init 129 = .ok (.iastore, 1) := by decide +kernel
theorem dX8_init_130 : decode cX8_init 130 = .ok (.iinc 1 1, 3) := by decide +kernel
theorem dX8_init_133 : decode cX8_init 133 = .ok (.goto (-16), 3) := by decide +kernel
theorem dX8_init_136 : decode cX8_init 136 = .ok (.iconst 0, 1) := by decide +kernel
theorem dX8_init_137 : decode cX8_init 137 = .ok (.istore_n 1, 1) := by decide +kernel
theorem dX8_init_138 : decode cX8_init 138 = .ok (.iload_n 1, 1) := by decide +kernel
theorem dX8_init_139 : decode cX8_init 139 = .ok (.iconst 3, 1) := by decide +kernel
theorem dX8_init_140 : decode cX8_init 140 = .ok (.if_icmp .ge 17, 3) := by decide +kernel
theorem dX8_init_143 : decode cX8_init 143 = .ok (.aload_n 0, 1) := by decide +kernel
theorem dX8_init_144 : decode cX8_init 144 = .ok (.getfield 19, 3) := by decide +kernel
theorem dX8_init_147 : decode cX8_init 147 = .ok (.iload_n 1, 1) := by decide +kernel
theorem dX8_init_148 : decode cX8_init 148 = .ok (.bipush (-6), 2) := by decide +kernel
theorem dX8_init_150 : decode cX8_init 150 = .ok (.iastore, 1) := by decide +kernel
theorem dX8_init_151 : decode cX8_init 151 = .ok (.iinc 1 1, 3) := by decide +kernel
theorem dX8_init_154 : decode cX8_init 154 = .ok (.goto (-16), 3) := by decide +kernel
theorem dX8_init_157 : decode cX8_init 157 = .ok (.return_, 1) := by decide +kernel
theorem dX8_in_0 : decode cX8_in 0 = .ok (.iload_n 0, 1) := by decide +kernel
theorem dX8_in_1 : decode cX8_in 1 = .ok (.iload_n 1, 1) := by decide +kernel
theorem dX8_in_2 : decode cX8_in 2 = .ok (.if_icmp .lt 12, 3) := by decide +kernel
theorem dX8_in_5 : decode cX8_in 5 = .ok (.iload_n 0, 1) := by decide +kernel
theorem dX8_in_6 : decode cX8_in 6 = .ok (.iload_n 2, 1) := by decide +kernel
theorem dX8_in_7 : decode cX8_in 7 = .ok (.if_icmp .gt 7, 3) := by decide +kernel
theorem dX8_in_10 : decode cX8_in 10 = .ok (.iconst 1, 1) := by decide +kernel
theorem dX8_in_11 : decode cX8_in 11 = .ok (.goto 4, 3) := by decide +kernel
theorem dX8_in_14 : decode cX8_in 14 = .ok (.iconst 0, 1) := by decide +kernel
theorem dX8_in_15 : decode cX8_in 15 = .ok (.ireturn, 1) := by decide +kernel
theorem dX8_off_0 : decode cX8_off 0 = .ok (.iload_n 0, 1) := by decide +kernel
theorem dX8_off_1 : decode cX8_off 1 = .ok (.iload_n 1, 1) := by decide +kernel
theorem dX8_off_2 : decode cX8_off 2 = .ok (.if_icmp .ge 9, 3) := by decide +kernel
theorem dX8_off_5 : decode cX8_off 5 = .ok (.iload_n 1, 1) := by decide +kernel
theorem dX8_off_6 : decode cX8_off 6 = .ok (.iload_n 0, 1) := by decide +kernel
theorem dX8_off_7 : decode cX8_off 7 = .ok (.isub, 1) := by decide +kernel
theorem dX8_off_8 : decode cX8_off 8 = .ok (.goto 6, 3) := by decide +kernel
theorem dX8_off_11 : decode cX8_off 11 = .ok (.iload_n 0, 1) := by decide +kernel
theorem dX8_off_12 : decode cX8_off 12 = .ok (.iload_n 1, 1) := by decide +kernel
theorem dX8_off_13 : decode cX8_off 13 = .ok (.isub, 1) := by decide +kernel
theorem dX8_off_14 : decode cX8_off 14 = .ok (.ireturn, 1) := by decide +kernel
theorem dX8_greater_0 : decode cX8_greater 0 = .ok (.iload_n 0, 1) := by decide +kernel
theorem dX8_greater_1 : decode cX8_greater 1 = .ok (.iload_n 1, 1) := by decide +kernel
theorem dX8_greater_2 : decode cX8_greater 2 = .ok (.if_icmp .le 7, 3) := by decide +kernel
theorem dX8_greater_5 : decode cX8_greater 5 = .ok (.iload_n 0, 1) := by decide +kernel
theorem dX8_greater_6 : decode cX8_greater 6 = .ok (.goto 4, 3) := by decide +kernel
theorem dX8_greater_9 : decode cX8_greater 9 = .ok (.iload_n 1, 1) := by decide +kernel
theorem dX8_greater_10 : decode cX8_greater 10 = .ok (.ireturn, 1) := by decide +kernel
set_option maxRecDepth 20000 in
theorem ggX8_say_X8_in : GoodIn wsX8_say wsX8_in := goodIn_r _ [6] (by decide +kernel) (by decide +kernel)
set_option maxRecDepth 20000 in
theorem gX8_say_X8_in : GoodIn wsX8_say (va_wsS RX8 57 yX8_in wsX8_in) := goodIn_app (goodIn_of _ (by decide +kernel)) ggX8_say_X8_in
theorem dX8_say_0 : decode cX8_say 0 = .ok (.iload_n 1, 1) := by decide +kernel
theorem dX8_say_1 : decode cX8_say 1 = .ok (.bipush 33, 2) := by decide +kernel
end
section
theorem dX8_say_3 : decode cX8_say 3 = .ok (.bipush 126, 2) := by decide +kernel
theorem dX8_say_5 : decode cX8_say 5 = .ok (.invokestatic 57, 3) := by decide +kernel
theorem dX8_say_8 : decode cX8_say 8 = .ok (.ifCond .ne 6, 3) := by decide +kernel
theorem dX8_say_11 : decode cX8_say 11 = .ok (.bipush (-2), 2) := by decide +kernel
theorem dX8_say_13 : decode cX8_say 13 = .ok (.ireturn, 1) := by decide +kernel
theorem dX8_say_14 : decode cX8_say 14 = .ok (.aload_n 0, 1) := by decide +kernel
theorem dX8_say_15 : decode cX8_say 15 = .ok (.getfield 61, 3) := by decide +kernel
theorem dX8_say_18 : decode cX8_say 18 = .ok (.bipush 30, 2) := by decide +kernel
theorem dX8_say_20 : decode cX8_say 20 = .ok (.if_icmp .ne 6, 3) := by decide +kernel
theorem dX8_say_23 : decode cX8_say 23 = .ok (.bipush (-4), 2) := by decide +kernel
theorem dX8_say_25 : decode cX8_say 25 = .ok (.ireturn, 1) := by decide +kernel
theorem dX8_say_26 : decode cX8_say 26 = .ok (.aload_n 0, 1) := by decide +kernel
theorem dX8_say_27 : decode cX8_say 27 = .ok (.getfield 28, 3) := by decide +kernel
theorem dX8_say_30 : decode cX8_say 30 = .ok (.aload_n 0, 1) := by decide +kernel
theorem dX8_say_31 : decode cX8_say 31 = .ok (.getfield 61, 3) := by decide +kernel
theorem dX8_say_34 : decode cX8_say 34 = .ok (.iload_n 1, 1) := by decide +kernel
theorem dX8_say_35 : decode cX8_say 35 = .ok (.iastore, 1) := by decide +kernel
theorem dX8_say_36 : decode cX8_say 36 = .ok (.aload_n 0, 1) := by decide +kernel
theorem dX8_say_37 : decode cX8_say 37 = .ok (.dup, 1) := by decide +kernel
theorem dX8_say_38 : decode cX8_say 38 = .ok (.getfield 61, 3) := by decide +kernel
theorem dX8_say_41 : decode cX8_say 41 = .ok (.iconst 1, 1) := by decide +kernel
theorem dX8_say_42 : decode cX8_say 42 = .ok (.iadd, 1) := by decide +kernel
theorem dX8_say_43 : decode cX8_say 43 = .ok (.putfield 61, 3) := by decide +kernel
theorem dX8_say_46 : decode cX8_say 46 = .ok (.aload_n 0, 1) := by decide +kernel
theorem dX8_say_47 : decode cX8_say 47 = .ok (.getfield 61, 3) := by decide +kernel
theorem dX8_say_50 : decode cX8_say 50 = .ok (.ireturn, 1) := by decide +kernel
theorem dX8_wipe_0 : decode cX8_wipe 0 = .ok (.aload_n 0, 1) := by decide +kernel
theorem dX8_wipe_1 : decode cX8_wipe 1 = .ok (.getfield 61, 3) := by decide +kernel
theorem dX8_wipe_4 : decode cX8_wipe 4 = .ok (.istore_n 1, 1) := by decide +kernel
theorem dX8_wipe_5 : decode cX8_wipe 5 = .ok (.aload_n 0, 1) := by decide +kernel
theorem dX8_wipe_6 : decode cX8_wipe 6 = .ok (.iconst 0, 1) := by decide +kernel
theorem dX8_wipe_7 : decode cX8_wipe 7 = .ok (.putfield 61, 3) := by decide +kernel
theorem dX8_wipe_10 : decode cX8_wipe 10 = .ok (.iload_n 1, 1) := by decide +kernel
theorem dX8_wipe_11 : decode cX8_wipe 11 = .ok (.ireturn, 1) := by decide +kernel
set_option maxRecDepth 20000 in
theorem ggX8_faultOf_X8_in : GoodIn wsX8_faultOf wsX8_in := goodIn_r _ [7] (by decide +kernel) (by decide +kernel)
set_option maxRecDepth 20000 in
theorem gX8_faultOf_X8_in : GoodIn wsX8_faultOf (va_wsS RX8 57 yX8_in wsX8_in) := goodIn_app (goodIn_of _ (by decide +kernel)) ggX8_faultOf_X8_in
theorem dX8_faultOf_0 : decode cX8_faultOf 0 = .ok (.iconst 0, 1) := by decide +kernel
theorem dX8_faultOf_1 : decode cX8_faultOf 1 = .ok (.istore_n 1, 1) := by decide +kernel
theorem dX8_faultOf_2 : decode cX8_faultOf 2 = .ok (.iconst 0, 1) := by decide +kernel
theorem dX8_faultOf_3 : decode cX8_faultOf 3 = .ok (.istore_n 2, 1) := by decide +kernel
theorem dX8_faultOf_4 : decode cX8_faultOf 4 = .ok (.iconst 0, 1) := by decide +kernel
theorem dX8_faultOf_5 : decode cX8_faultOf 5 = .ok (.istore_n 3, 1) := by decide +kernel
theorem dX8_faultOf_6 : decode cX8_faultOf 6 = .ok (.iconst 0, 1) := by decide +kernel
theorem dX8_faultOf_7 : decode cX8_faultOf 7 = .ok (.istore 4, 2) := by decide +kernel
theorem dX8_faultOf_9 : decode cX8_faultOf 9 = .ok (.iconst 0, 1) := by decide +kernel
theorem dX8_faultOf_10 : decode cX8_faultOf 10 = .ok (.istore 5, 2) := by decide +kernel
theorem dX8_faultOf_12 : decode cX8_faultOf 12 = .ok (.iload 5, 2) := by decide +kernel
theorem dX8_faultOf_14 : decode cX8_faultOf 14 = .ok (.aload_n 0, 1) := by decide +kernel
theorem dX8_faultOf_15 : decode cX8_faultOf 15 = .ok (.getfield 61, 3) := by decide +kernel
theorem dX8_faultOf_18 : decode cX8_faultOf 18 = .ok (.if_icmp .ge 183, 3) := by decide +kernel
theorem dX8_faultOf_21 : decode cX8_faultOf 21 = .ok (.aload_n 0, 1) := by decide +kernel
theorem dX8_faultOf_22 : decode cX8_faultOf 22 = .ok (.getfield 28, 3) := by decide +kernel
theorem dX8_faultOf_25 : decode cX8_faultOf 25 = .ok (.iload 5, 2) := by decide +kernel
theorem dX8_faultOf_27 : decode cX8_faultOf 27 = .ok (.iaload, 1) := by decide +kernel
theorem dX8_faultOf_28 : decode cX8_faultOf 28 = .ok (.istore 6, 2) := by decide +kernel
theorem dX8_faultOf_30 : decode cX8_faultOf 30 = .ok (.iload 6, 2) := by decide +kernel
theorem dX8_faultOf_32 : decode cX8_faultOf 32 = .ok (.bipush 46, 2) := by decide +kernel
theorem dX8_faultOf_34 : decode cX8_faultOf 34 = .ok (.if_icmp .ne 18, 3) := by decide +kernel
theorem dX8_faultOf_37 : decode cX8_faultOf 37 = .ok (.iload_n 1, 1) := by decide +kernel
theorem dX8_faultOf_38 : decode cX8_faultOf 38 = .ok (.bipush 12, 2) := by decide +kernel
theorem dX8_faultOf_40 : decode cX8_faultOf 40 = .ok (.if_icmp .ne 6, 3) := by decide +kernel
theorem dX8_faultOf_43 : decode cX8_faultOf 43 = .ok (.iload 5, 2) := by decide +kernel
theorem dX8_faultOf_45 : decode cX8_faultOf 45 = .ok (.ireturn, 1) := by decide +kernel
theorem dX8_faultOf_46 : decode cX8_faultOf 46 = .ok (.iinc 1 1, 3) := by decide +kernel
theorem dX8_faultOf_49 : decode cX8_faultOf 49 = .ok (.goto 146, 3) := by decide +kernel
theorem dX8_faultOf_52 : decode cX8_faultOf 52 = .ok (.iload 6, 2) := by decide +kernel
theorem dX8_faultOf_54 : decode cX8_faultOf 54 = .ok (.bipush 65, 2) := by decide +kernel
theorem dX8_faultOf_56 : decode cX8_faultOf 56 = .ok (.bipush 69, 2) := by decide +kernel
theorem dX8_faultOf_58 : decode cX8_faultOf 58 = .ok (.invokestatic 57, 3) := by decide +kernel
theorem dX8_faultOf_61 : decode cX8_faultOf 61 = .ok (.ifCond .eq 47, 3) := by decide +kernel
theorem dX8_faultOf_64 : decode cX8_faultOf 64 = .ok (.iload_n 2, 1) := by decide +kernel
theorem dX8_faultOf_65 : decode cX8_faultOf 65 = .ok (.iload 6, 2) := by decide +kernel
theorem dX8_faultOf_67 : decode cX8_faultOf 67 = .ok (.bipush 65, 2) := by decide +kernel
theorem dX8_faultOf_69 : decode cX8_faultOf 69 = .ok (.isub, 1) := by decide +kernel
theorem dX8_faultOf_70 : decode cX8_faultOf 70 = .ok (.ishr, 1) := by decide +kernel
theorem dX8_faultOf_71 : decode cX8_faultOf 71 = .ok (.iconst 1, 1) := by decide +kernel
theorem dX8_faultOf_72 : decode cX8_faultOf 72 = .ok (.iand, 1) := by decide +kernel
theorem dX8_faultOf_73 : decode cX8_faultOf 73 = .ok (.iconst 1, 1) := by decide +kernel
theorem dX8_faultOf_74 : decode cX8_faultOf 74 = .ok (.if_icmp .ne 6, 3) := by decide +kernel
theorem dX8_faultOf_77 : decode cX8_faultOf 77 = .ok (.iload 5, 2) := by decide +kernel
theorem dX8_faultOf_79 : decode cX8_faultOf 79 = .ok (.ireturn, 1) := by decide +kernel
theorem dX8_faultOf_80 : decode cX8_faultOf 80 = .ok (.iload_n 2, 1) := by decide +kernel
theorem dX8_faultOf_81 : decode cX8_faultOf 81 = .ok (.iconst 1, 1) := by decide +kernel
theorem dX8_faultOf_82 : decode cX8_faultOf 82 = .ok (.iload 6, 2) := by decide +kernel
theorem dX8_faultOf_84 : decode cX8_faultOf 84 = .ok (.bipush 65, 2) := by decide +kernel
theorem dX8_faultOf_86 : decode cX8_faultOf 86 = .ok (.isub, 1) := by decide +kernel
theorem dX8_faultOf_87 : decode cX8_faultOf 87 = .ok (.ishl, 1) := by decide +kernel
theorem dX8_faultOf_88 : decode cX8_faultOf 88 = .ok (.ior, 1) := by decide +kernel
theorem dX8_faultOf_89 : decode cX8_faultOf 89 = .ok (.istore_n 2, 1) := by decide +kernel
theorem dX8_faultOf_90 : decode cX8_faultOf 90 = .ok (.aload_n 0, 1) := by decide +kernel
theorem dX8_faultOf_91 : decode cX8_faultOf 91 = .ok (.getfield 31, 3) := by decide +kernel
theorem dX8_faultOf_94 : decode cX8_faultOf 94 = .ok (.iload 4, 2) := by decide +kernel
theorem dX8_faultOf_96 : decode cX8_faultOf 96 = .ok (.iload 6, 2) := by decide +kernel
theorem dX8_faultOf_98 : decode cX8_faultOf 98 = .ok (.bipush 65, 2) := by decide +kernel
theorem dX8_faultOf_100 : decode cX8_faultOf 100 = .ok (.isub, 1) := by decide +kernel
theorem dX8_faultOf_101 : decode cX8_faultOf 101 = .ok (.iastore, 1) := by decide +kernel
theorem dX8_faultOf_102 : decode cX8_faultOf 102 = .ok (.iinc 4 1, 3) := by decide +kernel
theorem dX8_faultOf_105 : decode cX8_faultOf 105 = .ok (.goto 90, 3) := by decide +kernel
theorem dX8_faultOf_108 : decode cX8_faultOf 108 = .ok (.iload 6, 2) := by decide +kernel
theorem dX8_faultOf_110 : decode cX8_faultOf 110 = .ok (.bipush 97, 2) := by decide +kernel
theorem dX8_faultOf_112 : decode cX8_faultOf 112 = .ok (.bipush 101, 2) := by decide +kernel
theorem dX8_faultOf_114 : decode cX8_faultOf 114 = .ok (.invokestatic 57, 3) := by decide +kernel
theorem dX8_faultOf_117 : decode cX8_faultOf 117 = .ok (.ifCond .eq 34, 3) := by decide +kernel
theorem dX8_faultOf_120 : decode cX8_faultOf 120 = .ok (.iload 4, 2) := by decide +kernel
theorem dX8_faultOf_122 : decode cX8_faultOf 122 = .ok (.ifCond .eq 20, 3) := by decide +kernel
theorem dX8_faultOf_125 : decode cX8_faultOf 125 = .ok (.aload_n 0, 1) := by decide +kernel
theorem dX8_faultOf_126 : decode cX8_faultOf 126 = .ok (.getfield 31, 3) := by decide +kernel
theorem dX8_faultOf_129 : decode cX8_faultOf 129 = .ok (.iload 4, 2) := by decide +kernel
theorem dX8_faultOf_131 : decode cX8_faultOf 131 = .ok (.iconst 1, 1) := by decide +kernel
theorem dX8_faultOf_132 : decode cX8_faultOf 132 = .ok (.isub, 1) := by decide +kernel
theorem dX8_faultOf_133 : decode cX8_faultOf 133 = .ok (.iaload, 1) := by decide +kernel
theorem dX8_faultOf_134 : decode cX8_faultOf 134 = .ok (.iload 6, 2) := by decide +kernel
theorem dX8_faultOf_136 : decode cX8_faultOf 136 = .ok (.bipush 97, 2) := by decide +kernel
theorem dX8_faultOf_138 : decode cX8_faultOf 138 = .ok (.isub, 1) := by decide +kernel
theorem dX8_faultOf_139 : decode cX8_faultOf 139 = .ok (.if_icmp .eq 6, 3) := by decide +kernel
theorem dX8_faultOf_142 : decode cX8_faultOf 142 = .ok (.iload 5, 2) := by decide +kernel
theorem dX8_faultOf_144 : decode cX8_faultOf 144 = .ok (.ireturn, 1) := by decide +kernel
theorem dX8_faultOf_145 : decode cX8_faultOf 145 = .ok (.iinc 4 (-1), 3) := by decide +kernel
theorem dX8_faultOf_148 : decode cX8_faultOf 148 = .ok (.goto 47, 3) := by decide +kernel
theorem dX8_faultOf_151 : decode cX8_faultOf 151 = .ok (.iload 6, 2) := by decide +kernel
theorem dX8_faultOf_153 : decode cX8_faultOf 153 = .ok (.bipush 120, 2) := by decide +kernel
theorem dX8_faultOf_155 : decode cX8_faultOf 155 = .ok (.bipush 122, 2) := by decide +kernel
theorem dX8_faultOf_157 : decode cX8_faultOf 157 = .ok (.invokestatic 57, 3) := by decide +kernel
theorem dX8_faultOf_160 : decode cX8_faultOf 160 = .ok (.ifCond .eq 32, 3) := by decide +kernel
theorem dX8_faultOf_163 : decode cX8_faultOf 163 = .ok (.iload_n 3, 1) := by decide +kernel
theorem dX8_faultOf_164 : decode cX8_faultOf 164 = .ok (.iload 6, 2) := by decide +kernel
theorem dX8_faultOf_166 : decode cX8_faultOf 166 = .ok (.bipush 120, 2) := by decide +kernel
theorem dX8_faultOf_168 : decode cX8_faultOf 168 = .ok (.isub, 1) := by decide +kernel
theorem dX8_faultOf_169 : decode cX8_faultOf 169 = .ok (.ishr, 1) := by decide +kernel
theorem dX8_faultOf_170 : decode cX8_faultOf 170 = .ok (.iconst 1, 1) := by decide +kernel
theorem dX8_faultOf_171 : decode cX8_faultOf 171 = .ok (.iand, 1) := by decide +kernel
theorem dX8_faultOf_172 : decode cX8_faultOf 172 = .ok (.iconst 1, 1) := by decide +kernel
theorem dX8_faultOf_173 : decode cX8_faultOf 173 = .ok (.if_icmp .ne 6, 3) := by decide +kernel
theorem dX8_faultOf_176 : decode cX8_faultOf 176 = .ok (.iload 5, 2) := by decide +kernel
theorem dX8_faultOf_178 : decode cX8_faultOf 178 = .ok (.ireturn, 1) := by decide +kernel
theorem dX8_faultOf_179 : decode cX8_faultOf 179 = .ok (.iload_n 3, 1) := by decide +kernel
theorem dX8_faultOf_180 : decode cX8_faultOf 180 = .ok (.iconst 1, 1) := by decide +kernel
theorem dX8_faultOf_181 : decode cX8_faultOf 181 = .ok (.iload 6, 2) := by decide +kernel
theorem dX8_faultOf_183 : decode cX8_faultOf 183 = .ok (.bipush 120, 2) := by decide +kernel
theorem dX8_faultOf_185 : decode cX8_faultOf 185 = .ok (.isub, 1) := by decide +kernel
theorem dX8_faultOf_186 : decode cX8_faultOf 186 = .ok (.ishl, 1) := by decide +kernel
theorem dX8_faultOf_187 : decode cX8_faultOf 187 = .ok (.ior, 1) := by decide +kernel
theorem dX8_faultOf_188 : decode cX8_faultOf 188 = .ok (.istore_n 3, 1) := by decide +kernel
theorem dX8_faultOf_189 : decode cX8_faultOf 189 = .ok (.goto 6, 3) := by decide +kernel
theorem dX8_faultOf_192 : decode cX8_faultOf 192 = .ok (.iload 5, 2) := by decide +kernel
theorem dX8_faultOf_194 : decode cX8_faultOf 194 = .ok (.ireturn, 1) := by decide +kernel
theorem dX8_faultOf_195 : decode cX8_faultOf 195 = .ok (.iinc 5 1, 3) := by decide +kernel
theorem dX8_faultOf_198 : decode cX8_faultOf 198 = .ok (.goto (-186), 3) := by decide +kernel
theorem dX8_faultOf_201 : decode cX8_faultOf 201 = .ok (.iload 4, 2) := by decide +kernel
theorem dX8_faultOf_203 : decode cX8_faultOf 203 = .ok (.ifCond .le 10, 3) := by decide +kernel
theorem dX8_faultOf_206 : decode cX8_faultOf 206 = .ok (.aload_n 0, 1) := by decide +kernel
theorem dX8_faultOf_207 : decode cX8_faultOf 207 = .ok (.getfield 61, 3) := by decide +kernel
theorem dX8_faultOf_210 : decode cX8_faultOf 210 = .ok (.goto 5, 3) := by decide +kernel
theorem dX8_faultOf_213 : decode cX8_faultOf 213 = .ok (.bipush (-6), 2) := by decide +kernel
theorem dX8_faultOf_215 : decode cX8_faultOf 215 = .ok (.ireturn, 1) := by decide +kernel
set_option maxRecDepth 20000 in
theorem ggX8_fault_X8_faultOf : GoodIn wsX8_fault wsX8_faultOf := goodIn_r _ [5, 6, 7, 8, 9, 10, 4, 11, 12, 13, 14, 15, 16, 17, 18, 19, 20, 21, 22, 23, 24, 25, 26, 27, 28, 29, 30, 31, 32, 33] (by decide +kernel) (by decide +kernel)
set_option maxRecDepth 20000 in
theorem gX8_fault_X8_faultOf : GoodIn wsX8_fault (wsV RX8 65 RX8 yX8_faultOf wsX8_faultOf) := goodIn_app (goodIn_of _ (by decide +kernel)) ggX8_fault_X8_faultOf
theorem dX8_fault_0 : decode cX8_fault 0 = .ok (.aload_n 0, 1) := by decide +kernel
theorem dX8_fault_1 : decode cX8_fault 1 = .ok (.invokevirtual 65, 3) := by decide +kernel
theorem dX8_fault_4 : decode cX8_fault 4 = .ok (.ireturn, 1) := by decide +kernel
theorem dX8_unlink_0 : decode cX8_unlink 0 = .ok (.iconst 0, 1) := by decide +kernel
theorem dX8_unlink_1 : decode cX8_unlink 1 = .ok (.istore_n 1, 1) := by decide +kernel
theorem dX8_unlink_2 : decode cX8_unlink 2 = .ok (.iload_n 1, 1) := by decide +kernel
theorem dX8_unlink_3 : decode cX8_unlink 3 = .ok (.bipush 12, 2) := by decide +kernel
theorem dX8_unlink_5 : decode cX8_unlink 5 = .ok (.if_icmp .ge 16, 3) := by decide +kernel
theorem dX8_unlink_8 : decode cX8_unlink 8 = .ok (.aload_n 0, 1) := by decide +kernel
theorem dX8_unlink_9 : decode cX8_unlink 9 = .ok (.getfield 25, 3) := by decide +kernel
theorem dX8_unlink_12 : decode cX8_unlink 12 = .ok (.iload_n 1, 1) := by decide +kernel
theorem dX8_unlink_13 : decode cX8_unlink 13 = .ok (.iconst 0, 1) := by decide +kernel
theorem dX8_unlink_14 : decode cX8_unlink 14 = .ok (.iastore, 1) := by decide +kernel
theorem dX8_unlink_15 : decode cX8_unlink 15 = .ok (.iinc 1 1, 3) := by decide +kernel
theorem dX8_unlink_18 : decode cX8_unlink 18 = .ok (.goto (-16), 3) := by decide +kernel
theorem dX8_unlink_21 : decode cX8_unlink 21 = .ok (.return_, 1) := by decide +kernel
set_option maxRecDepth 20000 in
theorem ggX8_load_X8_faultOf : GoodIn wsX8_load wsX8_faultOf := goodIn_r _ [14, 6, 7, 15, 16, 17, 13, 18, 24, 25, 26, 27, 28, 29, 30, 31, 32, 33, 34, 35, 36, 37, 38, 39, 40, 41, 42, 43, 44, 45] (by decide +kernel) (by decide +kernel)
set_option maxRecDepth 20000 in
theorem gX8_load_X8_faultOf : GoodIn wsX8_load (wsV RX8 65 RX8 yX8_faultOf wsX8_faultOf) := goodIn_app (goodIn_of _ (by decide +kernel)) ggX8_load_X8_faultOf
set_option maxRecDepth 20000 in
theorem ggX8_load_X8_in : GoodIn wsX8_load wsX8_in := goodIn_r _ [18] (by decide +kernel) (by decide +kernel)
set_option maxRecDepth 20000 in
theorem gX8_load_X8_in : GoodIn wsX8_load (va_wsS RX8 57 yX8_in wsX8_in) := goodIn_app (goodIn_of _ (by decide +kernel)) ggX8_load_X8_in
set_option maxRecDepth 20000 in
theorem ggX8_load_X8_unlink : GoodIn wsX8_load wsX8_unlink := goodIn_r _ [22, 23, 24, 25, 26, 27, 28, 29, 30, 31, 32, 33, 34, 35, 36, 37, 38, 39, 40, 41, 42, 43, 44, 45] (by decide +kernel) (by decide +kernel)
set_option maxRecDepth 20000 in
theorem gX8_load_X8_unlink : GoodIn wsX8_load (wsV RX8 75 RX8 yX8_unlink wsX8_unlink) := goodIn_app (goodIn_of _ (by decide +kernel)) ggX8_load_X8_unlink
theorem dX8_load_0 : decode cX8_load 0 = .ok (.aload_n 0, 1) := by decide +kernel
theorem dX8_load_1 : decode cX8_load 1 = .ok (.invokevirtual 65, 3) := by decide +kernel
theorem dX8_load_4 : decode cX8_load 4 = .ok (.ifCond .lt 6, 3) := by decide +kernel
theorem dX8_load_7 : decode cX8_load 7 = .ok (.bipush (-5), 2) := by decide +kernel
theorem dX8_load_9 : decode cX8_load 9 = .ok (.ireturn, 1) := by decide +kernel
theorem dX8_load_10 : decode cX8_load 10 = .ok (.aload_n 0, 1) := by decide +kernel
theorem dX8_load_11 : decode cX8_load 11 = .ok (.iconst 0, 1) := by decide +kernel
theorem dX8_load_12 : decode cX8_load 12 = .ok (.putfield 69, 3) := by decide +kernel
theorem dX8_load_15 : decode cX8_load 15 = .ok (.aload_n 0, 1) := by decide +kernel
theorem dX8_load_16 : decode cX8_load 16 = .ok (.iconst 0, 1) := by decide +kernel
theorem dX8_load_17 : decode cX8_load 17 = .ok (.putfield 72, 3) := by decide +kernel
theorem dX8_load_20 : decode cX8_load 20 = .ok (.iconst 0, 1) := by decide +kernel
theorem dX8_load_21 : decode cX8_load 21 = .ok (.istore_n 1, 1) := by decide +kernel
theorem dX8_load_22 : decode cX8_load 22 = .ok (.iload_n 1, 1) := by decide +kernel
theorem dX8_load_23 : decode cX8_load 23 = .ok (.iconst 5, 1) := by decide +kernel
theorem dX8_load_24 : decode cX8_load 24 = .ok (.if_icmp .ge 24, 3) := by decide +kernel
theorem dX8_load_27 : decode cX8_load 27 = .ok (.aload_n 0, 1) := by decide +kernel
theorem dX8_load_28 : decode cX8_load 28 = .ok (.getfield 7, 3) := by decide +kernel
theorem dX8_load_31 : decode cX8_load 31 = .ok (.iload_n 1, 1) := by decide +kernel
theorem dX8_load_32 : decode cX8_load 32 = .ok (.bipush (-6), 2) := by decide +kernel
theorem dX8_load_34 : decode cX8_load 34 = .ok (.iastore, 1) := by decide +kernel
theorem dX8_load_35 : decode cX8_load 35 = .ok (.aload_n 0, 1) := by decide +kernel
theorem dX8_load_36 : decode cX8_load 36 = .ok (.getfield 16, 3) := by decide +kernel
theorem dX8_load_39 : decode cX8_load 39 = .ok (.iload_n 1, 1) := by decide +kernel
theorem dX8_load_40 : decode cX8_load 40 = .ok (.iconst 0, 1) := by decide +kernel
theorem dX8_load_41 : decode cX8_load 41 = .ok (.iastore, 1) := by decide +kernel
theorem dX8_load_42 : decode cX8_load 42 = .ok (.iinc 1 1, 3) := by decide +kernel
theorem dX8_load_45 : decode cX8_load 45 = .ok (.goto (-23), 3) := by decide +kernel
theorem dX8_load_48 : decode cX8_load 48 = .ok (.iconst 0, 1) := by decide +kernel
theorem dX8_load_49 : decode cX8_load 49 = .ok (.istore_n 1, 1) := by decide +kernel
theorem dX8_load_50 : decode cX8_load 50 = .ok (.iload_n 1, 1) := by decide +kernel
theorem dX8_load_51 : decode cX8_load 51 = .ok (.iconst 3, 1) := by decide +kernel
theorem dX8_load_52 : decode cX8_load 52 = .ok (.if_icmp .ge 17, 3) := by decide +kernel
theorem dX8_load_55 : decode cX8_load 55 = .ok (.aload_n 0, 1) := by decide +kernel
theorem dX8_load_56 : decode cX8_load 56 = .ok (.getfield 19, 3) := by decide +kernel
theorem dX8_load_59 : decode cX8_load 59 = .ok (.iload_n 1, 1) := by decide +kernel
theorem dX8_load_60 : decode cX8_load 60 = .ok (.bipush (-6), 2) := by decide +kernel
theorem dX8_load_62 : decode cX8_load 62 = .ok (.iastore, 1) := by decide +kernel
theorem dX8_load_63 : decode cX8_load 63 = .ok (.iinc 1 1, 3) := by decide +kernel
theorem dX8_load_66 : decode cX8_load 66 = .ok (.goto (-16), 3) := by decide +kernel
theorem dX8_load_69 : decode cX8_load 69 = .ok (.iconst 0, 1) := by decide +kernel
theorem dX8_load_70 : decode cX8_load 70 = .ok (.istore_n 1, 1) := by decide +kernel
theorem dX8_load_71 : decode cX8_load 71 = .ok (.iconst 0, 1) := by decide +kernel
theorem dX8_load_72 : decode cX8_load 72 = .ok (.istore_n 2, 1) := by decide +kernel
theorem dX8_load_73 : decode cX8_load 73 = .ok (.iload_n 2, 1) := by decide +kernel
theorem dX8_load_74 : decode cX8_load 74 = .ok (.aload_n 0, 1) := by decide +kernel
theorem dX8_load_75 : decode cX8_load 75 = .ok (.getfield 61, 3) := by decide +kernel
theorem dX8_load_78 : decode cX8_load 78 = .ok (.if_icmp .ge 190, 3) := by decide +kernel
theorem dX8_load_81 : decode cX8_load 81 = .ok (.aload_n 0, 1) := by decide +kernel
theorem dX8_load_82 : decode cX8_load 82 = .ok (.getfield 28, 3) := by decide +kernel
theorem dX8_load_85 : decode cX8_load 85 = .ok (.iload_n 2, 1) := by decide +kernel
theorem dX8_load_86 : decode cX8_load 86 = .ok (.iaload, 1) := by decide +kernel
theorem dX8_load_87 : decode cX8_load 87 = .ok (.istore_n 3, 1) := by decide +kernel
theorem dX8_load_88 : decode cX8_load 88 = .ok (.iload_n 3, 1) := by decide +kernel
theorem dX8_load_89 : decode cX8_load 89 = .ok (.bipush 46, 2) := by decide +kernel
theorem dX8_load_91 : decode cX8_load 91 = .ok (.if_icmp .ne 16, 3) := by decide +kernel
theorem dX8_load_94 : decode cX8_load 94 = .ok (.aload_n 0, 1) := by decide +kernel
theorem dX8_load_95 : decode cX8_load 95 = .ok (.dup, 1) := by decide +kernel
theorem dX8_load_96 : decode cX8_load 96 = .ok (.getfield 69, 3) := by decide +kernel
theorem dX8_load_99 : decode cX8_load 99 = .ok (.iconst 1, 1) := by decide +kernel
theorem dX8_load_100 : decode cX8_load 100 = .ok (.iadd, 1) := by decide +kernel
theorem dX8_load_101 : decode cX8_load 101 = .ok (.putfield 69, 3) := by decide +kernel
theorem dX8_load_104 : decode cX8_load 104 = .ok (.goto 158, 3) := by decide +kernel
theorem dX8_load_107 : decode cX8_load 107 = .ok (.iload_n 3, 1) := by decide +kernel
theorem dX8_load_108 : decode cX8_load 108 = .ok (.bipush 65, 2) := by decide +kernel
theorem dX8_load_110 : decode cX8_load 110 = .ok (.bipush 69, 2) := by decide +kernel
theorem dX8_load_112 : decode cX8_load 112 = .ok (.invokestatic 57, 3) := by decide +kernel
theorem dX8_load_115 : decode cX8_load 115 = .ok (.ifCond .eq 73, 3) := by decide +kernel
theorem dX8_load_118 : decode cX8_load 118 = .ok (.iconst 0, 1) := by decide +kernel
theorem dX8_load_119 : decode cX8_load 119 = .ok (.istore 4, 2) := by decide +kernel
theorem dX8_load_121 : decode cX8_load 121 = .ok (.iload 4, 2) := by decide +kernel
theorem dX8_load_123 : decode cX8_load 123 = .ok (.iconst 5, 1) := by decide +kernel
theorem dX8_load_124 : decode cX8_load 124 = .ok (.if_icmp .ge 39, 3) := by decide +kernel
theorem dX8_load_127 : decode cX8_load 127 = .ok (.aload_n 0, 1) := by decide +kernel
theorem dX8_load_128 : decode cX8_load 128 = .ok (.getfield 16, 3) := by decide +kernel
theorem dX8_load_131 : decode cX8_load 131 = .ok (.iload 4, 2) := by decide +kernel
theorem dX8_load_133 : decode cX8_load 133 = .ok (.dup2, 1) := by decide +kernel
theorem dX8_load_134 : decode cX8_load 134 = .ok (.iaload, 1) := by decide +kernel
theorem dX8_load_135 : decode cX8_load 135 = .ok (.iload_n 1, 1) := by decide +kernel
theorem dX8_load_136 : decode cX8_load 136 = .ok (.iload 4, 2) := by decide +kernel
theorem dX8_load_138 : decode cX8_load 138 = .ok (.ishr, 1) := by decide +kernel
theorem dX8_load_139 : decode cX8_load 139 = .ok (.iconst 1, 1) := by decide +kernel
theorem dX8_load_140 : decode cX8_load 140 = .ok (.iand, 1) := by decide +kernel
theorem dX8_load_141 : decode cX8_load 141 = .ok (.iconst 1, 1) := by decide +kernel
theorem dX8_load_142 : decode cX8_load 142 = .ok (.if_icmp .ne 12, 3) := by decide +kernel
theorem dX8_load_145 : decode cX8_load 145 = .ok (.iconst 1, 1) := by decide +kernel
theorem dX8_load_146 : decode cX8_load 146 = .ok (.iload_n 3, 1) := by decide +kernel
theorem dX8_load_147 : decode cX8_load 147 = .ok (.bipush 65, 2) := by decide +kernel
theorem dX8_load_149 : decode cX8_load 149 = .ok (.isub, 1) := by decide +kernel
theorem dX8_load_150 : decode cX8_load 150 = .ok (.ishl, 1) := by decide +kernel
theorem dX8_load_151 : decode cX8_load 151 = .ok (.goto 4, 3) := by decide +kernel
theorem dX8_load_154 : decode cX8_load 154 = .ok (.iconst 0, 1) := by decide +kernel
theorem dX8_load_155 : decode cX8_load 155 = .ok (.ior, 1) := by decide +kernel
theorem dX8_load_156 : decode cX8_load 156 = .ok (.iastore, 1) := by decide +kernel
theorem dX8_load_157 : decode cX8_load 157 = .ok (.iinc 4 1, 3) := by decide +kernel
theorem dX8_load_160 : decode cX8_load 160 = .ok (.goto (-39), 3) := by decide +kernel
theorem dX8_load_163 : decode cX8_load 163 = .ok (.aload_n 0, 1) := by decide +kernel
theorem dX8_load_164 : decode cX8_load 164 = .ok (.getfield 7, 3) := by decide +kernel
theorem dX8_load_167 : decode cX8_load 167 = .ok (.iload_n 3, 1) := by decide +kernel
theorem dX8_load_168 : decode cX8_load 168 = .ok (.bipush 65, 2) := by decide +kernel
theorem dX8_load_170 : decode cX8_load 170 = .ok (.isub, 1) := by decide +kernel
theorem dX8_load_171 : decode cX8_load 171 = .ok (.aload_n 0, 1) := by decide +kernel
theorem dX8_load_172 : decode cX8_load 172 = .ok (.getfield 69, 3) := by decide +kernel
theorem dX8_load_175 : decode cX8_load 175 = .ok (.iastore, 1) := by decide +kernel
theorem dX8_load_176 : decode cX8_load 176 = .ok (.iload_n 1, 1) := by decide +kernel
theorem dX8_load_177 : decode cX8_load 177 = .ok (.iconst 1, 1) := by decide +kernel
theorem dX8_load_178 : decode cX8_load 178 = .ok (.iload_n 3, 1) := by decide +kernel
theorem dX8_load_179 : decode cX8_load 179 = .ok (.bipush 65, 2) := by decide +kernel
theorem dX8_load_181 : decode cX8_load 181 = .ok (.isub, 1) := by decide +kernel
theorem dX8_load_182 : decode cX8_load 182 = .ok (.ishl, 1) := by decide +kernel
theorem dX8_load_183 : decode cX8_load 183 = .ok (.ior, 1) := by decide +kernel
theorem dX8_load_184 : decode cX8_load 184 = .ok (.istore_n 1, 1) := by decide +kernel
theorem dX8_load_185 : decode cX8_load 185 = .ok (.goto 77, 3) := by decide +kernel
theorem dX8_load_188 : decode cX8_load 188 = .ok (.iload_n 3, 1) := by decide +kernel
theorem dX8_load_189 : decode cX8_load 189 = .ok (.bipush 97, 2) := by decide +kernel
theorem dX8_load_191 : decode cX8_load 191 = .ok (.bipush 101, 2) := by decide +kernel
theorem dX8_load_193 : decode cX8_load 193 = .ok (.invokestatic 57, 3) := by decide +kernel
theorem dX8_load_196 : decode cX8_load 196 = .ok (.ifCond .eq 30, 3) := by decide +kernel
theorem dX8_load_199 : decode cX8_load 199 = .ok (.aload_n 0, 1) := by decide +kernel
theorem dX8_load_200 : decode cX8_load 200 = .ok (.getfield 13, 3) := by decide +kernel
theorem dX8_load_203 : decode cX8_load 203 = .ok (.iload_n 3, 1) := by decide +kernel
theorem dX8_load_204 : decode cX8_load 204 = .ok (.bipush 97, 2) := by decide +kernel
theorem dX8_load_206 : decode cX8_load 206 = .ok (.isub, 1) := by decide +kernel
theorem dX8_load_207 : decode cX8_load 207 = .ok (.aload_n 0, 1) := by decide +kernel
theorem dX8_load_208 : decode cX8_load 208 = .ok (.getfield 69, 3) := by decide +kernel
theorem dX8_load_211 : decode cX8_load 211 = .ok (.iastore, 1) := by decide +kernel
theorem dX8_load_212 : decode cX8_load 212 = .ok (.iload_n 1, 1) := by decide +kernel
theorem dX8_load_213 : decode cX8_load 213 = .ok (.iconst 1, 1) := by decide +kernel
theorem dX8_load_214 : decode cX8_load 214 = .ok (.iload_n 3, 1) := by decide +kernel
theorem dX8_load_215 : decode cX8_load 215 = .ok (.bipush 97, 2) := by decide +kernel
theorem dX8_load_217 : decode cX8_load 217 = .ok (.isub, 1) := by decide +kernel
theorem dX8_load_218 : decode cX8_load 218 = .ok (.ishl, 1) := by decide +kernel
theorem dX8_load_219 : decode cX8_load 219 = .ok (.iconst (-1), 1) := by decide +kernel
theorem dX8_load_220 : decode cX8_load 220 = .ok (.ixor, 1) := by decide +kernel
theorem dX8_load_221 : decode cX8_load 221 = .ok (.iand, 1) := by decide +kernel
theorem dX8_load_222 : decode cX8_load 222 = .ok (.istore_n 1, 1) := by decide +kernel
theorem dX8_load_223 : decode cX8_load 223 = .ok (.goto 39, 3) := by decide +kernel
theorem dX8_load_226 : decode cX8_load 226 = .ok (.aload_n 0, 1) := by decide +kernel
theorem dX8_load_227 : decode cX8_load 227 = .ok (.getfield 19, 3) := by decide +kernel
theorem dX8_load_230 : decode cX8_load 230 = .ok (.iload_n 3, 1) := by decide +kernel
theorem dX8_load_231 : decode cX8_load 231 = .ok (.bipush 120, 2) := by decide +kernel
theorem dX8_load_233 : decode cX8_load 233 = .ok (.isub, 1) := by decide +kernel
theorem dX8_load_234 : decode cX8_load 234 = .ok (.aload_n 0, 1) := by decide +kernel
theorem dX8_load_235 : decode cX8_load 235 = .ok (.getfield 69, 3) := by decide +kernel
theorem dX8_load_238 : decode cX8_load 238 = .ok (.iastore, 1) := by decide +kernel
theorem dX8_load_239 : decode cX8_load 239 = .ok (.aload_n 0, 1) := by decide +kernel
theorem dX8_load_240 : decode cX8_load 240 = .ok (.getfield 22, 3) := by decide +kernel
theorem dX8_load_243 : decode cX8_load 243 = .ok (.aload_n 0, 1) := by decide +kernel
theorem dX8_load_244 : decode cX8_load 244 = .ok (.getfield 72, 3) := by decide +kernel
theorem dX8_load_247 : decode cX8_load 247 = .ok (.iload_n 3, 1) := by decide +kernel
theorem dX8_load_248 : decode cX8_load 248 = .ok (.bipush 120, 2) := by decide +kernel
theorem dX8_load_250 : decode cX8_load 250 = .ok (.isub, 1) := by decide +kernel
theorem dX8_load_251 : decode cX8_load 251 = .ok (.iastore, 1) := by decide +kernel
theorem dX8_load_252 : decode cX8_load 252 = .ok (.aload_n 0, 1) := by decide +kernel
theorem dX8_load_253 : decode cX8_load 253 = .ok (.dup, 1) := by decide +kernel
theorem dX8_load_254 : decode cX8_load 254 = .ok (.getfield 72, 3) := by decide +kernel
theorem dX8_load_257 : decode cX8_load 257 = .ok (.iconst 1, 1) := by decide +kernel
theorem dX8_load_258 : decode cX8_load 258 = .ok (.iadd, 1) := by decide +kernel
theorem dX8_load_259 : decode cX8_load 259 = .ok (.putfield 72, 3) := by decide +kernel
theorem dX8_load_262 : decode cX8_load 262 = .ok (.iinc 2 1, 3) := by decide +kernel
theorem dX8_load_265 : decode cX8_load 265 = .ok (.goto (-192), 3) := by decide +kernel
theorem dX8_load_268 : decode cX8_load 268 = .ok (.aload_n 0, 1) := by decide +kernel
theorem dX8_load_269 : decode cX8_load 269 = .ok (.invokevirtual 75, 3) := by decide +kernel
theorem dX8_load_272 : decode cX8_load 272 = .ok (.aload_n 0, 1) := by decide +kernel
theorem dX8_load_273 : decode cX8_load 273 = .ok (.iconst 0, 1) := by decide +kernel
theorem dX8_load_274 : decode cX8_load 274 = .ok (.putfield 61, 3) := by decide +kernel
theorem dX8_load_277 : decode cX8_load 277 = .ok (.aload_n 0, 1) := by decide +kernel
theorem dX8_load_278 : decode cX8_load 278 = .ok (.getfield 69, 3) := by decide +kernel
theorem dX8_load_281 : decode cX8_load 281 = .ok (.ireturn, 1) := by decide +kernel
set_option maxRecDepth 20000 in
theorem ggX8_target_X8_in : GoodIn wsX8_target wsX8_in := goodIn_r _ [5] (by decide +kernel) (by decide +kernel)
set_option maxRecDepth 20000 in
theorem gX8_target_X8_in : GoodIn wsX8_target (va_wsS RX8 57 yX8_in wsX8_in) := goodIn_app (goodIn_of _ (by decide +kernel)) ggX8_target_X8_in
set_option maxRecDepth 20000 in
theorem ggX8_target_X8_unlink : GoodIn wsX8_target wsX8_unlink := goodIn_r _ [9, 10, 11, 12, 13, 14, 15, 16, 17, 18, 19, 20, 21, 22, 23, 24, 25, 26, 27, 28, 29, 30, 31, 32] (by decide +kernel) (by decide +kernel)
set_option maxRecDepth 20000 in
theorem gX8_target_X8_unlink : GoodIn wsX8_target (wsV RX8 75 RX8 yX8_unlink wsX8_unlink) := goodIn_app (goodIn_of _ (by decide +kernel)) ggX8_target_X8_unlink
theorem dX8_target_0 : decode cX8_target 0 = .ok (.iload_n 1, 1) := by decide +kernel
theorem dX8_target_1 : decode cX8_target 1 = .ok (.iconst 0, 1) := by decide +kernel
theorem dX8_target_2 : decode cX8_target 2 = .ok (.bipush 8, 2) := by decide +kernel
theorem dX8_target_4 : decode cX8_target 4 = .ok (.invokestatic 57, 3) := by decide +kernel
theorem dX8_target_7 : decode cX8_target 7 = .ok (.ifCond .ne 6, 3) := by decide +kernel
theorem dX8_target_10 : decode cX8_target 10 = .ok (.bipush (-2), 2) := by decide +kernel
theorem dX8_target_12 : decode cX8_target 12 = .ok (.ireturn, 1) := by decide +kernel
theorem dX8_target_13 : decode cX8_target 13 = .ok (.aload_n 0, 1) := by decide +kernel
theorem dX8_target_14 : decode cX8_target 14 = .ok (.getfield 78, 3) := by decide +kernel
theorem dX8_target_17 : decode cX8_target 17 = .ok (.istore_n 2, 1) := by decide +kernel
theorem dX8_target_18 : decode cX8_target 18 = .ok (.aload_n 0, 1) := by decide +kernel
theorem dX8_target_19 : decode cX8_target 19 = .ok (.iload_n 1, 1) := by decide +kernel
theorem dX8_target_20 : decode cX8_target 20 = .ok (.putfield 78, 3) := by decide +kernel
theorem dX8_target_23 : decode cX8_target 23 = .ok (.aload_n 0, 1) := by decide +kernel
theorem dX8_target_24 : decode cX8_target 24 = .ok (.invokevirtual 75, 3) := by decide +kernel
theorem dX8_target_27 : decode cX8_target 27 = .ok (.iload_n 2, 1) := by decide +kernel
theorem dX8_target_28 : decode cX8_target 28 = .ok (.ireturn, 1) := by decide +kernel
set_option maxRecDepth 20000 in
theorem ggX8_link_X8_in : GoodIn wsX8_link wsX8_in := goodIn_r _ [7] (by decide +kernel) (by decide +kernel)
set_option maxRecDepth 20000 in
theorem gX8_link_X8_in : GoodIn wsX8_link (va_wsS RX8 57 yX8_in wsX8_in) := goodIn_app (goodIn_of _ (by decide +kernel)) ggX8_link_X8_in
theorem dX8_link_0 : decode cX8_link 0 = .ok (.iload_n 1, 1) := by decide +kernel
theorem dX8_link_1 : decode cX8_link 1 = .ok (.iconst 0, 1) := by decide +kernel
theorem dX8_link_2 : decode cX8_link 2 = .ok (.aload_n 0, 1) := by decide +kernel
theorem dX8_link_3 : decode cX8_link 3 = .ok (.getfield 69, 3) := by decide +kernel
theorem dX8_link_6 : decode cX8_link 6 = .ok (.iconst 1, 1) := by decide +kernel
theorem dX8_link_7 : decode cX8_link 7 = .ok (.isub, 1) := by decide +kernel
theorem dX8_link_8 : decode cX8_link 8 = .ok (.invokestatic 57, 3) := by decide +kernel
theorem dX8_link_11 : decode cX8_link 11 = .ok (.ifCond .eq 17, 3) := by decide +kernel
theorem dX8_link_14 : decode cX8_link 14 = .ok (.iload_n 2, 1) := by decide +kernel
theorem dX8_link_15 : decode cX8_link 15 = .ok (.iconst 0, 1) := by decide +kernel
theorem dX8_link_16 : decode cX8_link 16 = .ok (.aload_n 0, 1) := by decide +kernel
theorem dX8_link_17 : decode cX8_link 17 = .ok (.getfield 78, 3) := by decide +kernel
theorem dX8_link_20 : decode cX8_link 20 = .ok (.iconst 1, 1) := by decide +kernel
theorem dX8_link_21 : decode cX8_link 21 = .ok (.isub, 1) := by decide +kernel
theorem dX8_link_22 : decode cX8_link 22 = .ok (.invokestatic 57, 3) := by decide +kernel
theorem dX8_link_25 : decode cX8_link 25 = .ok (.ifCond .ne 5, 3) := by decide +kernel
theorem dX8_link_28 : decode cX8_link 28 = .ok (.iconst (-1), 1) := by decide +kernel
theorem dX8_link_29 : decode cX8_link 29 = .ok (.ireturn, 1) := by decide +kernel
theorem dX8_link_30 : decode cX8_link 30 = .ok (.aload_n 0, 1) := by decide +kernel
theorem dX8_link_31 : decode cX8_link 31 = .ok (.getfield 25, 3) := by decide +kernel
theorem dX8_link_34 : decode cX8_link 34 = .ok (.iload_n 1, 1) := by decide +kernel
theorem dX8_link_35 : decode cX8_link 35 = .ok (.dup2, 1) := by decide +kernel
theorem dX8_link_36 : decode cX8_link 36 = .ok (.iaload, 1) := by decide +kernel
theorem dX8_link_37 : decode cX8_link 37 = .ok (.iconst 1, 1) := by decide +kernel
theorem dX8_link_38 : decode cX8_link 38 = .ok (.iload_n 2, 1) := by decide +kernel
theorem dX8_link_39 : decode cX8_link 39 = .ok (.ishl, 1) := by decide +kernel
theorem dX8_link_40 : decode cX8_link 40 = .ok (.ixor, 1) := by decide +kernel
theorem dX8_link_41 : decode cX8_link 41 = .ok (.iastore, 1) := by decide +kernel
theorem dX8_link_42 : decode cX8_link 42 = .ok (.aload_n 0, 1) := by decide +kernel
theorem dX8_link_43 : decode cX8_link 43 = .ok (.getfield 25, 3) := by decide +kernel
theorem dX8_link_46 : decode cX8_link 46 = .ok (.iload_n 1, 1) := by decide +kernel
theorem dX8_link_47 : decode cX8_link 47 = .ok (.iaload, 1) := by decide +kernel
theorem dX8_link_48 : decode cX8_link 48 = .ok (.iload_n 2, 1) := by decide +kernel
theorem dX8_link_49 : decode cX8_link 49 = .ok (.ishr, 1) := by decide +kernel
theorem dX8_link_50 : decode cX8_link 50 = .ok (.iconst 1, 1) := by decide +kernel
theorem dX8_link_51 : decode cX8_link 51 = .ok (.iand, 1) := by decide +kernel
theorem dX8_link_52 : decode cX8_link 52 = .ok (.ireturn, 1) := by decide +kernel
set_option maxRecDepth 20000 in
theorem ggX8_isThere_X8_in : GoodIn wsX8_isThere wsX8_in := goodIn_r _ [5] (by decide +kernel) (by decide +kernel)
set_option maxRecDepth 20000 in
theorem gX8_isThere_X8_in : GoodIn wsX8_isThere (va_wsS RX8 57 yX8_in wsX8_in) := goodIn_app (goodIn_of _ (by decide +kernel)) ggX8_isThere_X8_in
theorem dX8_isThere_0 : decode cX8_isThere 0 = .ok (.iload_n 1, 1) := by decide +kernel
theorem dX8_isThere_1 : decode cX8_isThere 1 = .ok (.iconst 0, 1) := by decide +kernel
theorem dX8_isThere_2 : decode cX8_isThere 2 = .ok (.iconst 4, 1) := by decide +kernel
theorem dX8_isThere_3 : decode cX8_isThere 3 = .ok (.invokestatic 57, 3) := by decide +kernel
theorem dX8_isThere_6 : decode cX8_isThere 6 = .ok (.ifCond .eq 16, 3) := by decide +kernel
theorem dX8_isThere_9 : decode cX8_isThere 9 = .ok (.aload_n 0, 1) := by decide +kernel
theorem dX8_isThere_10 : decode cX8_isThere 10 = .ok (.getfield 7, 3) := by decide +kernel
theorem dX8_isThere_13 : decode cX8_isThere 13 = .ok (.iload_n 1, 1) := by decide +kernel
theorem dX8_isThere_14 : decode cX8_isThere 14 = .ok (.iaload, 1) := by decide +kernel
theorem dX8_isThere_15 : decode cX8_isThere 15 = .ok (.ifCond .lt 7, 3) := by decide +kernel
theorem dX8_isThere_18 : decode cX8_isThere 18 = .ok (.iconst 1, 1) := by decide +kernel
theorem dX8_isThere_19 : decode cX8_isThere 19 = .ok (.goto 4, 3) := by decide +kernel
theorem dX8_isThere_22 : decode cX8_isThere 22 = .ok (.iconst 0, 1) := by decide +kernel
theorem dX8_isThere_23 : decode cX8_isThere 23 = .ok (.ireturn, 1) := by decide +kernel
theorem dX8_anchor_0 : decode cX8_anchor 0 = .ok (.iload_n 1, 1) := by decide +kernel
theorem dX8_anchor_1 : decode cX8_anchor 1 = .ok (.iconst 1, 1) := by decide +kernel
theorem dX8_anchor_2 : decode cX8_anchor 2 = .ok (.isub, 1) := by decide +kernel
theorem dX8_anchor_3 : decode cX8_anchor 3 = .ok (.istore_n 2, 1) := by decide +kernel
theorem dX8_anchor_4 : decode cX8_anchor 4 = .ok (.iload_n 2, 1) := by decide +kernel
theorem dX8_anchor_5 : decode cX8_anchor 5 = .ok (.ifCond .lt 44, 3) := by decide +kernel
theorem dX8_anchor_8 : decode cX8_anchor 8 = .ok (.aload_n 0, 1) := by decide +kernel
theorem dX8_anchor_9 : decode cX8_anchor 9 = .ok (.getfield 78, 3) := by decide +kernel
theorem dX8_anchor_12 : decode cX8_anchor 12 = .ok (.iconst 1, 1) := by decide +kernel
theorem dX8_anchor_13 : decode cX8_anchor 13 = .ok (.isub, 1) := by decide +kernel
theorem dX8_anchor_14 : decode cX8_anchor 14 = .ok (.istore_n 3, 1) := by decide +kernel
theorem dX8_anchor_15 : decode cX8_anchor 15 = .ok (.iload_n 3, 1) := by decide +kernel
theorem dX8_anchor_16 : decode cX8_anchor 16 = .ok (.ifCond .lt 27, 3) := by decide +kernel
theorem dX8_anchor_19 : decode cX8_anchor 19 = .ok (.aload_n 0, 1) := by decide +kernel
theorem dX8_anchor_20 : decode cX8_anchor 20 = .ok (.getfield 25, 3) := by decide +kernel
theorem dX8_anchor_23 : decode cX8_anchor 23 = .ok (.iload_n 2, 1) := by decide +kernel
theorem dX8_anchor_24 : decode cX8_anchor 24 = .ok (.iaload, 1) := by decide +kernel
theorem dX8_anchor_25 : decode cX8_anchor 25 = .ok (.iload_n 3, 1) := by decide +kernel
theorem dX8_anchor_26 : decode cX8_anchor 26 = .ok (.ishr, 1) := by decide +kernel
theorem dX8_anchor_27 : decode cX8_anchor 27 = .ok (.iconst 1, 1) := by decide +kernel
theorem dX8_anchor_28 : decode cX8_anchor 28 = .ok (.iand, 1) := by decide +kernel
theorem dX8_anchor_29 : decode cX8_anchor 29 = .ok (.iconst 1, 1) := by decide +kernel
theorem dX8_anchor_30 : decode cX8_anchor 30 = .ok (.if_icmp .ne 7, 3) := by decide +kernel
theorem dX8_anchor_33 : decode cX8_anchor 33 = .ok (.iload_n 3, 1) := by decide +kernel
theorem dX8_anchor_34 : decode cX8_anchor 34 = .ok (.iconst 1, 1) := by decide +kernel
theorem dX8_anchor_35 : decode cX8_anchor 35 = .ok (.iadd, 1) := by decide +kernel
theorem dX8_anchor_36 : decode cX8_anchor 36 = .ok (.ireturn, 1) := by decide +kernel
theorem dX8_anchor_37 : decode cX8_anchor 37 = .ok (.iinc 3 (-1), 3) := by decide +kernel
theorem dX8_anchor_40 : decode cX8_anchor 40 = .ok (.goto (-25), 3) := by decide +kernel
theorem dX8_anchor_43 : decode cX8_anchor 43 = .ok (.iinc 2 (-1), 3) := by decide +kernel
theorem dX8_anchor_46 : decode cX8_anchor 46 = .ok (.goto (-42), 3) := by decide +kernel
theorem dX8_anchor_49 : decode cX8_anchor 49 = .ok (.iconst 0, 1) := by decide +kernel
theorem dX8_anchor_50 : decode cX8_anchor 50 = .ok (.ireturn, 1) := by decide +kernel
theorem dX8_linksOf_0 : decode cX8_linksOf 0 = .ok (.iconst 0, 1) := by decide +kernel
theorem dX8_linksOf_1 : decode cX8_linksOf 1 = .ok (.istore_n 2, 1) := by decide +kernel
theorem dX8_linksOf_2 : decode cX8_linksOf 2 = .ok (.aload_n 0, 1) := by decide +kernel
theorem dX8_linksOf_3 : decode cX8_linksOf 3 = .ok (.getfield 7, 3) := by decide +kernel
theorem dX8_linksOf_6 : decode cX8_linksOf 6 = .ok (.iload_n 1, 1) := by decide +kernel
theorem dX8_linksOf_7 : decode cX8_linksOf 7 = .ok (.iaload, 1) := by decide +kernel
theorem dX8_linksOf_8 : decode cX8_linksOf 8 = .ok (.istore_n 3, 1) := by decide +kernel
theorem dX8_linksOf_9 : decode cX8_linksOf 9 = .ok (.iload_n 3, 1) := by decide +kernel
theorem dX8_linksOf_10 : decode cX8_linksOf 10 = .ok (.aload_n 0, 1) := by decide +kernel
theorem dX8_linksOf_11 : decode cX8_linksOf 11 = .ok (.getfield 13, 3) := by decide +kernel
theorem dX8_linksOf_14 : decode cX8_linksOf 14 = .ok (.iload_n 1, 1) := by decide +kernel
theorem dX8_linksOf_15 : decode cX8_linksOf 15 = .ok (.iaload, 1) := by decide +kernel
theorem dX8_linksOf_16 : decode cX8_linksOf 16 = .ok (.if_icmp .ge 18, 3) := by decide +kernel
theorem dX8_linksOf_19 : decode cX8_linksOf 19 = .ok (.iload_n 2, 1) := by decide +kernel
theorem dX8_linksOf_20 : decode cX8_linksOf 20 = .ok (.aload_n 0, 1) := by decide +kernel
theorem dX8_linksOf_21 : decode cX8_linksOf 21 = .ok (.getfield 25, 3) := by decide +kernel
theorem dX8_linksOf_24 : decode cX8_linksOf 24 = .ok (.iload_n 3, 1) := by decide +kernel
theorem dX8_linksOf_25 : decode cX8_linksOf 25 = .ok (.iaload, 1) := by decide +kernel
theorem dX8_linksOf_26 : decode cX8_linksOf 26 = .ok (.ior, 1) := by decide +kernel
theorem dX8_linksOf_27 : decode cX8_linksOf 27 = .ok (.istore_n 2, 1) := by decide +kernel
theorem dX8_linksOf_28 : decode cX8_linksOf 28 = .ok (.iinc 3 1, 3) := by decide +kernel
theorem dX8_linksOf_31 : decode cX8_linksOf 31 = .ok (.goto (-22), 3) := by decide +kernel
theorem dX8_linksOf_34 : decode cX8_linksOf 34 = .ok (.iload_n 2, 1) := by decide +kernel
theorem dX8_linksOf_35 : decode cX8_linksOf 35 = .ok (.ireturn, 1) := by decide +kernel
set_option maxRecDepth 20000 in
theorem ggX8_wantedFrom_X8_linksOf : GoodIn wsX8_wantedFrom wsX8_linksOf := goodIn_r _ [6, 1, 7, 8, 14, 15, 16, 17, 18, 19, 20, 21, 22, 23, 24, 25, 26, 27, 28, 29, 30, 31, 32, 33, 34, 35] (by decide +kernel) (by decide +kernel)
set_option maxRecDepth 20000 in
theorem gX8_wantedFrom_X8_linksOf : GoodIn wsX8_wantedFrom (wsV RX8 81 RX8 yX8_linksOf wsX8_linksOf) := goodIn_app (goodIn_of _ (by decide +kernel)) ggX8_wantedFrom_X8_linksOf
set_option maxRecDepth 20000 in
theorem ggX8_wantedFrom_X8_anchor : GoodIn wsX8_wantedFrom wsX8_anchor := goodIn_r _ [12, 13, 8, 14, 15, 16, 17, 18, 19, 20, 21, 22, 23, 24, 25, 26, 27, 28, 29, 30, 31, 32, 33, 34, 35] (by decide +kernel) (by decide +kernel)
set_option maxRecDepth 20000 in
theorem gX8_wantedFrom_X8_anchor : GoodIn wsX8_wantedFrom (wsV RX8 85 RX8 yX8_anchor wsX8_anchor) := goodIn_app (goodIn_of _ (by decide +kernel)) ggX8_wantedFrom_X8_anchor
theorem dX8_wantedFrom_0 : decode cX8_wantedFrom 0 = .ok (.aload_n 0, 1) := by decide +kernel
theorem dX8_wantedFrom_1 : decode cX8_wantedFrom 1 = .ok (.iload_n 1, 1) := by decide +kernel
theorem dX8_wantedFrom_2 : decode cX8_wantedFrom 2 = .ok (.invokevirtual 81, 3) := by decide +kernel
theorem dX8_wantedFrom_5 : decode cX8_wantedFrom 5 = .ok (.istore_n 2, 1) := by decide +kernel
theorem dX8_wantedFrom_6 : decode cX8_wantedFrom 6 = .ok (.iload_n 2, 1) := by decide +kernel
theorem dX8_wantedFrom_7 : decode cX8_wantedFrom 7 = .ok (.ifCond .ne 14, 3) := by decide +kernel
theorem dX8_wantedFrom_10 : decode cX8_wantedFrom 10 = .ok (.aload_n 0, 1) := by decide +kernel
theorem dX8_wantedFrom_11 : decode cX8_wantedFrom 11 = .ok (.aload_n 0, 1) := by decide +kernel
theorem dX8_wantedFrom_12 : decode cX8_wantedFrom 12 = .ok (.getfield 7, 3) := by decide +kernel
theorem dX8_wantedFrom_15 : decode cX8_wantedFrom 15 = .ok (.iload_n 1, 1) := by decide +kernel
theorem dX8_wantedFrom_16 : decode cX8_wantedFrom 16 = .ok (.iaload, 1) := by decide +kernel
theorem dX8_wantedFrom_17 : decode cX8_wantedFrom 17 = .ok (.invokevirtual 85, 3) := by decide +kernel
theorem dX8_wantedFrom_20 : decode cX8_wantedFrom 20 = .ok (.ireturn, 1) := by decide +kernel
theorem dX8_wantedFrom_21 : decode cX8_wantedFrom 21 = .ok (.iconst 0, 1) := by decide +kernel
theorem dX8_wantedFrom_22 : decode cX8_wantedFrom 22 = .ok (.istore_n 3, 1) := by decide +kernel
theorem dX8_wantedFrom_23 : decode cX8_wantedFrom 23 = .ok (.iload_n 2, 1) := by decide +kernel
theorem dX8_wantedFrom_24 : decode cX8_wantedFrom 24 = .ok (.iload_n 3, 1) := by decide +kernel
theorem dX8_wantedFrom_25 : decode cX8_wantedFrom 25 = .ok (.ishr, 1) := by decide +kernel
theorem dX8_wantedFrom_26 : decode cX8_wantedFrom 26 = .ok (.iconst 1, 1) := by decide +kernel
theorem dX8_wantedFrom_27 : decode cX8_wantedFrom 27 = .ok (.iand, 1) := by decide +kernel
theorem dX8_wantedFrom_28 : decode cX8_wantedFrom 28 = .ok (.ifCond .ne 9, 3) := by decide +kernel
theorem dX8_wantedFrom_31 : decode cX8_wantedFrom 31 = .ok (.iinc 3 1, 3) := by decide +kernel
theorem dX8_wantedFrom_34 : decode cX8_wantedFrom 34 = .ok (.goto (-11), 3) := by decide +kernel
theorem dX8_wantedFrom_37 : decode cX8_wantedFrom 37 = .ok (.iload_n 3, 1) := by decide +kernel
theorem dX8_wantedFrom_38 : decode cX8_wantedFrom 38 = .ok (.ireturn, 1) := by decide +kernel
set_option maxRecDepth 20000 in
theorem ggX8_wantedTo_X8_linksOf : GoodIn wsX8_wantedTo wsX8_linksOf := goodIn_r _ [7, 1, 8, 9, 14, 15, 16, 17, 18, 19, 20, 21, 22, 23, 24, 25, 26, 27, 28, 29, 30, 31, 32, 33, 34, 35] (by decide +kernel) (by decide +kernel)
set_option maxRecDepth 20000 in
theorem gX8_wantedTo_X8_linksOf : GoodIn wsX8_wantedTo (wsV RX8 81 RX8 yX8_linksOf wsX8_linksOf) := goodIn_app (goodIn_of _ (by decide +kernel)) ggX8_wantedTo_X8_linksOf
set_option maxRecDepth 20000 in
theorem ggX8_wantedTo_X8_anchor : GoodIn wsX8_wantedTo wsX8_anchor := goodIn_r _ [13, 2, 9, 14, 15, 16, 17, 18, 19, 20, 21, 22, 23, 24, 25, 26, 27, 28, 29, 30, 31, 32, 33, 34, 35] (by decide +kernel) (by decide +kernel)
set_option maxRecDepth 20000 in
theorem gX8_wantedTo_X8_anchor : GoodIn wsX8_wantedTo (wsV RX8 85 RX8 yX8_anchor wsX8_anchor) := goodIn_app (goodIn_of _ (by decide +kernel)) ggX8_wantedTo_X8_anchor
theorem dX8_wantedTo_0 : decode cX8_wantedTo 0 = .ok (.aload_n 0, 1) := by decide +kernel
theorem dX8_wantedTo_1 : decode cX8_wantedTo 1 = .ok (.iload_n 1, 1) := by decide +kernel
theorem dX8_wantedTo_2 : decode cX8_wantedTo 2 = .ok (.invokevirtual 81, 3) := by decide +kernel
theorem dX8_wantedTo_5 : decode cX8_wantedTo 5 = .ok (.istore_n 2, 1) := by decide +kernel
theorem dX8_wantedTo_6 : decode cX8_wantedTo 6 = .ok (.iload_n 2, 1) := by decide +kernel
theorem dX8_wantedTo_7 : decode cX8_wantedTo 7 = .ok (.ifCond .ne 14, 3) := by decide +kernel
theorem dX8_wantedTo_10 : decode cX8_wantedTo 10 = .ok (.aload_n 0, 1) := by decide +kernel
theorem dX8_wantedTo_11 : decode cX8_wantedTo 11 = .ok (.aload_n 0, 1) := by decide +kernel
theorem dX8_wantedTo_12 : decode cX8_wantedTo 12 = .ok (.getfield 7, 3) := by decide +kernel
theorem dX8_wantedTo_15 : decode cX8_wantedTo 15 = .ok (.iload_n 1, 1) := by decide +kernel
theorem dX8_wantedTo_16 : decode cX8_wantedTo 16 = .ok (.iaload, 1) := by decide +kernel
theorem dX8_wantedTo_17 : decode cX8_wantedTo 17 = .ok (.invokevirtual 85, 3) := by decide +kernel
theorem dX8_wantedTo_20 : decode cX8_wantedTo 20 = .ok (.ireturn, 1) := by decide +kernel
theorem dX8_wantedTo_21 : decode cX8_wantedTo 21 = .ok (.aload_n 0, 1) := by decide +kernel
theorem dX8_wantedTo_22 : decode cX8_wantedTo 22 = .ok (.getfield 78, 3) := by decide +kernel
theorem dX8_wantedTo_25 : decode cX8_wantedTo 25 = .ok (.istore_n 3, 1) := by decide +kernel
theorem dX8_wantedTo_26 : decode cX8_wantedTo 26 = .ok (.iload_n 2, 1) := by decide +kernel
theorem dX8_wantedTo_27 : decode cX8_wantedTo 27 = .ok (.iload_n 3, 1) := by decide +kernel
theorem dX8_wantedTo_28 : decode cX8_wantedTo 28 = .ok (.iconst 1, 1) := by decide +kernel
theorem dX8_wantedTo_29 : decode cX8_wantedTo 29 = .ok (.isub, 1) := by decide +kernel
theorem dX8_wantedTo_30 : decode cX8_wantedTo 30 = .ok (.ishr, 1) := by decide +kernel
theorem dX8_wantedTo_31 : decode cX8_wantedTo 31 = .ok (.iconst 1, 1) := by decide +kernel
theorem dX8_wantedTo_32 : decode cX8_wantedTo 32 = .ok (.iand, 1) := by decide +kernel
theorem dX8_wantedTo_33 : decode cX8_wantedTo 33 = .ok (.ifCond .ne 9, 3) := by decide +kernel
theorem dX8_wantedTo_36 : decode cX8_wantedTo 36 = .ok (.iinc 3 (-1), 3) := by decide +kernel
theorem dX8_wantedTo_39 : decode cX8_wantedTo 39 = .ok (.goto (-13), 3) := by decide +kernel
theorem dX8_wantedTo_42 : decode cX8_wantedTo 42 = .ok (.iload_n 3, 1) := by decide +kernel
theorem dX8_wantedTo_43 : decode cX8_wantedTo 43 = .ok (.ireturn, 1) := by decide +kernel
set_option maxRecDepth 20000 in
theorem ggX8_costOf_X8_wantedFrom : GoodIn wsX8_costOf wsX8_wantedFrom := goodIn_r _ [5, 6, 7, 8, 9, 4, 10, 11, 12, 13, 14, 15, 16, 17, 28, 29, 30, 31, 32, 33, 34, 35, 36, 37, 38, 39, 40, 41, 42, 43, 44, 45, 46, 47, 48, 49] (by decide +kernel) (by decide +kernel)
set_option maxRecDepth 20000 in
theorem gX8_costOf_X8_wantedFrom : GoodIn wsX8_costOf (wsV RX8 88 RX8 yX8_wantedFrom wsX8_wantedFrom) := goodIn_app (goodIn_of _ (by decide +kernel)) ggX8_costOf_X8_wantedFrom
set_option maxRecDepth 20000 in
theorem ggX8_costOf_X8_wantedTo : GoodIn wsX8_costOf wsX8_wantedTo := goodIn_r _ [21, 6, 17, 7, 8, 9, 4, 10, 11, 12, 13, 14, 15, 16, 28, 29, 30, 31, 32, 33, 34, 35, 36, 37, 38, 39, 40, 41, 42, 43, 44, 45, 46, 47, 48, 49] (by decide +kernel) (by decide +kernel)
set_option maxRecDepth 20000 in
theorem gX8_costOf_X8_wantedTo : GoodIn wsX8_costOf (wsV RX8 91 RX8 yX8_wantedTo wsX8_wantedTo) := goodIn_app (goodIn_of _ (by decide +kernel)) ggX8_costOf_X8_wantedTo
set_option maxRecDepth 20000 in
theorem ggX8_costOf_X8_off : GoodIn wsX8_costOf wsX8_off := goodIn_r _ [24] (by decide +kernel) (by decide +kernel)
set_option maxRecDepth 20000 in
theorem gX8_costOf_X8_off : GoodIn wsX8_costOf (va_wsS RX8 94 yX8_off wsX8_off) := goodIn_app (goodIn_of _ (by decide +kernel)) ggX8_costOf_X8_off
set_option maxRecDepth 20000 in
theorem ggX8_costOf_X8_greater : GoodIn wsX8_costOf wsX8_greater := goodIn_r _ [27] (by decide +kernel) (by decide +kernel)
set_option maxRecDepth 20000 in
theorem gX8_costOf_X8_greater : GoodIn wsX8_costOf (va_wsS RX8 98 yX8_greater wsX8_greater) := goodIn_app (goodIn_of _ (by decide +kernel)) ggX8_costOf_X8_greater
theorem dX8_costOf_0 : decode cX8_costOf 0 = .ok (.aload_n 0, 1) := by decide +kernel
theorem dX8_costOf_1 : decode cX8_costOf 1 = .ok (.iload_n 1, 1) := by decide +kernel
theorem dX8_costOf_2 : decode cX8_costOf 2 = .ok (.invokevirtual 88, 3) := by decide +kernel
theorem dX8_costOf_5 : decode cX8_costOf 5 = .ok (.istore 4, 2) := by decide +kernel
theorem dX8_costOf_7 : decode cX8_costOf 7 = .ok (.aload_n 0, 1) := by decide +kernel
theorem dX8_costOf_8 : decode cX8_costOf 8 = .ok (.iload_n 1, 1) := by decide +kernel
theorem dX8_costOf_9 : decode cX8_costOf 9 = .ok (.invokevirtual 91, 3) := by decide +kernel
theorem dX8_costOf_12 : decode cX8_costOf 12 = .ok (.istore 5, 2) := by decide +kernel
theorem dX8_costOf_14 : decode cX8_costOf 14 = .ok (.iload 4, 2) := by decide +kernel
theorem dX8_costOf_16 : decode cX8_costOf 16 = .ok (.iload_n 2, 1) := by decide +kernel
theorem dX8_costOf_17 : decode cX8_costOf 17 = .ok (.invokestatic 94, 3) := by decide +kernel
theorem dX8_costOf_20 : decode cX8_costOf 20 = .ok (.iload 5, 2) := by decide +kernel
theorem dX8_costOf_22 : decode cX8_costOf 22 = .ok (.iload_n 3, 1) := by decide +kernel
theorem dX8_costOf_23 : decode cX8_costOf 23 = .ok (.invokestatic 94, 3) := by decide +kernel
theorem dX8_costOf_26 : decode cX8_costOf 26 = .ok (.iadd, 1) := by decide +kernel
theorem dX8_costOf_27 : decode cX8_costOf 27 = .ok (.istore 6, 2) := by decide +kernel
theorem dX8_costOf_29 : decode cX8_costOf 29 = .ok (.iload_n 1, 1) := by decide +kernel
theorem dX8_costOf_30 : decode cX8_costOf 30 = .ok (.iconst 4, 1) := by decide +kernel
theorem dX8_costOf_31 : decode cX8_costOf 31 = .ok (.if_icmp .ne 21, 3) := by decide +kernel
theorem dX8_costOf_34 : decode cX8_costOf 34 = .ok (.iconst 2, 1) := by decide +kernel
theorem dX8_costOf_35 : decode cX8_costOf 35 = .ok (.iload 4, 2) := by decide +kernel
theorem dX8_costOf_37 : decode cX8_costOf 37 = .ok (.iload_n 2, 1) := by decide +kernel
theorem dX8_costOf_38 : decode cX8_costOf 38 = .ok (.invokestatic 94, 3) := by decide +kernel
theorem dX8_costOf_41 : decode cX8_costOf 41 = .ok (.iload 5, 2) := by decide +kernel
theorem dX8_costOf_43 : decode cX8_costOf 43 = .ok (.iload_n 3, 1) := by decide +kernel
theorem dX8_costOf_44 : decode cX8_costOf 44 = .ok (.invokestatic 94, 3) := by decide +kernel
theorem dX8_costOf_47 : decode cX8_costOf 47 = .ok (.invokestatic 98, 3) := by decide +kernel
theorem dX8_costOf_50 : decode cX8_costOf 50 = .ok (.imul, 1) := by decide +kernel
theorem dX8_costOf_51 : decode cX8_costOf 51 = .ok (.ireturn, 1) := by decide +kernel
theorem dX8_costOf_52 : decode cX8_costOf 52 = .ok (.iload 4, 2) := by decide +kernel
theorem dX8_costOf_54 : decode cX8_costOf 54 = .ok (.istore 7, 2) := by decide +kernel
theorem dX8_costOf_56 : decode cX8_costOf 56 = .ok (.iload 7, 2) := by decide +kernel
theorem dX8_costOf_58 : decode cX8_costOf 58 = .ok (.iload 5, 2) := by decide +kernel
theorem dX8_costOf_60 : decode cX8_costOf 60 = .ok (.if_icmp .ge 36, 3) := by decide +kernel
theorem dX8_costOf_63 : decode cX8_costOf 63 = .ok (.iload_n 1, 1) := by decide +kernel
theorem dX8_costOf_64 : decode cX8_costOf 64 = .ok (.iconst 1, 1) := by decide +kernel
theorem dX8_costOf_65 : decode cX8_costOf 65 = .ok (.if_icmp .le 31, 3) := by decide +kernel
theorem dX8_costOf_68 : decode cX8_costOf 68 = .ok (.iload 6, 2) := by decide +kernel
theorem dX8_costOf_70 : decode cX8_costOf 70 = .ok (.iload 7, 2) := by decide +kernel
theorem dX8_costOf_72 : decode cX8_costOf 72 = .ok (.iload_n 2, 1) := by decide +kernel
theorem dX8_costOf_73 : decode cX8_costOf 73 = .ok (.if_icmp .lt 9, 3) := by decide +kernel
theorem dX8_costOf_76 : decode cX8_costOf 76 = .ok (.iload 7, 2) := by decide +kernel
theorem dX8_costOf_78 : decode cX8_costOf 78 = .ok (.iload_n 3, 1) := by decide +kernel
theorem dX8_costOf_79 : decode cX8_costOf 79 = .ok (.if_icmp .lt 7, 3) := by decide +kernel
theorem dX8_costOf_82 : decode cX8_costOf 82 = .ok (.iconst 2, 1) := by decide +kernel
theorem dX8_costOf_83 : decode cX8_costOf 83 = .ok (.goto 4, 3) := by decide +kernel
theorem dX8_costOf_86 : decode cX8_costOf 86 = .ok (.iconst 0, 1) := by decide +kernel
theorem dX8_costOf_87 : decode cX8_costOf 87 = .ok (.iadd, 1) := by decide +kernel
theorem dX8_costOf_88 : decode cX8_costOf 88 = .ok (.istore 6, 2) := by decide +kernel
theorem dX8_costOf_90 : decode cX8_costOf 90 = .ok (.iinc 7 1, 3) := by decide +kernel
theorem dX8_costOf_93 : decode cX8_costOf 93 = .ok (.goto (-37), 3) := by decide +kernel
theorem dX8_costOf_96 : decode cX8_costOf 96 = .ok (.iload 6, 2) := by decide +kernel
theorem dX8_costOf_98 : decode cX8_costOf 98 = .ok (.ireturn, 1) := by decide +kernel
theorem dX8_at_0 : decode cX8_at 0 = .ok (.bipush 81, 2) := by decide +kernel
theorem dX8_at_2 : decode cX8_at 2 = .ok (.iload_n 0, 1) := by decide +kernel
theorem dX8_at_3 : decode cX8_at 3 = .ok (.imul, 1) := by decide +kernel
theorem dX8_at_4 : decode cX8_at 4 = .ok (.bipush 9, 2) := by decide +kernel
theorem dX8_at_6 : decode cX8_at 6 = .ok (.iload_n 1, 1) := by decide +kernel
theorem dX8_at_7 : decode cX8_at 7 = .ok (.imul, 1) := by decide +kernel
theorem dX8_at_8 : decode cX8_at 8 = .ok (.iadd, 1) := by decide +kernel
theorem dX8_at_9 : decode cX8_at 9 = .ok (.iload_n 2, 1) := by decide +kernel
theorem dX8_at_10 : decode cX8_at 10 = .ok (.iadd, 1) := by decide +kernel
theorem dX8_at_11 : decode cX8_at 11 = .ok (.ireturn, 1) := by decide +kernel
theorem dX8_least_0 : decode cX8_least 0 = .ok (.lload_n 0, 1) := by decide +kernel
theorem dX8_least_1 : decode cX8_least 1 = .ok (.lload_n 2, 1) := by decide +kernel
theorem dX8_least_2 : decode cX8_least 2 = .ok (.lcmp, 1) := by decide +kernel
theorem dX8_least_3 : decode cX8_least 3 = .ok (.ifCond .ge 7, 3) := by decide +kernel
theorem dX8_least_6 : decode cX8_least 6 = .ok (.lload_n 0, 1) := by decide +kernel
theorem dX8_least_7 : decode cX8_least 7 = .ok (.goto 4, 3) := by decide +kernel
theorem dX8_least_10 : decode cX8_least 10 = .ok (.lload_n 2, 1) := by decide +kernel
theorem dX8_least_11 : decode cX8_least 11 = .ok (.lreturn, 1) := by decide +kernel
theorem dX8_areApart_0 : decode cX8_areApart 0 = .ok (.iconst 1, 1) := by decide +kernel
theorem dX8_areApart_1 : decode cX8_areApart 1 = .ok (.istore_n 3, 1) := by decide +kernel
theorem dX8_areApart_2 : decode cX8_areApart 2 = .ok (.iconst 0, 1) := by decide +kernel
theorem dX8_areApart_3 : decode cX8_areApart 3 = .ok (.istore 4, 2) := by decide +kernel
theorem dX8_areApart_5 : decode cX8_areApart 5 = .ok (.iload 4, 2) := by decide +kernel
theorem dX8_areApart_7 : decode cX8_areApart 7 = .ok (.iconst 5, 1) := by decide +kernel
theorem dX8_areApart_8 : decode cX8_areApart 8 = .ok (.if_icmp .ge 61, 3) := by decide +kernel
theorem dX8_areApart_11 : decode cX8_areApart 11 = .ok (.iload_n 3, 1) := by decide +kernel
theorem dX8_areApart_12 : decode cX8_areApart 12 = .ok (.ifCond .eq 49, 3) := by decide +kernel
theorem dX8_areApart_15 : decode cX8_areApart 15 = .ok (.iload_n 1, 1) := by decide +kernel
theorem dX8_areApart_16 : decode cX8_areApart 16 = .ok (.iload 4, 2) := by decide +kernel
theorem dX8_areApart_18 : decode cX8_areApart 18 = .ok (.ishr, 1) := by decide +kernel
theorem dX8_areApart_19 : decode cX8_areApart 19 = .ok (.iconst 1, 1) := by decide +kernel
theorem dX8_areApart_20 : decode cX8_areApart 20 = .ok (.iand, 1) := by decide +kernel
theorem dX8_areApart_21 : decode cX8_areApart 21 = .ok (.ifCond .eq 15, 3) := by decide +kernel
theorem dX8_areApart_24 : decode cX8_areApart 24 = .ok (.aload_n 0, 1) := by decide +kernel
theorem dX8_areApart_25 : decode cX8_areApart 25 = .ok (.getfield 16, 3) := by decide +kernel
theorem dX8_areApart_28 : decode cX8_areApart 28 = .ok (.iload 4, 2) := by decide +kernel
theorem dX8_areApart_30 : decode cX8_areApart 30 = .ok (.iaload, 1) := by decide +kernel
theorem dX8_areApart_31 : decode cX8_areApart 31 = .ok (.iload_n 2, 1) := by decide +kernel
theorem dX8_areApart_32 : decode cX8_areApart 32 = .ok (.iand, 1) := by decide +kernel
theorem dX8_areApart_33 : decode cX8_areApart 33 = .ok (.ifCond .ne 28, 3) := by decide +kernel
theorem dX8_areApart_36 : decode cX8_areApart 36 = .ok (.iload_n 2, 1) := by decide +kernel
theorem dX8_areApart_37 : decode cX8_areApart 37 = .ok (.iload 4, 2) := by decide +kernel
theorem dX8_areApart_39 : decode cX8_areApart 39 = .ok (.ishr, 1) := by decide +kernel
theorem dX8_areApart_40 : decode cX8_areApart 40 = .ok (.iconst 1, 1) := by decide +kernel
theorem dX8_areApart_41 : decode cX8_areApart 41 = .ok (.iand, 1) := by decide +kernel
theorem dX8_areApart_42 : decode cX8_areApart 42 = .ok (.ifCond .eq 15, 3) := by decide +kernel
theorem dX8_areApart_45 : decode cX8_areApart 45 = .ok (.aload_n 0, 1) := by decide +kernel
theorem dX8_areApart_46 : decode cX8_areApart 46 = .ok (.getfield 16, 3) := by decide +kernel
theorem dX8_areApart_49 : decode cX8_areApart 49 = .ok (.iload 4, 2) := by decide +kernel
theorem dX8_areApart_51 : decode cX8_areApart 51 = .ok (.iaload, 1) := by decide +kernel
theorem dX8_areApart_52 : decode cX8_areApart 52 = .ok (.iload_n 1, 1) := by decide +kernel
theorem dX8_areApart_53 : decode cX8_areApart 53 = .ok (.iand, 1) := by decide +kernel
theorem dX8_areApart_54 : decode cX8_areApart 54 = .ok (.ifCond .ne 7, 3) := by decide +kernel
theorem dX8_areApart_57 : decode cX8_areApart 57 = .ok (.iconst 1, 1) := by decide +kernel
theorem dX8_areApart_58 : decode cX8_areApart 58 = .ok (.goto 4, 3) := by decide +kernel
theorem dX8_areApart_61 : decode cX8_areApart 61 = .ok (.iconst 0, 1) := by decide +kernel
theorem dX8_areApart_62 : decode cX8_areApart 62 = .ok (.istore_n 3, 1) := by decide +kernel
theorem dX8_areApart_63 : decode cX8_areApart 63 = .ok (.iinc 4 1, 3) := by decide +kernel
theorem dX8_areApart_66 : decode cX8_areApart 66 = .ok (.goto (-61), 3) := by decide +kernel
theorem dX8_areApart_69 : decode cX8_areApart 69 = .ok (.iload_n 3, 1) := by decide +kernel
theorem dX8_areApart_70 : decode cX8_areApart 70 = .ok (.ireturn, 1) := by decide +kernel
theorem dX8_isHeld_0 : decode cX8_isHeld 0 = .ok (.iconst 0, 1) := by decide +kernel
theorem dX8_isHeld_1 : decode cX8_isHeld 1 = .ok (.istore_n 3, 1) := by decide +kernel
theorem dX8_isHeld_2 : decode cX8_isHeld 2 = .ok (.iconst 0, 1) := by decide +kernel
theorem dX8_isHeld_3 : decode cX8_isHeld 3 = .ok (.istore 4, 2) := by decide +kernel
theorem dX8_isHeld_5 : decode cX8_isHeld 5 = .ok (.iload 4, 2) := by decide +kernel
theorem dX8_isHeld_7 : decode cX8_isHeld 7 = .ok (.iconst 5, 1) := by decide +kernel
theorem dX8_isHeld_8 : decode cX8_isHeld 8 = .ok (.if_icmp .ge 44, 3) := by decide +kernel
theorem dX8_isHeld_11 : decode cX8_isHeld 11 = .ok (.iload_n 3, 1) := by decide +kernel
theorem dX8_isHeld_12 : decode cX8_isHeld 12 = .ok (.ifCond .ne 28, 3) := by decide +kernel
theorem dX8_isHeld_15 : decode cX8_isHeld 15 = .ok (.iload_n 2, 1) := by decide +kernel
theorem dX8_isHeld_16 : decode cX8_isHeld 16 = .ok (.iload 4, 2) := by decide +kernel
theorem dX8_isHeld_18 : decode cX8_isHeld 18 = .ok (.ishr, 1) := by decide +kernel
theorem dX8_isHeld_19 : decode cX8_isHeld 19 = .ok (.iconst 1, 1) := by decide +kernel
theorem dX8_isHeld_20 : decode cX8_isHeld 20 = .ok (.iand, 1) := by decide +kernel
theorem dX8_isHeld_21 : decode cX8_isHeld 21 = .ok (.iconst 1, 1) := by decide +kernel
theorem dX8_isHeld_22 : decode cX8_isHeld 22 = .ok (.if_icmp .ne 22, 3) := by decide +kernel
theorem dX8_isHeld_25 : decode cX8_isHeld 25 = .ok (.aload_n 0, 1) := by decide +kernel
theorem dX8_isHeld_26 : decode cX8_isHeld 26 = .ok (.getfield 16, 3) := by decide +kernel
theorem dX8_isHeld_29 : decode cX8_isHeld 29 = .ok (.iload 4, 2) := by decide +kernel
theorem dX8_isHeld_31 : decode cX8_isHeld 31 = .ok (.iaload, 1) := by decide +kernel
theorem dX8_isHeld_32 : decode cX8_isHeld 32 = .ok (.iload_n 1, 1) := by decide +kernel
theorem dX8_isHeld_33 : decode cX8_isHeld 33 = .ok (.ishr, 1) := by decide +kernel
theorem dX8_isHeld_34 : decode cX8_isHeld 34 = .ok (.iconst 1, 1) := by decide +kernel
theorem dX8_isHeld_35 : decode cX8_isHeld 35 = .ok (.iand, 1) := by decide +kernel
theorem dX8_isHeld_36 : decode cX8_isHeld 36 = .ok (.iconst 1, 1) := by decide +kernel
theorem dX8_isHeld_37 : decode cX8_isHeld 37 = .ok (.if_icmp .ne 7, 3) := by decide +kernel
theorem dX8_isHeld_40 : decode cX8_isHeld 40 = .ok (.iconst 1, 1) := by decide +kernel
theorem dX8_isHeld_41 : decode cX8_isHeld 41 = .ok (.goto 4, 3) := by decide +kernel
theorem dX8_isHeld_44 : decode cX8_isHeld 44 = .ok (.iconst 0, 1) := by decide +kernel
theorem dX8_isHeld_45 : decode cX8_isHeld 45 = .ok (.istore_n 3, 1) := by decide +kernel
theorem dX8_isHeld_46 : decode cX8_isHeld 46 = .ok (.iinc 4 1, 3) := by decide +kernel
theorem dX8_isHeld_49 : decode cX8_isHeld 49 = .ok (.goto (-44), 3) := by decide +kernel
theorem dX8_isHeld_52 : decode cX8_isHeld 52 = .ok (.iload_n 3, 1) := by decide +kernel
theorem dX8_isHeld_53 : decode cX8_isHeld 53 = .ok (.ireturn, 1) := by decide +kernel
set_option maxRecDepth 20000 in
theorem ggX8_code_X8_costOf : GoodIn wsX8_code wsX8_costOf := goodIn_r _ [5, 6, 7, 8, 4, 9, 10, 11, 12, 13, 14, 15, 16, 17, 18, 19, 20, 21, 22, 23, 24, 25, 26, 27, 28, 29, 30, 31, 32, 33, 34, 35, 36, 37, 38, 39, 40, 41, 42, 43, 44, 45, 46, 47, 48, 49, 50, 51, 52, 53] (by decide +kernel) (by decide +kernel)
set_option maxRecDepth 20000 in
theorem gX8_code_X8_costOf : GoodIn wsX8_code (wsV RX8 101 RX8 yX8_costOf wsX8_costOf) := goodIn_app (goodIn_of _ (by decide +kernel)) ggX8_code_X8_costOf
theorem dX8_code_0 : decode cX8_code 0 = .ok (.aload_n 0, 1) := by decide +kernel
theorem dX8_code_1 : decode cX8_code 1 = .ok (.iload_n 1, 1) := by decide +kernel
theorem dX8_code_2 : decode cX8_code 2 = .ok (.iload_n 2, 1) := by decide +kernel
theorem dX8_code_3 : decode cX8_code 3 = .ok (.iload_n 3, 1) := by decide +kernel
theorem dX8_code_4 : decode cX8_code 4 = .ok (.invokevirtual 101, 3) := by decide +kernel
theorem dX8_code_7 : decode cX8_code 7 = .ok (.i2l, 1) := by decide +kernel
theorem dX8_code_8 : decode cX8_code 8 = .ok (.bipush 40, 2) := by decide +kernel
theorem dX8_code_10 : decode cX8_code 10 = .ok (.lshl, 1) := by decide +kernel
theorem dX8_code_11 : decode cX8_code 11 = .ok (.bipush 16, 2) := by decide +kernel
theorem dX8_code_13 : decode cX8_code 13 = .ok (.iload_n 2, 1) := by decide +kernel
theorem dX8_code_14 : decode cX8_code 14 = .ok (.imul, 1) := by decide +kernel
theorem dX8_code_15 : decode cX8_code 15 = .ok (.iload_n 3, 1) := by decide +kernel
theorem dX8_code_16 : decode cX8_code 16 = .ok (.iadd, 1) := by decide +kernel
theorem dX8_code_17 : decode cX8_code 17 = .ok (.i2l, 1) := by decide +kernel
theorem dX8_code_18 : decode cX8_code 18 = .ok (.bipush 8, 2) := by decide +kernel
theorem dX8_code_20 : decode cX8_code 20 = .ok (.iconst 4, 1) := by decide +kernel
theorem dX8_code_21 : decode cX8_code 21 = .ok (.iload_n 1, 1) := by decide +kernel
theorem dX8_code_22 : decode cX8_code 22 = .ok (.isub, 1) := by decide +kernel
theorem dX8_code_23 : decode cX8_code 23 = .ok (.imul, 1) := by decide +kernel
theorem dX8_code_24 : decode cX8_code 24 = .ok (.lshl, 1) := by decide +kernel
theorem dX8_code_25 : decode cX8_code 25 = .ok (.ladd, 1) := by decide +kernel
theorem dX8_code_26 : decode cX8_code 26 = .ok (.lreturn, 1) := by decide +kernel
set_option maxRecDepth 20000 in
theorem ggX8_leastOf_X8_areApart : GoodIn wsX8_leastOf wsX8_areApart := goodIn_r _ [7, 8, 53, 54, 55, 56, 57, 58, 59, 60, 61, 62, 63, 64, 65, 66, 67, 68, 69, 70, 71, 72, 73, 74] (by decide +kernel) (by decide +kernel)
set_option maxRecDepth 20000 in
theorem gX8_leastOf_X8_areApart : GoodIn wsX8_leastOf (wsV RX8 107 RX8 yX8_areApart wsX8_areApart) := goodIn_app (goodIn_of _ (by decide +kernel)) ggX8_leastOf_X8_areApart
set_option maxRecDepth 20000 in
theorem ggX8_leastOf_X8_at : GoodIn wsX8_leastOf wsX8_at := goodIn_r _ [11] (by decide +kernel) (by decide +kernel)
set_option maxRecDepth 20000 in
theorem gX8_leastOf_X8_at : GoodIn wsX8_leastOf (va_wsS RX8 111 yX8_at wsX8_at) := goodIn_app (goodIn_of _ (by decide +kernel)) ggX8_leastOf_X8_at
set_option maxRecDepth 20000 in
theorem ggX8_leastOf_X8_least : GoodIn wsX8_leastOf wsX8_least := goodIn_r _ [14] (by decide +kernel) (by decide +kernel)
set_option maxRecDepth 20000 in
theorem gX8_leastOf_X8_least : GoodIn wsX8_leastOf (va_wsS RX8 114 yX8_least wsX8_least) := goodIn_app (goodIn_of _ (by decide +kernel)) ggX8_leastOf_X8_least
set_option maxRecDepth 20000 in
theorem ggX8_leastOf_X8_isHeld : GoodIn wsX8_leastOf wsX8_isHeld := goodIn_r _ [18, 8, 53, 54, 55, 56, 57, 58, 59, 60, 61, 62, 63, 64, 65, 66, 67, 68, 69, 70, 71, 72, 73, 74] (by decide +kernel) (by decide +kernel)
set_option maxRecDepth 20000 in
theorem gX8_leastOf_X8_isHeld : GoodIn wsX8_leastOf (wsV RX8 118 RX8 yX8_isHeld wsX8_isHeld) := goodIn_app (goodIn_of _ (by decide +kernel)) ggX8_leastOf_X8_isHeld
set_option maxRecDepth 20000 in
theorem ggX8_leastOf_X8_code : GoodIn wsX8_leastOf wsX8_code := goodIn_r _ [22, 23, 24, 25, 6, 26, 27, 28, 29, 30, 31, 32, 33, 34, 35, 36, 37, 38, 39, 40, 41, 42, 43, 44, 45, 46, 47, 48, 49, 50, 51, 52, 53, 54, 55, 56, 57, 58, 59, 60, 61, 62, 63, 64, 65, 66, 67, 68, 69, 70, 71, 72, 73, 74] (by decide +kernel) (by decide +kernel)
set_option maxRecDepth 20000 in
theorem gX8_leastOf_X8_code : GoodIn wsX8_leastOf (wsV RX8 121 RX8 yX8_code wsX8_code) := goodIn_app (goodIn_of _ (by decide +kernel)) ggX8_leastOf_X8_code
theorem dX8_leastOf_0 : decode cX8_leastOf 0 = .ok (.ldc2_w 105, 3) := by decide +kernel
theorem dX8_leastOf_3 : decode cX8_leastOf 3 = .ok (.lstore 4, 2) := by decide +kernel
theorem dX8_leastOf_5 : decode cX8_leastOf 5 = .ok (.iconst 1, 1) := by decide +kernel
theorem dX8_leastOf_6 : decode cX8_leastOf 6 = .ok (.istore 6, 2) := by decide +kernel
theorem dX8_leastOf_8 : decode cX8_leastOf 8 = .ok (.iload 6, 2) := by decide +kernel
theorem dX8_leastOf_10 : decode cX8_leastOf 10 = .ok (.iload_n 1, 1) := by decide +kernel
theorem dX8_leastOf_11 : decode cX8_leastOf 11 = .ok (.if_icmp .ge 117, 3) := by decide +kernel
theorem dX8_leastOf_14 : decode cX8_leastOf 14 = .ok (.iload 6, 2) := by decide +kernel
theorem dX8_leastOf_16 : decode cX8_leastOf 16 = .ok (.iload_n 1, 1) := by decide +kernel
theorem dX8_leastOf_17 : decode cX8_leastOf 17 = .ok (.iand, 1) := by decide +kernel
theorem dX8_leastOf_18 : decode cX8_leastOf 18 = .ok (.iload 6, 2) := by decide +kernel
theorem dX8_leastOf_20 : decode cX8_leastOf 20 = .ok (.if_icmp .ne 102, 3) := by decide +kernel
theorem dX8_leastOf_23 : decode cX8_leastOf 23 = .ok (.aload_n 0, 1) := by decide +kernel
theorem dX8_leastOf_24 : decode cX8_leastOf 24 = .ok (.iload 6, 2) := by decide +kernel
theorem dX8_leastOf_26 : decode cX8_leastOf 26 = .ok (.iload_n 1, 1) := by decide +kernel
theorem dX8_leastOf_27 : decode cX8_leastOf 27 = .ok (.iload 6, 2) := by decide +kernel
theorem dX8_leastOf_29 : decode cX8_leastOf 29 = .ok (.iconst (-1), 1) := by decide +kernel
theorem dX8_leastOf_30 : decode cX8_leastOf 30 = .ok (.ixor, 1) := by decide +kernel
theorem dX8_leastOf_31 : decode cX8_leastOf 31 = .ok (.iand, 1) := by decide +kernel
theorem dX8_leastOf_32 : decode cX8_leastOf 32 = .ok (.invokevirtual 107, 3) := by decide +kernel
theorem dX8_leastOf_35 : decode cX8_leastOf 35 = .ok (.ifCond .eq 87, 3) := by decide +kernel
theorem dX8_leastOf_38 : decode cX8_leastOf 38 = .ok (.iload_n 2, 1) := by decide +kernel
theorem dX8_leastOf_39 : decode cX8_leastOf 39 = .ok (.istore 7, 2) := by decide +kernel
theorem dX8_leastOf_41 : decode cX8_leastOf 41 = .ok (.iload 7, 2) := by decide +kernel
theorem dX8_leastOf_43 : decode cX8_leastOf 43 = .ok (.iload_n 3, 1) := by decide +kernel
theorem dX8_leastOf_44 : decode cX8_leastOf 44 = .ok (.if_icmp .gt 78, 3) := by decide +kernel
theorem dX8_leastOf_47 : decode cX8_leastOf 47 = .ok (.aload_n 0, 1) := by decide +kernel
theorem dX8_leastOf_48 : decode cX8_leastOf 48 = .ok (.getfield 34, 3) := by decide +kernel
theorem dX8_leastOf_51 : decode cX8_leastOf 51 = .ok (.iload 6, 2) := by decide +kernel
theorem dX8_leastOf_53 : decode cX8_leastOf 53 = .ok (.iload_n 2, 1) := by decide +kernel
theorem dX8_leastOf_54 : decode cX8_leastOf 54 = .ok (.iload 7, 2) := by decide +kernel
theorem dX8_leastOf_56 : decode cX8_leastOf 56 = .ok (.invokestatic 111, 3) := by decide +kernel
theorem dX8_leastOf_59 : decode cX8_leastOf 59 = .ok (.laload, 1) := by decide +kernel
theorem dX8_leastOf_60 : decode cX8_leastOf 60 = .ok (.lstore 8, 2) := by decide +kernel
theorem dX8_leastOf_62 : decode cX8_leastOf 62 = .ok (.aload_n 0, 1) := by decide +kernel
theorem dX8_leastOf_63 : decode cX8_leastOf 63 = .ok (.getfield 34, 3) := by decide +kernel
theorem dX8_leastOf_66 : decode cX8_leastOf 66 = .ok (.iload_n 1, 1) := by decide +kernel
theorem dX8_leastOf_67 : decode cX8_leastOf 67 = .ok (.iload 6, 2) := by decide +kernel
theorem dX8_leastOf_69 : decode cX8_leastOf 69 = .ok (.iconst (-1), 1) := by decide +kernel
theorem dX8_leastOf_70 : decode cX8_leastOf 70 = .ok (.ixor, 1) := by decide +kernel
theorem dX8_leastOf_71 : decode cX8_leastOf 71 = .ok (.iand, 1) := by decide +kernel
theorem dX8_leastOf_72 : decode cX8_leastOf 72 = .ok (.iload 7, 2) := by decide +kernel
theorem dX8_leastOf_74 : decode cX8_leastOf 74 = .ok (.iload_n 3, 1) := by decide +kernel
theorem dX8_leastOf_75 : decode cX8_leastOf 75 = .ok (.invokestatic 111, 3) := by decide +kernel
theorem dX8_leastOf_78 : decode cX8_leastOf 78 = .ok (.laload, 1) := by decide +kernel
theorem dX8_leastOf_79 : decode cX8_leastOf 79 = .ok (.lstore 10, 2) := by decide +kernel
theorem dX8_leastOf_81 : decode cX8_leastOf 81 = .ok (.lload 8, 2) := by decide +kernel
theorem dX8_leastOf_83 : decode cX8_leastOf 83 = .ok (.ldc2_w 105, 3) := by decide +kernel
theorem dX8_leastOf_86 : decode cX8_leastOf 86 = .ok (.lcmp, 1) := by decide +kernel
theorem dX8_leastOf_87 : decode cX8_leastOf 87 = .ok (.ifCond .ge 25, 3) := by decide +kernel
theorem dX8_leastOf_90 : decode cX8_leastOf 90 = .ok (.lload 10, 2) := by decide +kernel
theorem dX8_leastOf_92 : decode cX8_leastOf 92 = .ok (.ldc2_w 105, 3) := by decide +kernel
theorem dX8_leastOf_95 : decode cX8_leastOf 95 = .ok (.lcmp, 1) := by decide +kernel
theorem dX8_leastOf_96 : decode cX8_leastOf 96 = .ok (.ifCond .ge 16, 3) := by decide +kernel
theorem dX8_leastOf_99 : decode cX8_leastOf 99 = .ok (.lload 4, 2) := by decide +kernel
theorem dX8_leastOf_101 : decode cX8_leastOf 101 = .ok (.lload 8, 2) := by decide +kernel
theorem dX8_leastOf_103 : decode cX8_leastOf 103 = .ok (.lload 10, 2) := by decide +kernel
theorem dX8_leastOf_105 : decode cX8_leastOf 105 = .ok (.ladd, 1) := by decide +kernel
theorem dX8_leastOf_106 : decode cX8_leastOf 106 = .ok (.invokestatic 114, 3) := by decide +kernel
theorem dX8_leastOf_109 : decode cX8_leastOf 109 = .ok (.goto 5, 3) := by decide +kernel
theorem dX8_leastOf_112 : decode cX8_leastOf 112 = .ok (.lload 4, 2) := by decide +kernel
theorem dX8_leastOf_114 : decode cX8_leastOf 114 = .ok (.lstore 4, 2) := by decide +kernel
theorem dX8_leastOf_116 : decode cX8_leastOf 116 = .ok (.iinc 7 1, 3) := by decide +kernel
theorem dX8_leastOf_119 : decode cX8_leastOf 119 = .ok (.goto (-78), 3) := by decide +kernel
theorem dX8_leastOf_122 : decode cX8_leastOf 122 = .ok (.iinc 6 1, 3) := by decide +kernel
theorem dX8_leastOf_125 : decode cX8_leastOf 125 = .ok (.goto (-117), 3) := by decide +kernel
theorem dX8_leastOf_128 : decode cX8_leastOf 128 = .ok (.iconst 0, 1) := by decide +kernel
theorem dX8_leastOf_129 : decode cX8_leastOf 129 = .ok (.istore 6, 2) := by decide +kernel
theorem dX8_leastOf_131 : decode cX8_leastOf 131 = .ok (.iload 6, 2) := by decide +kernel
theorem dX8_leastOf_133 : decode cX8_leastOf 133 = .ok (.iconst 5, 1) := by decide +kernel
theorem dX8_leastOf_134 : decode cX8_leastOf 134 = .ok (.if_icmp .ge 121, 3) := by decide +kernel
theorem dX8_leastOf_137 : decode cX8_leastOf 137 = .ok (.iload_n 1, 1) := by decide +kernel
theorem dX8_leastOf_138 : decode cX8_leastOf 138 = .ok (.iconst 1, 1) := by decide +kernel
theorem dX8_leastOf_139 : decode cX8_leastOf 139 = .ok (.iload 6, 2) := by decide +kernel
theorem dX8_leastOf_141 : decode cX8_leastOf 141 = .ok (.ishl, 1) := by decide +kernel
theorem dX8_leastOf_142 : decode cX8_leastOf 142 = .ok (.iconst (-1), 1) := by decide +kernel
theorem dX8_leastOf_143 : decode cX8_leastOf 143 = .ok (.ixor, 1) := by decide +kernel
theorem dX8_leastOf_144 : decode cX8_leastOf 144 = .ok (.iand, 1) := by decide +kernel
theorem dX8_leastOf_145 : decode cX8_leastOf 145 = .ok (.istore 7, 2) := by decide +kernel
theorem dX8_leastOf_147 : decode cX8_leastOf 147 = .ok (.iload_n 1, 1) := by decide +kernel
theorem dX8_leastOf_148 : decode cX8_leastOf 148 = .ok (.iload 6, 2) := by decide +kernel
theorem dX8_leastOf_150 : decode cX8_leastOf 150 = .ok (.ishr, 1) := by decide +kernel
theorem dX8_leastOf_151 : decode cX8_leastOf 151 = .ok (.iconst 1, 1) := by decide +kernel
theorem dX8_leastOf_152 : decode cX8_leastOf 152 = .ok (.iand, 1) := by decide +kernel
theorem dX8_leastOf_153 : decode cX8_leastOf 153 = .ok (.iconst 1, 1) := by decide +kernel
theorem dX8_leastOf_154 : decode cX8_leastOf 154 = .ok (.if_icmp .ne 95, 3) := by decide +kernel
theorem dX8_leastOf_157 : decode cX8_leastOf 157 = .ok (.aload_n 0, 1) := by decide +kernel
theorem dX8_leastOf_158 : decode cX8_leastOf 158 = .ok (.iload 6, 2) := by decide +kernel
theorem dX8_leastOf_160 : decode cX8_leastOf 160 = .ok (.iload 7, 2) := by decide +kernel
theorem dX8_leastOf_162 : decode cX8_leastOf 162 = .ok (.invokevirtual 118, 3) := by decide +kernel
theorem dX8_leastOf_165 : decode cX8_leastOf 165 = .ok (.ifCond .ne 84, 3) := by decide +kernel
theorem dX8_leastOf_168 : decode cX8_leastOf 168 = .ok (.iload_n 2, 1) := by decide +kernel
theorem dX8_leastOf_169 : decode cX8_leastOf 169 = .ok (.istore 8, 2) := by decide +kernel
theorem dX8_leastOf_171 : decode cX8_leastOf 171 = .ok (.iload 8, 2) := by decide +kernel
theorem dX8_leastOf_173 : decode cX8_leastOf 173 = .ok (.iload_n 3, 1) := by decide +kernel
theorem dX8_leastOf_174 : decode cX8_leastOf 174 = .ok (.if_icmp .gt 75, 3) := by decide +kernel
theorem dX8_leastOf_177 : decode cX8_leastOf 177 = .ok (.iload 8, 2) := by decide +kernel
theorem dX8_leastOf_179 : decode cX8_leastOf 179 = .ok (.istore 9, 2) := by decide +kernel
theorem dX8_leastOf_181 : decode cX8_leastOf 181 = .ok (.iload 9, 2) := by decide +kernel
theorem dX8_leastOf_183 : decode cX8_leastOf 183 = .ok (.iload_n 3, 1) := by decide +kernel
theorem dX8_leastOf_184 : decode cX8_leastOf 184 = .ok (.if_icmp .gt 59, 3) := by decide +kernel
theorem dX8_leastOf_187 : decode cX8_leastOf 187 = .ok (.aload_n 0, 1) := by decide +kernel
theorem dX8_leastOf_188 : decode cX8_leastOf 188 = .ok (.getfield 34, 3) := by decide +kernel
theorem dX8_leastOf_191 : decode cX8_leastOf 191 = .ok (.iload 7, 2) := by decide +kernel
theorem dX8_leastOf_193 : decode cX8_leastOf 193 = .ok (.iload 8, 2) := by decide +kernel
theorem dX8_leastOf_195 : decode cX8_leastOf 195 = .ok (.iload 9, 2) := by decide +kernel
theorem dX8_leastOf_197 : decode cX8_leastOf 197 = .ok (.invokestatic 111, 3) := by decide +kernel
theorem dX8_leastOf_200 : decode cX8_leastOf 200 = .ok (.laload, 1) := by decide +kernel
theorem dX8_leastOf_201 : decode cX8_leastOf 201 = .ok (.lstore 10, 2) := by decide +kernel
theorem dX8_leastOf_203 : decode cX8_leastOf 203 = .ok (.lload 10, 2) := by decide +kernel
theorem dX8_leastOf_205 : decode cX8_leastOf 205 = .ok (.ldc2_w 105, 3) := by decide +kernel
theorem dX8_leastOf_208 : decode cX8_leastOf 208 = .ok (.lcmp, 1) := by decide +kernel
theorem dX8_leastOf_209 : decode cX8_leastOf 209 = .ok (.ifCond .ge 24, 3) := by decide +kernel
theorem dX8_leastOf_212 : decode cX8_leastOf 212 = .ok (.lload 4, 2) := by decide +kernel
theorem dX8_leastOf_214 : decode cX8_leastOf 214 = .ok (.lload 10, 2) := by decide +kernel
theorem dX8_leastOf_216 : decode cX8_leastOf 216 = .ok (.aload_n 0, 1) := by decide +kernel
theorem dX8_leastOf_217 : decode cX8_leastOf 217 = .ok (.iload 6, 2) := by decide +kernel
theorem dX8_leastOf_219 : decode cX8_leastOf 219 = .ok (.iload 8, 2) := by decide +kernel
theorem dX8_leastOf_221 : decode cX8_leastOf 221 = .ok (.iload 9, 2) := by decide +kernel
theorem dX8_leastOf_223 : decode cX8_leastOf 223 = .ok (.invokevirtual 121, 3) := by decide +kernel
theorem dX8_leastOf_226 : decode cX8_leastOf 226 = .ok (.ladd, 1) := by decide +kernel
theorem dX8_leastOf_227 : decode cX8_leastOf 227 = .ok (.invokestatic 114, 3) := by decide +kernel
theorem dX8_leastOf_230 : decode cX8_leastOf 230 = .ok (.goto 5, 3) := by decide +kernel
theorem dX8_leastOf_233 : decode cX8_leastOf 233 = .ok (.lload 4, 2) := by decide +kernel
theorem dX8_leastOf_235 : decode cX8_leastOf 235 = .ok (.lstore 4, 2) := by decide +kernel
theorem dX8_leastOf_237 : decode cX8_leastOf 237 = .ok (.iinc 9 1, 3) := by decide +kernel
theorem dX8_leastOf_240 : decode cX8_leastOf 240 = .ok (.goto (-59), 3) := by decide +kernel
theorem dX8_leastOf_243 : decode cX8_leastOf 243 = .ok (.iinc 8 1, 3) := by decide +kernel
theorem dX8_leastOf_246 : decode cX8_leastOf 246 = .ok (.goto (-75), 3) := by decide +kernel
theorem dX8_leastOf_249 : decode cX8_leastOf 249 = .ok (.iinc 6 1, 3) := by decide +kernel
theorem dX8_leastOf_252 : decode cX8_leastOf 252 = .ok (.goto (-121), 3) := by decide +kernel
theorem dX8_leastOf_255 : decode cX8_leastOf 255 = .ok (.lload 4, 2) := by decide +kernel
theorem dX8_leastOf_257 : decode cX8_leastOf 257 = .ok (.lreturn, 1) := by decide +kernel
set_option maxRecDepth 20000 in
theorem ggX8_there_X8_isThere : GoodIn wsX8_there wsX8_isThere := goodIn_r _ [5, 6, 7, 8, 4, 9, 10, 11, 12, 13, 14, 15, 16, 17, 18, 19, 20, 21, 22, 23, 24, 25, 26, 27, 28, 29, 30, 31] (by decide +kernel) (by decide +kernel)
set_option maxRecDepth 20000 in
theorem gX8_there_X8_isThere : GoodIn wsX8_there (wsV RX8 125 RX8 yX8_isThere wsX8_isThere) := goodIn_app (goodIn_of _ (by decide +kernel)) ggX8_there_X8_isThere
theorem dX8_there_0 : decode cX8_there 0 = .ok (.iconst 0, 1) := by decide +kernel
theorem dX8_there_1 : decode cX8_there 1 = .ok (.istore_n 1, 1) := by decide +kernel
theorem dX8_there_2 : decode cX8_there 2 = .ok (.iconst 0, 1) := by decide +kernel
theorem dX8_there_3 : decode cX8_there 3 = .ok (.istore_n 2, 1) := by decide +kernel
theorem dX8_there_4 : decode cX8_there 4 = .ok (.iload_n 2, 1) := by decide +kernel
theorem dX8_there_5 : decode cX8_there 5 = .ok (.iconst 5, 1) := by decide +kernel
theorem dX8_there_6 : decode cX8_there 6 = .ok (.if_icmp .ge 27, 3) := by decide +kernel
theorem dX8_there_9 : decode cX8_there 9 = .ok (.iload_n 1, 1) := by decide +kernel
theorem dX8_there_10 : decode cX8_there 10 = .ok (.aload_n 0, 1) := by decide +kernel
theorem dX8_there_11 : decode cX8_there 11 = .ok (.iload_n 2, 1) := by decide +kernel
theorem dX8_there_12 : decode cX8_there 12 = .ok (.invokevirtual 125, 3) := by decide +kernel
theorem dX8_there_15 : decode cX8_there 15 = .ok (.ifCond .eq 9, 3) := by decide +kernel
theorem dX8_there_18 : decode cX8_there 18 = .ok (.iconst 1, 1) := by decide +kernel
theorem dX8_there_19 : decode cX8_there 19 = .ok (.iload_n 2, 1) := by decide +kernel
theorem dX8_there_20 : decode cX8_there 20 = .ok (.ishl, 1) := by decide +kernel
theorem dX8_there_21 : decode cX8_there 21 = .ok (.goto 4, 3) := by decide +kernel
theorem dX8_there_24 : decode cX8_there 24 = .ok (.iconst 0, 1) := by decide +kernel
theorem dX8_there_25 : decode cX8_there 25 = .ok (.ior, 1) := by decide +kernel
theorem dX8_there_26 : decode cX8_there 26 = .ok (.istore_n 1, 1) := by decide +kernel
theorem dX8_there_27 : decode cX8_there 27 = .ok (.iinc 2 1, 3) := by decide +kernel
theorem dX8_there_30 : decode cX8_there 30 = .ok (.goto (-26), 3) := by decide +kernel
theorem dX8_there_33 : decode cX8_there 33 = .ok (.iload_n 1, 1) := by decide +kernel
theorem dX8_there_34 : decode cX8_there 34 = .ok (.ireturn, 1) := by decide +kernel
set_option maxRecDepth 20000 in
theorem ggX8_place_X8_there : GoodIn wsX8_place wsX8_there := goodIn_r _ [12, 13, 14, 15, 11, 16, 17, 18, 19, 20, 81, 82, 83, 84, 85, 86, 87, 88, 89, 90, 91, 92, 93, 94, 95, 96, 97, 98, 99, 100, 101, 102] (by decide +kernel) (by decide +kernel)
set_option maxRecDepth 20000 in
theorem gX8_place_X8_there : GoodIn wsX8_place (wsV RX8 129 RX8 yX8_there wsX8_there) := goodIn_app (goodIn_of _ (by decide +kernel)) ggX8_place_X8_there
set_option maxRecDepth 20000 in
theorem ggX8_place_X8_at : GoodIn wsX8_place wsX8_at := goodIn_r _ [23] (by decide +kernel) (by decide +kernel)
set_option maxRecDepth 20000 in
theorem gX8_place_X8_at : GoodIn wsX8_place (va_wsS RX8 111 yX8_at wsX8_at) := goodIn_app (goodIn_of _ (by decide +kernel)) ggX8_place_X8_at
set_option maxRecDepth 20000 in
theorem ggX8_place_X8_leastOf : GoodIn wsX8_place wsX8_leastOf := goodIn_r _ [27, 3, 2, 28, 29, 30, 11, 31, 32, 21, 22, 23, 33, 34, 35, 36, 37, 38, 39, 40, 41, 42, 43, 44, 45, 46, 47, 48, 49, 50, 51, 17, 52, 53, 54, 55, 56, 57, 58, 59, 60, 61, 1, 62, 63, 64, 65, 66, 67, 68, 69, 70, 71, 81, 82, 83, 84, 85, 86, 87, 88, 89, 90, 91, 92, 93, 94, 95, 96, 97, 98, 99, 100, 101, 102] (by decide +kernel) (by decide +kernel)
set_option maxRecDepth 20000 in
theorem gX8_place_X8_leastOf : GoodIn wsX8_place (wsV RX8 132 RX8 yX8_leastOf wsX8_leastOf) := goodIn_app (goodIn_of _ (by decide +kernel)) ggX8_place_X8_leastOf
set_option maxRecDepth 20000 in
theorem ggX8_place_X8_placeMarks : GoodIn wsX8_place wsX8_placeMarks := goodIn_r _ [75, 1, 76, 77, 78, 79, 80, 58, 59, 60, 11, 61, 57, 66, 67, 68, 81, 82, 83, 84, 85, 86, 87, 88, 89, 90, 91, 92, 93, 94, 95, 96, 97, 98, 99, 100, 101, 102] (by decide +kernel) (by decide +kernel)
set_option maxRecDepth 20000 in
theorem gX8_place_X8_placeMarks : GoodIn wsX8_place (wsV RX8 141 RX8 yX8_placeMarks wsX8_placeMarks) := goodIn_app (goodIn_of _ (by decide +kernel)) ggX8_place_X8_placeMarks
theorem dX8_place_0 : decode cX8_place 0 = .ok (.aload_n 0, 1) := by decide +kernel
theorem dX8_place_1 : decode cX8_place 1 = .ok (.invokevirtual 129, 3) := by decide +kernel
theorem dX8_place_4 : decode cX8_place 4 = .ok (.istore_n 1, 1) := by decide +kernel
theorem dX8_place_5 : decode cX8_place 5 = .ok (.iconst 0, 1) := by decide +kernel
theorem dX8_place_6 : decode cX8_place 6 = .ok (.istore_n 2, 1) := by decide +kernel
theorem dX8_place_7 : decode cX8_place 7 = .ok (.iload_n 2, 1) := by decide +kernel
theorem dX8_place_8 : decode cX8_place 8 = .ok (.iload_n 1, 1) := by decide +kernel
theorem dX8_place_9 : decode cX8_place 9 = .ok (.if_icmp .gt 84, 3) := by decide +kernel
theorem dX8_place_12 : decode cX8_place 12 = .ok (.iconst 0, 1) := by decide +kernel
theorem dX8_place_13 : decode cX8_place 13 = .ok (.istore_n 3, 1) := by decide +kernel
theorem dX8_place_14 : decode cX8_place 14 = .ok (.iload_n 3, 1) := by decide +kernel
theorem dX8_place_15 : decode cX8_place 15 = .ok (.aload_n 0, 1) := by decide +kernel
theorem dX8_place_16 : decode cX8_place 16 = .ok (.getfield 78, 3) := by decide +kernel
theorem dX8_place_19 : decode cX8_place 19 = .ok (.if_icmp .gt 68, 3) := by decide +kernel
theorem dX8_place_22 : decode cX8_place 22 = .ok (.iload_n 3, 1) := by decide +kernel
theorem dX8_place_23 : decode cX8_place 23 = .ok (.istore 4, 2) := by decide +kernel
theorem dX8_place_25 : decode cX8_place 25 = .ok (.iload 4, 2) := by decide +kernel
theorem dX8_place_27 : decode cX8_place 27 = .ok (.aload_n 0, 1) := by decide +kernel
theorem dX8_place_28 : decode cX8_place 28 = .ok (.getfield 78, 3) := by decide +kernel
theorem dX8_place_31 : decode cX8_place 31 = .ok (.if_icmp .gt 50, 3) := by decide +kernel
theorem dX8_place_34 : decode cX8_place 34 = .ok (.aload_n 0, 1) := by decide +kernel
theorem dX8_place_35 : decode cX8_place 35 = .ok (.getfield 34, 3) := by decide +kernel
theorem dX8_place_38 : decode cX8_place 38 = .ok (.iload_n 2, 1) := by decide +kernel
theorem dX8_place_39 : decode cX8_place 39 = .ok (.iload_n 3, 1) := by decide +kernel
theorem dX8_place_40 : decode cX8_place 40 = .ok (.iload 4, 2) := by decide +kernel
theorem dX8_place_42 : decode cX8_place 42 = .ok (.invokestatic 111, 3) := by decide +kernel
theorem dX8_place_45 : decode cX8_place 45 = .ok (.iload_n 2, 1) := by decide +kernel
theorem dX8_place_46 : decode cX8_place 46 = .ok (.ifCond .ne 7, 3) := by decide +kernel
theorem dX8_place_49 : decode cX8_place 49 = .ok (.lconst 0, 1) := by decide +kernel
theorem dX8_place_50 : decode cX8_place 50 = .ok (.goto 24, 3) := by decide +kernel
theorem dX8_place_53 : decode cX8_place 53 = .ok (.iload_n 2, 1) := by decide +kernel
theorem dX8_place_54 : decode cX8_place 54 = .ok (.iload_n 1, 1) := by decide +kernel
theorem dX8_place_55 : decode cX8_place 55 = .ok (.iand, 1) := by decide +kernel
theorem dX8_place_56 : decode cX8_place 56 = .ok (.iload_n 2, 1) := by decide +kernel
theorem dX8_place_57 : decode cX8_place 57 = .ok (.if_icmp .ne 14, 3) := by decide +kernel
theorem dX8_place_60 : decode cX8_place 60 = .ok (.aload_n 0, 1) := by decide +kernel
theorem dX8_place_61 : decode cX8_place 61 = .ok (.iload_n 2, 1) := by decide +kernel
theorem dX8_place_62 : decode cX8_place 62 = .ok (.iload_n 3, 1) := by decide +kernel
theorem dX8_place_63 : decode cX8_place 63 = .ok (.iload 4, 2) := by decide +kernel
theorem dX8_place_65 : decode cX8_place 65 = .ok (.invokevirtual 132, 3) := by decide +kernel
theorem dX8_place_68 : decode cX8_place 68 = .ok (.goto 6, 3) := by decide +kernel
theorem dX8_place_71 : decode cX8_place 71 = .ok (.ldc2_w 105, 3) := by decide +kernel
theorem dX8_place_74 : decode cX8_place 74 = .ok (.lastore, 1) := by decide +kernel
theorem dX8_place_75 : decode cX8_place 75 = .ok (.iinc 4 1, 3) := by decide +kernel
theorem dX8_place_78 : decode cX8_place 78 = .ok (.goto (-53), 3) := by decide +kernel
theorem dX8_place_81 : decode cX8_place 81 = .ok (.iinc 3 1, 3) := by decide +kernel
theorem dX8_place_84 : decode cX8_place 84 = .ok (.goto (-70), 3) := by decide +kernel
theorem dX8_place_87 : decode cX8_place 87 = .ok (.iinc 2 1, 3) := by decide +kernel
theorem dX8_place_90 : decode cX8_place 90 = .ok (.goto (-83), 3) := by decide +kernel
theorem dX8_place_93 : decode cX8_place 93 = .ok (.aload_n 0, 1) := by decide +kernel
theorem dX8_place_94 : decode cX8_place 94 = .ok (.aload_n 0, 1) := by decide +kernel
theorem dX8_place_95 : decode cX8_place 95 = .ok (.getfield 34, 3) := by decide +kernel
theorem dX8_place_98 : decode cX8_place 98 = .ok (.iload_n 1, 1) := by decide +kernel
theorem dX8_place_99 : decode cX8_place 99 = .ok (.iconst 0, 1) := by decide +kernel
theorem dX8_place_100 : decode cX8_place 100 = .ok (.aload_n 0, 1) := by decide +kernel
theorem dX8_place_101 : decode cX8_place 101 = .ok (.getfield 78, 3) := by decide +kernel
theorem dX8_place_104 : decode cX8_place 104 = .ok (.invokestatic 111, 3) := by decide +kernel
theorem dX8_place_107 : decode cX8_place 107 = .ok (.laload, 1) := by decide +kernel
theorem dX8_place_108 : decode cX8_place 108 = .ok (.putfield 135, 3) := by decide +kernel
theorem dX8_place_111 : decode cX8_place 111 = .ok (.iconst 0, 1) := by decide +kernel
theorem dX8_place_112 : decode cX8_place 112 = .ok (.istore_n 2, 1) := by decide +kernel
theorem dX8_place_113 : decode cX8_place 113 = .ok (.iload_n 2, 1) := by decide +kernel
theorem dX8_place_114 : decode cX8_place 114 = .ok (.iconst 5, 1) := by decide +kernel
theorem dX8_place_115 : decode cX8_place 115 = .ok (.if_icmp .ge 46, 3) := by decide +kernel
theorem dX8_place_118 : decode cX8_place 118 = .ok (.aload_n 0, 1) := by decide +kernel
theorem dX8_place_119 : decode cX8_place 119 = .ok (.getfield 135, 3) := by decide +kernel
theorem dX8_place_122 : decode cX8_place 122 = .ok (.bipush 8, 2) := by decide +kernel
theorem dX8_place_124 : decode cX8_place 124 = .ok (.iconst 4, 1) := by decide +kernel
theorem dX8_place_125 : decode cX8_place 125 = .ok (.iload_n 2, 1) := by decide +kernel
theorem dX8_place_126 : decode cX8_place 126 = .ok (.isub, 1) := by decide +kernel
theorem dX8_place_127 : decode cX8_place 127 = .ok (.imul, 1) := by decide +kernel
theorem dX8_place_128 : decode cX8_place 128 = .ok (.lshr, 1) := by decide +kernel
theorem dX8_place_129 : decode cX8_place 129 = .ok (.ldc2_w 139, 3) := by decide +kernel
theorem dX8_place_132 : decode cX8_place 132 = .ok (.land, 1) := by decide +kernel
theorem dX8_place_133 : decode cX8_place 133 = .ok (.l2i, 1) := by decide +kernel
theorem dX8_place_134 : decode cX8_place 134 = .ok (.istore_n 3, 1) := by decide +kernel
theorem dX8_place_135 : decode cX8_place 135 = .ok (.aload_n 0, 1) := by decide +kernel
theorem dX8_place_136 : decode cX8_place 136 = .ok (.getfield 38, 3) := by decide +kernel
theorem dX8_place_139 : decode cX8_place 139 = .ok (.iload_n 2, 1) := by decide +kernel
theorem dX8_place_140 : decode cX8_place 140 = .ok (.iload_n 3, 1) := by decide +kernel
theorem dX8_place_141 : decode cX8_place 141 = .ok (.bipush 16, 2) := by decide +kernel
theorem dX8_place_143 : decode cX8_place 143 = .ok (.idiv, 1) := by decide +kernel
theorem dX8_place_144 : decode cX8_place 144 = .ok (.iastore, 1) := by decide +kernel
theorem dX8_place_145 : decode cX8_place 145 = .ok (.aload_n 0, 1) := by decide +kernel
theorem dX8_place_146 : decode cX8_place 146 = .ok (.getfield 41, 3) := by decide +kernel
theorem dX8_place_149 : decode cX8_place 149 = .ok (.iload_n 2, 1) := by decide +kernel
theorem dX8_place_150 : decode cX8_place 150 = .ok (.iload_n 3, 1) := by decide +kernel
theorem dX8_place_151 : decode cX8_place 151 = .ok (.bipush 16, 2) := by decide +kernel
theorem dX8_place_153 : decode cX8_place 153 = .ok (.irem, 1) := by decide +kernel
theorem dX8_place_154 : decode cX8_place 154 = .ok (.iastore, 1) := by decide +kernel
theorem dX8_place_155 : decode cX8_place 155 = .ok (.iinc 2 1, 3) := by decide +kernel
theorem dX8_place_158 : decode cX8_place 158 = .ok (.goto (-45), 3) := by decide +kernel
theorem dX8_place_161 : decode cX8_place 161 = .ok (.aload_n 0, 1) := by decide +kernel
theorem dX8_place_162 : decode cX8_place 162 = .ok (.invokevirtual 141, 3) := by decide +kernel
theorem dX8_place_165 : decode cX8_place 165 = .ok (.return_, 1) := by decide +kernel
set_option maxRecDepth 20000 in
theorem ggX8_placeMarks_X8_anchor : GoodIn wsX8_placeMarks wsX8_anchor := goodIn_r _ [11, 1, 12, 16, 17, 18, 19, 20, 21, 22, 23, 24, 25, 26, 27, 28, 29, 30, 31, 32, 33, 34, 35, 36, 37] (by decide +kernel) (by decide +kernel)
set_option maxRecDepth 20000 in
theorem gX8_placeMarks_X8_anchor : GoodIn wsX8_placeMarks (wsV RX8 85 RX8 yX8_anchor wsX8_anchor) := goodIn_app (goodIn_of _ (by decide +kernel)) ggX8_placeMarks_X8_anchor
set_option maxRecDepth 20000 in
theorem ggX8_placeMarks_X8_off : GoodIn wsX8_placeMarks wsX8_off := goodIn_r _ [15] (by decide +kernel) (by decide +kernel)
set_option maxRecDepth 20000 in
theorem gX8_placeMarks_X8_off : GoodIn wsX8_placeMarks (va_wsS RX8 94 yX8_off wsX8_off) := goodIn_app (goodIn_of _ (by decide +kernel)) ggX8_placeMarks_X8_off
theorem dX8_placeMarks_0 : decode cX8_placeMarks 0 = .ok (.aload_n 0, 1) := by decide +kernel
theorem dX8_placeMarks_1 : decode cX8_placeMarks 1 = .ok (.getfield 78, 3) := by decide +kernel
theorem dX8_placeMarks_4 : decode cX8_placeMarks 4 = .ok (.iconst 1, 1) := by decide +kernel
theorem dX8_placeMarks_5 : decode cX8_placeMarks 5 = .ok (.iadd, 1) := by decide +kernel
theorem dX8_placeMarks_6 : decode cX8_placeMarks 6 = .ok (.istore_n 1, 1) := by decide +kernel
theorem dX8_placeMarks_7 : decode cX8_placeMarks 7 = .ok (.iconst 1, 1) := by decide +kernel
theorem dX8_placeMarks_8 : decode cX8_placeMarks 8 = .ok (.istore_n 2, 1) := by decide +kernel
theorem dX8_placeMarks_9 : decode cX8_placeMarks 9 = .ok (.iconst 0, 1) := by decide +kernel
theorem dX8_placeMarks_10 : decode cX8_placeMarks 10 = .ok (.istore_n 3, 1) := by decide +kernel
theorem dX8_placeMarks_11 : decode cX8_placeMarks 11 = .ok (.iload_n 3, 1) := by decide +kernel
theorem dX8_placeMarks_12 : decode cX8_placeMarks 12 = .ok (.aload_n 0, 1) := by decide +kernel
theorem dX8_placeMarks_13 : decode cX8_placeMarks 13 = .ok (.getfield 72, 3) := by decide +kernel
theorem dX8_placeMarks_16 : decode cX8_placeMarks 16 = .ok (.if_icmp .ge 13, 3) := by decide +kernel
theorem dX8_placeMarks_19 : decode cX8_placeMarks 19 = .ok (.iload_n 2, 1) := by decide +kernel
theorem dX8_placeMarks_20 : decode cX8_placeMarks 20 = .ok (.iload_n 1, 1) := by decide +kernel
theorem dX8_placeMarks_21 : decode cX8_placeMarks 21 = .ok (.imul, 1) := by decide +kernel
theorem dX8_placeMarks_22 : decode cX8_placeMarks 22 = .ok (.istore_n 2, 1) := by decide +kernel
theorem dX8_placeMarks_23 : decode cX8_placeMarks 23 = .ok (.iinc 3 1, 3) := by decide +kernel
theorem dX8_placeMarks_26 : decode cX8_placeMarks 26 = .ok (.goto (-15), 3) := by decide +kernel
theorem dX8_placeMarks_29 : decode cX8_placeMarks 29 = .ok (.aload_n 0, 1) := by decide +kernel
theorem dX8_placeMarks_30 : decode cX8_placeMarks 30 = .ok (.bipush (-6), 2) := by decide +kernel
theorem dX8_placeMarks_32 : decode cX8_placeMarks 32 = .ok (.putfield 144, 3) := by decide +kernel
theorem dX8_placeMarks_35 : decode cX8_placeMarks 35 = .ok (.iconst 0, 1) := by decide +kernel
theorem dX8_placeMarks_36 : decode cX8_placeMarks 36 = .ok (.istore_n 3, 1) := by decide +kernel
theorem dX8_placeMarks_37 : decode cX8_placeMarks 37 = .ok (.iload_n 3, 1) := by decide +kernel
theorem dX8_placeMarks_38 : decode cX8_placeMarks 38 = .ok (.iload_n 2, 1) := by decide +kernel
theorem dX8_placeMarks_39 : decode cX8_placeMarks 39 = .ok (.if_icmp .ge 178, 3) := by decide +kernel
theorem dX8_placeMarks_42 : decode cX8_placeMarks 42 = .ok (.iconst 0, 1) := by decide +kernel
theorem dX8_placeMarks_43 : decode cX8_placeMarks 43 = .ok (.istore 4, 2) := by decide +kernel
theorem dX8_placeMarks_45 : decode cX8_placeMarks 45 = .ok (.iconst 0, 1) := by decide +kernel
theorem dX8_placeMarks_46 : decode cX8_placeMarks 46 = .ok (.istore 5, 2) := by decide +kernel
theorem dX8_placeMarks_48 : decode cX8_placeMarks 48 = .ok (.iload_n 2, 1) := by decide +kernel
theorem dX8_placeMarks_49 : decode cX8_placeMarks 49 = .ok (.iload_n 1, 1) := by decide +kernel
theorem dX8_placeMarks_50 : decode cX8_placeMarks 50 = .ok (.idiv, 1) := by decide +kernel
theorem dX8_placeMarks_51 : decode cX8_placeMarks 51 = .ok (.istore 6, 2) := by decide +kernel
theorem dX8_placeMarks_53 : decode cX8_placeMarks 53 = .ok (.iconst 1, 1) := by decide +kernel
theorem dX8_placeMarks_54 : decode cX8_placeMarks 54 = .ok (.istore 7, 2) := by decide +kernel
theorem dX8_placeMarks_56 : decode cX8_placeMarks 56 = .ok (.iconst 0, 1) := by decide +kernel
theorem dX8_placeMarks_57 : decode cX8_placeMarks 57 = .ok (.istore 8, 2) := by decide +kernel
theorem dX8_placeMarks_59 : decode cX8_placeMarks 59 = .ok (.iload 8, 2) := by decide +kernel
theorem dX8_placeMarks_61 : decode cX8_placeMarks 61 = .ok (.aload_n 0, 1) := by decide +kernel
theorem dX8_placeMarks_62 : decode cX8_placeMarks 62 = .ok (.getfield 72, 3) := by decide +kernel
theorem dX8_placeMarks_65 : decode cX8_placeMarks 65 = .ok (.if_icmp .ge 72, 3) := by decide +kernel
theorem dX8_placeMarks_68 : decode cX8_placeMarks 68 = .ok (.iload_n 3, 1) := by decide +kernel
theorem dX8_placeMarks_69 : decode cX8_placeMarks 69 = .ok (.iload 6, 2) := by decide +kernel
theorem dX8_placeMarks_71 : decode cX8_placeMarks 71 = .ok (.idiv, 1) := by decide +kernel
theorem dX8_placeMarks_72 : decode cX8_placeMarks 72 = .ok (.iload_n 1, 1) := by decide +kernel
theorem dX8_placeMarks_73 : decode cX8_placeMarks 73 = .ok (.irem, 1) := by decide +kernel
theorem dX8_placeMarks_74 : decode cX8_placeMarks 74 = .ok (.istore 9, 2) := by decide +kernel
theorem dX8_placeMarks_76 : decode cX8_placeMarks 76 = .ok (.iload 7, 2) := by decide +kernel
theorem dX8_placeMarks_78 : decode cX8_placeMarks 78 = .ok (.ifCond .eq 14, 3) := by decide +kernel
theorem dX8_placeMarks_81 : decode cX8_placeMarks 81 = .ok (.iload 9, 2) := by decide +kernel
theorem dX8_placeMarks_83 : decode cX8_placeMarks 83 = .ok (.iload 5, 2) := by decide +kernel
theorem dX8_placeMarks_85 : decode cX8_placeMarks 85 = .ok (.if_icmp .lt 7, 3) := by decide +kernel
theorem dX8_placeMarks_88 : decode cX8_placeMarks 88 = .ok (.iconst 1, 1) := by decide +kernel
theorem dX8_placeMarks_89 : decode cX8_placeMarks 89 = .ok (.goto 4, 3) := by decide +kernel
theorem dX8_placeMarks_92 : decode cX8_placeMarks 92 = .ok (.iconst 0, 1) := by decide +kernel
theorem dX8_placeMarks_93 : decode cX8_placeMarks 93 = .ok (.istore 7, 2) := by decide +kernel
theorem dX8_placeMarks_95 : decode cX8_placeMarks 95 = .ok (.iload 9, 2) := by decide +kernel
theorem dX8_placeMarks_97 : decode cX8_placeMarks 97 = .ok (.istore 5, 2) := by decide +kernel
theorem dX8_placeMarks_99 : decode cX8_placeMarks 99 = .ok (.iload 4, 2) := by decide +kernel
theorem dX8_placeMarks_101 : decode cX8_placeMarks 101 = .ok (.iload 9, 2) := by decide +kernel
theorem dX8_placeMarks_103 : decode cX8_placeMarks 103 = .ok (.aload_n 0, 1) := by decide +kernel
theorem dX8_placeMarks_104 : decode cX8_placeMarks 104 = .ok (.aload_n 0, 1) := by decide +kernel
theorem dX8_placeMarks_105 : decode cX8_placeMarks 105 = .ok (.getfield 19, 3) := by decide +kernel
theorem dX8_placeMarks_108 : decode cX8_placeMarks 108 = .ok (.aload_n 0, 1) := by decide +kernel
theorem dX8_placeMarks_109 : decode cX8_placeMarks 109 = .ok (.getfield 22, 3) := by decide +kernel
theorem dX8_placeMarks_112 : decode cX8_placeMarks 112 = .ok (.iload 8, 2) := by decide +kernel
theorem dX8_placeMarks_114 : decode cX8_placeMarks 114 = .ok (.iaload, 1) := by decide +kernel
theorem dX8_placeMarks_115 : decode cX8_placeMarks 115 = .ok (.iaload, 1) := by decide +kernel
theorem dX8_placeMarks_116 : decode cX8_placeMarks 116 = .ok (.invokevirtual 85, 3) := by decide +kernel
theorem dX8_placeMarks_119 : decode cX8_placeMarks 119 = .ok (.invokestatic 94, 3) := by decide +kernel
theorem dX8_placeMarks_122 : decode cX8_placeMarks 122 = .ok (.iadd, 1) := by decide +kernel
theorem dX8_placeMarks_123 : decode cX8_placeMarks 123 = .ok (.istore 4, 2) := by decide +kernel
theorem dX8_placeMarks_125 : decode cX8_placeMarks 125 = .ok (.iload 6, 2) := by decide +kernel
theorem dX8_placeMarks_127 : decode cX8_placeMarks 127 = .ok (.iload_n 1, 1) := by decide +kernel
theorem dX8_placeMarks_128 : decode cX8_placeMarks 128 = .ok (.idiv, 1) := by decide +kernel
theorem dX8_placeMarks_129 : decode cX8_placeMarks 129 = .ok (.istore 6, 2) := by decide +kernel
theorem dX8_placeMarks_131 : decode cX8_placeMarks 131 = .ok (.iinc 8 1, 3) := by decide +kernel
theorem dX8_placeMarks_134 : decode cX8_placeMarks 134 = .ok (.goto (-75), 3) := by decide +kernel
theorem dX8_placeMarks_137 : decode cX8_placeMarks 137 = .ok (.iload 7, 2) := by decide +kernel
theorem dX8_placeMarks_139 : decode cX8_placeMarks 139 = .ok (.ifCond .eq 72, 3) := by decide +kernel
theorem dX8_placeMarks_142 : decode cX8_placeMarks 142 = .ok (.aload_n 0, 1) := by decide +kernel
theorem dX8_placeMarks_143 : decode cX8_placeMarks 143 = .ok (.getfield 144, 3) := by decide +kernel
theorem dX8_placeMarks_146 : decode cX8_placeMarks 146 = .ok (.ifCond .lt 12, 3) := by decide +kernel
theorem dX8_placeMarks_149 : decode cX8_placeMarks 149 = .ok (.iload 4, 2) := by decide +kernel
theorem dX8_placeMarks_151 : decode cX8_placeMarks 151 = .ok (.aload_n 0, 1) := by decide +kernel
theorem dX8_placeMarks_152 : decode cX8_placeMarks 152 = .ok (.getfield 144, 3) := by decide +kernel
theorem dX8_placeMarks_155 : decode cX8_placeMarks 155 = .ok (.if_icmp .ge 56, 3) := by decide +kernel
theorem dX8_placeMarks_158 : decode cX8_placeMarks 158 = .ok (.aload_n 0, 1) := by decide +kernel
theorem dX8_placeMarks_159 : decode cX8_placeMarks 159 = .ok (.iload 4, 2) := by decide +kernel
theorem dX8_placeMarks_161 : decode cX8_placeMarks 161 = .ok (.putfield 144, 3) := by decide +kernel
theorem dX8_placeMarks_164 : decode cX8_placeMarks 164 = .ok (.iload_n 2, 1) := by decide +kernel
theorem dX8_placeMarks_165 : decode cX8_placeMarks 165 = .ok (.iload_n 1, 1) := by decide +kernel
theorem dX8_placeMarks_166 : decode cX8_placeMarks 166 = .ok (.idiv, 1) := by decide +kernel
theorem dX8_placeMarks_167 : decode cX8_placeMarks 167 = .ok (.istore 6, 2) := by decide +kernel
theorem dX8_placeMarks_169 : decode cX8_placeMarks 169 = .ok (.iconst 0, 1) := by decide +kernel
theorem dX8_placeMarks_170 : decode cX8_placeMarks 170 = .ok (.istore 8, 2) := by decide +kernel
theorem dX8_placeMarks_172 : decode cX8_placeMarks 172 = .ok (.iload 8, 2) := by decide +kernel
theorem dX8_placeMarks_174 : decode cX8_placeMarks 174 = .ok (.aload_n 0, 1) := by decide +kernel
theorem dX8_placeMarks_175 : decode cX8_placeMarks 175 = .ok (.getfield 72, 3) := by decide +kernel
theorem dX8_placeMarks_178 : decode cX8_placeMarks 178 = .ok (.if_icmp .ge 33, 3) := by decide +kernel
theorem dX8_placeMarks_181 : decode cX8_placeMarks 181 = .ok (.aload_n 0, 1) := by decide +kernel
theorem dX8_placeMarks_182 : decode cX8_placeMarks 182 = .ok (.getfield 44, 3) := by decide +kernel
theorem dX8_placeMarks_185 : decode cX8_placeMarks 185 = .ok (.aload_n 0, 1) := by decide +kernel
theorem dX8_placeMarks_186 : decode cX8_placeMarks 186 = .ok (.getfield 22, 3) := by decide +kernel
theorem dX8_placeMarks_189 : decode cX8_placeMarks 189 = .ok (.iload 8, 2) := by decide +kernel
theorem dX8_placeMarks_191 : decode cX8_placeMarks 191 = .ok (.iaload, 1) := by decide +kernel
theorem dX8_placeMarks_192 : decode cX8_placeMarks 192 = .ok (.iload_n 3, 1) := by decide +kernel
theorem dX8_placeMarks_193 : decode cX8_placeMarks 193 = .ok (.iload 6, 2) := by decide +kernel
theorem dX8_placeMarks_195 : decode cX8_placeMarks 195 = .ok (.idiv, 1) := by decide +kernel
theorem dX8_placeMarks_196 : decode cX8_placeMarks 196 = .ok (.iload_n 1, 1) := by decide +kernel
theorem dX8_placeMarks_197 : decode cX8_placeMarks 197 = .ok (.irem, 1) := by decide +kernel
theorem dX8_placeMarks_198 : decode cX8_placeMarks 198 = .ok (.iastore, 1) := by decide +kernel
theorem dX8_placeMarks_199 : decode cX8_placeMarks 199 = .ok (.iload 6, 2) := by decide +kernel
theorem dX8_placeMarks_201 : decode cX8_placeMarks 201 = .ok (.iload_n 1, 1) := by decide +kernel
theorem dX8_placeMarks_202 : decode cX8_placeMarks 202 = .ok (.idiv, 1) := by decide +kernel
theorem dX8_placeMarks_203 : decode cX8_placeMarks 203 = .ok (.istore 6, 2) := by decide +kernel
theorem dX8_placeMarks_205 : decode cX8_placeMarks 205 = .ok (.iinc 8 1, 3) := by decide +kernel
theorem dX8_placeMarks_208 : decode cX8_placeMarks 208 = .ok (.goto (-36), 3) := by decide +kernel
theorem dX8_placeMarks_211 : decode cX8_placeMarks 211 = .ok (.iinc 3 1, 3) := by decide +kernel
theorem dX8_placeMarks_214 : decode cX8_placeMarks 214 = .ok (.goto (-177), 3) := by decide +kernel
theorem dX8_placeMarks_217 : decode cX8_placeMarks 217 = .ok (.return_, 1) := by decide +kernel
set_option maxRecDepth 20000 in
theorem ggX8_depth_X8_isThere : GoodIn wsX8_depth wsX8_isThere := goodIn_r _ [6, 7, 8, 9, 5, 10, 11, 12, 13, 14, 15, 16, 17, 18, 19, 20, 21, 22, 23, 24, 25, 26, 27, 28, 29, 30, 31, 32] (by decide +kernel) (by decide +kernel)
set_option maxRecDepth 20000 in
theorem gX8_depth_X8_isThere : GoodIn wsX8_depth (wsV RX8 125 RX8 yX8_isThere wsX8_isThere) := goodIn_app (goodIn_of _ (by decide +kernel)) ggX8_depth_X8_isThere
theorem dX8_depth_0 : decode cX8_depth 0 = .ok (.iconst 0, 1) := by decide +kernel
theorem dX8_depth_1 : decode cX8_depth 1 = .ok (.istore_n 2, 1) := by decide +kernel
theorem dX8_depth_2 : decode cX8_depth 2 = .ok (.iconst 0, 1) := by decide +kernel
theorem dX8_depth_3 : decode cX8_depth 3 = .ok (.istore_n 3, 1) := by decide +kernel
theorem dX8_depth_4 : decode cX8_depth 4 = .ok (.iload_n 3, 1) := by decide +kernel
theorem dX8_depth_5 : decode cX8_depth 5 = .ok (.iconst 5, 1) := by decide +kernel
theorem dX8_depth_6 : decode cX8_depth 6 = .ok (.if_icmp .ge 39, 3) := by decide +kernel
theorem dX8_depth_9 : decode cX8_depth 9 = .ok (.iload_n 2, 1) := by decide +kernel
theorem dX8_depth_10 : decode cX8_depth 10 = .ok (.aload_n 0, 1) := by decide +kernel
theorem dX8_depth_11 : decode cX8_depth 11 = .ok (.iload_n 3, 1) := by decide +kernel
theorem dX8_depth_12 : decode cX8_depth 12 = .ok (.invokevirtual 125, 3) := by decide +kernel
theorem dX8_depth_15 : decode cX8_depth 15 = .ok (.ifCond .eq 21, 3) := by decide +kernel
theorem dX8_depth_18 : decode cX8_depth 18 = .ok (.aload_n 0, 1) := by decide +kernel
theorem dX8_depth_19 : decode cX8_depth 19 = .ok (.getfield 16, 3) := by decide +kernel
theorem dX8_depth_22 : decode cX8_depth 22 = .ok (.iload_n 3, 1) := by decide +kernel
theorem dX8_depth_23 : decode cX8_depth 23 = .ok (.iaload, 1) := by decide +kernel
theorem dX8_depth_24 : decode cX8_depth 24 = .ok (.iload_n 1, 1) := by decide +kernel
theorem dX8_depth_25 : decode cX8_depth 25 = .ok (.ishr, 1) := by decide +kernel
theorem dX8_depth_26 : decode cX8_depth 26 = .ok (.iconst 1, 1) := by decide +kernel
theorem dX8_depth_27 : decode cX8_depth 27 = .ok (.iand, 1) := by decide +kernel
theorem dX8_depth_28 : decode cX8_depth 28 = .ok (.iconst 1, 1) := by decide +kernel
theorem dX8_depth_29 : decode cX8_depth 29 = .ok (.if_icmp .ne 7, 3) := by decide +kernel
theorem dX8_depth_32 : decode cX8_depth 32 = .ok (.iconst 1, 1) := by decide +kernel
theorem dX8_depth_33 : decode cX8_depth 33 = .ok (.goto 4, 3) := by decide +kernel
theorem dX8_depth_36 : decode cX8_depth 36 = .ok (.iconst 0, 1) := by decide +kernel
theorem dX8_depth_37 : decode cX8_depth 37 = .ok (.iadd, 1) := by decide +kernel
theorem dX8_depth_38 : decode cX8_depth 38 = .ok (.istore_n 2, 1) := by decide +kernel
theorem dX8_depth_39 : decode cX8_depth 39 = .ok (.iinc 3 1, 3) := by decide +kernel
theorem dX8_depth_42 : decode cX8_depth 42 = .ok (.goto (-38), 3) := by decide +kernel
theorem dX8_depth_45 : decode cX8_depth 45 = .ok (.iload_n 2, 1) := by decide +kernel
theorem dX8_depth_46 : decode cX8_depth 46 = .ok (.ireturn, 1) := by decide +kernel
set_option maxRecDepth 20000 in
theorem ggX8_pair_X8_isThere : GoodIn wsX8_pair wsX8_isThere := goodIn_r _ [10, 1, 11, 12, 9, 13, 89, 90, 91, 92, 93, 94, 95, 96, 97, 98, 99, 100, 101, 102, 103, 104, 105, 106, 107, 108, 109, 110] (by decide +kernel) (by decide +kernel)
set_option maxRecDepth 20000 in
theorem gX8_pair_X8_isThere : GoodIn wsX8_pair (wsV RX8 125 RX8 yX8_isThere wsX8_isThere) := goodIn_app (goodIn_of _ (by decide +kernel)) ggX8_pair_X8_isThere
set_option maxRecDepth 20000 in
theorem ggX8_pair_X8_in : GoodIn wsX8_pair wsX8_in := goodIn_r _ [13] (by decide +kernel) (by decide +kernel)
set_option maxRecDepth 20000 in
theorem gX8_pair_X8_in : GoodIn wsX8_pair (va_wsS RX8 57 yX8_in wsX8_in) := goodIn_app (goodIn_of _ (by decide +kernel)) ggX8_pair_X8_in
set_option maxRecDepth 20000 in
theorem ggX8_pair_X8_place : GoodIn wsX8_pair wsX8_place := goodIn_r _ [17, 18, 19, 20, 21, 22, 4, 5, 23, 24, 25, 9, 26, 6, 7, 8, 10, 1, 11, 12, 13, 27, 28, 29, 30, 31, 32, 33, 34, 35, 36, 37, 3, 38, 39, 40, 41, 42, 43, 44, 45, 46, 47, 48, 49, 50, 51, 52, 53, 54, 55, 56, 57, 58, 59, 60, 2, 61, 62, 63, 64, 65, 66, 67, 68, 69, 70, 71, 72, 73, 74, 75, 76, 77, 78, 79, 80, 81, 82, 83, 84, 89, 90, 91, 92, 93, 94, 95, 96, 97, 98, 99, 100, 101, 102, 103, 104, 105, 106, 107, 108, 109, 110] (by decide +kernel) (by decide +kernel)
set_option maxRecDepth 20000 in
theorem gX8_pair_X8_place : GoodIn wsX8_pair (wsV RX8 147 RX8 yX8_place wsX8_place) := goodIn_app (goodIn_of _ (by decide +kernel)) ggX8_pair_X8_place
set_option maxRecDepth 20000 in
theorem ggX8_pair_X8_depth : GoodIn wsX8_pair wsX8_depth := goodIn_r _ [88, 3, 6, 7, 8, 9, 10, 1, 11, 12, 13, 89, 90, 91, 92, 93, 94, 95, 96, 97, 98, 99, 100, 101, 102, 103, 104, 105, 106, 107, 108, 109, 110] (by decide +kernel) (by decide +kernel)
set_option maxRecDepth 20000 in
theorem gX8_pair_X8_depth : GoodIn wsX8_pair (wsV RX8 150 RX8 yX8_depth wsX8_depth) := goodIn_app (goodIn_of _ (by decide +kernel)) ggX8_pair_X8_depth
set_option maxRecDepth 20000 in
theorem ggX8_pair_X8_wantedFrom : GoodIn wsX8_pair wsX8_wantedFrom := goodIn_r _ [56, 1, 57, 58, 59, 9, 60, 2, 61, 62, 63, 64, 65, 18, 89, 90, 91, 92, 93, 94, 95, 96, 97, 98, 99, 100, 101, 102, 103, 104, 105, 106, 107, 108, 109, 110] (by decide +kernel) (by decide +kernel)
set_option maxRecDepth 20000 in
theorem gX8_pair_X8_wantedFrom : GoodIn wsX8_pair (wsV RX8 88 RX8 yX8_wantedFrom wsX8_wantedFrom) := goodIn_app (goodIn_of _ (by decide +kernel)) ggX8_pair_X8_wantedFrom
set_option maxRecDepth 20000 in
theorem ggX8_pair_X8_wantedTo : GoodIn wsX8_pair wsX8_wantedTo := goodIn_r _ [69, 1, 18, 57, 58, 59, 9, 60, 2, 61, 62, 63, 64, 65, 89, 90, 91, 92, 93, 94, 95, 96, 97, 98, 99, 100, 101, 102, 103, 104, 105, 106, 107, 108, 109, 110] (by decide +kernel) (by decide +kernel)
set_option maxRecDepth 20000 in
theorem gX8_pair_X8_wantedTo : GoodIn wsX8_pair (wsV RX8 91 RX8 yX8_wantedTo wsX8_wantedTo) := goodIn_app (goodIn_of _ (by decide +kernel)) ggX8_pair_X8_wantedTo
set_option maxRecDepth 20000 in
theorem ggX8_pair_X8_costOf : GoodIn wsX8_pair wsX8_costOf := goodIn_r _ [52, 53, 54, 55, 9, 56, 1, 57, 58, 59, 60, 2, 61, 62, 63, 64, 65, 18, 66, 67, 68, 69, 70, 71, 72, 73, 74, 75, 89, 90, 91, 92, 93, 94, 95, 96, 97, 98, 99, 100, 101, 102, 103, 104, 105, 106, 107, 108, 109, 110] (by decide +kernel) (by decide +kernel)
set_option maxRecDepth 20000 in
theorem gX8_pair_X8_costOf : GoodIn wsX8_pair (wsV RX8 101 RX8 yX8_costOf wsX8_costOf) := goodIn_app (goodIn_of _ (by decide +kernel)) ggX8_pair_X8_costOf
set_option maxRecDepth 20000 in
theorem ggX8_pair_X8_linksOf : GoodIn wsX8_pair wsX8_linksOf := goodIn_r _ [60, 1, 2, 61, 89, 90, 91, 92, 93, 94, 95, 96, 97, 98, 99, 100, 101, 102, 103, 104, 105, 106, 107, 108, 109, 110] (by decide +kernel) (by decide +kernel)
set_option maxRecDepth 20000 in
theorem gX8_pair_X8_linksOf : GoodIn wsX8_pair (wsV RX8 81 RX8 yX8_linksOf wsX8_linksOf) := goodIn_app (goodIn_of _ (by decide +kernel)) ggX8_pair_X8_linksOf
theorem dX8_pair_0 : decode cX8_pair 0 = .ok (.aload_n 0, 1) := by decide +kernel
theorem dX8_pair_1 : decode cX8_pair 1 = .ok (.iload_n 1, 1) := by decide +kernel
theorem dX8_pair_2 : decode cX8_pair 2 = .ok (.invokevirtual 125, 3) := by decide +kernel
theorem dX8_pair_5 : decode cX8_pair 5 = .ok (.ifCond .ne 5, 3) := by decide +kernel
theorem dX8_pair_8 : decode cX8_pair 8 = .ok (.iconst (-1), 1) := by decide +kernel
theorem dX8_pair_9 : decode cX8_pair 9 = .ok (.ireturn, 1) := by decide +kernel
theorem dX8_pair_10 : decode cX8_pair 10 = .ok (.iload_n 2, 1) := by decide +kernel
theorem dX8_pair_11 : decode cX8_pair 11 = .ok (.iconst 0, 1) := by decide +kernel
theorem dX8_pair_12 : decode cX8_pair 12 = .ok (.bipush 9, 2) := by decide +kernel
theorem dX8_pair_14 : decode cX8_pair 14 = .ok (.invokestatic 57, 3) := by decide +kernel
theorem dX8_pair_17 : decode cX8_pair 17 = .ok (.ifCond .ne 6, 3) := by decide +kernel
theorem dX8_pair_20 : decode cX8_pair 20 = .ok (.bipush (-2), 2) := by decide +kernel
theorem dX8_pair_22 : decode cX8_pair 22 = .ok (.ireturn, 1) := by decide +kernel
theorem dX8_pair_23 : decode cX8_pair 23 = .ok (.aload_n 0, 1) := by decide +kernel
theorem dX8_pair_24 : decode cX8_pair 24 = .ok (.invokevirtual 147, 3) := by decide +kernel
theorem dX8_pair_27 : decode cX8_pair 27 = .ok (.iload_n 2, 1) := by decide +kernel
theorem dX8_pair_28 : decode cX8_pair 28 = .ok (.tableswitch 123 0 8 #[52, 59, 66, 72, 79, 85, 91, 98, 105], 52) := by decide +kernel
theorem dX8_pair_80 : decode cX8_pair 80 = .ok (.aload_n 0, 1) := by decide +kernel
theorem dX8_pair_81 : decode cX8_pair 81 = .ok (.getfield 7, 3) := by decide +kernel
theorem dX8_pair_84 : decode cX8_pair 84 = .ok (.iload_n 1, 1) := by decide +kernel
theorem dX8_pair_85 : decode cX8_pair 85 = .ok (.iaload, 1) := by decide +kernel
theorem dX8_pair_86 : decode cX8_pair 86 = .ok (.ireturn, 1) := by decide +kernel
theorem dX8_pair_87 : decode cX8_pair 87 = .ok (.aload_n 0, 1) := by decide +kernel
theorem dX8_pair_88 : decode cX8_pair 88 = .ok (.getfield 13, 3) := by decide +kernel
theorem dX8_pair_91 : decode cX8_pair 91 = .ok (.iload_n 1, 1) := by decide +kernel
theorem dX8_pair_92 : decode cX8_pair 92 = .ok (.iaload, 1) := by decide +kernel
theorem dX8_pair_93 : decode cX8_pair 93 = .ok (.ireturn, 1) := by decide +kernel
theorem dX8_pair_94 : decode cX8_pair 94 = .ok (.aload_n 0, 1) := by decide +kernel
theorem dX8_pair_95 : decode cX8_pair 95 = .ok (.iload_n 1, 1) := by decide +kernel
theorem dX8_pair_96 : decode cX8_pair 96 = .ok (.invokevirtual 150, 3) := by decide +kernel
theorem dX8_pair_99 : decode cX8_pair 99 = .ok (.ireturn, 1) := by decide +kernel
theorem dX8_pair_100 : decode cX8_pair 100 = .ok (.aload_n 0, 1) := by decide +kernel
theorem dX8_pair_101 : decode cX8_pair 101 = .ok (.getfield 16, 3) := by decide +kernel
theorem dX8_pair_104 : decode cX8_pair 104 = .ok (.iload_n 1, 1) := by decide +kernel
theorem dX8_pair_105 : decode cX8_pair 105 = .ok (.iaload, 1) := by decide +kernel
theorem dX8_pair_106 : decode cX8_pair 106 = .ok (.ireturn, 1) := by decide +kernel
theorem dX8_pair_107 : decode cX8_pair 107 = .ok (.aload_n 0, 1) := by decide +kernel
theorem dX8_pair_108 : decode cX8_pair 108 = .ok (.iload_n 1, 1) := by decide +kernel
theorem dX8_pair_109 : decode cX8_pair 109 = .ok (.invokevirtual 88, 3) := by decide +kernel
theorem dX8_pair_112 : decode cX8_pair 112 = .ok (.ireturn, 1) := by decide +kernel
theorem dX8_pair_113 : decode cX8_pair 113 = .ok (.aload_n 0, 1) := by decide +kernel
theorem dX8_pair_114 : decode cX8_pair 114 = .ok (.iload_n 1, 1) := by decide +kernel
theorem dX8_pair_115 : decode cX8_pair 115 = .ok (.invokevirtual 91, 3) := by decide +kernel
theorem dX8_pair_118 : decode cX8_pair 118 = .ok (.ireturn, 1) := by decide +kernel
theorem dX8_pair_119 : decode cX8_pair 119 = .ok (.aload_n 0, 1) := by decide +kernel
theorem dX8_pair_120 : decode cX8_pair 120 = .ok (.getfield 38, 3) := by decide +kernel
theorem dX8_pair_123 : decode cX8_pair 123 = .ok (.iload_n 1, 1) := by decide +kernel
theorem dX8_pair_124 : decode cX8_pair 124 = .ok (.iaload, 1) := by decide +kernel
theorem dX8_pair_125 : decode cX8_pair 125 = .ok (.ireturn, 1) := by decide +kernel
theorem dX8_pair_126 : decode cX8_pair 126 = .ok (.aload_n 0, 1) := by decide +kernel
theorem dX8_pair_127 : decode cX8_pair 127 = .ok (.getfield 41, 3) := by decide +kernel
theorem dX8_pair_130 : decode cX8_pair 130 = .ok (.iload_n 1, 1) := by decide +kernel
theorem dX8_pair_131 : decode cX8_pair 131 = .ok (.iaload, 1) := by decide +kernel
end
section
theorem dX8_pair_132 : decode cX8_pair 132 = .ok (.ireturn, 1) := by decide +kernel
theorem dX8_pair_133 : decode cX8_pair 133 = .ok (.aload_n 0, 1) := by decide +kernel
theorem dX8_pair_134 : decode cX8_pair 134 = .ok (.iload_n 1, 1) := by decide +kernel
theorem dX8_pair_135 : decode cX8_pair 135 = .ok (.aload_n 0, 1) := by decide +kernel
theorem dX8_pair_136 : decode cX8_pair 136 = .ok (.getfield 38, 3) := by decide +kernel
theorem dX8_pair_139 : decode cX8_pair 139 = .ok (.iload_n 1, 1) := by decide +kernel
theorem dX8_pair_140 : decode cX8_pair 140 = .ok (.iaload, 1) := by decide +kernel
theorem dX8_pair_141 : decode cX8_pair 141 = .ok (.aload_n 0, 1) := by decide +kernel
theorem dX8_pair_142 : decode cX8_pair 142 = .ok (.getfield 41, 3) := by decide +kernel
theorem dX8_pair_145 : decode cX8_pair 145 = .ok (.iload_n 1, 1) := by decide +kernel
theorem dX8_pair_146 : decode cX8_pair 146 = .ok (.iaload, 1) := by decide +kernel
theorem dX8_pair_147 : decode cX8_pair 147 = .ok (.invokevirtual 101, 3) := by decide +kernel
theorem dX8_pair_150 : decode cX8_pair 150 = .ok (.ireturn, 1) := by decide +kernel
theorem dX8_pair_151 : decode cX8_pair 151 = .ok (.aload_n 0, 1) := by decide +kernel
theorem dX8_pair_152 : decode cX8_pair 152 = .ok (.iload_n 1, 1) := by decide +kernel
theorem dX8_pair_153 : decode cX8_pair 153 = .ok (.invokevirtual 81, 3) := by decide +kernel
theorem dX8_pair_156 : decode cX8_pair 156 = .ok (.ifCond .ne 7, 3) := by decide +kernel
theorem dX8_pair_159 : decode cX8_pair 159 = .ok (.iconst 1, 1) := by decide +kernel
theorem dX8_pair_160 : decode cX8_pair 160 = .ok (.goto 4, 3) := by decide +kernel
theorem dX8_pair_163 : decode cX8_pair 163 = .ok (.iconst 0, 1) := by decide +kernel
theorem dX8_pair_164 : decode cX8_pair 164 = .ok (.ireturn, 1) := by decide +kernel
set_option maxRecDepth 20000 in
theorem ggX8_mark_X8_in : GoodIn wsX8_mark wsX8_in := goodIn_r _ [6] (by decide +kernel) (by decide +kernel)
set_option maxRecDepth 20000 in
theorem gX8_mark_X8_in : GoodIn wsX8_mark (va_wsS RX8 57 yX8_in wsX8_in) := goodIn_app (goodIn_of _ (by decide +kernel)) ggX8_mark_X8_in
set_option maxRecDepth 20000 in
theorem ggX8_mark_X8_place : GoodIn wsX8_mark wsX8_place := goodIn_r _ [10, 11, 12, 13, 14, 15, 16, 17, 18, 19, 20, 5, 21, 22, 23, 24, 25, 26, 3, 4, 6, 27, 28, 29, 30, 31, 32, 33, 34, 35, 36, 37, 38, 39, 40, 41, 42, 43, 44, 45, 46, 47, 48, 49, 50, 51, 52, 53, 54, 55, 56, 57, 58, 59, 60, 61, 62, 63, 64, 65, 66, 67, 68, 69, 70, 71, 72, 73, 74, 75, 76, 77, 78, 79, 80, 81, 82, 83, 1, 84, 2, 85, 86, 87, 88, 89, 90, 91, 92, 93, 94, 95, 96, 97, 98, 99, 100, 101, 102, 103, 104, 105, 106] (by decide +kernel) (by decide +kernel)
set_option maxRecDepth 20000 in
theorem gX8_mark_X8_place : GoodIn wsX8_mark (wsV RX8 147 RX8 yX8_place wsX8_place) := goodIn_app (goodIn_of _ (by decide +kernel)) ggX8_mark_X8_place
set_option maxRecDepth 20000 in
theorem ggX8_mark_X8_anchor : GoodIn wsX8_mark wsX8_anchor := goodIn_r _ [67, 11, 63, 85, 86, 87, 88, 89, 90, 91, 92, 93, 94, 95, 96, 97, 98, 99, 100, 101, 102, 103, 104, 105, 106] (by decide +kernel) (by decide +kernel)
set_option maxRecDepth 20000 in
theorem gX8_mark_X8_anchor : GoodIn wsX8_mark (wsV RX8 85 RX8 yX8_anchor wsX8_anchor) := goodIn_app (goodIn_of _ (by decide +kernel)) ggX8_mark_X8_anchor
theorem dX8_mark_0 : decode cX8_mark 0 = .ok (.iload_n 1, 1) := by decide +kernel
theorem dX8_mark_1 : decode cX8_mark 1 = .ok (.iconst 0, 1) := by decide +kernel
theorem dX8_mark_2 : decode cX8_mark 2 = .ok (.iconst 2, 1) := by decide +kernel
theorem dX8_mark_3 : decode cX8_mark 3 = .ok (.invokestatic 57, 3) := by decide +kernel
theorem dX8_mark_6 : decode cX8_mark 6 = .ok (.ifCond .eq 12, 3) := by decide +kernel
theorem dX8_mark_9 : decode cX8_mark 9 = .ok (.aload_n 0, 1) := by decide +kernel
theorem dX8_mark_10 : decode cX8_mark 10 = .ok (.getfield 19, 3) := by decide +kernel
theorem dX8_mark_13 : decode cX8_mark 13 = .ok (.iload_n 1, 1) := by decide +kernel
theorem dX8_mark_14 : decode cX8_mark 14 = .ok (.iaload, 1) := by decide +kernel
theorem dX8_mark_15 : decode cX8_mark 15 = .ok (.ifCond .ge 5, 3) := by decide +kernel
theorem dX8_mark_18 : decode cX8_mark 18 = .ok (.iconst (-1), 1) := by decide +kernel
theorem dX8_mark_19 : decode cX8_mark 19 = .ok (.ireturn, 1) := by decide +kernel
theorem dX8_mark_20 : decode cX8_mark 20 = .ok (.iload_n 2, 1) := by decide +kernel
theorem dX8_mark_21 : decode cX8_mark 21 = .ok (.iconst 0, 1) := by decide +kernel
theorem dX8_mark_22 : decode cX8_mark 22 = .ok (.iconst 2, 1) := by decide +kernel
theorem dX8_mark_23 : decode cX8_mark 23 = .ok (.invokestatic 57, 3) := by decide +kernel
theorem dX8_mark_26 : decode cX8_mark 26 = .ok (.ifCond .ne 6, 3) := by decide +kernel
theorem dX8_mark_29 : decode cX8_mark 29 = .ok (.bipush (-2), 2) := by decide +kernel
theorem dX8_mark_31 : decode cX8_mark 31 = .ok (.ireturn, 1) := by decide +kernel
theorem dX8_mark_32 : decode cX8_mark 32 = .ok (.aload_n 0, 1) := by decide +kernel
theorem dX8_mark_33 : decode cX8_mark 33 = .ok (.invokevirtual 147, 3) := by decide +kernel
theorem dX8_mark_36 : decode cX8_mark 36 = .ok (.iload_n 2, 1) := by decide +kernel
theorem dX8_mark_37 : decode cX8_mark 37 = .ok (.ifCond .ne 12, 3) := by decide +kernel
theorem dX8_mark_40 : decode cX8_mark 40 = .ok (.aload_n 0, 1) := by decide +kernel
theorem dX8_mark_41 : decode cX8_mark 41 = .ok (.getfield 19, 3) := by decide +kernel
theorem dX8_mark_44 : decode cX8_mark 44 = .ok (.iload_n 1, 1) := by decide +kernel
theorem dX8_mark_45 : decode cX8_mark 45 = .ok (.iaload, 1) := by decide +kernel
theorem dX8_mark_46 : decode cX8_mark 46 = .ok (.goto 27, 3) := by decide +kernel
theorem dX8_mark_49 : decode cX8_mark 49 = .ok (.iload_n 2, 1) := by decide +kernel
theorem dX8_mark_50 : decode cX8_mark 50 = .ok (.iconst 1, 1) := by decide +kernel
theorem dX8_mark_51 : decode cX8_mark 51 = .ok (.if_icmp .ne 16, 3) := by decide +kernel
theorem dX8_mark_54 : decode cX8_mark 54 = .ok (.aload_n 0, 1) := by decide +kernel
theorem dX8_mark_55 : decode cX8_mark 55 = .ok (.aload_n 0, 1) := by decide +kernel
theorem dX8_mark_56 : decode cX8_mark 56 = .ok (.getfield 19, 3) := by decide +kernel
theorem dX8_mark_59 : decode cX8_mark 59 = .ok (.iload_n 1, 1) := by decide +kernel
theorem dX8_mark_60 : decode cX8_mark 60 = .ok (.iaload, 1) := by decide +kernel
theorem dX8_mark_61 : decode cX8_mark 61 = .ok (.invokevirtual 85, 3) := by decide +kernel
theorem dX8_mark_64 : decode cX8_mark 64 = .ok (.goto 9, 3) := by decide +kernel
theorem dX8_mark_67 : decode cX8_mark 67 = .ok (.aload_n 0, 1) := by decide +kernel
theorem dX8_mark_68 : decode cX8_mark 68 = .ok (.getfield 44, 3) := by decide +kernel
theorem dX8_mark_71 : decode cX8_mark 71 = .ok (.iload_n 1, 1) := by decide +kernel
theorem dX8_mark_72 : decode cX8_mark 72 = .ok (.iaload, 1) := by decide +kernel
theorem dX8_mark_73 : decode cX8_mark 73 = .ok (.ireturn, 1) := by decide +kernel
set_option maxRecDepth 20000 in
theorem ggX8_isCrossing_X8_wantedFrom : GoodIn wsX8_isCrossing wsX8_wantedFrom := goodIn_r _ [5, 6, 7, 8, 9, 4, 10, 11, 12, 13, 14, 15, 16, 17, 22, 23, 24, 25, 26, 27, 28, 29, 30, 31, 32, 33, 34, 35, 36, 37, 38, 39, 40, 41, 42, 43] (by decide +kernel) (by decide +kernel)
set_option maxRecDepth 20000 in
theorem gX8_isCrossing_X8_wantedFrom : GoodIn wsX8_isCrossing (wsV RX8 88 RX8 yX8_wantedFrom wsX8_wantedFrom) := goodIn_app (goodIn_of _ (by decide +kernel)) ggX8_isCrossing_X8_wantedFrom
set_option maxRecDepth 20000 in
theorem ggX8_isCrossing_X8_wantedTo : GoodIn wsX8_isCrossing wsX8_wantedTo := goodIn_r _ [21, 6, 17, 7, 8, 9, 4, 10, 11, 12, 13, 14, 15, 16, 22, 23, 24, 25, 26, 27, 28, 29, 30, 31, 32, 33, 34, 35, 36, 37, 38, 39, 40, 41, 42, 43] (by decide +kernel) (by decide +kernel)
set_option maxRecDepth 20000 in
theorem gX8_isCrossing_X8_wantedTo : GoodIn wsX8_isCrossing (wsV RX8 91 RX8 yX8_wantedTo wsX8_wantedTo) := goodIn_app (goodIn_of _ (by decide +kernel)) ggX8_isCrossing_X8_wantedTo
theorem dX8_isCrossing_0 : decode cX8_isCrossing 0 = .ok (.aload_n 0, 1) := by decide +kernel
theorem dX8_isCrossing_1 : decode cX8_isCrossing 1 = .ok (.iload_n 1, 1) := by decide +kernel
theorem dX8_isCrossing_2 : decode cX8_isCrossing 2 = .ok (.invokevirtual 88, 3) := by decide +kernel
theorem dX8_isCrossing_5 : decode cX8_isCrossing 5 = .ok (.istore_n 3, 1) := by decide +kernel
theorem dX8_isCrossing_6 : decode cX8_isCrossing 6 = .ok (.aload_n 0, 1) := by decide +kernel
theorem dX8_isCrossing_7 : decode cX8_isCrossing 7 = .ok (.iload_n 1, 1) := by decide +kernel
theorem dX8_isCrossing_8 : decode cX8_isCrossing 8 = .ok (.invokevirtual 91, 3) := by decide +kernel
theorem dX8_isCrossing_11 : decode cX8_isCrossing 11 = .ok (.istore 4, 2) := by decide +kernel
theorem dX8_isCrossing_13 : decode cX8_isCrossing 13 = .ok (.aload_n 0, 1) := by decide +kernel
theorem dX8_isCrossing_14 : decode cX8_isCrossing 14 = .ok (.iload_n 2, 1) := by decide +kernel
theorem dX8_isCrossing_15 : decode cX8_isCrossing 15 = .ok (.invokevirtual 88, 3) := by decide +kernel
theorem dX8_isCrossing_18 : decode cX8_isCrossing 18 = .ok (.istore 5, 2) := by decide +kernel
theorem dX8_isCrossing_20 : decode cX8_isCrossing 20 = .ok (.aload_n 0, 1) := by decide +kernel
theorem dX8_isCrossing_21 : decode cX8_isCrossing 21 = .ok (.iload_n 2, 1) := by decide +kernel
theorem dX8_isCrossing_22 : decode cX8_isCrossing 22 = .ok (.invokevirtual 91, 3) := by decide +kernel
theorem dX8_isCrossing_25 : decode cX8_isCrossing 25 = .ok (.istore 6, 2) := by decide +kernel
theorem dX8_isCrossing_27 : decode cX8_isCrossing 27 = .ok (.iload_n 3, 1) := by decide +kernel
theorem dX8_isCrossing_28 : decode cX8_isCrossing 28 = .ok (.iload 5, 2) := by decide +kernel
theorem dX8_isCrossing_30 : decode cX8_isCrossing 30 = .ok (.if_icmp .lt 10, 3) := by decide +kernel
theorem dX8_isCrossing_33 : decode cX8_isCrossing 33 = .ok (.iload 4, 2) := by decide +kernel
theorem dX8_isCrossing_35 : decode cX8_isCrossing 35 = .ok (.iload 6, 2) := by decide +kernel
theorem dX8_isCrossing_37 : decode cX8_isCrossing 37 = .ok (.if_icmp .le 16, 3) := by decide +kernel
theorem dX8_isCrossing_40 : decode cX8_isCrossing 40 = .ok (.iload 5, 2) := by decide +kernel
theorem dX8_isCrossing_42 : decode cX8_isCrossing 42 = .ok (.iload_n 3, 1) := by decide +kernel
theorem dX8_isCrossing_43 : decode cX8_isCrossing 43 = .ok (.if_icmp .lt 14, 3) := by decide +kernel
theorem dX8_isCrossing_46 : decode cX8_isCrossing 46 = .ok (.iload 6, 2) := by decide +kernel
theorem dX8_isCrossing_48 : decode cX8_isCrossing 48 = .ok (.iload 4, 2) := by decide +kernel
theorem dX8_isCrossing_50 : decode cX8_isCrossing 50 = .ok (.if_icmp .gt 7, 3) := by decide +kernel
theorem dX8_isCrossing_53 : decode cX8_isCrossing 53 = .ok (.iconst 1, 1) := by decide +kernel
theorem dX8_isCrossing_54 : decode cX8_isCrossing 54 = .ok (.goto 4, 3) := by decide +kernel
theorem dX8_isCrossing_57 : decode cX8_isCrossing 57 = .ok (.iconst 0, 1) := by decide +kernel
theorem dX8_isCrossing_58 : decode cX8_isCrossing 58 = .ok (.istore 7, 2) := by decide +kernel
theorem dX8_isCrossing_60 : decode cX8_isCrossing 60 = .ok (.iload 7, 2) := by decide +kernel
theorem dX8_isCrossing_62 : decode cX8_isCrossing 62 = .ok (.ifCond .ne 20, 3) := by decide +kernel
theorem dX8_isCrossing_65 : decode cX8_isCrossing 65 = .ok (.iload 4, 2) := by decide +kernel
theorem dX8_isCrossing_67 : decode cX8_isCrossing 67 = .ok (.iload 5, 2) := by decide +kernel
theorem dX8_isCrossing_69 : decode cX8_isCrossing 69 = .ok (.if_icmp .le 13, 3) := by decide +kernel
theorem dX8_isCrossing_72 : decode cX8_isCrossing 72 = .ok (.iload 6, 2) := by decide +kernel
theorem dX8_isCrossing_74 : decode cX8_isCrossing 74 = .ok (.iload_n 3, 1) := by decide +kernel
theorem dX8_isCrossing_75 : decode cX8_isCrossing 75 = .ok (.if_icmp .le 7, 3) := by decide +kernel
theorem dX8_isCrossing_78 : decode cX8_isCrossing 78 = .ok (.iconst 1, 1) := by decide +kernel
theorem dX8_isCrossing_79 : decode cX8_isCrossing 79 = .ok (.goto 4, 3) := by decide +kernel
theorem dX8_isCrossing_82 : decode cX8_isCrossing 82 = .ok (.iconst 0, 1) := by decide +kernel
theorem dX8_isCrossing_83 : decode cX8_isCrossing 83 = .ok (.ireturn, 1) := by decide +kernel
theorem dX8_bits_0 : decode cX8_bits 0 = .ok (.iconst 0, 1) := by decide +kernel
theorem dX8_bits_1 : decode cX8_bits 1 = .ok (.istore_n 1, 1) := by decide +kernel
theorem dX8_bits_2 : decode cX8_bits 2 = .ok (.iconst 0, 1) := by decide +kernel
theorem dX8_bits_3 : decode cX8_bits 3 = .ok (.istore_n 2, 1) := by decide +kernel
theorem dX8_bits_4 : decode cX8_bits 4 = .ok (.iload_n 2, 1) := by decide +kernel
theorem dX8_bits_5 : decode cX8_bits 5 = .ok (.bipush 12, 2) := by decide +kernel
theorem dX8_bits_7 : decode cX8_bits 7 = .ok (.if_icmp .ge 17, 3) := by decide +kernel
theorem dX8_bits_10 : decode cX8_bits 10 = .ok (.iload_n 1, 1) := by decide +kernel
theorem dX8_bits_11 : decode cX8_bits 11 = .ok (.iload_n 0, 1) := by decide +kernel
theorem dX8_bits_12 : decode cX8_bits 12 = .ok (.iload_n 2, 1) := by decide +kernel
theorem dX8_bits_13 : decode cX8_bits 13 = .ok (.ishr, 1) := by decide +kernel
theorem dX8_bits_14 : decode cX8_bits 14 = .ok (.iconst 1, 1) := by decide +kernel
theorem dX8_bits_15 : decode cX8_bits 15 = .ok (.iand, 1) := by decide +kernel
theorem dX8_bits_16 : decode cX8_bits 16 = .ok (.iadd, 1) := by decide +kernel
theorem dX8_bits_17 : decode cX8_bits 17 = .ok (.istore_n 1, 1) := by decide +kernel
theorem dX8_bits_18 : decode cX8_bits 18 = .ok (.iinc 2 1, 3) := by decide +kernel
theorem dX8_bits_21 : decode cX8_bits 21 = .ok (.goto (-17), 3) := by decide +kernel
theorem dX8_bits_24 : decode cX8_bits 24 = .ok (.iload_n 1, 1) := by decide +kernel
theorem dX8_bits_25 : decode cX8_bits 25 = .ok (.ireturn, 1) := by decide +kernel
set_option maxRecDepth 20000 in
theorem ggX8_total_X8_in : GoodIn wsX8_total wsX8_in := goodIn_r _ [11] (by decide +kernel) (by decide +kernel)
set_option maxRecDepth 20000 in
theorem gX8_total_X8_in : GoodIn wsX8_total (va_wsS RX8 57 yX8_in wsX8_in) := goodIn_app (goodIn_of _ (by decide +kernel)) ggX8_total_X8_in
set_option maxRecDepth 20000 in
theorem ggX8_total_X8_place : GoodIn wsX8_total wsX8_place := goodIn_r _ [15, 16, 17, 18, 1, 19, 20, 21, 22, 23, 24, 10, 25, 26, 27, 28, 29, 30, 8, 9, 11, 31, 32, 33, 34, 35, 36, 37, 38, 39, 40, 41, 7, 42, 43, 44, 45, 46, 47, 48, 49, 50, 51, 52, 53, 54, 55, 56, 57, 58, 59, 60, 61, 62, 63, 64, 65, 6, 66, 67, 68, 69, 70, 71, 72, 73, 74, 75, 76, 77, 78, 79, 80, 81, 82, 83, 3, 2, 84, 4, 85, 93, 94, 95, 96, 97, 98, 99, 100, 101, 102, 103, 104, 105, 106, 107, 108, 109, 110, 111, 112, 113, 114] (by decide +kernel) (by decide +kernel)
set_option maxRecDepth 20000 in
theorem gX8_total_X8_place : GoodIn wsX8_total (wsV RX8 147 RX8 yX8_place wsX8_place) := goodIn_app (goodIn_of _ (by decide +kernel)) ggX8_total_X8_place
set_option maxRecDepth 20000 in
theorem ggX8_total_X8_there : GoodIn wsX8_total wsX8_there := goodIn_r _ [25, 26, 27, 28, 10, 29, 30, 8, 9, 11, 93, 94, 95, 96, 97, 98, 99, 100, 101, 102, 103, 104, 105, 106, 107, 108, 109, 110, 111, 112, 113, 114] (by decide +kernel) (by decide +kernel)
set_option maxRecDepth 20000 in
theorem gX8_total_X8_there : GoodIn wsX8_total (wsV RX8 129 RX8 yX8_there wsX8_there) := goodIn_app (goodIn_of _ (by decide +kernel)) ggX8_total_X8_there
set_option maxRecDepth 20000 in
theorem ggX8_total_X8_isThere : GoodIn wsX8_total wsX8_isThere := goodIn_r _ [29, 30, 8, 9, 10, 11, 93, 94, 95, 96, 97, 98, 99, 100, 101, 102, 103, 104, 105, 106, 107, 108, 109, 110, 111, 112, 113, 114] (by decide +kernel) (by decide +kernel)
set_option maxRecDepth 20000 in
theorem gX8_total_X8_isThere : GoodIn wsX8_total (wsV RX8 125 RX8 yX8_isThere wsX8_isThere) := goodIn_app (goodIn_of _ (by decide +kernel)) ggX8_total_X8_isThere
set_option maxRecDepth 20000 in
theorem ggX8_total_X8_linksOf : GoodIn wsX8_total wsX8_linksOf := goodIn_r _ [64, 30, 65, 6, 93, 94, 95, 96, 97, 98, 99, 100, 101, 102, 103, 104, 105, 106, 107, 108, 109, 110, 111, 112, 113, 114] (by decide +kernel) (by decide +kernel)
set_option maxRecDepth 20000 in
theorem gX8_total_X8_linksOf : GoodIn wsX8_total (wsV RX8 81 RX8 yX8_linksOf wsX8_linksOf) := goodIn_app (goodIn_of _ (by decide +kernel)) ggX8_total_X8_linksOf
set_option maxRecDepth 20000 in
theorem ggX8_total_X8_bits : GoodIn wsX8_total wsX8_bits := goodIn_r _ [88] (by decide +kernel) (by decide +kernel)
set_option maxRecDepth 20000 in
theorem gX8_total_X8_bits : GoodIn wsX8_total (va_wsS RX8 153 yX8_bits wsX8_bits) := goodIn_app (goodIn_of _ (by decide +kernel)) ggX8_total_X8_bits
set_option maxRecDepth 20000 in
theorem ggX8_total_X8_isCrossing : GoodIn wsX8_total wsX8_isCrossing := goodIn_r _ [92, 57, 58, 59, 10, 60, 30, 61, 62, 63, 64, 65, 6, 66, 67, 68, 69, 16, 70, 71, 72, 73, 93, 94, 95, 96, 97, 98, 99, 100, 101, 102, 103, 104, 105, 106, 107, 108, 109, 110, 111, 112, 113, 114] (by decide +kernel) (by decide +kernel)
set_option maxRecDepth 20000 in
theorem gX8_total_X8_isCrossing : GoodIn wsX8_total (wsV RX8 156 RX8 yX8_isCrossing wsX8_isCrossing) := goodIn_app (goodIn_of _ (by decide +kernel)) ggX8_total_X8_isCrossing
theorem dX8_total_0 : decode cX8_total 0 = .ok (.iload_n 1, 1) := by decide +kernel
theorem dX8_total_1 : decode cX8_total 1 = .ok (.iconst 0, 1) := by decide +kernel
theorem dX8_total_2 : decode cX8_total 2 = .ok (.bipush 7, 2) := by decide +kernel
theorem dX8_total_4 : decode cX8_total 4 = .ok (.invokestatic 57, 3) := by decide +kernel
theorem dX8_total_7 : decode cX8_total 7 = .ok (.ifCond .ne 6, 3) := by decide +kernel
theorem dX8_total_10 : decode cX8_total 10 = .ok (.bipush (-2), 2) := by decide +kernel
theorem dX8_total_12 : decode cX8_total 12 = .ok (.ireturn, 1) := by decide +kernel
theorem dX8_total_13 : decode cX8_total 13 = .ok (.aload_n 0, 1) := by decide +kernel
theorem dX8_total_14 : decode cX8_total 14 = .ok (.invokevirtual 147, 3) := by decide +kernel
theorem dX8_total_17 : decode cX8_total 17 = .ok (.iconst 0, 1) := by decide +kernel
theorem dX8_total_18 : decode cX8_total 18 = .ok (.istore_n 2, 1) := by decide +kernel
theorem dX8_total_19 : decode cX8_total 19 = .ok (.iload_n 1, 1) := by decide +kernel
theorem dX8_total_20 : decode cX8_total 20 = .ok (.tableswitch 228 0 6 #[44, 53, 58, 63, 104, 133, 163], 44) := by decide +kernel
theorem dX8_total_64 : decode cX8_total 64 = .ok (.aload_n 0, 1) := by decide +kernel
theorem dX8_total_65 : decode cX8_total 65 = .ok (.getfield 135, 3) := by decide +kernel
theorem dX8_total_68 : decode cX8_total 68 = .ok (.bipush 40, 2) := by decide +kernel
theorem dX8_total_70 : decode cX8_total 70 = .ok (.lshr, 1) := by decide +kernel
theorem dX8_total_71 : decode cX8_total 71 = .ok (.l2i, 1) := by decide +kernel
theorem dX8_total_72 : decode cX8_total 72 = .ok (.ireturn, 1) := by decide +kernel
theorem dX8_total_73 : decode cX8_total 73 = .ok (.aload_n 0, 1) := by decide +kernel
theorem dX8_total_74 : decode cX8_total 74 = .ok (.getfield 144, 3) := by decide +kernel
theorem dX8_total_77 : decode cX8_total 77 = .ok (.ireturn, 1) := by decide +kernel
theorem dX8_total_78 : decode cX8_total 78 = .ok (.aload_n 0, 1) := by decide +kernel
theorem dX8_total_79 : decode cX8_total 79 = .ok (.invokevirtual 129, 3) := by decide +kernel
theorem dX8_total_82 : decode cX8_total 82 = .ok (.ireturn, 1) := by decide +kernel
theorem dX8_total_83 : decode cX8_total 83 = .ok (.iconst 0, 1) := by decide +kernel
theorem dX8_total_84 : decode cX8_total 84 = .ok (.istore_n 3, 1) := by decide +kernel
theorem dX8_total_85 : decode cX8_total 85 = .ok (.iload_n 3, 1) := by decide +kernel
theorem dX8_total_86 : decode cX8_total 86 = .ok (.iconst 5, 1) := by decide +kernel
theorem dX8_total_87 : decode cX8_total 87 = .ok (.if_icmp .ge 35, 3) := by decide +kernel
theorem dX8_total_90 : decode cX8_total 90 = .ok (.iload_n 2, 1) := by decide +kernel
theorem dX8_total_91 : decode cX8_total 91 = .ok (.aload_n 0, 1) := by decide +kernel
theorem dX8_total_92 : decode cX8_total 92 = .ok (.iload_n 3, 1) := by decide +kernel
theorem dX8_total_93 : decode cX8_total 93 = .ok (.invokevirtual 125, 3) := by decide +kernel
theorem dX8_total_96 : decode cX8_total 96 = .ok (.ifCond .eq 17, 3) := by decide +kernel
theorem dX8_total_99 : decode cX8_total 99 = .ok (.aload_n 0, 1) := by decide +kernel
theorem dX8_total_100 : decode cX8_total 100 = .ok (.iload_n 3, 1) := by decide +kernel
theorem dX8_total_101 : decode cX8_total 101 = .ok (.invokevirtual 81, 3) := by decide +kernel
theorem dX8_total_104 : decode cX8_total 104 = .ok (.ifCond .ne 9, 3) := by decide +kernel
theorem dX8_total_107 : decode cX8_total 107 = .ok (.iconst 1, 1) := by decide +kernel
theorem dX8_total_108 : decode cX8_total 108 = .ok (.iload_n 3, 1) := by decide +kernel
theorem dX8_total_109 : decode cX8_total 109 = .ok (.ishl, 1) := by decide +kernel
theorem dX8_total_110 : decode cX8_total 110 = .ok (.goto 4, 3) := by decide +kernel
theorem dX8_total_113 : decode cX8_total 113 = .ok (.iconst 0, 1) := by decide +kernel
theorem dX8_total_114 : decode cX8_total 114 = .ok (.ior, 1) := by decide +kernel
theorem dX8_total_115 : decode cX8_total 115 = .ok (.istore_n 2, 1) := by decide +kernel
theorem dX8_total_116 : decode cX8_total 116 = .ok (.iinc 3 1, 3) := by decide +kernel
theorem dX8_total_119 : decode cX8_total 119 = .ok (.goto (-34), 3) := by decide +kernel
theorem dX8_total_122 : decode cX8_total 122 = .ok (.iload_n 2, 1) := by decide +kernel
theorem dX8_total_123 : decode cX8_total 123 = .ok (.ireturn, 1) := by decide +kernel
theorem dX8_total_124 : decode cX8_total 124 = .ok (.iconst 0, 1) := by decide +kernel
theorem dX8_total_125 : decode cX8_total 125 = .ok (.istore_n 3, 1) := by decide +kernel
theorem dX8_total_126 : decode cX8_total 126 = .ok (.iload_n 3, 1) := by decide +kernel
theorem dX8_total_127 : decode cX8_total 127 = .ok (.aload_n 0, 1) := by decide +kernel
theorem dX8_total_128 : decode cX8_total 128 = .ok (.getfield 72, 3) := by decide +kernel
theorem dX8_total_131 : decode cX8_total 131 = .ok (.if_icmp .ge 20, 3) := by decide +kernel
theorem dX8_total_134 : decode cX8_total 134 = .ok (.iload_n 2, 1) := by decide +kernel
theorem dX8_total_135 : decode cX8_total 135 = .ok (.iconst 1, 1) := by decide +kernel
theorem dX8_total_136 : decode cX8_total 136 = .ok (.aload_n 0, 1) := by decide +kernel
theorem dX8_total_137 : decode cX8_total 137 = .ok (.getfield 22, 3) := by decide +kernel
theorem dX8_total_140 : decode cX8_total 140 = .ok (.iload_n 3, 1) := by decide +kernel
theorem dX8_total_141 : decode cX8_total 141 = .ok (.iaload, 1) := by decide +kernel
theorem dX8_total_142 : decode cX8_total 142 = .ok (.ishl, 1) := by decide +kernel
theorem dX8_total_143 : decode cX8_total 143 = .ok (.ior, 1) := by decide +kernel
theorem dX8_total_144 : decode cX8_total 144 = .ok (.istore_n 2, 1) := by decide +kernel
theorem dX8_total_145 : decode cX8_total 145 = .ok (.iinc 3 1, 3) := by decide +kernel
theorem dX8_total_148 : decode cX8_total 148 = .ok (.goto (-22), 3) := by decide +kernel
theorem dX8_total_151 : decode cX8_total 151 = .ok (.iload_n 2, 1) := by decide +kernel
theorem dX8_total_152 : decode cX8_total 152 = .ok (.ireturn, 1) := by decide +kernel
theorem dX8_total_153 : decode cX8_total 153 = .ok (.iconst 0, 1) := by decide +kernel
theorem dX8_total_154 : decode cX8_total 154 = .ok (.istore_n 3, 1) := by decide +kernel
theorem dX8_total_155 : decode cX8_total 155 = .ok (.iload_n 3, 1) := by decide +kernel
theorem dX8_total_156 : decode cX8_total 156 = .ok (.aload_n 0, 1) := by decide +kernel
theorem dX8_total_157 : decode cX8_total 157 = .ok (.getfield 69, 3) := by decide +kernel
theorem dX8_total_160 : decode cX8_total 160 = .ok (.if_icmp .ge 21, 3) := by decide +kernel
theorem dX8_total_163 : decode cX8_total 163 = .ok (.iload_n 2, 1) := by decide +kernel
theorem dX8_total_164 : decode cX8_total 164 = .ok (.aload_n 0, 1) := by decide +kernel
theorem dX8_total_165 : decode cX8_total 165 = .ok (.getfield 25, 3) := by decide +kernel
theorem dX8_total_168 : decode cX8_total 168 = .ok (.iload_n 3, 1) := by decide +kernel
theorem dX8_total_169 : decode cX8_total 169 = .ok (.iaload, 1) := by decide +kernel
theorem dX8_total_170 : decode cX8_total 170 = .ok (.invokestatic 153, 3) := by decide +kernel
theorem dX8_total_173 : decode cX8_total 173 = .ok (.iadd, 1) := by decide +kernel
theorem dX8_total_174 : decode cX8_total 174 = .ok (.istore_n 2, 1) := by decide +kernel
theorem dX8_total_175 : decode cX8_total 175 = .ok (.iinc 3 1, 3) := by decide +kernel
theorem dX8_total_178 : decode cX8_total 178 = .ok (.goto (-23), 3) := by decide +kernel
theorem dX8_total_181 : decode cX8_total 181 = .ok (.iload_n 2, 1) := by decide +kernel
theorem dX8_total_182 : decode cX8_total 182 = .ok (.ireturn, 1) := by decide +kernel
theorem dX8_total_183 : decode cX8_total 183 = .ok (.iconst 0, 1) := by decide +kernel
theorem dX8_total_184 : decode cX8_total 184 = .ok (.istore_n 3, 1) := by decide +kernel
theorem dX8_total_185 : decode cX8_total 185 = .ok (.iload_n 3, 1) := by decide +kernel
theorem dX8_total_186 : decode cX8_total 186 = .ok (.iconst 5, 1) := by decide +kernel
theorem dX8_total_187 : decode cX8_total 187 = .ok (.if_icmp .ge 59, 3) := by decide +kernel
theorem dX8_total_190 : decode cX8_total 190 = .ok (.iconst 0, 1) := by decide +kernel
theorem dX8_total_191 : decode cX8_total 191 = .ok (.istore 4, 2) := by decide +kernel
theorem dX8_total_193 : decode cX8_total 193 = .ok (.iload 4, 2) := by decide +kernel
theorem dX8_total_195 : decode cX8_total 195 = .ok (.iload_n 3, 1) := by decide +kernel
theorem dX8_total_196 : decode cX8_total 196 = .ok (.if_icmp .ge 44, 3) := by decide +kernel
theorem dX8_total_199 : decode cX8_total 199 = .ok (.iload_n 2, 1) := by decide +kernel
theorem dX8_total_200 : decode cX8_total 200 = .ok (.aload_n 0, 1) := by decide +kernel
theorem dX8_total_201 : decode cX8_total 201 = .ok (.iload_n 3, 1) := by decide +kernel
theorem dX8_total_202 : decode cX8_total 202 = .ok (.invokevirtual 125, 3) := by decide +kernel
theorem dX8_total_205 : decode cX8_total 205 = .ok (.ifCond .eq 26, 3) := by decide +kernel
theorem dX8_total_208 : decode cX8_total 208 = .ok (.aload_n 0, 1) := by decide +kernel
theorem dX8_total_209 : decode cX8_total 209 = .ok (.iload 4, 2) := by decide +kernel
theorem dX8_total_211 : decode cX8_total 211 = .ok (.invokevirtual 125, 3) := by decide +kernel
theorem dX8_total_214 : decode cX8_total 214 = .ok (.ifCond .eq 17, 3) := by decide +kernel
theorem dX8_total_217 : decode cX8_total 217 = .ok (.aload_n 0, 1) := by decide +kernel
theorem dX8_total_218 : decode cX8_total 218 = .ok (.iload_n 3, 1) := by decide +kernel
theorem dX8_total_219 : decode cX8_total 219 = .ok (.iload 4, 2) := by decide +kernel
theorem dX8_total_221 : decode cX8_total 221 = .ok (.invokevirtual 156, 3) := by decide +kernel
theorem dX8_total_224 : decode cX8_total 224 = .ok (.ifCond .eq 7, 3) := by decide +kernel
theorem dX8_total_227 : decode cX8_total 227 = .ok (.iconst 1, 1) := by decide +kernel
theorem dX8_total_228 : decode cX8_total 228 = .ok (.goto 4, 3) := by decide +kernel
theorem dX8_total_231 : decode cX8_total 231 = .ok (.iconst 0, 1) := by decide +kernel
theorem dX8_total_232 : decode cX8_total 232 = .ok (.iadd, 1) := by decide +kernel
theorem dX8_total_233 : decode cX8_total 233 = .ok (.istore_n 2, 1) := by decide +kernel
theorem dX8_total_234 : decode cX8_total 234 = .ok (.iinc 4 1, 3) := by decide +kernel
theorem dX8_total_237 : decode cX8_total 237 = .ok (.goto (-44), 3) := by decide +kernel
theorem dX8_total_240 : decode cX8_total 240 = .ok (.iinc 3 1, 3) := by decide +kernel
theorem dX8_total_243 : decode cX8_total 243 = .ok (.goto (-58), 3) := by decide +kernel
theorem dX8_total_246 : decode cX8_total 246 = .ok (.iload_n 2, 1) := by decide +kernel
theorem dX8_total_247 : decode cX8_total 247 = .ok (.ireturn, 1) := by decide +kernel
theorem dX8_total_248 : decode cX8_total 248 = .ok (.iconst 0, 1) := by decide +kernel
theorem dX8_total_249 : decode cX8_total 249 = .ok (.istore_n 3, 1) := by decide +kernel
theorem dX8_total_250 : decode cX8_total 250 = .ok (.iload_n 3, 1) := by decide +kernel
theorem dX8_total_251 : decode cX8_total 251 = .ok (.iconst 5, 1) := by decide +kernel
theorem dX8_total_252 : decode cX8_total 252 = .ok (.if_icmp .ge 33, 3) := by decide +kernel
theorem dX8_total_255 : decode cX8_total 255 = .ok (.iload_n 2, 1) := by decide +kernel
theorem dX8_total_256 : decode cX8_total 256 = .ok (.aload_n 0, 1) := by decide +kernel
theorem dX8_total_257 : decode cX8_total 257 = .ok (.iload_n 3, 1) := by decide +kernel
theorem dX8_total_258 : decode cX8_total 258 = .ok (.invokevirtual 125, 3) := by decide +kernel
theorem dX8_total_261 : decode cX8_total 261 = .ok (.ifCond .eq 15, 3) := by decide +kernel
theorem dX8_total_264 : decode cX8_total 264 = .ok (.aload_n 0, 1) := by decide +kernel
theorem dX8_total_265 : decode cX8_total 265 = .ok (.getfield 16, 3) := by decide +kernel
theorem dX8_total_268 : decode cX8_total 268 = .ok (.iload_n 3, 1) := by decide +kernel
theorem dX8_total_269 : decode cX8_total 269 = .ok (.iaload, 1) := by decide +kernel
theorem dX8_total_270 : decode cX8_total 270 = .ok (.invokestatic 153, 3) := by decide +kernel
theorem dX8_total_273 : decode cX8_total 273 = .ok (.goto 4, 3) := by decide +kernel
theorem dX8_total_276 : decode cX8_total 276 = .ok (.iconst 0, 1) := by decide +kernel
theorem dX8_total_277 : decode cX8_total 277 = .ok (.iadd, 1) := by decide +kernel
theorem dX8_total_278 : decode cX8_total 278 = .ok (.istore_n 2, 1) := by decide +kernel
theorem dX8_total_279 : decode cX8_total 279 = .ok (.iinc 3 1, 3) := by decide +kernel
theorem dX8_total_282 : decode cX8_total 282 = .ok (.goto (-32), 3) := by decide +kernel
theorem dX8_total_285 : decode cX8_total 285 = .ok (.iload_n 2, 1) := by decide +kernel
theorem dX8_total_286 : decode cX8_total 286 = .ok (.ireturn, 1) := by decide +kernel
theorem dX8_write_0 : decode cX8_write 0 = .ok (.aload_n 0, 1) := by decide +kernel
theorem dX8_write_1 : decode cX8_write 1 = .ok (.getfield 47, 3) := by decide +kernel
theorem dX8_write_4 : decode cX8_write 4 = .ok (.aload_n 0, 1) := by decide +kernel
theorem dX8_write_5 : decode cX8_write 5 = .ok (.getfield 159, 3) := by decide +kernel
theorem dX8_write_8 : decode cX8_write 8 = .ok (.iload_n 1, 1) := by decide +kernel
theorem dX8_write_9 : decode cX8_write 9 = .ok (.iastore, 1) := by decide +kernel
theorem dX8_write_10 : decode cX8_write 10 = .ok (.aload_n 0, 1) := by decide +kernel
theorem dX8_write_11 : decode cX8_write 11 = .ok (.dup, 1) := by decide +kernel
theorem dX8_write_12 : decode cX8_write 12 = .ok (.getfield 159, 3) := by decide +kernel
theorem dX8_write_15 : decode cX8_write 15 = .ok (.iconst 1, 1) := by decide +kernel
theorem dX8_write_16 : decode cX8_write 16 = .ok (.iadd, 1) := by decide +kernel
theorem dX8_write_17 : decode cX8_write 17 = .ok (.putfield 159, 3) := by decide +kernel
theorem dX8_write_20 : decode cX8_write 20 = .ok (.return_, 1) := by decide +kernel
set_option maxRecDepth 20000 in
theorem ggX8_writeClosed_X8_isThere : GoodIn wsX8_writeClosed wsX8_isThere := goodIn_r _ [7, 8, 9, 10, 6, 11, 23, 24, 25, 26, 27, 28, 29, 30, 31, 32, 33, 34, 35, 36, 37, 38, 39, 40, 41, 42, 43, 44] (by decide +kernel) (by decide +kernel)
set_option maxRecDepth 20000 in
theorem gX8_writeClosed_X8_isThere : GoodIn wsX8_writeClosed (wsV RX8 125 RX8 yX8_isThere wsX8_isThere) := goodIn_app (goodIn_of _ (by decide +kernel)) ggX8_writeClosed_X8_isThere
set_option maxRecDepth 20000 in
theorem ggX8_writeClosed_X8_depth : GoodIn wsX8_writeClosed wsX8_depth := goodIn_r _ [15, 16, 3, 4, 5, 6, 7, 8, 9, 10, 11, 23, 24, 25, 26, 27, 28, 29, 30, 31, 32, 33, 34, 35, 36, 37, 38, 39, 40, 41, 42, 43, 44] (by decide +kernel) (by decide +kernel)
set_option maxRecDepth 20000 in
theorem gX8_writeClosed_X8_depth : GoodIn wsX8_writeClosed (wsV RX8 150 RX8 yX8_depth wsX8_depth) := goodIn_app (goodIn_of _ (by decide +kernel)) ggX8_writeClosed_X8_depth
set_option maxRecDepth 20000 in
theorem ggX8_writeClosed_X8_write : GoodIn wsX8_writeClosed wsX8_write := goodIn_r _ [20, 21, 22, 23, 24, 25, 26, 27, 28, 29, 30, 31, 32, 33, 34, 35, 36, 37, 38, 39, 40, 41, 42, 43, 44] (by decide +kernel) (by decide +kernel)
set_option maxRecDepth 20000 in
theorem gX8_writeClosed_X8_write : GoodIn wsX8_writeClosed (wsV RX8 162 RX8 yX8_write wsX8_write) := goodIn_app (goodIn_of _ (by decide +kernel)) ggX8_writeClosed_X8_write
theorem dX8_writeClosed_0 : decode cX8_writeClosed 0 = .ok (.iconst 0, 1) := by decide +kernel
theorem dX8_writeClosed_1 : decode cX8_writeClosed 1 = .ok (.istore_n 2, 1) := by decide +kernel
theorem dX8_writeClosed_2 : decode cX8_writeClosed 2 = .ok (.iconst 1, 1) := by decide +kernel
theorem dX8_writeClosed_3 : decode cX8_writeClosed 3 = .ok (.istore_n 3, 1) := by decide +kernel
theorem dX8_writeClosed_4 : decode cX8_writeClosed 4 = .ok (.iload_n 3, 1) := by decide +kernel
theorem dX8_writeClosed_5 : decode cX8_writeClosed 5 = .ok (.ifCond .eq 171, 3) := by decide +kernel
theorem dX8_writeClosed_8 : decode cX8_writeClosed 8 = .ok (.bipush (-6), 2) := by decide +kernel
theorem dX8_writeClosed_10 : decode cX8_writeClosed 10 = .ok (.istore 4, 2) := by decide +kernel
theorem dX8_writeClosed_12 : decode cX8_writeClosed 12 = .ok (.iconst 0, 1) := by decide +kernel
theorem dX8_writeClosed_13 : decode cX8_writeClosed 13 = .ok (.istore 5, 2) := by decide +kernel
theorem dX8_writeClosed_15 : decode cX8_writeClosed 15 = .ok (.iload 5, 2) := by decide +kernel
theorem dX8_writeClosed_17 : decode cX8_writeClosed 17 = .ok (.iconst 5, 1) := by decide +kernel
theorem dX8_writeClosed_18 : decode cX8_writeClosed 18 = .ok (.if_icmp .ge 124, 3) := by decide +kernel
theorem dX8_writeClosed_21 : decode cX8_writeClosed 21 = .ok (.aload_n 0, 1) := by decide +kernel
theorem dX8_writeClosed_22 : decode cX8_writeClosed 22 = .ok (.iload 5, 2) := by decide +kernel
theorem dX8_writeClosed_24 : decode cX8_writeClosed 24 = .ok (.invokevirtual 125, 3) := by decide +kernel
theorem dX8_writeClosed_27 : decode cX8_writeClosed 27 = .ok (.ifCond .eq 109, 3) := by decide +kernel
theorem dX8_writeClosed_30 : decode cX8_writeClosed 30 = .ok (.iload_n 2, 1) := by decide +kernel
theorem dX8_writeClosed_31 : decode cX8_writeClosed 31 = .ok (.iload 5, 2) := by decide +kernel
theorem dX8_writeClosed_33 : decode cX8_writeClosed 33 = .ok (.ishr, 1) := by decide +kernel
theorem dX8_writeClosed_34 : decode cX8_writeClosed 34 = .ok (.iconst 1, 1) := by decide +kernel
theorem dX8_writeClosed_35 : decode cX8_writeClosed 35 = .ok (.iand, 1) := by decide +kernel
theorem dX8_writeClosed_36 : decode cX8_writeClosed 36 = .ok (.ifCond .ne 100, 3) := by decide +kernel
theorem dX8_writeClosed_39 : decode cX8_writeClosed 39 = .ok (.aload_n 0, 1) := by decide +kernel
theorem dX8_writeClosed_40 : decode cX8_writeClosed 40 = .ok (.getfield 41, 3) := by decide +kernel
theorem dX8_writeClosed_43 : decode cX8_writeClosed 43 = .ok (.iload 5, 2) := by decide +kernel
theorem dX8_writeClosed_45 : decode cX8_writeClosed 45 = .ok (.iaload, 1) := by decide +kernel
theorem dX8_writeClosed_46 : decode cX8_writeClosed 46 = .ok (.iload_n 1, 1) := by decide +kernel
theorem dX8_writeClosed_47 : decode cX8_writeClosed 47 = .ok (.if_icmp .ne 89, 3) := by decide +kernel
theorem dX8_writeClosed_50 : decode cX8_writeClosed 50 = .ok (.aload_n 0, 1) := by decide +kernel
theorem dX8_writeClosed_51 : decode cX8_writeClosed 51 = .ok (.getfield 38, 3) := by decide +kernel
theorem dX8_writeClosed_54 : decode cX8_writeClosed 54 = .ok (.iload 5, 2) := by decide +kernel
theorem dX8_writeClosed_56 : decode cX8_writeClosed 56 = .ok (.iaload, 1) := by decide +kernel
theorem dX8_writeClosed_57 : decode cX8_writeClosed 57 = .ok (.iload_n 1, 1) := by decide +kernel
theorem dX8_writeClosed_58 : decode cX8_writeClosed 58 = .ok (.if_icmp .ge 78, 3) := by decide +kernel
theorem dX8_writeClosed_61 : decode cX8_writeClosed 61 = .ok (.iload 4, 2) := by decide +kernel
theorem dX8_writeClosed_63 : decode cX8_writeClosed 63 = .ok (.ifCond .lt 52, 3) := by decide +kernel
theorem dX8_writeClosed_66 : decode cX8_writeClosed 66 = .ok (.aload_n 0, 1) := by decide +kernel
theorem dX8_writeClosed_67 : decode cX8_writeClosed 67 = .ok (.getfield 38, 3) := by decide +kernel
theorem dX8_writeClosed_70 : decode cX8_writeClosed 70 = .ok (.iload 5, 2) := by decide +kernel
theorem dX8_writeClosed_72 : decode cX8_writeClosed 72 = .ok (.iaload, 1) := by decide +kernel
theorem dX8_writeClosed_73 : decode cX8_writeClosed 73 = .ok (.aload_n 0, 1) := by decide +kernel
theorem dX8_writeClosed_74 : decode cX8_writeClosed 74 = .ok (.getfield 38, 3) := by decide +kernel
theorem dX8_writeClosed_77 : decode cX8_writeClosed 77 = .ok (.iload 4, 2) := by decide +kernel
theorem dX8_writeClosed_79 : decode cX8_writeClosed 79 = .ok (.iaload, 1) := by decide +kernel
theorem dX8_writeClosed_80 : decode cX8_writeClosed 80 = .ok (.if_icmp .gt 35, 3) := by decide +kernel
theorem dX8_writeClosed_83 : decode cX8_writeClosed 83 = .ok (.aload_n 0, 1) := by decide +kernel
theorem dX8_writeClosed_84 : decode cX8_writeClosed 84 = .ok (.getfield 38, 3) := by decide +kernel
theorem dX8_writeClosed_87 : decode cX8_writeClosed 87 = .ok (.iload 5, 2) := by decide +kernel
theorem dX8_writeClosed_89 : decode cX8_writeClosed 89 = .ok (.iaload, 1) := by decide +kernel
theorem dX8_writeClosed_90 : decode cX8_writeClosed 90 = .ok (.aload_n 0, 1) := by decide +kernel
theorem dX8_writeClosed_91 : decode cX8_writeClosed 91 = .ok (.getfield 38, 3) := by decide +kernel
theorem dX8_writeClosed_94 : decode cX8_writeClosed 94 = .ok (.iload 4, 2) := by decide +kernel
theorem dX8_writeClosed_96 : decode cX8_writeClosed 96 = .ok (.iaload, 1) := by decide +kernel
theorem dX8_writeClosed_97 : decode cX8_writeClosed 97 = .ok (.if_icmp .ne 22, 3) := by decide +kernel
theorem dX8_writeClosed_100 : decode cX8_writeClosed 100 = .ok (.aload_n 0, 1) := by decide +kernel
theorem dX8_writeClosed_101 : decode cX8_writeClosed 101 = .ok (.iload 5, 2) := by decide +kernel
theorem dX8_writeClosed_103 : decode cX8_writeClosed 103 = .ok (.invokevirtual 150, 3) := by decide +kernel
theorem dX8_writeClosed_106 : decode cX8_writeClosed 106 = .ok (.aload_n 0, 1) := by decide +kernel
theorem dX8_writeClosed_107 : decode cX8_writeClosed 107 = .ok (.iload 4, 2) := by decide +kernel
theorem dX8_writeClosed_109 : decode cX8_writeClosed 109 = .ok (.invokevirtual 150, 3) := by decide +kernel
theorem dX8_writeClosed_112 : decode cX8_writeClosed 112 = .ok (.if_icmp .lt 7, 3) := by decide +kernel
theorem dX8_writeClosed_115 : decode cX8_writeClosed 115 = .ok (.iconst 1, 1) := by decide +kernel
theorem dX8_writeClosed_116 : decode cX8_writeClosed 116 = .ok (.goto 4, 3) := by decide +kernel
theorem dX8_writeClosed_119 : decode cX8_writeClosed 119 = .ok (.iconst 0, 1) := by decide +kernel
theorem dX8_writeClosed_120 : decode cX8_writeClosed 120 = .ok (.istore 6, 2) := by decide +kernel
theorem dX8_writeClosed_122 : decode cX8_writeClosed 122 = .ok (.iload 6, 2) := by decide +kernel
theorem dX8_writeClosed_124 : decode cX8_writeClosed 124 = .ok (.ifCond .eq 8, 3) := by decide +kernel
theorem dX8_writeClosed_127 : decode cX8_writeClosed 127 = .ok (.iload 5, 2) := by decide +kernel
theorem dX8_writeClosed_129 : decode cX8_writeClosed 129 = .ok (.goto 5, 3) := by decide +kernel
theorem dX8_writeClosed_132 : decode cX8_writeClosed 132 = .ok (.iload 4, 2) := by decide +kernel
theorem dX8_writeClosed_134 : decode cX8_writeClosed 134 = .ok (.istore 4, 2) := by decide +kernel
theorem dX8_writeClosed_136 : decode cX8_writeClosed 136 = .ok (.iinc 5 1, 3) := by decide +kernel
theorem dX8_writeClosed_139 : decode cX8_writeClosed 139 = .ok (.goto (-124), 3) := by decide +kernel
theorem dX8_writeClosed_142 : decode cX8_writeClosed 142 = .ok (.iload 4, 2) := by decide +kernel
theorem dX8_writeClosed_144 : decode cX8_writeClosed 144 = .ok (.ifCond .lt 7, 3) := by decide +kernel
theorem dX8_writeClosed_147 : decode cX8_writeClosed 147 = .ok (.iconst 1, 1) := by decide +kernel
theorem dX8_writeClosed_148 : decode cX8_writeClosed 148 = .ok (.goto 4, 3) := by decide +kernel
theorem dX8_writeClosed_151 : decode cX8_writeClosed 151 = .ok (.iconst 0, 1) := by decide +kernel
theorem dX8_writeClosed_152 : decode cX8_writeClosed 152 = .ok (.istore_n 3, 1) := by decide +kernel
theorem dX8_writeClosed_153 : decode cX8_writeClosed 153 = .ok (.iload_n 3, 1) := by decide +kernel
theorem dX8_writeClosed_154 : decode cX8_writeClosed 154 = .ok (.ifCond .eq 19, 3) := by decide +kernel
theorem dX8_writeClosed_157 : decode cX8_writeClosed 157 = .ok (.iload_n 2, 1) := by decide +kernel
theorem dX8_writeClosed_158 : decode cX8_writeClosed 158 = .ok (.iconst 1, 1) := by decide +kernel
theorem dX8_writeClosed_159 : decode cX8_writeClosed 159 = .ok (.iload 4, 2) := by decide +kernel
theorem dX8_writeClosed_161 : decode cX8_writeClosed 161 = .ok (.ishl, 1) := by decide +kernel
theorem dX8_writeClosed_162 : decode cX8_writeClosed 162 = .ok (.ior, 1) := by decide +kernel
theorem dX8_writeClosed_163 : decode cX8_writeClosed 163 = .ok (.istore_n 2, 1) := by decide +kernel
theorem dX8_writeClosed_164 : decode cX8_writeClosed 164 = .ok (.aload_n 0, 1) := by decide +kernel
theorem dX8_writeClosed_165 : decode cX8_writeClosed 165 = .ok (.bipush 97, 2) := by decide +kernel
theorem dX8_writeClosed_167 : decode cX8_writeClosed 167 = .ok (.iload 4, 2) := by decide +kernel
theorem dX8_writeClosed_169 : decode cX8_writeClosed 169 = .ok (.iadd, 1) := by decide +kernel
theorem dX8_writeClosed_170 : decode cX8_writeClosed 170 = .ok (.invokevirtual 162, 3) := by decide +kernel
theorem dX8_writeClosed_173 : decode cX8_writeClosed 173 = .ok (.goto (-169), 3) := by decide +kernel
theorem dX8_writeClosed_176 : decode cX8_writeClosed 176 = .ok (.return_, 1) := by decide +kernel
set_option maxRecDepth 20000 in
theorem ggX8_writeOpened_X8_isThere : GoodIn wsX8_writeOpened wsX8_isThere := goodIn_r _ [7, 8, 9, 10, 6, 11, 23, 24, 25, 26, 27, 28, 29, 30, 31, 32, 33, 34, 35, 36, 37, 38, 39, 40, 41, 42, 43, 44] (by decide +kernel) (by decide +kernel)
set_option maxRecDepth 20000 in
theorem gX8_writeOpened_X8_isThere : GoodIn wsX8_writeOpened (wsV RX8 125 RX8 yX8_isThere wsX8_isThere) := goodIn_app (goodIn_of _ (by decide +kernel)) ggX8_writeOpened_X8_isThere
set_option maxRecDepth 20000 in
theorem ggX8_writeOpened_X8_depth : GoodIn wsX8_writeOpened wsX8_depth := goodIn_r _ [15, 16, 3, 4, 5, 6, 7, 8, 9, 10, 11, 23, 24, 25, 26, 27, 28, 29, 30, 31, 32, 33, 34, 35, 36, 37, 38, 39, 40, 41, 42, 43, 44] (by decide +kernel) (by decide +kernel)
set_option maxRecDepth 20000 in
theorem gX8_writeOpened_X8_depth : GoodIn wsX8_writeOpened (wsV RX8 150 RX8 yX8_depth wsX8_depth) := goodIn_app (goodIn_of _ (by decide +kernel)) ggX8_writeOpened_X8_depth
set_option maxRecDepth 20000 in
theorem ggX8_writeOpened_X8_write : GoodIn wsX8_writeOpened wsX8_write := goodIn_r _ [20, 21, 22, 23, 24, 25, 26, 27, 28, 29, 30, 31, 32, 33, 34, 35, 36, 37, 38, 39, 40, 41, 42, 43, 44] (by decide +kernel) (by decide +kernel)
set_option maxRecDepth 20000 in
theorem gX8_writeOpened_X8_write : GoodIn wsX8_writeOpened (wsV RX8 162 RX8 yX8_write wsX8_write) := goodIn_app (goodIn_of _ (by decide +kernel)) ggX8_writeOpened_X8_write
theorem dX8_writeOpened_0 : decode cX8_writeOpened 0 = .ok (.iconst 0, 1) := by decide +kernel
theorem dX8_writeOpened_1 : decode cX8_writeOpened 1 = .ok (.istore_n 2, 1) := by decide +kernel
theorem dX8_writeOpened_2 : decode cX8_writeOpened 2 = .ok (.iconst 1, 1) := by decide +kernel
theorem dX8_writeOpened_3 : decode cX8_writeOpened 3 = .ok (.istore_n 3, 1) := by decide +kernel
theorem dX8_writeOpened_4 : decode cX8_writeOpened 4 = .ok (.iload_n 3, 1) := by decide +kernel
theorem dX8_writeOpened_5 : decode cX8_writeOpened 5 = .ok (.ifCond .eq 171, 3) := by decide +kernel
theorem dX8_writeOpened_8 : decode cX8_writeOpened 8 = .ok (.bipush (-6), 2) := by decide +kernel
theorem dX8_writeOpened_10 : decode cX8_writeOpened 10 = .ok (.istore 4, 2) := by decide +kernel
theorem dX8_writeOpened_12 : decode cX8_writeOpened 12 = .ok (.iconst 0, 1) := by decide +kernel
theorem dX8_writeOpened_13 : decode cX8_writeOpened 13 = .ok (.istore 5, 2) := by decide +kernel
theorem dX8_writeOpened_15 : decode cX8_writeOpened 15 = .ok (.iload 5, 2) := by decide +kernel
theorem dX8_writeOpened_17 : decode cX8_writeOpened 17 = .ok (.iconst 5, 1) := by decide +kernel
theorem dX8_writeOpened_18 : decode cX8_writeOpened 18 = .ok (.if_icmp .ge 124, 3) := by decide +kernel
theorem dX8_writeOpened_21 : decode cX8_writeOpened 21 = .ok (.aload_n 0, 1) := by decide +kernel
theorem dX8_writeOpened_22 : decode cX8_writeOpened 22 = .ok (.iload 5, 2) := by decide +kernel
theorem dX8_writeOpened_24 : decode cX8_writeOpened 24 = .ok (.invokevirtual 125, 3) := by decide +kernel
theorem dX8_writeOpened_27 : decode cX8_writeOpened 27 = .ok (.ifCond .eq 109, 3) := by decide +kernel
theorem dX8_writeOpened_30 : decode cX8_writeOpened 30 = .ok (.iload_n 2, 1) := by decide +kernel
theorem dX8_writeOpened_31 : decode cX8_writeOpened 31 = .ok (.iload 5, 2) := by decide +kernel
theorem dX8_writeOpened_33 : decode cX8_writeOpened 33 = .ok (.ishr, 1) := by decide +kernel
theorem dX8_writeOpened_34 : decode cX8_writeOpened 34 = .ok (.iconst 1, 1) := by decide +kernel
theorem dX8_writeOpened_35 : decode cX8_writeOpened 35 = .ok (.iand, 1) := by decide +kernel
theorem dX8_writeOpened_36 : decode cX8_writeOpened 36 = .ok (.ifCond .ne 100, 3) := by decide +kernel
theorem dX8_writeOpened_39 : decode cX8_writeOpened 39 = .ok (.aload_n 0, 1) := by decide +kernel
theorem dX8_writeOpened_40 : decode cX8_writeOpened 40 = .ok (.getfield 38, 3) := by decide +kernel
theorem dX8_writeOpened_43 : decode cX8_writeOpened 43 = .ok (.iload 5, 2) := by decide +kernel
theorem dX8_writeOpened_45 : decode cX8_writeOpened 45 = .ok (.iaload, 1) := by decide +kernel
theorem dX8_writeOpened_46 : decode cX8_writeOpened 46 = .ok (.iload_n 1, 1) := by decide +kernel
theorem dX8_writeOpened_47 : decode cX8_writeOpened 47 = .ok (.if_icmp .ne 89, 3) := by decide +kernel
theorem dX8_writeOpened_50 : decode cX8_writeOpened 50 = .ok (.aload_n 0, 1) := by decide +kernel
theorem dX8_writeOpened_51 : decode cX8_writeOpened 51 = .ok (.getfield 41, 3) := by decide +kernel
theorem dX8_writeOpened_54 : decode cX8_writeOpened 54 = .ok (.iload 5, 2) := by decide +kernel
theorem dX8_writeOpened_56 : decode cX8_writeOpened 56 = .ok (.iaload, 1) := by decide +kernel
theorem dX8_writeOpened_57 : decode cX8_writeOpened 57 = .ok (.iload_n 1, 1) := by decide +kernel
theorem dX8_writeOpened_58 : decode cX8_writeOpened 58 = .ok (.if_icmp .le 78, 3) := by decide +kernel
theorem dX8_writeOpened_61 : decode cX8_writeOpened 61 = .ok (.iload 4, 2) := by decide +kernel
theorem dX8_writeOpened_63 : decode cX8_writeOpened 63 = .ok (.ifCond .lt 52, 3) := by decide +kernel
theorem dX8_writeOpened_66 : decode cX8_writeOpened 66 = .ok (.aload_n 0, 1) := by decide +kernel
theorem dX8_writeOpened_67 : decode cX8_writeOpened 67 = .ok (.getfield 41, 3) := by decide +kernel
theorem dX8_writeOpened_70 : decode cX8_writeOpened 70 = .ok (.iload 5, 2) := by decide +kernel
theorem dX8_writeOpened_72 : decode cX8_writeOpened 72 = .ok (.iaload, 1) := by decide +kernel
theorem dX8_writeOpened_73 : decode cX8_writeOpened 73 = .ok (.aload_n 0, 1) := by decide +kernel
theorem dX8_writeOpened_74 : decode cX8_writeOpened 74 = .ok (.getfield 41, 3) := by decide +kernel
theorem dX8_writeOpened_77 : decode cX8_writeOpened 77 = .ok (.iload 4, 2) := by decide +kernel
theorem dX8_writeOpened_79 : decode cX8_writeOpened 79 = .ok (.iaload, 1) := by decide +kernel
theorem dX8_writeOpened_80 : decode cX8_writeOpened 80 = .ok (.if_icmp .gt 35, 3) := by decide +kernel
theorem dX8_writeOpened_83 : decode cX8_writeOpened 83 = .ok (.aload_n 0, 1) := by decide +kernel
theorem dX8_writeOpened_84 : decode cX8_writeOpened 84 = .ok (.getfield 41, 3) := by decide +kernel
theorem dX8_writeOpened_87 : decode cX8_writeOpened 87 = .ok (.iload 5, 2) := by decide +kernel
theorem dX8_writeOpened_89 : decode cX8_writeOpened 89 = .ok (.iaload, 1) := by decide +kernel
theorem dX8_writeOpened_90 : decode cX8_writeOpened 90 = .ok (.aload_n 0, 1) := by decide +kernel
theorem dX8_writeOpened_91 : decode cX8_writeOpened 91 = .ok (.getfield 41, 3) := by decide +kernel
theorem dX8_writeOpened_94 : decode cX8_writeOpened 94 = .ok (.iload 4, 2) := by decide +kernel
theorem dX8_writeOpened_96 : decode cX8_writeOpened 96 = .ok (.iaload, 1) := by decide +kernel
theorem dX8_writeOpened_97 : decode cX8_writeOpened 97 = .ok (.if_icmp .ne 22, 3) := by decide +kernel
theorem dX8_writeOpened_100 : decode cX8_writeOpened 100 = .ok (.aload_n 0, 1) := by decide +kernel
theorem dX8_writeOpened_101 : decode cX8_writeOpened 101 = .ok (.iload 5, 2) := by decide +kernel
theorem dX8_writeOpened_103 : decode cX8_writeOpened 103 = .ok (.invokevirtual 150, 3) := by decide +kernel
theorem dX8_writeOpened_106 : decode cX8_writeOpened 106 = .ok (.aload_n 0, 1) := by decide +kernel
theorem dX8_writeOpened_107 : decode cX8_writeOpened 107 = .ok (.iload 4, 2) := by decide +kernel
theorem dX8_writeOpened_109 : decode cX8_writeOpened 109 = .ok (.invokevirtual 150, 3) := by decide +kernel
theorem dX8_writeOpened_112 : decode cX8_writeOpened 112 = .ok (.if_icmp .ge 7, 3) := by decide +kernel
theorem dX8_writeOpened_115 : decode cX8_writeOpened 115 = .ok (.iconst 1, 1) := by decide +kernel
theorem dX8_writeOpened_116 : decode cX8_writeOpened 116 = .ok (.goto 4, 3) := by decide +kernel
theorem dX8_writeOpened_119 : decode cX8_writeOpened 119 = .ok (.iconst 0, 1) := by decide +kernel
theorem dX8_writeOpened_120 : decode cX8_writeOpened 120 = .ok (.istore 6, 2) := by decide +kernel
theorem dX8_writeOpened_122 : decode cX8_writeOpened 122 = .ok (.iload 6, 2) := by decide +kernel
theorem dX8_writeOpened_124 : decode cX8_writeOpened 124 = .ok (.ifCond .eq 8, 3) := by decide +kernel
theorem dX8_writeOpened_127 : decode cX8_writeOpened 127 = .ok (.iload 5, 2) := by decide +kernel
theorem dX8_writeOpened_129 : decode cX8_writeOpened 129 = .ok (.goto 5, 3) := by decide +kernel
theorem dX8_writeOpened_132 : decode cX8_writeOpened 132 = .ok (.iload 4, 2) := by decide +kernel
theorem dX8_writeOpened_134 : decode cX8_writeOpened 134 = .ok (.istore 4, 2) := by decide +kernel
theorem dX8_writeOpened_136 : decode cX8_writeOpened 136 = .ok (.iinc 5 1, 3) := by decide +kernel
theorem dX8_writeOpened_139 : decode cX8_writeOpened 139 = .ok (.goto (-124), 3) := by decide +kernel
theorem dX8_writeOpened_142 : decode cX8_writeOpened 142 = .ok (.iload 4, 2) := by decide +kernel
theorem dX8_writeOpened_144 : decode cX8_writeOpened 144 = .ok (.ifCond .lt 7, 3) := by decide +kernel
theorem dX8_writeOpened_147 : decode cX8_writeOpened 147 = .ok (.iconst 1, 1) := by decide +kernel
theorem dX8_writeOpened_148 : decode cX8_writeOpened 148 = .ok (.goto 4, 3) := by decide +kernel
theorem dX8_writeOpened_151 : decode cX8_writeOpened 151 = .ok (.iconst 0, 1) := by decide +kernel
theorem dX8_writeOpened_152 : decode cX8_writeOpened 152 = .ok (.istore_n 3, 1) := by decide +kernel
theorem dX8_writeOpened_153 : decode cX8_writeOpened 153 = .ok (.iload_n 3, 1) := by decide +kernel
theorem dX8_writeOpened_154 : decode cX8_writeOpened 154 = .ok (.ifCond .eq 19, 3) := by decide +kernel
theorem dX8_writeOpened_157 : decode cX8_writeOpened 157 = .ok (.iload_n 2, 1) := by decide +kernel
theorem dX8_writeOpened_158 : decode cX8_writeOpened 158 = .ok (.iconst 1, 1) := by decide +kernel
theorem dX8_writeOpened_159 : decode cX8_writeOpened 159 = .ok (.iload 4, 2) := by decide +kernel
theorem dX8_writeOpened_161 : decode cX8_writeOpened 161 = .ok (.ishl, 1) := by decide +kernel
theorem dX8_writeOpened_162 : decode cX8_writeOpened 162 = .ok (.ior, 1) := by decide +kernel
theorem dX8_writeOpened_163 : decode cX8_writeOpened 163 = .ok (.istore_n 2, 1) := by decide +kernel
theorem dX8_writeOpened_164 : decode cX8_writeOpened 164 = .ok (.aload_n 0, 1) := by decide +kernel
theorem dX8_writeOpened_165 : decode cX8_writeOpened 165 = .ok (.bipush 65, 2) := by decide +kernel
theorem dX8_writeOpened_167 : decode cX8_writeOpened 167 = .ok (.iload 4, 2) := by decide +kernel
theorem dX8_writeOpened_169 : decode cX8_writeOpened 169 = .ok (.iadd, 1) := by decide +kernel
theorem dX8_writeOpened_170 : decode cX8_writeOpened 170 = .ok (.invokevirtual 162, 3) := by decide +kernel
theorem dX8_writeOpened_173 : decode cX8_writeOpened 173 = .ok (.goto (-169), 3) := by decide +kernel
theorem dX8_writeOpened_176 : decode cX8_writeOpened 176 = .ok (.return_, 1) := by decide +kernel
set_option maxRecDepth 20000 in
theorem ggX8_stand_X8_isThere : GoodIn wsX8_stand wsX8_isThere := goodIn_r _ [8, 9, 10, 11, 7, 12, 13, 14, 15, 16, 17, 18, 19, 20, 21, 22, 23, 24, 25, 26, 27, 28, 29, 30, 31, 32, 33, 34] (by decide +kernel) (by decide +kernel)
set_option maxRecDepth 20000 in
theorem gX8_stand_X8_isThere : GoodIn wsX8_stand (wsV RX8 125 RX8 yX8_isThere wsX8_isThere) := goodIn_app (goodIn_of _ (by decide +kernel)) ggX8_stand_X8_isThere
theorem dX8_stand_0 : decode cX8_stand 0 = .ok (.iconst 1, 1) := by decide +kernel
theorem dX8_stand_1 : decode cX8_stand 1 = .ok (.istore_n 3, 1) := by decide +kernel
theorem dX8_stand_2 : decode cX8_stand 2 = .ok (.iconst 0, 1) := by decide +kernel
theorem dX8_stand_3 : decode cX8_stand 3 = .ok (.istore 4, 2) := by decide +kernel
theorem dX8_stand_5 : decode cX8_stand 5 = .ok (.iload 4, 2) := by decide +kernel
theorem dX8_stand_7 : decode cX8_stand 7 = .ok (.iconst 5, 1) := by decide +kernel
theorem dX8_stand_8 : decode cX8_stand 8 = .ok (.if_icmp .ge 106, 3) := by decide +kernel
theorem dX8_stand_11 : decode cX8_stand 11 = .ok (.aload_n 0, 1) := by decide +kernel
theorem dX8_stand_12 : decode cX8_stand 12 = .ok (.iload 4, 2) := by decide +kernel
theorem dX8_stand_14 : decode cX8_stand 14 = .ok (.invokevirtual 125, 3) := by decide +kernel
theorem dX8_stand_17 : decode cX8_stand 17 = .ok (.ifCond .eq 39, 3) := by decide +kernel
theorem dX8_stand_20 : decode cX8_stand 20 = .ok (.aload_n 0, 1) := by decide +kernel
theorem dX8_stand_21 : decode cX8_stand 21 = .ok (.getfield 16, 3) := by decide +kernel
theorem dX8_stand_24 : decode cX8_stand 24 = .ok (.iload 4, 2) := by decide +kernel
theorem dX8_stand_26 : decode cX8_stand 26 = .ok (.iaload, 1) := by decide +kernel
theorem dX8_stand_27 : decode cX8_stand 27 = .ok (.iload_n 2, 1) := by decide +kernel
theorem dX8_stand_28 : decode cX8_stand 28 = .ok (.ishr, 1) := by decide +kernel
theorem dX8_stand_29 : decode cX8_stand 29 = .ok (.iconst 1, 1) := by decide +kernel
theorem dX8_stand_30 : decode cX8_stand 30 = .ok (.iand, 1) := by decide +kernel
theorem dX8_stand_31 : decode cX8_stand 31 = .ok (.iconst 1, 1) := by decide +kernel
theorem dX8_stand_32 : decode cX8_stand 32 = .ok (.if_icmp .ne 24, 3) := by decide +kernel
theorem dX8_stand_35 : decode cX8_stand 35 = .ok (.aload_n 0, 1) := by decide +kernel
theorem dX8_stand_36 : decode cX8_stand 36 = .ok (.getfield 38, 3) := by decide +kernel
theorem dX8_stand_39 : decode cX8_stand 39 = .ok (.iload 4, 2) := by decide +kernel
theorem dX8_stand_41 : decode cX8_stand 41 = .ok (.iaload, 1) := by decide +kernel
theorem dX8_stand_42 : decode cX8_stand 42 = .ok (.aload_n 0, 1) := by decide +kernel
theorem dX8_stand_43 : decode cX8_stand 43 = .ok (.getfield 41, 3) := by decide +kernel
theorem dX8_stand_46 : decode cX8_stand 46 = .ok (.iload 4, 2) := by decide +kernel
theorem dX8_stand_48 : decode cX8_stand 48 = .ok (.iaload, 1) := by decide +kernel
theorem dX8_stand_49 : decode cX8_stand 49 = .ok (.if_icmp .ge 7, 3) := by decide +kernel
theorem dX8_stand_52 : decode cX8_stand 52 = .ok (.iconst 1, 1) := by decide +kernel
theorem dX8_stand_53 : decode cX8_stand 53 = .ok (.goto 4, 3) := by decide +kernel
theorem dX8_stand_56 : decode cX8_stand 56 = .ok (.iconst 0, 1) := by decide +kernel
theorem dX8_stand_57 : decode cX8_stand 57 = .ok (.istore 5, 2) := by decide +kernel
theorem dX8_stand_59 : decode cX8_stand 59 = .ok (.iload 5, 2) := by decide +kernel
theorem dX8_stand_61 : decode cX8_stand 61 = .ok (.ifCond .eq 23, 3) := by decide +kernel
theorem dX8_stand_64 : decode cX8_stand 64 = .ok (.aload_n 0, 1) := by decide +kernel
theorem dX8_stand_65 : decode cX8_stand 65 = .ok (.getfield 38, 3) := by decide +kernel
theorem dX8_stand_68 : decode cX8_stand 68 = .ok (.iload 4, 2) := by decide +kernel
theorem dX8_stand_70 : decode cX8_stand 70 = .ok (.iaload, 1) := by decide +kernel
theorem dX8_stand_71 : decode cX8_stand 71 = .ok (.iload_n 1, 1) := by decide +kernel
theorem dX8_stand_72 : decode cX8_stand 72 = .ok (.if_icmp .ne 12, 3) := by decide +kernel
theorem dX8_stand_75 : decode cX8_stand 75 = .ok (.iload_n 3, 1) := by decide +kernel
theorem dX8_stand_76 : decode cX8_stand 76 = .ok (.iconst 1, 1) := by decide +kernel
theorem dX8_stand_77 : decode cX8_stand 77 = .ok (.if_icmp .ne 7, 3) := by decide +kernel
theorem dX8_stand_80 : decode cX8_stand 80 = .ok (.iconst 2, 1) := by decide +kernel
theorem dX8_stand_81 : decode cX8_stand 81 = .ok (.goto 4, 3) := by decide +kernel
theorem dX8_stand_84 : decode cX8_stand 84 = .ok (.iload_n 3, 1) := by decide +kernel
theorem dX8_stand_85 : decode cX8_stand 85 = .ok (.istore_n 3, 1) := by decide +kernel
theorem dX8_stand_86 : decode cX8_stand 86 = .ok (.iload 5, 2) := by decide +kernel
theorem dX8_stand_88 : decode cX8_stand 88 = .ok (.ifCond .eq 18, 3) := by decide +kernel
theorem dX8_stand_91 : decode cX8_stand 91 = .ok (.aload_n 0, 1) := by decide +kernel
theorem dX8_stand_92 : decode cX8_stand 92 = .ok (.getfield 41, 3) := by decide +kernel
theorem dX8_stand_95 : decode cX8_stand 95 = .ok (.iload 4, 2) := by decide +kernel
theorem dX8_stand_97 : decode cX8_stand 97 = .ok (.iaload, 1) := by decide +kernel
theorem dX8_stand_98 : decode cX8_stand 98 = .ok (.iload_n 1, 1) := by decide +kernel
theorem dX8_stand_99 : decode cX8_stand 99 = .ok (.if_icmp .ne 7, 3) := by decide +kernel
theorem dX8_stand_102 : decode cX8_stand 102 = .ok (.iconst 0, 1) := by decide +kernel
theorem dX8_stand_103 : decode cX8_stand 103 = .ok (.goto 4, 3) := by decide +kernel
theorem dX8_stand_106 : decode cX8_stand 106 = .ok (.iload_n 3, 1) := by decide +kernel
theorem dX8_stand_107 : decode cX8_stand 107 = .ok (.istore_n 3, 1) := by decide +kernel
theorem dX8_stand_108 : decode cX8_stand 108 = .ok (.iinc 4 1, 3) := by decide +kernel
theorem dX8_stand_111 : decode cX8_stand 111 = .ok (.goto (-106), 3) := by decide +kernel
theorem dX8_stand_114 : decode cX8_stand 114 = .ok (.iload_n 3, 1) := by decide +kernel
theorem dX8_stand_115 : decode cX8_stand 115 = .ok (.ireturn, 1) := by decide +kernel
set_option maxRecDepth 20000 in
theorem ggX8_writeEmpty_X8_isThere : GoodIn wsX8_writeEmpty wsX8_isThere := goodIn_r _ [7, 8, 9, 10, 6, 11, 23, 24, 25, 26, 27, 28, 29, 30, 31, 32, 33, 34, 35, 36, 37, 38, 39, 40, 41, 42, 43, 44] (by decide +kernel) (by decide +kernel)
set_option maxRecDepth 20000 in
theorem gX8_writeEmpty_X8_isThere : GoodIn wsX8_writeEmpty (wsV RX8 125 RX8 yX8_isThere wsX8_isThere) := goodIn_app (goodIn_of _ (by decide +kernel)) ggX8_writeEmpty_X8_isThere
set_option maxRecDepth 20000 in
theorem ggX8_writeEmpty_X8_stand : GoodIn wsX8_writeEmpty wsX8_stand := goodIn_r _ [15, 16, 1, 2, 3, 4, 5, 6, 7, 8, 9, 10, 11, 23, 24, 25, 26, 27, 28, 29, 30, 31, 32, 33, 34, 35, 36, 37, 38, 39, 40, 41, 42, 43, 44] (by decide +kernel) (by decide +kernel)
set_option maxRecDepth 20000 in
theorem gX8_writeEmpty_X8_stand : GoodIn wsX8_writeEmpty (wsV RX8 166 RX8 yX8_stand wsX8_stand) := goodIn_app (goodIn_of _ (by decide +kernel)) ggX8_writeEmpty_X8_stand
set_option maxRecDepth 20000 in
theorem ggX8_writeEmpty_X8_write : GoodIn wsX8_writeEmpty wsX8_write := goodIn_r _ [20, 21, 22, 23, 24, 25, 26, 27, 28, 29, 30, 31, 32, 33, 34, 35, 36, 37, 38, 39, 40, 41, 42, 43, 44] (by decide +kernel) (by decide +kernel)
set_option maxRecDepth 20000 in
theorem gX8_writeEmpty_X8_write : GoodIn wsX8_writeEmpty (wsV RX8 162 RX8 yX8_write wsX8_write) := goodIn_app (goodIn_of _ (by decide +kernel)) ggX8_writeEmpty_X8_write
theorem dX8_writeEmpty_0 : decode cX8_writeEmpty 0 = .ok (.iconst 0, 1) := by decide +kernel
theorem dX8_writeEmpty_1 : decode cX8_writeEmpty 1 = .ok (.istore_n 3, 1) := by decide +kernel
theorem dX8_writeEmpty_2 : decode cX8_writeEmpty 2 = .ok (.iload_n 3, 1) := by decide +kernel
theorem dX8_writeEmpty_3 : decode cX8_writeEmpty 3 = .ok (.iconst 5, 1) := by decide +kernel
theorem dX8_writeEmpty_4 : decode cX8_writeEmpty 4 = .ok (.if_icmp .ge 63, 3) := by decide +kernel
theorem dX8_writeEmpty_7 : decode cX8_writeEmpty 7 = .ok (.aload_n 0, 1) := by decide +kernel
theorem dX8_writeEmpty_8 : decode cX8_writeEmpty 8 = .ok (.iload_n 3, 1) := by decide +kernel
theorem dX8_writeEmpty_9 : decode cX8_writeEmpty 9 = .ok (.invokevirtual 125, 3) := by decide +kernel
theorem dX8_writeEmpty_12 : decode cX8_writeEmpty 12 = .ok (.ifCond .eq 49, 3) := by decide +kernel
theorem dX8_writeEmpty_15 : decode cX8_writeEmpty 15 = .ok (.aload_n 0, 1) := by decide +kernel
theorem dX8_writeEmpty_16 : decode cX8_writeEmpty 16 = .ok (.getfield 38, 3) := by decide +kernel
theorem dX8_writeEmpty_19 : decode cX8_writeEmpty 19 = .ok (.iload_n 3, 1) := by decide +kernel
theorem dX8_writeEmpty_20 : decode cX8_writeEmpty 20 = .ok (.iaload, 1) := by decide +kernel
theorem dX8_writeEmpty_21 : decode cX8_writeEmpty 21 = .ok (.iload_n 1, 1) := by decide +kernel
theorem dX8_writeEmpty_22 : decode cX8_writeEmpty 22 = .ok (.if_icmp .ne 39, 3) := by decide +kernel
theorem dX8_writeEmpty_25 : decode cX8_writeEmpty 25 = .ok (.aload_n 0, 1) := by decide +kernel
theorem dX8_writeEmpty_26 : decode cX8_writeEmpty 26 = .ok (.getfield 41, 3) := by decide +kernel
theorem dX8_writeEmpty_29 : decode cX8_writeEmpty 29 = .ok (.iload_n 3, 1) := by decide +kernel
theorem dX8_writeEmpty_30 : decode cX8_writeEmpty 30 = .ok (.iaload, 1) := by decide +kernel
theorem dX8_writeEmpty_31 : decode cX8_writeEmpty 31 = .ok (.iload_n 1, 1) := by decide +kernel
theorem dX8_writeEmpty_32 : decode cX8_writeEmpty 32 = .ok (.if_icmp .ne 29, 3) := by decide +kernel
theorem dX8_writeEmpty_35 : decode cX8_writeEmpty 35 = .ok (.aload_n 0, 1) := by decide +kernel
theorem dX8_writeEmpty_36 : decode cX8_writeEmpty 36 = .ok (.iload_n 1, 1) := by decide +kernel
theorem dX8_writeEmpty_37 : decode cX8_writeEmpty 37 = .ok (.iload_n 3, 1) := by decide +kernel
theorem dX8_writeEmpty_38 : decode cX8_writeEmpty 38 = .ok (.invokevirtual 166, 3) := by decide +kernel
theorem dX8_writeEmpty_41 : decode cX8_writeEmpty 41 = .ok (.iload_n 2, 1) := by decide +kernel
theorem dX8_writeEmpty_42 : decode cX8_writeEmpty 42 = .ok (.if_icmp .ne 19, 3) := by decide +kernel
theorem dX8_writeEmpty_45 : decode cX8_writeEmpty 45 = .ok (.aload_n 0, 1) := by decide +kernel
theorem dX8_writeEmpty_46 : decode cX8_writeEmpty 46 = .ok (.bipush 65, 2) := by decide +kernel
theorem dX8_writeEmpty_48 : decode cX8_writeEmpty 48 = .ok (.iload_n 3, 1) := by decide +kernel
theorem dX8_writeEmpty_49 : decode cX8_writeEmpty 49 = .ok (.iadd, 1) := by decide +kernel
theorem dX8_writeEmpty_50 : decode cX8_writeEmpty 50 = .ok (.invokevirtual 162, 3) := by decide +kernel
theorem dX8_writeEmpty_53 : decode cX8_writeEmpty 53 = .ok (.aload_n 0, 1) := by decide +kernel
theorem dX8_writeEmpty_54 : decode cX8_writeEmpty 54 = .ok (.bipush 97, 2) := by decide +kernel
theorem dX8_writeEmpty_56 : decode cX8_writeEmpty 56 = .ok (.iload_n 3, 1) := by decide +kernel
theorem dX8_writeEmpty_57 : decode cX8_writeEmpty 57 = .ok (.iadd, 1) := by decide +kernel
theorem dX8_writeEmpty_58 : decode cX8_writeEmpty 58 = .ok (.invokevirtual 162, 3) := by decide +kernel
theorem dX8_writeEmpty_61 : decode cX8_writeEmpty 61 = .ok (.iinc 3 1, 3) := by decide +kernel
theorem dX8_writeEmpty_64 : decode cX8_writeEmpty 64 = .ok (.goto (-62), 3) := by decide +kernel
theorem dX8_writeEmpty_67 : decode cX8_writeEmpty 67 = .ok (.return_, 1) := by decide +kernel
set_option maxRecDepth 20000 in
theorem ggX8_sign_X8_place : GoodIn wsX8_sign wsX8_place := goodIn_r _ [11, 2, 12, 13, 14, 15, 16, 17, 18, 19, 20, 10, 21, 22, 23, 24, 25, 26, 27, 28, 29, 30, 31, 32, 33, 34, 35, 36, 37, 38, 39, 40, 41, 42, 43, 44, 45, 46, 47, 48, 49, 50, 51, 52, 53, 54, 55, 56, 57, 58, 59, 60, 61, 62, 63, 64, 65, 66, 67, 68, 69, 70, 71, 72, 73, 74, 75, 76, 77, 78, 79, 80, 81, 82, 83, 84, 3, 85, 86, 5, 4, 111, 112, 113, 114, 115, 116, 117, 118, 119, 120, 121, 122, 123, 124, 125, 126, 127, 128, 129, 130, 131, 132] (by decide +kernel) (by decide +kernel)
set_option maxRecDepth 20000 in
theorem gX8_sign_X8_place : GoodIn wsX8_sign (wsV RX8 147 RX8 yX8_place wsX8_place) := goodIn_app (goodIn_of _ (by decide +kernel)) ggX8_sign_X8_place
set_option maxRecDepth 20000 in
theorem ggX8_sign_X8_writeEmpty : GoodIn wsX8_sign wsX8_writeEmpty := goodIn_r _ [90, 16, 17, 22, 23, 24, 10, 25, 26, 27, 28, 29, 91, 92, 93, 94, 41, 95, 96, 97, 98, 6, 1, 111, 112, 113, 114, 115, 116, 117, 118, 119, 120, 121, 122, 123, 124, 125, 126, 127, 128, 129, 130, 131, 132] (by decide +kernel) (by decide +kernel)
set_option maxRecDepth 20000 in
theorem gX8_sign_X8_writeEmpty : GoodIn wsX8_sign (wsV RX8 169 RX8 yX8_writeEmpty wsX8_writeEmpty) := goodIn_app (goodIn_of _ (by decide +kernel)) ggX8_sign_X8_writeEmpty
set_option maxRecDepth 20000 in
theorem ggX8_sign_X8_writeClosed : GoodIn wsX8_sign wsX8_writeClosed := goodIn_r _ [102, 17, 16, 22, 23, 24, 10, 25, 26, 27, 28, 29, 103, 104, 105, 106, 41, 95, 96, 97, 98, 6, 1, 111, 112, 113, 114, 115, 116, 117, 118, 119, 120, 121, 122, 123, 124, 125, 126, 127, 128, 129, 130, 131, 132] (by decide +kernel) (by decide +kernel)
set_option maxRecDepth 20000 in
theorem gX8_sign_X8_writeClosed : GoodIn wsX8_sign (wsV RX8 173 RX8 yX8_writeClosed wsX8_writeClosed) := goodIn_app (goodIn_of _ (by decide +kernel)) ggX8_sign_X8_writeClosed
set_option maxRecDepth 20000 in
theorem ggX8_sign_X8_write : GoodIn wsX8_sign wsX8_write := goodIn_r _ [98, 6, 1, 111, 112, 113, 114, 115, 116, 117, 118, 119, 120, 121, 122, 123, 124, 125, 126, 127, 128, 129, 130, 131, 132] (by decide +kernel) (by decide +kernel)
set_option maxRecDepth 20000 in
theorem gX8_sign_X8_write : GoodIn wsX8_sign (wsV RX8 162 RX8 yX8_write wsX8_write) := goodIn_app (goodIn_of _ (by decide +kernel)) ggX8_sign_X8_write
set_option maxRecDepth 20000 in
theorem ggX8_sign_X8_writeOpened : GoodIn wsX8_sign wsX8_writeOpened := goodIn_r _ [110, 16, 17, 22, 23, 24, 10, 25, 26, 27, 28, 29, 103, 104, 105, 106, 41, 95, 96, 97, 98, 6, 1, 111, 112, 113, 114, 115, 116, 117, 118, 119, 120, 121, 122, 123, 124, 125, 126, 127, 128, 129, 130, 131, 132] (by decide +kernel) (by decide +kernel)
set_option maxRecDepth 20000 in
theorem gX8_sign_X8_writeOpened : GoodIn wsX8_sign (wsV RX8 176 RX8 yX8_writeOpened wsX8_writeOpened) := goodIn_app (goodIn_of _ (by decide +kernel)) ggX8_sign_X8_writeOpened
set_option maxRecDepth 20000 in
theorem ggX8_sign_X8_in : GoodIn wsX8_sign wsX8_in := goodIn_r _ [29] (by decide +kernel) (by decide +kernel)
set_option maxRecDepth 20000 in
theorem gX8_sign_X8_in : GoodIn wsX8_sign (va_wsS RX8 57 yX8_in wsX8_in) := goodIn_app (goodIn_of _ (by decide +kernel)) ggX8_sign_X8_in
theorem dX8_sign_0 : decode cX8_sign 0 = .ok (.aload_n 0, 1) := by decide +kernel
theorem dX8_sign_1 : decode cX8_sign 1 = .ok (.invokevirtual 147, 3) := by decide +kernel
theorem dX8_sign_4 : decode cX8_sign 4 = .ok (.aload_n 0, 1) := by decide +kernel
theorem dX8_sign_5 : decode cX8_sign 5 = .ok (.iconst 0, 1) := by decide +kernel
theorem dX8_sign_6 : decode cX8_sign 6 = .ok (.putfield 159, 3) := by decide +kernel
theorem dX8_sign_9 : decode cX8_sign 9 = .ok (.iconst 0, 1) := by decide +kernel
theorem dX8_sign_10 : decode cX8_sign 10 = .ok (.istore_n 2, 1) := by decide +kernel
theorem dX8_sign_11 : decode cX8_sign 11 = .ok (.iload_n 2, 1) := by decide +kernel
theorem dX8_sign_12 : decode cX8_sign 12 = .ok (.aload_n 0, 1) := by decide +kernel
theorem dX8_sign_13 : decode cX8_sign 13 = .ok (.getfield 78, 3) := by decide +kernel
theorem dX8_sign_16 : decode cX8_sign 16 = .ok (.if_icmp .gt 95, 3) := by decide +kernel
theorem dX8_sign_19 : decode cX8_sign 19 = .ok (.aload_n 0, 1) := by decide +kernel
theorem dX8_sign_20 : decode cX8_sign 20 = .ok (.iload_n 2, 1) := by decide +kernel
theorem dX8_sign_21 : decode cX8_sign 21 = .ok (.iconst 0, 1) := by decide +kernel
theorem dX8_sign_22 : decode cX8_sign 22 = .ok (.invokevirtual 169, 3) := by decide +kernel
theorem dX8_sign_25 : decode cX8_sign 25 = .ok (.aload_n 0, 1) := by decide +kernel
theorem dX8_sign_26 : decode cX8_sign 26 = .ok (.iload_n 2, 1) := by decide +kernel
theorem dX8_sign_27 : decode cX8_sign 27 = .ok (.invokevirtual 173, 3) := by decide +kernel
theorem dX8_sign_30 : decode cX8_sign 30 = .ok (.iconst 0, 1) := by decide +kernel
theorem dX8_sign_31 : decode cX8_sign 31 = .ok (.istore_n 3, 1) := by decide +kernel
theorem dX8_sign_32 : decode cX8_sign 32 = .ok (.iload_n 3, 1) := by decide +kernel
theorem dX8_sign_33 : decode cX8_sign 33 = .ok (.aload_n 0, 1) := by decide +kernel
theorem dX8_sign_34 : decode cX8_sign 34 = .ok (.getfield 72, 3) := by decide +kernel
theorem dX8_sign_37 : decode cX8_sign 37 = .ok (.if_icmp .ge 37, 3) := by decide +kernel
theorem dX8_sign_40 : decode cX8_sign 40 = .ok (.aload_n 0, 1) := by decide +kernel
theorem dX8_sign_41 : decode cX8_sign 41 = .ok (.getfield 44, 3) := by decide +kernel
theorem dX8_sign_44 : decode cX8_sign 44 = .ok (.aload_n 0, 1) := by decide +kernel
theorem dX8_sign_45 : decode cX8_sign 45 = .ok (.getfield 22, 3) := by decide +kernel
theorem dX8_sign_48 : decode cX8_sign 48 = .ok (.iload_n 3, 1) := by decide +kernel
theorem dX8_sign_49 : decode cX8_sign 49 = .ok (.iaload, 1) := by decide +kernel
theorem dX8_sign_50 : decode cX8_sign 50 = .ok (.iaload, 1) := by decide +kernel
theorem dX8_sign_51 : decode cX8_sign 51 = .ok (.iload_n 2, 1) := by decide +kernel
theorem dX8_sign_52 : decode cX8_sign 52 = .ok (.if_icmp .ne 16, 3) := by decide +kernel
theorem dX8_sign_55 : decode cX8_sign 55 = .ok (.aload_n 0, 1) := by decide +kernel
theorem dX8_sign_56 : decode cX8_sign 56 = .ok (.bipush 120, 2) := by decide +kernel
theorem dX8_sign_58 : decode cX8_sign 58 = .ok (.aload_n 0, 1) := by decide +kernel
theorem dX8_sign_59 : decode cX8_sign 59 = .ok (.getfield 22, 3) := by decide +kernel
theorem dX8_sign_62 : decode cX8_sign 62 = .ok (.iload_n 3, 1) := by decide +kernel
theorem dX8_sign_63 : decode cX8_sign 63 = .ok (.iaload, 1) := by decide +kernel
theorem dX8_sign_64 : decode cX8_sign 64 = .ok (.iadd, 1) := by decide +kernel
theorem dX8_sign_65 : decode cX8_sign 65 = .ok (.invokevirtual 162, 3) := by decide +kernel
theorem dX8_sign_68 : decode cX8_sign 68 = .ok (.iinc 3 1, 3) := by decide +kernel
theorem dX8_sign_71 : decode cX8_sign 71 = .ok (.goto (-39), 3) := by decide +kernel
theorem dX8_sign_74 : decode cX8_sign 74 = .ok (.aload_n 0, 1) := by decide +kernel
theorem dX8_sign_75 : decode cX8_sign 75 = .ok (.iload_n 2, 1) := by decide +kernel
theorem dX8_sign_76 : decode cX8_sign 76 = .ok (.iconst 1, 1) := by decide +kernel
theorem dX8_sign_77 : decode cX8_sign 77 = .ok (.invokevirtual 169, 3) := by decide +kernel
theorem dX8_sign_80 : decode cX8_sign 80 = .ok (.aload_n 0, 1) := by decide +kernel
theorem dX8_sign_81 : decode cX8_sign 81 = .ok (.iload_n 2, 1) := by decide +kernel
theorem dX8_sign_82 : decode cX8_sign 82 = .ok (.invokevirtual 176, 3) := by decide +kernel
theorem dX8_sign_85 : decode cX8_sign 85 = .ok (.aload_n 0, 1) := by decide +kernel
theorem dX8_sign_86 : decode cX8_sign 86 = .ok (.iload_n 2, 1) := by decide +kernel
theorem dX8_sign_87 : decode cX8_sign 87 = .ok (.iconst 2, 1) := by decide +kernel
theorem dX8_sign_88 : decode cX8_sign 88 = .ok (.invokevirtual 169, 3) := by decide +kernel
theorem dX8_sign_91 : decode cX8_sign 91 = .ok (.iload_n 2, 1) := by decide +kernel
theorem dX8_sign_92 : decode cX8_sign 92 = .ok (.aload_n 0, 1) := by decide +kernel
theorem dX8_sign_93 : decode cX8_sign 93 = .ok (.getfield 78, 3) := by decide +kernel
theorem dX8_sign_96 : decode cX8_sign 96 = .ok (.if_icmp .ge 9, 3) := by decide +kernel
theorem dX8_sign_99 : decode cX8_sign 99 = .ok (.aload_n 0, 1) := by decide +kernel
theorem dX8_sign_100 : decode cX8_sign 100 = .ok (.bipush 46, 2) := by decide +kernel
theorem dX8_sign_102 : decode cX8_sign 102 = .ok (.invokevirtual 162, 3) := by decide +kernel
theorem dX8_sign_105 : decode cX8_sign 105 = .ok (.iinc 2 1, 3) := by decide +kernel
theorem dX8_sign_108 : decode cX8_sign 108 = .ok (.goto (-97), 3) := by decide +kernel
theorem dX8_sign_111 : decode cX8_sign 111 = .ok (.iload_n 1, 1) := by decide +kernel
theorem dX8_sign_112 : decode cX8_sign 112 = .ok (.iconst (-1), 1) := by decide +kernel
theorem dX8_sign_113 : decode cX8_sign 113 = .ok (.if_icmp .ne 10, 3) := by decide +kernel
theorem dX8_sign_116 : decode cX8_sign 116 = .ok (.aload_n 0, 1) := by decide +kernel
theorem dX8_sign_117 : decode cX8_sign 117 = .ok (.getfield 159, 3) := by decide +kernel
theorem dX8_sign_120 : decode cX8_sign 120 = .ok (.goto 28, 3) := by decide +kernel
theorem dX8_sign_123 : decode cX8_sign 123 = .ok (.iload_n 1, 1) := by decide +kernel
theorem dX8_sign_124 : decode cX8_sign 124 = .ok (.iconst 0, 1) := by decide +kernel
theorem dX8_sign_125 : decode cX8_sign 125 = .ok (.aload_n 0, 1) := by decide +kernel
theorem dX8_sign_126 : decode cX8_sign 126 = .ok (.getfield 159, 3) := by decide +kernel
theorem dX8_sign_129 : decode cX8_sign 129 = .ok (.iconst 1, 1) := by decide +kernel
theorem dX8_sign_130 : decode cX8_sign 130 = .ok (.isub, 1) := by decide +kernel
theorem dX8_sign_131 : decode cX8_sign 131 = .ok (.invokestatic 57, 3) := by decide +kernel
theorem dX8_sign_134 : decode cX8_sign 134 = .ok (.ifCond .eq 12, 3) := by decide +kernel
theorem dX8_sign_137 : decode cX8_sign 137 = .ok (.aload_n 0, 1) := by decide +kernel
theorem dX8_sign_138 : decode cX8_sign 138 = .ok (.getfield 47, 3) := by decide +kernel
theorem dX8_sign_141 : decode cX8_sign 141 = .ok (.iload_n 1, 1) := by decide +kernel
theorem dX8_sign_142 : decode cX8_sign 142 = .ok (.iaload, 1) := by decide +kernel
theorem dX8_sign_143 : decode cX8_sign 143 = .ok (.goto 5, 3) := by decide +kernel
theorem dX8_sign_146 : decode cX8_sign 146 = .ok (.bipush (-6), 2) := by decide +kernel
theorem dX8_sign_148 : decode cX8_sign 148 = .ok (.ireturn, 1) := by decide +kernel
set_option maxRecDepth 20000 in
theorem ggX8_image_X8_in : GoodIn wsX8_image wsX8_in := goodIn_r _ [15] (by decide +kernel) (by decide +kernel)
set_option maxRecDepth 20000 in
theorem gX8_image_X8_in : GoodIn wsX8_image (va_wsS RX8 57 yX8_in wsX8_in) := goodIn_app (goodIn_of _ (by decide +kernel)) ggX8_image_X8_in
theorem dX8_image_0 : decode cX8_image 0 = .ok (.iload_n 1, 1) := by decide +kernel
theorem dX8_image_1 : decode cX8_image 1 = .ok (.iconst 0, 1) := by decide +kernel
theorem dX8_image_2 : decode cX8_image 2 = .ok (.iconst 1, 1) := by decide +kernel
theorem dX8_image_3 : decode cX8_image 3 = .ok (.invokestatic 57, 3) := by decide +kernel
theorem dX8_image_6 : decode cX8_image 6 = .ok (.ifCond .ne 6, 3) := by decide +kernel
theorem dX8_image_9 : decode cX8_image 9 = .ok (.bipush (-2), 2) := by decide +kernel
theorem dX8_image_11 : decode cX8_image 11 = .ok (.ireturn, 1) := by decide +kernel
theorem dX8_image_12 : decode cX8_image 12 = .ok (.bipush 40, 2) := by decide +kernel
theorem dX8_image_14 : decode cX8_image 14 = .ok (.iload_n 1, 1) := by decide +kernel
theorem dX8_image_15 : decode cX8_image 15 = .ok (.imul, 1) := by decide +kernel
theorem dX8_image_16 : decode cX8_image 16 = .ok (.istore_n 2, 1) := by decide +kernel
theorem dX8_image_17 : decode cX8_image 17 = .ok (.iconst 0, 1) := by decide +kernel
theorem dX8_image_18 : decode cX8_image 18 = .ok (.istore_n 3, 1) := by decide +kernel
theorem dX8_image_19 : decode cX8_image 19 = .ok (.iload_n 3, 1) := by decide +kernel
theorem dX8_image_20 : decode cX8_image 20 = .ok (.iconst 5, 1) := by decide +kernel
theorem dX8_image_21 : decode cX8_image 21 = .ok (.if_icmp .ge 56, 3) := by decide +kernel
theorem dX8_image_24 : decode cX8_image 24 = .ok (.aload_n 0, 1) := by decide +kernel
theorem dX8_image_25 : decode cX8_image 25 = .ok (.getfield 50, 3) := by decide +kernel
theorem dX8_image_28 : decode cX8_image 28 = .ok (.iload_n 2, 1) := by decide +kernel
theorem dX8_image_29 : decode cX8_image 29 = .ok (.iload_n 3, 1) := by decide +kernel
theorem dX8_image_30 : decode cX8_image 30 = .ok (.iadd, 1) := by decide +kernel
theorem dX8_image_31 : decode cX8_image 31 = .ok (.aload_n 0, 1) := by decide +kernel
theorem dX8_image_32 : decode cX8_image 32 = .ok (.getfield 7, 3) := by decide +kernel
theorem dX8_image_35 : decode cX8_image 35 = .ok (.iload_n 3, 1) := by decide +kernel
theorem dX8_image_36 : decode cX8_image 36 = .ok (.iaload, 1) := by decide +kernel
theorem dX8_image_37 : decode cX8_image 37 = .ok (.iastore, 1) := by decide +kernel
theorem dX8_image_38 : decode cX8_image 38 = .ok (.aload_n 0, 1) := by decide +kernel
theorem dX8_image_39 : decode cX8_image 39 = .ok (.getfield 50, 3) := by decide +kernel
theorem dX8_image_42 : decode cX8_image 42 = .ok (.iload_n 2, 1) := by decide +kernel
theorem dX8_image_43 : decode cX8_image 43 = .ok (.iconst 5, 1) := by decide +kernel
theorem dX8_image_44 : decode cX8_image 44 = .ok (.iadd, 1) := by decide +kernel
theorem dX8_image_45 : decode cX8_image 45 = .ok (.iload_n 3, 1) := by decide +kernel
theorem dX8_image_46 : decode cX8_image 46 = .ok (.iadd, 1) := by decide +kernel
theorem dX8_image_47 : decode cX8_image 47 = .ok (.aload_n 0, 1) := by decide +kernel
theorem dX8_image_48 : decode cX8_image 48 = .ok (.getfield 13, 3) := by decide +kernel
theorem dX8_image_51 : decode cX8_image 51 = .ok (.iload_n 3, 1) := by decide +kernel
theorem dX8_image_52 : decode cX8_image 52 = .ok (.iaload, 1) := by decide +kernel
theorem dX8_image_53 : decode cX8_image 53 = .ok (.iastore, 1) := by decide +kernel
theorem dX8_image_54 : decode cX8_image 54 = .ok (.aload_n 0, 1) := by decide +kernel
theorem dX8_image_55 : decode cX8_image 55 = .ok (.getfield 50, 3) := by decide +kernel
theorem dX8_image_58 : decode cX8_image 58 = .ok (.iload_n 2, 1) := by decide +kernel
theorem dX8_image_59 : decode cX8_image 59 = .ok (.bipush 10, 2) := by decide +kernel
theorem dX8_image_61 : decode cX8_image 61 = .ok (.iadd, 1) := by decide +kernel
theorem dX8_image_62 : decode cX8_image 62 = .ok (.iload_n 3, 1) := by decide +kernel
theorem dX8_image_63 : decode cX8_image 63 = .ok (.iadd, 1) := by decide +kernel
theorem dX8_image_64 : decode cX8_image 64 = .ok (.aload_n 0, 1) := by decide +kernel
theorem dX8_image_65 : decode cX8_image 65 = .ok (.getfield 16, 3) := by decide +kernel
theorem dX8_image_68 : decode cX8_image 68 = .ok (.iload_n 3, 1) := by decide +kernel
theorem dX8_image_69 : decode cX8_image 69 = .ok (.iaload, 1) := by decide +kernel
theorem dX8_image_70 : decode cX8_image 70 = .ok (.iastore, 1) := by decide +kernel
theorem dX8_image_71 : decode cX8_image 71 = .ok (.iinc 3 1, 3) := by decide +kernel
theorem dX8_image_74 : decode cX8_image 74 = .ok (.goto (-55), 3) := by decide +kernel
theorem dX8_image_77 : decode cX8_image 77 = .ok (.iconst 0, 1) := by decide +kernel
theorem dX8_image_78 : decode cX8_image 78 = .ok (.istore_n 3, 1) := by decide +kernel
theorem dX8_image_79 : decode cX8_image 79 = .ok (.iload_n 3, 1) := by decide +kernel
theorem dX8_image_80 : decode cX8_image 80 = .ok (.iconst 3, 1) := by decide +kernel
theorem dX8_image_81 : decode cX8_image 81 = .ok (.if_icmp .ge 43, 3) := by decide +kernel
theorem dX8_image_84 : decode cX8_image 84 = .ok (.aload_n 0, 1) := by decide +kernel
theorem dX8_image_85 : decode cX8_image 85 = .ok (.getfield 50, 3) := by decide +kernel
theorem dX8_image_88 : decode cX8_image 88 = .ok (.iload_n 2, 1) := by decide +kernel
theorem dX8_image_89 : decode cX8_image 89 = .ok (.bipush 15, 2) := by decide +kernel
theorem dX8_image_91 : decode cX8_image 91 = .ok (.iadd, 1) := by decide +kernel
theorem dX8_image_92 : decode cX8_image 92 = .ok (.iload_n 3, 1) := by decide +kernel
theorem dX8_image_93 : decode cX8_image 93 = .ok (.iadd, 1) := by decide +kernel
theorem dX8_image_94 : decode cX8_image 94 = .ok (.aload_n 0, 1) := by decide +kernel
theorem dX8_image_95 : decode cX8_image 95 = .ok (.getfield 19, 3) := by decide +kernel
theorem dX8_image_98 : decode cX8_image 98 = .ok (.iload_n 3, 1) := by decide +kernel
theorem dX8_image_99 : decode cX8_image 99 = .ok (.iaload, 1) := by decide +kernel
theorem dX8_image_100 : decode cX8_image 100 = .ok (.iastore, 1) := by decide +kernel
theorem dX8_image_101 : decode cX8_image 101 = .ok (.aload_n 0, 1) := by decide +kernel
theorem dX8_image_102 : decode cX8_image 102 = .ok (.getfield 50, 3) := by decide +kernel
theorem dX8_image_105 : decode cX8_image 105 = .ok (.iload_n 2, 1) := by decide +kernel
theorem dX8_image_106 : decode cX8_image 106 = .ok (.bipush 18, 2) := by decide +kernel
theorem dX8_image_108 : decode cX8_image 108 = .ok (.iadd, 1) := by decide +kernel
theorem dX8_image_109 : decode cX8_image 109 = .ok (.iload_n 3, 1) := by decide +kernel
theorem dX8_image_110 : decode cX8_image 110 = .ok (.iadd, 1) := by decide +kernel
theorem dX8_image_111 : decode cX8_image 111 = .ok (.aload_n 0, 1) := by decide +kernel
theorem dX8_image_112 : decode cX8_image 112 = .ok (.getfield 22, 3) := by decide +kernel
theorem dX8_image_115 : decode cX8_image 115 = .ok (.iload_n 3, 1) := by decide +kernel
theorem dX8_image_116 : decode cX8_image 116 = .ok (.iaload, 1) := by decide +kernel
theorem dX8_image_117 : decode cX8_image 117 = .ok (.iastore, 1) := by decide +kernel
theorem dX8_image_118 : decode cX8_image 118 = .ok (.iinc 3 1, 3) := by decide +kernel
theorem dX8_image_121 : decode cX8_image 121 = .ok (.goto (-42), 3) := by decide +kernel
theorem dX8_image_124 : decode cX8_image 124 = .ok (.iconst 0, 1) := by decide +kernel
theorem dX8_image_125 : decode cX8_image 125 = .ok (.istore_n 3, 1) := by decide +kernel
theorem dX8_image_126 : decode cX8_image 126 = .ok (.iload_n 3, 1) := by decide +kernel
theorem dX8_image_127 : decode cX8_image 127 = .ok (.bipush 12, 2) := by decide +kernel
theorem dX8_image_129 : decode cX8_image 129 = .ok (.if_icmp .ge 26, 3) := by decide +kernel
theorem dX8_image_132 : decode cX8_image 132 = .ok (.aload_n 0, 1) := by decide +kernel
theorem dX8_image_133 : decode cX8_image 133 = .ok (.getfield 50, 3) := by decide +kernel
theorem dX8_image_136 : decode cX8_image 136 = .ok (.iload_n 2, 1) := by decide +kernel
theorem dX8_image_137 : decode cX8_image 137 = .ok (.bipush 21, 2) := by decide +kernel
theorem dX8_image_139 : decode cX8_image 139 = .ok (.iadd, 1) := by decide +kernel
theorem dX8_image_140 : decode cX8_image 140 = .ok (.iload_n 3, 1) := by decide +kernel
theorem dX8_image_141 : decode cX8_image 141 = .ok (.iadd, 1) := by decide +kernel
theorem dX8_image_142 : decode cX8_image 142 = .ok (.aload_n 0, 1) := by decide +kernel
theorem dX8_image_143 : decode cX8_image 143 = .ok (.getfield 25, 3) := by decide +kernel
theorem dX8_image_146 : decode cX8_image 146 = .ok (.iload_n 3, 1) := by decide +kernel
theorem dX8_image_147 : decode cX8_image 147 = .ok (.iaload, 1) := by decide +kernel
theorem dX8_image_148 : decode cX8_image 148 = .ok (.iastore, 1) := by decide +kernel
theorem dX8_image_149 : decode cX8_image 149 = .ok (.iinc 3 1, 3) := by decide +kernel
theorem dX8_image_152 : decode cX8_image 152 = .ok (.goto (-26), 3) := by decide +kernel
theorem dX8_image_155 : decode cX8_image 155 = .ok (.aload_n 0, 1) := by decide +kernel
theorem dX8_image_156 : decode cX8_image 156 = .ok (.getfield 50, 3) := by decide +kernel
theorem dX8_image_159 : decode cX8_image 159 = .ok (.iload_n 2, 1) := by decide +kernel
theorem dX8_image_160 : decode cX8_image 160 = .ok (.bipush 33, 2) := by decide +kernel
theorem dX8_image_162 : decode cX8_image 162 = .ok (.iadd, 1) := by decide +kernel
theorem dX8_image_163 : decode cX8_image 163 = .ok (.aload_n 0, 1) := by decide +kernel
theorem dX8_image_164 : decode cX8_image 164 = .ok (.getfield 69, 3) := by decide +kernel
theorem dX8_image_167 : decode cX8_image 167 = .ok (.iastore, 1) := by decide +kernel
theorem dX8_image_168 : decode cX8_image 168 = .ok (.aload_n 0, 1) := by decide +kernel
theorem dX8_image_169 : decode cX8_image 169 = .ok (.getfield 50, 3) := by decide +kernel
theorem dX8_image_172 : decode cX8_image 172 = .ok (.iload_n 2, 1) := by decide +kernel
theorem dX8_image_173 : decode cX8_image 173 = .ok (.bipush 34, 2) := by decide +kernel
theorem dX8_image_175 : decode cX8_image 175 = .ok (.iadd, 1) := by decide +kernel
theorem dX8_image_176 : decode cX8_image 176 = .ok (.aload_n 0, 1) := by decide +kernel
theorem dX8_image_177 : decode cX8_image 177 = .ok (.getfield 72, 3) := by decide +kernel
theorem dX8_image_180 : decode cX8_image 180 = .ok (.iastore, 1) := by decide +kernel
theorem dX8_image_181 : decode cX8_image 181 = .ok (.aload_n 0, 1) := by decide +kernel
theorem dX8_image_182 : decode cX8_image 182 = .ok (.getfield 50, 3) := by decide +kernel
theorem dX8_image_185 : decode cX8_image 185 = .ok (.iload_n 2, 1) := by decide +kernel
theorem dX8_image_186 : decode cX8_image 186 = .ok (.bipush 35, 2) := by decide +kernel
theorem dX8_image_188 : decode cX8_image 188 = .ok (.iadd, 1) := by decide +kernel
theorem dX8_image_189 : decode cX8_image 189 = .ok (.aload_n 0, 1) := by decide +kernel
theorem dX8_image_190 : decode cX8_image 190 = .ok (.getfield 78, 3) := by decide +kernel
theorem dX8_image_193 : decode cX8_image 193 = .ok (.iastore, 1) := by decide +kernel
theorem dX8_image_194 : decode cX8_image 194 = .ok (.aload_n 0, 1) := by decide +kernel
theorem dX8_image_195 : decode cX8_image 195 = .ok (.getfield 53, 3) := by decide +kernel
theorem dX8_image_198 : decode cX8_image 198 = .ok (.iload_n 1, 1) := by decide +kernel
theorem dX8_image_199 : decode cX8_image 199 = .ok (.iconst 1, 1) := by decide +kernel
theorem dX8_image_200 : decode cX8_image 200 = .ok (.bastore, 1) := by decide +kernel
theorem dX8_image_201 : decode cX8_image 201 = .ok (.iconst 1, 1) := by decide +kernel
theorem dX8_image_202 : decode cX8_image 202 = .ok (.ireturn, 1) := by decide +kernel
set_option maxRecDepth 20000 in
theorem ggX8_restore_X8_in : GoodIn wsX8_restore wsX8_in := goodIn_r _ [15] (by decide +kernel) (by decide +kernel)
set_option maxRecDepth 20000 in
theorem gX8_restore_X8_in : GoodIn wsX8_restore (va_wsS RX8 57 yX8_in wsX8_in) := goodIn_app (goodIn_of _ (by decide +kernel)) ggX8_restore_X8_in
theorem dX8_restore_0 : decode cX8_restore 0 = .ok (.iload_n 1, 1) := by decide +kernel
theorem dX8_restore_1 : decode cX8_restore 1 = .ok (.iconst 0, 1) := by decide +kernel
theorem dX8_restore_2 : decode cX8_restore 2 = .ok (.iconst 1, 1) := by decide +kernel
theorem dX8_restore_3 : decode cX8_restore 3 = .ok (.invokestatic 57, 3) := by decide +kernel
theorem dX8_restore_6 : decode cX8_restore 6 = .ok (.ifCond .ne 6, 3) := by decide +kernel
theorem dX8_restore_9 : decode cX8_restore 9 = .ok (.bipush (-2), 2) := by decide +kernel
theorem dX8_restore_11 : decode cX8_restore 11 = .ok (.ireturn, 1) := by decide +kernel
theorem dX8_restore_12 : decode cX8_restore 12 = .ok (.aload_n 0, 1) := by decide +kernel
theorem dX8_restore_13 : decode cX8_restore 13 = .ok (.getfield 53, 3) := by decide +kernel
theorem dX8_restore_16 : decode cX8_restore 16 = .ok (.iload_n 1, 1) := by decide +kernel
theorem dX8_restore_17 : decode cX8_restore 17 = .ok (.baload, 1) := by decide +kernel
theorem dX8_restore_18 : decode cX8_restore 18 = .ok (.ifCond .ne 6, 3) := by decide +kernel
theorem dX8_restore_21 : decode cX8_restore 21 = .ok (.bipush (-3), 2) := by decide +kernel
theorem dX8_restore_23 : decode cX8_restore 23 = .ok (.ireturn, 1) := by decide +kernel
theorem dX8_restore_24 : decode cX8_restore 24 = .ok (.bipush 40, 2) := by decide +kernel
theorem dX8_restore_26 : decode cX8_restore 26 = .ok (.iload_n 1, 1) := by decide +kernel
theorem dX8_restore_27 : decode cX8_restore 27 = .ok (.imul, 1) := by decide +kernel
theorem dX8_restore_28 : decode cX8_restore 28 = .ok (.istore_n 2, 1) := by decide +kernel
theorem dX8_restore_29 : decode cX8_restore 29 = .ok (.iconst 0, 1) := by decide +kernel
theorem dX8_restore_30 : decode cX8_restore 30 = .ok (.istore_n 3, 1) := by decide +kernel
theorem dX8_restore_31 : decode cX8_restore 31 = .ok (.iload_n 3, 1) := by decide +kernel
theorem dX8_restore_32 : decode cX8_restore 32 = .ok (.iconst 5, 1) := by decide +kernel
theorem dX8_restore_33 : decode cX8_restore 33 = .ok (.if_icmp .ge 56, 3) := by decide +kernel
theorem dX8_restore_36 : decode cX8_restore 36 = .ok (.aload_n 0, 1) := by decide +kernel
theorem dX8_restore_37 : decode cX8_restore 37 = .ok (.getfield 7, 3) := by decide +kernel
theorem dX8_restore_40 : decode cX8_restore 40 = .ok (.iload_n 3, 1) := by decide +kernel
theorem dX8_restore_41 : decode cX8_restore 41 = .ok (.aload_n 0, 1) := by decide +kernel
theorem dX8_restore_42 : decode cX8_restore 42 = .ok (.getfield 50, 3) := by decide +kernel
theorem dX8_restore_45 : decode cX8_restore 45 = .ok (.iload_n 2, 1) := by decide +kernel
theorem dX8_restore_46 : decode cX8_restore 46 = .ok (.iload_n 3, 1) := by decide +kernel
theorem dX8_restore_47 : decode cX8_restore 47 = .ok (.iadd, 1) := by decide +kernel
theorem dX8_restore_48 : decode cX8_restore 48 = .ok (.iaload, 1) := by decide +kernel
theorem dX8_restore_49 : decode cX8_restore 49 = .ok (.iastore, 1) := by decide +kernel
theorem dX8_restore_50 : decode cX8_restore 50 = .ok (.aload_n 0, 1) := by decide +kernel
theorem dX8_restore_51 : decode cX8_restore 51 = .ok (.getfield 13, 3) := by decide +kernel
theorem dX8_restore_54 : decode cX8_restore 54 = .ok (.iload_n 3, 1) := by decide +kernel
theorem dX8_restore_55 : decode cX8_restore 55 = .ok (.aload_n 0, 1) := by decide +kernel
theorem dX8_restore_56 : decode cX8_restore 56 = .ok (.getfield 50, 3) := by decide +kernel
theorem dX8_restore_59 : decode cX8_restore 59 = .ok (.iload_n 2, 1) := by decide +kernel
theorem dX8_restore_60 : decode cX8_restore 60 = .ok (.iconst 5, 1) := by decide +kernel
theorem dX8_restore_61 : decode cX8_restore 61 = .ok (.iadd, 1) := by decide +kernel
theorem dX8_restore_62 : decode cX8_restore 62 = .ok (.iload_n 3, 1) := by decide +kernel
theorem dX8_restore_63 : decode cX8_restore 63 = .ok (.iadd, 1) := by decide +kernel
theorem dX8_restore_64 : decode cX8_restore 64 = .ok (.iaload, 1) := by decide +kernel
theorem dX8_restore_65 : decode cX8_restore 65 = .ok (.iastore, 1) := by decide +kernel
theorem dX8_restore_66 : decode cX8_restore 66 = .ok (.aload_n 0, 1) := by decide +kernel
theorem dX8_restore_67 : decode cX8_restore 67 = .ok (.getfield 16, 3) := by decide +kernel
theorem dX8_restore_70 : decode cX8_restore 70 = .ok (.iload_n 3, 1) := by decide +kernel
theorem dX8_restore_71 : decode cX8_restore 71 = .ok (.aload_n 0, 1) := by decide +kernel
theorem dX8_restore_72 : decode cX8_restore 72 = .ok (.getfield 50, 3) := by decide +kernel
theorem dX8_restore_75 : decode cX8_restore 75 = .ok (.iload_n 2, 1) := by decide +kernel
theorem dX8_restore_76 : decode cX8_restore 76 = .ok (.bipush 10, 2) := by decide +kernel
theorem dX8_restore_78 : decode cX8_restore 78 = .ok (.iadd, 1) := by decide +kernel
theorem dX8_restore_79 : decode cX8_restore 79 = .ok (.iload_n 3, 1) := by decide +kernel
theorem dX8_restore_80 : decode cX8_restore 80 = .ok (.iadd, 1) := by decide +kernel
theorem dX8_restore_81 : decode cX8_restore 81 = .ok (.iaload, 1) := by decide +kernel
theorem dX8_restore_82 : decode cX8_restore 82 = .ok (.iastore, 1) := by decide +kernel
theorem dX8_restore_83 : decode cX8_restore 83 = .ok (.iinc 3 1, 3) := by decide +kernel
theorem dX8_restore_86 : decode cX8_restore 86 = .ok (.goto (-55), 3) := by decide +kernel
theorem dX8_restore_89 : decode cX8_restore 89 = .ok (.iconst 0, 1) := by decide +kernel
theorem dX8_restore_90 : decode cX8_restore 90 = .ok (.istore_n 3, 1) := by decide +kernel
theorem dX8_restore_91 : decode cX8_restore 91 = .ok (.iload_n 3, 1) := by decide +kernel
theorem dX8_restore_92 : decode cX8_restore 92 = .ok (.iconst 3, 1) := by decide +kernel
theorem dX8_restore_93 : decode cX8_restore 93 = .ok (.if_icmp .ge 43, 3) := by decide +kernel
theorem dX8_restore_96 : decode cX8_restore 96 = .ok (.aload_n 0, 1) := by decide +kernel
theorem dX8_restore_97 : decode cX8_restore 97 = .ok (.getfield 19, 3) := by decide +kernel
theorem dX8_restore_100 : decode cX8_restore 100 = .ok (.iload_n 3, 1) := by decide +kernel
theorem dX8_restore_101 : decode cX8_restore 101 = .ok (.aload_n 0, 1) := by decide +kernel
theorem dX8_restore_102 : decode cX8_restore 102 = .ok (.getfield 50, 3) := by decide +kernel
theorem dX8_restore_105 : decode cX8_restore 105 = .ok (.iload_n 2, 1) := by decide +kernel
theorem dX8_restore_106 : decode cX8_restore 106 = .ok (.bipush 15, 2) := by decide +kernel
theorem dX8_restore_108 : decode cX8_restore 108 = .ok (.iadd, 1) := by decide +kernel
theorem dX8_restore_109 : decode cX8_restore 109 = .ok (.iload_n 3, 1) := by decide +kernel
theorem dX8_restore_110 : decode cX8_restore 110 = .ok (.iadd, 1) := by decide +kernel
theorem dX8_restore_111 : decode cX8_restore 111 = .ok (.iaload, 1) := by decide +kernel
theorem dX8_restore_112 : decode cX8_restore 112 = .ok (.iastore, 1) := by decide +kernel
theorem dX8_restore_113 : decode cX8_restore 113 = .ok (.aload_n 0, 1) := by decide +kernel
theorem dX8_restore_114 : decode cX8_restore 114 = .ok (.getfield 22, 3) := by decide +kernel
theorem dX8_restore_117 : decode cX8_restore 117 = .ok (.iload_n 3, 1) := by decide +kernel
theorem dX8_restore_118 : decode cX8_restore 118 = .ok (.aload_n 0, 1) := by decide +kernel
theorem dX8_restore_119 : decode cX8_restore 119 = .ok (.getfield 50, 3) := by decide +kernel
theorem dX8_restore_122 : decode cX8_restore 122 = .ok (.iload_n 2, 1) := by decide +kernel
theorem dX8_restore_123 : decode cX8_restore 123 = .ok (.bipush 18, 2) := by decide +kernel
theorem dX8_restore_125 : decode cX8_restore 125 = .ok (.iadd, 1) := by decide +kernel
theorem dX8_restore_126 : decode cX8_restore 126 = .ok (.iload_n 3, 1) := by decide +kernel
theorem dX8_restore_127 : decode cX8_restore 127 = .ok (.iadd, 1) := by decide +kernel
theorem dX8_restore_128 : decode cX8_restore 128 = .ok (.iaload, 1) := by decide +kernel
theorem dX8_restore_129 : decode cX8_restore 129 = .ok (.iastore, 1) := by decide +kernel
theorem dX8_restore_130 : decode cX8_restore 130 = .ok (.iinc 3 1, 3) := by decide +kernel
theorem dX8_restore_133 : decode cX8_restore 133 = .ok (.goto (-42), 3) := by decide +kernel
theorem dX8_restore_136 : decode cX8_restore 136 = .ok (.iconst 0, 1) := by decide +kernel
theorem dX8_restore_137 : decode cX8_restore 137 = .ok (.istore_n 3, 1) := by decide +kernel
theorem dX8_restore_138 : decode cX8_restore 138 = .ok (.iload_n 3, 1) := by decide +kernel
theorem dX8_restore_139 : decode cX8_restore 139 = .ok (.bipush 12, 2) := by decide +kernel
theorem dX8_restore_141 : decode cX8_restore 141 = .ok (.if_icmp .ge 26, 3) := by decide +kernel
theorem dX8_restore_144 : decode cX8_restore 144 = .ok (.aload_n 0, 1) := by decide +kernel
theorem dX8_restore_145 : decode cX8_restore 145 = .ok (.getfield 25, 3) := by decide +kernel
theorem dX8_restore_148 : decode cX8_restore 148 = .ok (.iload_n 3, 1) := by decide +kernel
theorem dX8_restore_149 : decode cX8_restore 149 = .ok (.aload_n 0, 1) := by decide +kernel
theorem dX8_restore_150 : decode cX8_restore 150 = .ok (.getfield 50, 3) := by decide +kernel
theorem dX8_restore_153 : decode cX8_restore 153 = .ok (.iload_n 2, 1) := by decide +kernel
theorem dX8_restore_154 : decode cX8_restore 154 = .ok (.bipush 21, 2) := by decide +kernel
theorem dX8_restore_156 : decode cX8_restore 156 = .ok (.iadd, 1) := by decide +kernel
theorem dX8_restore_157 : decode cX8_restore 157 = .ok (.iload_n 3, 1) := by decide +kernel
theorem dX8_restore_158 : decode cX8_restore 158 = .ok (.iadd, 1) := by decide +kernel
theorem dX8_restore_159 : decode cX8_restore 159 = .ok (.iaload, 1) := by decide +kernel
theorem dX8_restore_160 : decode cX8_restore 160 = .ok (.iastore, 1) := by decide +kernel
theorem dX8_restore_161 : decode cX8_restore 161 = .ok (.iinc 3 1, 3) := by decide +kernel
theorem dX8_restore_164 : decode cX8_restore 164 = .ok (.goto (-26), 3) := by decide +kernel
theorem dX8_restore_167 : decode cX8_restore 167 = .ok (.aload_n 0, 1) := by decide +kernel
theorem dX8_restore_168 : decode cX8_restore 168 = .ok (.aload_n 0, 1) := by decide +kernel
theorem dX8_restore_169 : decode cX8_restore 169 = .ok (.getfield 50, 3) := by decide +kernel
theorem dX8_restore_172 : decode cX8_restore 172 = .ok (.iload_n 2, 1) := by decide +kernel
theorem dX8_restore_173 : decode cX8_restore 173 = .ok (.bipush 33, 2) := by decide +kernel
theorem dX8_restore_175 : decode cX8_restore 175 = .ok (.iadd, 1) := by decide +kernel
theorem dX8_restore_176 : decode cX8_restore 176 = .ok (.iaload, 1) := by decide +kernel
theorem dX8_restore_177 : decode cX8_restore 177 = .ok (.putfield 69, 3) := by decide +kernel
theorem dX8_restore_180 : decode cX8_restore 180 = .ok (.aload_n 0, 1) := by decide +kernel
theorem dX8_restore_181 : decode cX8_restore 181 = .ok (.aload_n 0, 1) := by decide +kernel
theorem dX8_restore_182 : decode cX8_restore 182 = .ok (.getfield 50, 3) := by decide +kernel
theorem dX8_restore_185 : decode cX8_restore 185 = .ok (.iload_n 2, 1) := by decide +kernel
theorem dX8_restore_186 : decode cX8_restore 186 = .ok (.bipush 34, 2) := by decide +kernel
theorem dX8_restore_188 : decode cX8_restore 188 = .ok (.iadd, 1) := by decide +kernel
theorem dX8_restore_189 : decode cX8_restore 189 = .ok (.iaload, 1) := by decide +kernel
theorem dX8_restore_190 : decode cX8_restore 190 = .ok (.putfield 72, 3) := by decide +kernel
theorem dX8_restore_193 : decode cX8_restore 193 = .ok (.aload_n 0, 1) := by decide +kernel
theorem dX8_restore_194 : decode cX8_restore 194 = .ok (.aload_n 0, 1) := by decide +kernel
theorem dX8_restore_195 : decode cX8_restore 195 = .ok (.getfield 50, 3) := by decide +kernel
theorem dX8_restore_198 : decode cX8_restore 198 = .ok (.iload_n 2, 1) := by decide +kernel
theorem dX8_restore_199 : decode cX8_restore 199 = .ok (.bipush 35, 2) := by decide +kernel
theorem dX8_restore_201 : decode cX8_restore 201 = .ok (.iadd, 1) := by decide +kernel
theorem dX8_restore_202 : decode cX8_restore 202 = .ok (.iaload, 1) := by decide +kernel
theorem dX8_restore_203 : decode cX8_restore 203 = .ok (.putfield 78, 3) := by decide +kernel
theorem dX8_restore_206 : decode cX8_restore 206 = .ok (.iconst 1, 1) := by decide +kernel
theorem dX8_restore_207 : decode cX8_restore 207 = .ok (.ireturn, 1) := by decide +kernel
set_option maxRecDepth 20000 in
theorem ggX8_told_X8_in : GoodIn wsX8_told wsX8_in := goodIn_r _ [8] (by decide +kernel) (by decide +kernel)
set_option maxRecDepth 20000 in
theorem gX8_told_X8_in : GoodIn wsX8_told (va_wsS RX8 57 yX8_in wsX8_in) := goodIn_app (goodIn_of _ (by decide +kernel)) ggX8_told_X8_in
theorem dX8_told_0 : decode cX8_told 0 = .ok (.iload_n 1, 1) := by decide +kernel
theorem dX8_told_1 : decode cX8_told 1 = .ok (.tableswitch 42 0 2 #[27, 32, 37], 27) := by decide +kernel
theorem dX8_told_28 : decode cX8_told 28 = .ok (.aload_n 0, 1) := by decide +kernel
theorem dX8_told_29 : decode cX8_told 29 = .ok (.getfield 61, 3) := by decide +kernel
theorem dX8_told_32 : decode cX8_told 32 = .ok (.ireturn, 1) := by decide +kernel
theorem dX8_told_33 : decode cX8_told 33 = .ok (.aload_n 0, 1) := by decide +kernel
theorem dX8_told_34 : decode cX8_told 34 = .ok (.getfield 69, 3) := by decide +kernel
theorem dX8_told_37 : decode cX8_told 37 = .ok (.ireturn, 1) := by decide +kernel
theorem dX8_told_38 : decode cX8_told 38 = .ok (.aload_n 0, 1) := by decide +kernel
theorem dX8_told_39 : decode cX8_told 39 = .ok (.getfield 78, 3) := by decide +kernel
theorem dX8_told_42 : decode cX8_told 42 = .ok (.ireturn, 1) := by decide +kernel
theorem dX8_told_43 : decode cX8_told 43 = .ok (.iload_n 1, 1) := by decide +kernel
theorem dX8_told_44 : decode cX8_told 44 = .ok (.bipush 10, 2) := by decide +kernel
theorem dX8_told_46 : decode cX8_told 46 = .ok (.bipush 9, 2) := by decide +kernel
theorem dX8_told_48 : decode cX8_told 48 = .ok (.aload_n 0, 1) := by decide +kernel
theorem dX8_told_49 : decode cX8_told 49 = .ok (.getfield 69, 3) := by decide +kernel
theorem dX8_told_52 : decode cX8_told 52 = .ok (.iadd, 1) := by decide +kernel
theorem dX8_told_53 : decode cX8_told 53 = .ok (.invokestatic 57, 3) := by decide +kernel
theorem dX8_told_56 : decode cX8_told 56 = .ok (.ifCond .eq 15, 3) := by decide +kernel
theorem dX8_told_59 : decode cX8_told 59 = .ok (.aload_n 0, 1) := by decide +kernel
theorem dX8_told_60 : decode cX8_told 60 = .ok (.getfield 25, 3) := by decide +kernel
theorem dX8_told_63 : decode cX8_told 63 = .ok (.iload_n 1, 1) := by decide +kernel
theorem dX8_told_64 : decode cX8_told 64 = .ok (.bipush 10, 2) := by decide +kernel
theorem dX8_told_66 : decode cX8_told 66 = .ok (.isub, 1) := by decide +kernel
theorem dX8_told_67 : decode cX8_told 67 = .ok (.iaload, 1) := by decide +kernel
theorem dX8_told_68 : decode cX8_told 68 = .ok (.goto 5, 3) := by decide +kernel
theorem dX8_told_71 : decode cX8_told 71 = .ok (.bipush (-2), 2) := by decide +kernel
theorem dX8_told_73 : decode cX8_told 73 = .ok (.ireturn, 1) := by decide +kernel
theorem dJ6_bitCount_0f7a4_0 : decode cJ6_bitCount_0f7a4 0 = .ok (.iload_n 0, 1) := by decide +kernel
theorem dJ6_bitCount_0f7a4_1 : decode cJ6_bitCount_0f7a4 1 = .ok (.iload_n 0, 1) := by decide +kernel
theorem dJ6_bitCount_0f7a4_2 : decode cJ6_bitCount_0f7a4 2 = .ok (.iconst 1, 1) := by decide +kernel
theorem dJ6_bitCount_0f7a4_3 : decode cJ6_bitCount_0f7a4 3 = .ok (.iushr, 1) := by decide +kernel
theorem dJ6_bitCount_0f7a4_4 : decode cJ6_bitCount_0f7a4 4 = .ok (.ldc_w 265, 3) := by decide +kernel
theorem dJ6_bitCount_0f7a4_7 : decode cJ6_bitCount_0f7a4 7 = .ok (.iand, 1) := by decide +kernel
theorem dJ6_bitCount_0f7a4_8 : decode cJ6_bitCount_0f7a4 8 = .ok (.isub, 1) := by decide +kernel
theorem dJ6_bitCount_0f7a4_9 : decode cJ6_bitCount_0f7a4 9 = .ok (.istore_n 0, 1) := by decide +kernel
theorem dJ6_bitCount_0f7a4_10 : decode cJ6_bitCount_0f7a4 10 = .ok (.iload_n 0, 1) := by decide +kernel
theorem dJ6_bitCount_0f7a4_11 : decode cJ6_bitCount_0f7a4 11 = .ok (.ldc_w 266, 3) := by decide +kernel
theorem dJ6_bitCount_0f7a4_14 : decode cJ6_bitCount_0f7a4 14 = .ok (.iand, 1) := by decide +kernel
theorem dJ6_bitCount_0f7a4_15 : decode cJ6_bitCount_0f7a4 15 = .ok (.iload_n 0, 1) := by decide +kernel
theorem dJ6_bitCount_0f7a4_16 : decode cJ6_bitCount_0f7a4 16 = .ok (.iconst 2, 1) := by decide +kernel
theorem dJ6_bitCount_0f7a4_17 : decode cJ6_bitCount_0f7a4 17 = .ok (.iushr, 1) := by decide +kernel
theorem dJ6_bitCount_0f7a4_18 : decode cJ6_bitCount_0f7a4 18 = .ok (.ldc_w 266, 3) := by decide +kernel
theorem dJ6_bitCount_0f7a4_21 : decode cJ6_bitCount_0f7a4 21 = .ok (.iand, 1) := by decide +kernel
theorem dJ6_bitCount_0f7a4_22 : decode cJ6_bitCount_0f7a4 22 = .ok (.iadd, 1) := by decide +kernel
theorem dJ6_bitCount_0f7a4_23 : decode cJ6_bitCount_0f7a4 23 = .ok (.istore_n 0, 1) := by decide +kernel
theorem dJ6_bitCount_0f7a4_24 : decode cJ6_bitCount_0f7a4 24 = .ok (.iload_n 0, 1) := by decide +kernel
theorem dJ6_bitCount_0f7a4_25 : decode cJ6_bitCount_0f7a4 25 = .ok (.iload_n 0, 1) := by decide +kernel
theorem dJ6_bitCount_0f7a4_26 : decode cJ6_bitCount_0f7a4 26 = .ok (.iconst 4, 1) := by decide +kernel
theorem dJ6_bitCount_0f7a4_27 : decode cJ6_bitCount_0f7a4 27 = .ok (.iushr, 1) := by decide +kernel
theorem dJ6_bitCount_0f7a4_28 : decode cJ6_bitCount_0f7a4 28 = .ok (.iadd, 1) := by decide +kernel
theorem dJ6_bitCount_0f7a4_29 : decode cJ6_bitCount_0f7a4 29 = .ok (.ldc_w 267, 3) := by decide +kernel
theorem dJ6_bitCount_0f7a4_32 : decode cJ6_bitCount_0f7a4 32 = .ok (.iand, 1) := by decide +kernel
theorem dJ6_bitCount_0f7a4_33 : decode cJ6_bitCount_0f7a4 33 = .ok (.istore_n 0, 1) := by decide +kernel
theorem dJ6_bitCount_0f7a4_34 : decode cJ6_bitCount_0f7a4 34 = .ok (.iload_n 0, 1) := by decide +kernel
theorem dJ6_bitCount_0f7a4_35 : decode cJ6_bitCount_0f7a4 35 = .ok (.iload_n 0, 1) := by decide +kernel
theorem dJ6_bitCount_0f7a4_36 : decode cJ6_bitCount_0f7a4 36 = .ok (.bipush 8, 2) := by decide +kernel
theorem dJ6_bitCount_0f7a4_38 : decode cJ6_bitCount_0f7a4 38 = .ok (.iushr, 1) := by decide +kernel
theorem dJ6_bitCount_0f7a4_39 : decode cJ6_bitCount_0f7a4 39 = .ok (.iadd, 1) := by decide +kernel
theorem dJ6_bitCount_0f7a4_40 : decode cJ6_bitCount_0f7a4 40 = .ok (.istore_n 0, 1) := by decide +kernel
theorem dJ6_bitCount_0f7a4_41 : decode cJ6_bitCount_0f7a4 41 = .ok (.iload_n 0, 1) := by decide +kernel
theorem dJ6_bitCount_0f7a4_42 : decode cJ6_bitCount_0f7a4 42 = .ok (.iload_n 0, 1) := by decide +kernel
theorem dJ6_bitCount_0f7a4_43 : decode cJ6_bitCount_0f7a4 43 = .ok (.bipush 16, 2) := by decide +kernel
theorem dJ6_bitCount_0f7a4_45 : decode cJ6_bitCount_0f7a4 45 = .ok (.iushr, 1) := by decide +kernel
theorem dJ6_bitCount_0f7a4_46 : decode cJ6_bitCount_0f7a4 46 = .ok (.iadd, 1) := by decide +kernel
theorem dJ6_bitCount_0f7a4_47 : decode cJ6_bitCount_0f7a4 47 = .ok (.istore_n 0, 1) := by decide +kernel
theorem dJ6_bitCount_0f7a4_48 : decode cJ6_bitCount_0f7a4 48 = .ok (.iload_n 0, 1) := by decide +kernel
theorem dJ6_bitCount_0f7a4_49 : decode cJ6_bitCount_0f7a4 49 = .ok (.bipush 63, 2) := by decide +kernel
theorem dJ6_bitCount_0f7a4_51 : decode cJ6_bitCount_0f7a4 51 = .ok (.iand, 1) := by decide +kernel
theorem dJ6_bitCount_0f7a4_52 : decode cJ6_bitCount_0f7a4 52 = .ok (.ireturn, 1) := by decide +kernel
theorem dJ9_abs_0f7a4_0 : decode cJ9_abs_0f7a4 0 = .ok (.iload_n 0, 1) := by decide +kernel
theorem dJ9_abs_0f7a4_1 : decode cJ9_abs_0f7a4 1 = .ok (.ifCond .ge 8, 3) := by decide +kernel
theorem dJ9_abs_0f7a4_4 : decode cJ9_abs_0f7a4 4 = .ok (.iload_n 0, 1) := by decide +kernel
theorem dJ9_abs_0f7a4_5 : decode cJ9_abs_0f7a4 5 = .ok (.ineg, 1) := by decide +kernel
theorem dJ9_abs_0f7a4_6 : decode cJ9_abs_0f7a4 6 = .ok (.goto 4, 3) := by decide +kernel
theorem dJ9_abs_0f7a4_9 : decode cJ9_abs_0f7a4 9 = .ok (.iload_n 0, 1) := by decide +kernel
theorem dJ9_abs_0f7a4_10 : decode cJ9_abs_0f7a4 10 = .ok (.ireturn, 1) := by decide +kernel
theorem dJ9_max_7cf53_0 : decode cJ9_max_7cf53 0 = .ok (.iload_n 0, 1) := by decide +kernel
theorem dJ9_max_7cf53_1 : decode cJ9_max_7cf53 1 = .ok (.iload_n 1, 1) := by decide +kernel
theorem dJ9_max_7cf53_2 : decode cJ9_max_7cf53 2 = .ok (.if_icmp .lt 7, 3) := by decide +kernel
theorem dJ9_max_7cf53_5 : decode cJ9_max_7cf53 5 = .ok (.iload_n 0, 1) := by decide +kernel
theorem dJ9_max_7cf53_6 : decode cJ9_max_7cf53 6 = .ok (.goto 4, 3) := by decide +kernel
theorem dJ9_max_7cf53_9 : decode cJ9_max_7cf53 9 = .ok (.iload_n 1, 1) := by decide +kernel
theorem dJ9_max_7cf53_10 : decode cJ9_max_7cf53 10 = .ok (.ireturn, 1) := by decide +kernel
theorem dJ9_min_7cf53_0 : decode cJ9_min_7cf53 0 = .ok (.iload_n 0, 1) := by decide +kernel
theorem dJ9_min_7cf53_1 : decode cJ9_min_7cf53 1 = .ok (.iload_n 1, 1) := by decide +kernel
theorem dJ9_min_7cf53_2 : decode cJ9_min_7cf53 2 = .ok (.if_icmp .gt 7, 3) := by decide +kernel
theorem dJ9_min_7cf53_5 : decode cJ9_min_7cf53 5 = .ok (.iload_n 0, 1) := by decide +kernel
theorem dJ9_min_7cf53_6 : decode cJ9_min_7cf53 6 = .ok (.goto 4, 3) := by decide +kernel
theorem dJ9_min_7cf53_9 : decode cJ9_min_7cf53 9 = .ok (.iload_n 1, 1) := by decide +kernel
theorem dJ9_min_7cf53_10 : decode cJ9_min_7cf53 10 = .ok (.ireturn, 1) := by decide +kernel
theorem dJ9_min_f86c9_0 : decode cJ9_min_f86c9 0 = .ok (.lload_n 0, 1) := by decide +kernel
theorem dJ9_min_f86c9_1 : decode cJ9_min_f86c9 1 = .ok (.lload_n 2, 1) := by decide +kernel
theorem dJ9_min_f86c9_2 : decode cJ9_min_f86c9 2 = .ok (.lcmp, 1) := by decide +kernel
theorem dJ9_min_f86c9_3 : decode cJ9_min_f86c9 3 = .ok (.ifCond .gt 7, 3) := by decide +kernel
theorem dJ9_min_f86c9_6 : decode cJ9_min_f86c9 6 = .ok (.lload_n 0, 1) := by decide +kernel
theorem dJ9_min_f86c9_7 : decode cJ9_min_f86c9 7 = .ok (.goto 4, 3) := by decide +kernel
theorem dJ9_min_f86c9_10 : decode cJ9_min_f86c9 10 = .ok (.lload_n 2, 1) := by decide +kernel
theorem dJ9_min_f86c9_11 : decode cJ9_min_f86c9 11 = .ok (.lreturn, 1) := by decide +kernel
set_option maxRecDepth 20000 in
theorem ggL_law_X7_init : GoodIn wsL_law wsX7_init := goodIn_r _ [8, 9, 10, 11, 12, 13, 14, 15, 16, 17, 18, 19, 20, 21, 22, 23, 24, 25, 26, 27, 28, 29, 30, 31, 32, 33, 34, 35, 36, 37, 38, 39, 40, 41, 42, 43, 44, 45, 46, 47, 48, 49, 50, 51, 52, 53, 54, 55, 56, 57, 58, 59, 60, 61, 62, 63, 64, 65, 66, 67, 68, 69, 70, 71, 72, 73, 74, 75, 76, 77, 78, 79, 80, 81, 82, 83, 84, 85, 86, 87, 88, 89, 627, 628, 629, 597, 598, 599, 600, 601, 602, 603, 604, 630, 631, 632, 633, 634, 635, 636, 637, 638, 639, 640, 641, 642, 643, 644, 645, 646, 647, 648, 649, 650, 651, 652, 653, 654, 655, 656, 657, 658, 659, 660, 661, 662, 663] (by decide +kernel) (by decide +kernel)
set_option maxRecDepth 20000 in
theorem gL_law_X7_init : GoodIn wsL_law (wsX7_init) := ggL_law_X7_init
set_option maxRecDepth 20000 in
theorem ggL_law_X8_init : GoodIn wsL_law wsX8_init := goodIn_r _ [92, 93, 10, 11, 45, 94, 95, 96, 97, 98, 99, 100, 101, 75, 102, 103, 104, 105, 106, 107, 108, 109, 605, 606, 607, 608, 609, 610, 611, 612, 613, 614, 615, 616, 617, 618, 619, 620, 621, 622, 623, 624, 625, 626] (by decide +kernel) (by decide +kernel)
set_option maxRecDepth 20000 in
theorem gL_law_X8_init : GoodIn wsL_law (wsX8_init) := ggL_law_X8_init
set_option maxRecDepth 20000 in
theorem ggL_law_X7_say : GoodIn wsL_law wsX7_say := goodIn_r _ [113, 15, 114, 115, 116, 117, 14, 118, 119, 46, 597, 598, 599, 600, 601, 602, 603, 604, 627, 628, 629] (by decide +kernel) (by decide +kernel)
set_option maxRecDepth 20000 in
theorem gL_law_X7_say : GoodIn wsL_law (wsV RL 13 RX7 yX7_say wsX7_say) := goodIn_app (goodIn_of _ (by decide +kernel)) ggL_law_X7_say
set_option maxRecDepth 20000 in
theorem ggL_law_X8_say : GoodIn wsL_law wsX8_say := goodIn_r _ [123, 124, 100, 125, 126, 5, 127, 605, 606, 607, 608, 609, 610, 611, 612, 613, 614, 615, 616, 617, 618, 619, 620, 621, 622, 623, 624, 625, 626] (by decide +kernel) (by decide +kernel)
set_option maxRecDepth 20000 in
theorem gL_law_X8_say : GoodIn wsL_law (wsV RL 17 RX8 yX8_say wsX8_say) := goodIn_app (goodIn_of _ (by decide +kernel)) ggL_law_X8_say
set_option maxRecDepth 20000 in
theorem ggL_law_X7_wipe : GoodIn wsL_law wsX7_wipe := goodIn_r _ [131, 15, 114, 597, 598, 599, 600, 601, 602, 603, 604, 627, 628, 629] (by decide +kernel) (by decide +kernel)
set_option maxRecDepth 20000 in
theorem gL_law_X7_wipe : GoodIn wsL_law (wsV RL 18 RX7 yX7_wipe wsX7_wipe) := goodIn_app (goodIn_of _ (by decide +kernel)) ggL_law_X7_wipe
set_option maxRecDepth 20000 in
theorem ggL_law_X8_wipe : GoodIn wsL_law wsX8_wipe := goodIn_r _ [135, 124, 605, 606, 607, 608, 609, 610, 611, 612, 613, 614, 615, 616, 617, 618, 619, 620, 621, 622, 623, 624, 625, 626] (by decide +kernel) (by decide +kernel)
set_option maxRecDepth 20000 in
theorem gL_law_X8_wipe : GoodIn wsL_law (wsV RL 22 RX8 yX8_wipe wsX8_wipe) := goodIn_app (goodIn_of _ (by decide +kernel)) ggL_law_X8_wipe
set_option maxRecDepth 20000 in
theorem ggL_law_X7_fault : GoodIn wsL_law wsX7_fault := goodIn_r _ [139, 15, 140, 141, 142, 14, 143, 44, 119, 46, 144, 145, 146, 147, 43, 148, 149, 150, 151, 152, 153, 154, 155, 156, 157, 158, 159, 160, 161, 162, 163, 164, 165, 50, 51, 52, 53, 56, 166, 2, 167, 168, 169, 170, 171, 172, 173, 174, 175, 54, 55, 597, 598, 599, 600, 601, 602, 603, 604, 627, 628, 629, 652, 653, 654, 655, 656, 657, 658, 659, 660, 661, 662, 663] (by decide +kernel) (by decide +kernel)
set_option maxRecDepth 20000 in
theorem gL_law_X7_fault : GoodIn wsL_law (wsV RL 23 RX7 yX7_fault wsX7_fault) := goodIn_app (goodIn_of _ (by decide +kernel)) ggL_law_X7_fault
set_option maxRecDepth 20000 in
theorem ggL_law_X8_fault : GoodIn wsL_law wsX8_fault := goodIn_r _ [179, 180, 181, 182, 5, 183, 124, 100, 101, 125, 126, 127, 605, 606, 607, 608, 609, 610, 611, 612, 613, 614, 615, 616, 617, 618, 619, 620, 621, 622, 623, 624, 625, 626] (by decide +kernel) (by decide +kernel)
set_option maxRecDepth 20000 in
theorem gL_law_X8_fault : GoodIn wsL_law (wsV RL 26 RX8 yX8_fault wsX8_fault) := goodIn_app (goodIn_of _ (by decide +kernel)) ggL_law_X8_fault
set_option maxRecDepth 20000 in
theorem ggL_law_X7_load : GoodIn wsL_law wsX7_load := goodIn_r _ [187, 15, 19, 188, 189, 114, 37, 190, 140, 141, 142, 14, 143, 44, 119, 46, 144, 145, 146, 147, 43, 148, 149, 150, 151, 152, 153, 154, 155, 156, 157, 158, 159, 160, 161, 162, 163, 164, 165, 50, 51, 52, 53, 56, 166, 2, 167, 168, 169, 170, 171, 172, 173, 174, 175, 54, 55, 191, 192, 193, 194, 195, 196, 197, 18, 198, 62, 597, 598, 599, 600, 601, 602, 603, 604, 630, 631, 632, 627, 628, 629, 652, 653, 654, 655, 656, 657, 658, 659, 660, 661, 662, 663] (by decide +kernel) (by decide +kernel)
set_option maxRecDepth 20000 in
theorem gL_law_X7_load : GoodIn wsL_law (wsV RL 27 RX7 yX7_load wsX7_load) := goodIn_app (goodIn_of _ (by decide +kernel)) ggL_law_X7_load
set_option maxRecDepth 20000 in
theorem ggL_law_X8_load : GoodIn wsL_law wsX8_load := goodIn_r _ [202, 203, 204, 94, 96, 97, 124, 100, 95, 98, 180, 181, 182, 5, 183, 101, 125, 126, 127, 205, 206, 207, 208, 99, 605, 606, 607, 608, 609, 610, 611, 612, 613, 614, 615, 616, 617, 618, 619, 620, 621, 622, 623, 624, 625, 626] (by decide +kernel) (by decide +kernel)
set_option maxRecDepth 20000 in
theorem gL_law_X8_load : GoodIn wsL_law (wsV RL 30 RX8 yX8_load wsX8_load) := goodIn_app (goodIn_of _ (by decide +kernel)) ggL_law_X8_load
set_option maxRecDepth 20000 in
theorem ggL_law_X7_target : GoodIn wsL_law wsX7_target := goodIn_r _ [212, 19, 213, 37, 195, 196, 197, 18, 198, 62, 597, 598, 599, 600, 601, 602, 603, 604, 630, 631, 632] (by decide +kernel) (by decide +kernel)
set_option maxRecDepth 20000 in
theorem gL_law_X7_target : GoodIn wsL_law (wsV RL 31 RX7 yX7_target wsX7_target) := goodIn_app (goodIn_of _ (by decide +kernel)) ggL_law_X7_target
set_option maxRecDepth 20000 in
theorem ggL_law_X8_target : GoodIn wsL_law wsX8_target := goodIn_r _ [217, 218, 125, 126, 5, 127, 205, 206, 207, 208, 99, 605, 606, 607, 608, 609, 610, 611, 612, 613, 614, 615, 616, 617, 618, 619, 620, 621, 622, 623, 624, 625, 626] (by decide +kernel) (by decide +kernel)
set_option maxRecDepth 20000 in
theorem gL_law_X8_target : GoodIn wsL_law (wsV RL 34 RX8 yX8_target wsX8_target) := goodIn_app (goodIn_of _ (by decide +kernel)) ggL_law_X8_target
set_option maxRecDepth 20000 in
theorem ggL_law_X7_link : GoodIn wsL_law wsX7_link := goodIn_r _ [222, 19, 188, 190, 213, 223, 37, 597, 598, 599, 600, 601, 602, 603, 604, 630, 631, 632, 652, 653, 654, 655, 656, 657, 658, 659, 660, 661, 662, 663] (by decide +kernel) (by decide +kernel)
set_option maxRecDepth 20000 in
theorem gL_law_X7_link : GoodIn wsL_law (wsV RL 35 RX7 yX7_link wsX7_link) := goodIn_app (goodIn_of _ (by decide +kernel)) ggL_law_X7_link
set_option maxRecDepth 20000 in
theorem ggL_law_X8_link : GoodIn wsL_law wsX8_link := goodIn_r _ [227, 203, 218, 99, 125, 126, 5, 127, 605, 606, 607, 608, 609, 610, 611, 612, 613, 614, 615, 616, 617, 618, 619, 620, 621, 622, 623, 624, 625, 626] (by decide +kernel) (by decide +kernel)
set_option maxRecDepth 20000 in
theorem gL_law_X8_link : GoodIn wsL_law (wsV RL 39 RX8 yX8_link wsX8_link) := goodIn_app (goodIn_of _ (by decide +kernel)) ggL_law_X8_link
set_option maxRecDepth 20000 in
theorem ggL_law_X7_pair : GoodIn wsL_law wsX7_pair := goodIn_r _ [231, 19, 188, 232, 233, 234, 235, 24, 236, 237, 28, 238, 239, 240, 241, 242, 166, 2, 167, 243, 244, 245, 246, 37, 213, 32, 36, 247, 248, 249, 23, 250, 251, 252, 253, 254, 68, 255, 256, 257, 258, 259, 260, 261, 66, 67, 262, 263, 264, 18, 265, 62, 266, 267, 268, 269, 270, 271, 272, 273, 274, 275, 276, 277, 278, 279, 27, 280, 281, 282, 283, 77, 284, 285, 286, 287, 76, 288, 289, 290, 291, 292, 293, 294, 295, 296, 297, 298, 299, 300, 301, 302, 303, 304, 305, 306, 307, 308, 78, 309, 310, 311, 312, 313, 314, 315, 316, 317, 318, 319, 320, 321, 322, 323, 324, 325, 326, 327, 328, 329, 330, 331, 332, 333, 334, 72, 73, 74, 335, 336, 337, 31, 338, 83, 339, 340, 341, 342, 84, 82, 343, 344, 345, 346, 347, 348, 349, 350, 351, 35, 352, 353, 354, 355, 356, 357, 358, 359, 360, 361, 362, 363, 364, 365, 366, 367, 368, 369, 370, 371, 372, 373, 374, 88, 375, 376, 377, 378, 89, 379, 380, 381, 43, 382, 53, 383, 384, 385, 386, 387, 388, 389, 390, 391, 392, 393, 394, 395, 396, 397, 398, 399, 400, 401, 402, 403, 404, 405, 406, 407, 408, 409, 597, 598, 599, 600, 601, 602, 603, 604, 630, 631, 632, 652, 653, 654, 655, 656, 657, 658, 659, 660, 661, 662, 663, 633, 634, 635, 636, 637, 638, 639, 640, 641, 642, 643, 644, 645, 646, 647, 648, 649, 650, 651] (by decide +kernel) (by decide +kernel)
set_option maxRecDepth 20000 in
theorem gL_law_X7_pair : GoodIn wsL_law (wsV RL 40 RX7 yX7_pair wsX7_pair) := goodIn_app (goodIn_of _ (by decide +kernel)) ggL_law_X7_pair
set_option maxRecDepth 20000 in
theorem ggL_law_X8_pair : GoodIn wsL_law wsX8_pair := goodIn_r _ [413, 94, 95, 96, 103, 104, 414, 415, 416, 5, 417, 125, 126, 127, 418, 419, 420, 421, 218, 102, 422, 423, 424, 425, 426, 427, 428, 429, 430, 431, 432, 433, 434, 435, 436, 437, 438, 439, 440, 441, 442, 443, 444, 445, 446, 447, 448, 449, 450, 451, 452, 453, 454, 455, 456, 457, 458, 459, 460, 461, 462, 99, 463, 464, 465, 466, 467, 468, 469, 470, 471, 472, 473, 474, 475, 476, 477, 478, 479, 480, 204, 481, 97, 98, 105, 482, 483, 484, 485, 605, 606, 607, 608, 609, 610, 611, 612, 613, 614, 615, 616, 617, 618, 619, 620, 621, 622, 623, 624, 625, 626] (by decide +kernel) (by decide +kernel)
set_option maxRecDepth 20000 in
theorem gL_law_X8_pair : GoodIn wsL_law (wsV RL 43 RX8 yX8_pair wsX8_pair) := goodIn_app (goodIn_of _ (by decide +kernel)) ggL_law_X8_pair
set_option maxRecDepth 20000 in
theorem ggL_law_X7_mark : GoodIn wsL_law wsX7_mark := goodIn_r _ [489, 19, 188, 490, 491, 24, 492, 32, 493, 242, 166, 2, 167, 243, 244, 245, 246, 37, 28, 213, 36, 247, 248, 249, 23, 250, 251, 252, 253, 254, 68, 255, 256, 257, 258, 259, 260, 261, 66, 67, 262, 263, 264, 18, 265, 62, 266, 267, 268, 269, 270, 271, 272, 273, 274, 275, 276, 277, 278, 279, 27, 280, 281, 282, 283, 77, 284, 285, 286, 287, 76, 288, 289, 290, 291, 292, 293, 294, 295, 296, 297, 298, 299, 300, 301, 302, 303, 304, 305, 306, 307, 308, 78, 309, 310, 311, 312, 313, 314, 315, 316, 317, 318, 319, 320, 321, 322, 323, 324, 325, 326, 327, 328, 329, 330, 331, 332, 333, 334, 72, 73, 74, 335, 336, 337, 31, 338, 83, 339, 340, 341, 342, 84, 82, 343, 344, 345, 346, 347, 348, 349, 350, 351, 35, 352, 353, 354, 355, 356, 357, 358, 359, 360, 361, 362, 363, 364, 365, 366, 367, 368, 369, 370, 371, 372, 373, 374, 88, 375, 376, 377, 378, 89, 379, 380, 381, 43, 382, 53, 383, 384, 385, 386, 387, 388, 389, 390, 391, 392, 393, 394, 395, 396, 397, 398, 399, 400, 401, 402, 403, 404, 405, 406, 407, 408, 597, 598, 599, 600, 601, 602, 603, 604, 630, 631, 632, 652, 653, 654, 655, 656, 657, 658, 659, 660, 661, 662, 663, 633, 634, 635, 636, 645, 646, 647, 648, 637, 638, 639, 640, 641, 642, 643, 644, 649, 650, 651] (by decide +kernel) (by decide +kernel)
set_option maxRecDepth 20000 in
theorem gL_law_X7_mark : GoodIn wsL_law (wsV RL 44 RX7 yX7_mark wsX7_mark) := goodIn_app (goodIn_of _ (by decide +kernel)) ggL_law_X7_mark
set_option maxRecDepth 20000 in
theorem ggL_law_X8_mark : GoodIn wsL_law wsX8_mark := goodIn_r _ [497, 97, 105, 125, 126, 5, 127, 418, 419, 420, 421, 218, 102, 422, 423, 424, 103, 104, 425, 426, 427, 428, 414, 415, 416, 417, 94, 429, 430, 431, 432, 433, 434, 435, 436, 437, 438, 439, 96, 440, 441, 442, 443, 444, 445, 446, 447, 448, 449, 450, 451, 452, 453, 454, 455, 456, 457, 458, 459, 460, 461, 462, 95, 99, 463, 464, 465, 466, 467, 468, 469, 470, 471, 472, 473, 474, 475, 476, 477, 478, 479, 480, 204, 481, 98, 605, 606, 607, 608, 609, 610, 611, 612, 613, 614, 615, 616, 617, 618, 619, 620, 621, 622, 623, 624, 625, 626] (by decide +kernel) (by decide +kernel)
set_option maxRecDepth 20000 in
theorem gL_law_X8_mark : GoodIn wsL_law (wsV RL 47 RX8 yX8_mark wsX8_mark) := goodIn_app (goodIn_of _ (by decide +kernel)) ggL_law_X8_mark
set_option maxRecDepth 20000 in
theorem ggL_law_X7_total : GoodIn wsL_law wsX7_total := goodIn_r _ [501, 28, 502, 32, 503, 19, 188, 232, 24, 241, 490, 243, 244, 245, 2, 246, 37, 213, 36, 247, 248, 249, 23, 250, 251, 252, 253, 254, 68, 255, 166, 167, 256, 257, 258, 259, 260, 261, 66, 67, 262, 263, 264, 18, 265, 62, 266, 267, 268, 269, 270, 271, 272, 273, 274, 275, 276, 277, 278, 279, 27, 280, 281, 282, 283, 77, 284, 285, 286, 287, 76, 288, 289, 290, 291, 292, 293, 294, 295, 296, 297, 298, 299, 300, 301, 302, 303, 304, 305, 306, 307, 308, 78, 309, 310, 311, 312, 313, 314, 315, 316, 317, 318, 319, 320, 321, 322, 323, 324, 325, 326, 327, 328, 329, 330, 331, 332, 333, 334, 72, 73, 74, 335, 336, 337, 31, 338, 83, 339, 340, 341, 342, 84, 82, 343, 344, 345, 346, 347, 348, 349, 350, 351, 35, 352, 353, 354, 355, 356, 357, 358, 359, 360, 361, 362, 363, 364, 365, 366, 367, 368, 369, 370, 371, 372, 373, 374, 88, 375, 376, 377, 378, 89, 379, 380, 381, 43, 382, 53, 383, 384, 385, 386, 387, 388, 389, 390, 391, 392, 393, 394, 395, 396, 397, 398, 399, 400, 401, 402, 403, 404, 405, 406, 407, 408, 504, 505, 506, 507, 508, 509, 510, 511, 512, 513, 514, 515, 516, 517, 518, 519, 520, 521, 522, 523, 524, 150, 52, 597, 598, 599, 600, 601, 602, 603, 604, 637, 638, 639, 640, 641, 642, 643, 644, 645, 646, 647, 648, 630, 631, 632, 652, 653, 654, 655, 656, 657, 658, 659, 660, 661, 662, 663, 633, 634, 635, 636, 649, 650, 651] (by decide +kernel) (by decide +kernel)
set_option maxRecDepth 20000 in
theorem gL_law_X7_total : GoodIn wsL_law (wsV RL 48 RX7 yX7_total wsX7_total) := goodIn_app (goodIn_of _ (by decide +kernel)) ggL_law_X7_total
set_option maxRecDepth 20000 in
theorem ggL_law_X8_total : GoodIn wsL_law wsX8_total := goodIn_r _ [528, 423, 481, 204, 98, 203, 99, 96, 125, 126, 5, 127, 418, 419, 420, 421, 218, 102, 422, 424, 103, 104, 425, 426, 427, 428, 414, 415, 416, 417, 94, 429, 430, 431, 432, 433, 434, 435, 436, 437, 438, 439, 440, 441, 442, 443, 444, 445, 446, 447, 448, 449, 450, 451, 452, 453, 454, 455, 456, 457, 458, 459, 460, 461, 462, 95, 463, 464, 465, 466, 467, 468, 469, 470, 471, 472, 473, 474, 475, 476, 477, 478, 479, 480, 97, 105, 529, 530, 531, 532, 533, 534, 535, 605, 606, 607, 608, 609, 610, 611, 612, 613, 614, 615, 616, 617, 618, 619, 620, 621, 622, 623, 624, 625, 626] (by decide +kernel) (by decide +kernel)
set_option maxRecDepth 20000 in
theorem gL_law_X8_total : GoodIn wsL_law (wsV RL 51 RX8 yX8_total wsX8_total) := goodIn_app (goodIn_of _ (by decide +kernel)) ggL_law_X8_total
set_option maxRecDepth 20000 in
theorem ggL_law_X7_sign : GoodIn wsL_law wsX7_sign := goodIn_r _ [539, 36, 540, 541, 243, 244, 245, 2, 246, 37, 24, 19, 28, 188, 213, 32, 247, 248, 249, 23, 250, 251, 252, 253, 254, 68, 255, 166, 167, 256, 257, 258, 259, 260, 261, 66, 67, 262, 263, 264, 18, 265, 62, 266, 267, 268, 269, 270, 271, 272, 273, 274, 275, 276, 277, 278, 279, 27, 280, 281, 282, 283, 77, 284, 285, 286, 287, 76, 288, 289, 290, 291, 292, 293, 294, 295, 296, 297, 298, 299, 300, 301, 302, 303, 304, 305, 306, 307, 308, 78, 309, 310, 311, 312, 313, 314, 315, 316, 317, 318, 319, 320, 321, 322, 323, 324, 325, 326, 327, 328, 329, 330, 331, 332, 333, 334, 72, 73, 74, 335, 336, 337, 31, 338, 83, 339, 340, 341, 342, 84, 82, 343, 344, 345, 346, 347, 348, 349, 350, 351, 35, 352, 353, 354, 355, 356, 357, 358, 359, 360, 361, 362, 363, 364, 365, 366, 367, 368, 369, 370, 371, 372, 373, 374, 88, 375, 376, 377, 378, 89, 379, 380, 381, 43, 382, 53, 383, 384, 385, 386, 387, 388, 389, 390, 391, 392, 393, 394, 395, 396, 397, 398, 399, 400, 401, 402, 403, 404, 405, 406, 407, 408, 597, 598, 599, 600, 601, 602, 603, 604, 649, 650, 651, 630, 631, 632, 633, 634, 635, 636, 652, 653, 654, 655, 656, 657, 658, 659, 660, 661, 662, 663, 637, 638, 639, 640, 641, 642, 643, 644, 645, 646, 647, 648] (by decide +kernel) (by decide +kernel)
set_option maxRecDepth 20000 in
theorem gL_law_X7_sign : GoodIn wsL_law (wsV RL 52 RX7 yX7_sign wsX7_sign) := goodIn_app (goodIn_of _ (by decide +kernel)) ggL_law_X7_sign
set_option maxRecDepth 20000 in
theorem ggL_law_X8_sign : GoodIn wsL_law wsX8_sign := goodIn_r _ [545, 546, 218, 204, 105, 98, 106, 418, 419, 420, 5, 421, 102, 422, 423, 424, 103, 104, 425, 426, 427, 428, 414, 415, 416, 417, 94, 125, 126, 127, 429, 430, 431, 432, 433, 434, 435, 436, 437, 438, 439, 96, 440, 441, 442, 443, 444, 445, 446, 447, 448, 449, 450, 451, 452, 453, 454, 455, 456, 457, 458, 459, 460, 461, 462, 95, 99, 463, 464, 465, 466, 467, 468, 469, 470, 471, 472, 473, 474, 475, 476, 477, 478, 479, 480, 481, 97, 547, 548, 549, 550, 551, 552, 553, 554, 555, 556, 557, 558, 559, 560, 561, 562, 482, 483, 484, 485, 563, 564, 565, 566, 605, 606, 607, 608, 609, 610, 611, 612, 613, 614, 615, 616, 617, 618, 619, 620, 621, 622, 623, 624, 625, 626] (by decide +kernel) (by decide +kernel)
set_option maxRecDepth 20000 in
theorem gL_law_X8_sign : GoodIn wsL_law (wsV RL 55 RX8 yX8_sign wsX8_sign) := goodIn_app (goodIn_of _ (by decide +kernel)) ggL_law_X8_sign
set_option maxRecDepth 20000 in
theorem ggL_law_X7_image : GoodIn wsL_law wsX7_image := goodIn_r _ [570, 20, 16, 17, 18, 19, 57, 58, 59, 10, 11, 60, 42, 43, 61, 45, 62, 47, 48, 49, 50, 51, 52, 53, 54, 55, 56, 571, 572, 573, 574, 575, 576, 192, 193, 194, 149, 150, 151, 152, 153, 597, 598, 599, 600, 601, 602, 603, 604, 630, 631, 632, 652, 653, 654, 655, 656, 657, 658, 659, 660, 661, 662, 663] (by decide +kernel) (by decide +kernel)
set_option maxRecDepth 20000 in
theorem gL_law_X7_image : GoodIn wsL_law (wsV RL 56 RX7 yX7_image wsX7_image) := goodIn_app (goodIn_of _ (by decide +kernel)) ggL_law_X7_image
set_option maxRecDepth 20000 in
theorem ggL_law_X8_image : GoodIn wsL_law wsX8_image := goodIn_r _ [580, 107, 94, 95, 96, 97, 98, 99, 203, 204, 218, 109, 125, 126, 5, 127, 605, 606, 607, 608, 609, 610, 611, 612, 613, 614, 615, 616, 617, 618, 619, 620, 621, 622, 623, 624, 625, 626] (by decide +kernel) (by decide +kernel)
set_option maxRecDepth 20000 in
theorem gL_law_X8_image : GoodIn wsL_law (wsV RL 59 RX8 yX8_image wsX8_image) := goodIn_app (goodIn_of _ (by decide +kernel)) ggL_law_X8_image
set_option maxRecDepth 20000 in
theorem ggL_law_X7_restore : GoodIn wsL_law wsX7_restore := goodIn_r _ [584, 20, 19, 37, 571, 572, 573, 18, 574, 61, 575, 62, 576, 192, 193, 43, 194, 149, 150, 151, 152, 153, 50, 51, 52, 53, 56, 54, 55, 597, 598, 599, 600, 601, 602, 603, 604, 630, 631, 632, 652, 653, 654, 655, 656, 657, 658, 659, 660, 661, 662, 663] (by decide +kernel) (by decide +kernel)
set_option maxRecDepth 20000 in
theorem gL_law_X7_restore : GoodIn wsL_law (wsV RL 60 RX7 yX7_restore wsX7_restore) := goodIn_app (goodIn_of _ (by decide +kernel)) ggL_law_X7_restore
set_option maxRecDepth 20000 in
theorem ggL_law_X8_restore : GoodIn wsL_law wsX8_restore := goodIn_r _ [588, 109, 94, 107, 95, 96, 97, 98, 99, 203, 204, 218, 125, 126, 5, 127, 605, 606, 607, 608, 609, 610, 611, 612, 613, 614, 615, 616, 617, 618, 619, 620, 621, 622, 623, 624, 625, 626] (by decide +kernel) (by decide +kernel)
set_option maxRecDepth 20000 in
theorem gL_law_X8_restore : GoodIn wsL_law (wsV RL 63 RX8 yX8_restore wsX8_restore) := goodIn_app (goodIn_of _ (by decide +kernel)) ggL_law_X8_restore
set_option maxRecDepth 20000 in
theorem ggL_law_X7_told : GoodIn wsL_law wsX7_told := goodIn_r _ [592, 19, 188, 190, 223, 15, 114, 213, 597, 598, 599, 600, 601, 602, 603, 604, 630, 631, 632, 652, 653, 654, 655, 656, 657, 658, 659, 660, 661, 662, 663, 627, 628, 629] (by decide +kernel) (by decide +kernel)
set_option maxRecDepth 20000 in
theorem gL_law_X7_told : GoodIn wsL_law (wsV RL 64 RX7 yX7_told wsX7_told) := goodIn_app (goodIn_of _ (by decide +kernel)) ggL_law_X7_told
set_option maxRecDepth 20000 in
theorem ggL_law_X8_told : GoodIn wsL_law wsX8_told := goodIn_r _ [596, 124, 203, 218, 99, 125, 126, 5, 127, 605, 606, 607, 608, 609, 610, 611, 612, 613, 614, 615, 616, 617, 618, 619, 620, 621, 622, 623, 624, 625, 626] (by decide +kernel) (by decide +kernel)
set_option maxRecDepth 20000 in
theorem gL_law_X8_told : GoodIn wsL_law (wsV RL 67 RX8 yX8_told wsX8_told) := goodIn_app (goodIn_of _ (by decide +kernel)) ggL_law_X8_told
theorem dL_law_0 : decode cL_law 0 = .ok (.new 7, 3) := by decide +kernel
theorem dL_law_3 : decode cL_law 3 = .ok (.dup, 1) := by decide +kernel
theorem dL_law_4 : decode cL_law 4 = .ok (.invokespecial 9, 3) := by decide +kernel
theorem dL_law_7 : decode cL_law 7 = .ok (.astore_n 1, 1) := by decide +kernel
theorem dL_law_8 : decode cL_law 8 = .ok (.new 10, 3) := by decide +kernel
theorem dL_law_11 : decode cL_law 11 = .ok (.dup, 1) := by decide +kernel
theorem dL_law_12 : decode cL_law 12 = .ok (.invokespecial 12, 3) := by decide +kernel
theorem dL_law_15 : decode cL_law 15 = .ok (.astore_n 2, 1) := by decide +kernel
theorem dL_law_16 : decode cL_law 16 = .ok (.iconst 0, 1) := by decide +kernel
theorem dL_law_17 : decode cL_law 17 = .ok (.istore_n 3, 1) := by decide +kernel
theorem dL_law_18 : decode cL_law 18 = .ok (.iload_n 3, 1) := by decide +kernel
theorem dL_law_19 : decode cL_law 19 = .ok (.aload_n 0, 1) := by decide +kernel
theorem dL_law_20 : decode cL_law 20 = .ok (.arraylength, 1) := by decide +kernel
theorem dL_law_21 : decode cL_law 21 = .ok (.iconst 3, 1) := by decide +kernel
theorem dL_law_22 : decode cL_law 22 = .ok (.isub, 1) := by decide +kernel
theorem dL_law_23 : decode cL_law 23 = .ok (.if_icmp .gt 382, 3) := by decide +kernel
theorem dL_law_26 : decode cL_law 26 = .ok (.aload_n 0, 1) := by decide +kernel
theorem dL_law_27 : decode cL_law 27 = .ok (.iload_n 3, 1) := by decide +kernel
theorem dL_law_28 : decode cL_law 28 = .ok (.iaload, 1) := by decide +kernel
theorem dL_law_29 : decode cL_law 29 = .ok (.bipush 15, 2) := by decide +kernel
theorem dL_law_31 : decode cL_law 31 = .ok (.iand, 1) := by decide +kernel
theorem dL_law_32 : decode cL_law 32 = .ok (.tableswitch 367 0 12 #[68, 91, 104, 117, 130, 153, 186, 219, 252, 275, 298, 321, 344], 68) := by decide +kernel
theorem dL_law_100 : decode cL_law 100 = .ok (.aload_n 1, 1) := by decide +kernel
theorem dL_law_101 : decode cL_law 101 = .ok (.aload_n 0, 1) := by decide +kernel
theorem dL_law_102 : decode cL_law 102 = .ok (.iload_n 3, 1) := by decide +kernel
theorem dL_law_103 : decode cL_law 103 = .ok (.iconst 1, 1) := by decide +kernel
theorem dL_law_104 : decode cL_law 104 = .ok (.iadd, 1) := by decide +kernel
theorem dL_law_105 : decode cL_law 105 = .ok (.iaload, 1) := by decide +kernel
theorem dL_law_106 : decode cL_law 106 = .ok (.invokevirtual 13, 3) := by decide +kernel
theorem dL_law_109 : decode cL_law 109 = .ok (.aload_n 2, 1) := by decide +kernel
theorem dL_law_110 : decode cL_law 110 = .ok (.aload_n 0, 1) := by decide +kernel
theorem dL_law_111 : decode cL_law 111 = .ok (.iload_n 3, 1) := by decide +kernel
theorem dL_law_112 : decode cL_law 112 = .ok (.iconst 1, 1) := by decide +kernel
theorem dL_law_113 : decode cL_law 113 = .ok (.iadd, 1) := by decide +kernel
theorem dL_law_114 : decode cL_law 114 = .ok (.iaload, 1) := by decide +kernel
theorem dL_law_115 : decode cL_law 115 = .ok (.invokevirtual 17, 3) := by decide +kernel
theorem dL_law_118 : decode cL_law 118 = .ok (.if_icmp .eq 281, 3) := by decide +kernel
theorem dL_law_121 : decode cL_law 121 = .ok (.iconst 0, 1) := by decide +kernel
theorem dL_law_122 : decode cL_law 122 = .ok (.ireturn, 1) := by decide +kernel
theorem dL_law_123 : decode cL_law 123 = .ok (.aload_n 1, 1) := by decide +kernel
theorem dL_law_124 : decode cL_law 124 = .ok (.invokevirtual 18, 3) := by decide +kernel
theorem dL_law_127 : decode cL_law 127 = .ok (.aload_n 2, 1) := by decide +kernel
theorem dL_law_128 : decode cL_law 128 = .ok (.invokevirtual 22, 3) := by decide +kernel
theorem dL_law_131 : decode cL_law 131 = .ok (.if_icmp .eq 268, 3) := by decide +kernel
theorem dL_law_134 : decode cL_law 134 = .ok (.iconst 0, 1) := by decide +kernel
theorem dL_law_135 : decode cL_law 135 = .ok (.ireturn, 1) := by decide +kernel
theorem dL_law_136 : decode cL_law 136 = .ok (.aload_n 1, 1) := by decide +kernel
theorem dL_law_137 : decode cL_law 137 = .ok (.invokevirtual 23, 3) := by decide +kernel
theorem dL_law_140 : decode cL_law 140 = .ok (.aload_n 2, 1) := by decide +kernel
theorem dL_law_141 : decode cL_law 141 = .ok (.invokevirtual 26, 3) := by decide +kernel
theorem dL_law_144 : decode cL_law 144 = .ok (.if_icmp .eq 255, 3) := by decide +kernel
theorem dL_law_147 : decode cL_law 147 = .ok (.iconst 0, 1) := by decide +kernel
theorem dL_law_148 : decode cL_law 148 = .ok (.ireturn, 1) := by decide +kernel
theorem dL_law_149 : decode cL_law 149 = .ok (.aload_n 1, 1) := by decide +kernel
theorem dL_law_150 : decode cL_law 150 = .ok (.invokevirtual 27, 3) := by decide +kernel
theorem dL_law_153 : decode cL_law 153 = .ok (.aload_n 2, 1) := by decide +kernel
theorem dL_law_154 : decode cL_law 154 = .ok (.invokevirtual 30, 3) := by decide +kernel
theorem dL_law_157 : decode cL_law 157 = .ok (.if_icmp .eq 242, 3) := by decide +kernel
theorem dL_law_160 : decode cL_law 160 = .ok (.iconst 0, 1) := by decide +kernel
theorem dL_law_161 : decode cL_law 161 = .ok (.ireturn, 1) := by decide +kernel
theorem dL_law_162 : decode cL_law 162 = .ok (.aload_n 1, 1) := by decide +kernel
theorem dL_law_163 : decode cL_law 163 = .ok (.aload_n 0, 1) := by decide +kernel
theorem dL_law_164 : decode cL_law 164 = .ok (.iload_n 3, 1) := by decide +kernel
theorem dL_law_165 : decode cL_law 165 = .ok (.iconst 1, 1) := by decide +kernel
theorem dL_law_166 : decode cL_law 166 = .ok (.iadd, 1) := by decide +kernel
theorem dL_law_167 : decode cL_law 167 = .ok (.iaload, 1) := by decide +kernel
theorem dL_law_168 : decode cL_law 168 = .ok (.invokevirtual 31, 3) := by decide +kernel
theorem dL_law_171 : decode cL_law 171 = .ok (.aload_n 2, 1) := by decide +kernel
theorem dL_law_172 : decode cL_law 172 = .ok (.aload_n 0, 1) := by decide +kernel
theorem dL_law_173 : decode cL_law 173 = .ok (.iload_n 3, 1) := by decide +kernel
theorem dL_law_174 : decode cL_law 174 = .ok (.iconst 1, 1) := by decide +kernel
theorem dL_law_175 : decode cL_law 175 = .ok (.iadd, 1) := by decide +kernel
theorem dL_law_176 : decode cL_law 176 = .ok (.iaload, 1) := by decide +kernel
theorem dL_law_177 : decode cL_law 177 = .ok (.invokevirtual 34, 3) := by decide +kernel
theorem dL_law_180 : decode cL_law 180 = .ok (.if_icmp .eq 219, 3) := by decide +kernel
theorem dL_law_183 : decode cL_law 183 = .ok (.iconst 0, 1) := by decide +kernel
theorem dL_law_184 : decode cL_law 184 = .ok (.ireturn, 1) := by decide +kernel
theorem dL_law_185 : decode cL_law 185 = .ok (.aload_n 1, 1) := by decide +kernel
theorem dL_law_186 : decode cL_law 186 = .ok (.aload_n 0, 1) := by decide +kernel
theorem dL_law_187 : decode cL_law 187 = .ok (.iload_n 3, 1) := by decide +kernel
theorem dL_law_188 : decode cL_law 188 = .ok (.iconst 1, 1) := by decide +kernel
theorem dL_law_189 : decode cL_law 189 = .ok (.iadd, 1) := by decide +kernel
theorem dL_law_190 : decode cL_law 190 = .ok (.iaload, 1) := by decide +kernel
theorem dL_law_191 : decode cL_law 191 = .ok (.aload_n 0, 1) := by decide +kernel
theorem dL_law_192 : decode cL_law 192 = .ok (.iload_n 3, 1) := by decide +kernel
theorem dL_law_193 : decode cL_law 193 = .ok (.iconst 2, 1) := by decide +kernel
theorem dL_law_194 : decode cL_law 194 = .ok (.iadd, 1) := by decide +kernel
theorem dL_law_195 : decode cL_law 195 = .ok (.iaload, 1) := by decide +kernel
theorem dL_law_196 : decode cL_law 196 = .ok (.invokevirtual 35, 3) := by decide +kernel
theorem dL_law_199 : decode cL_law 199 = .ok (.aload_n 2, 1) := by decide +kernel
theorem dL_law_200 : decode cL_law 200 = .ok (.aload_n 0, 1) := by decide +kernel
theorem dL_law_201 : decode cL_law 201 = .ok (.iload_n 3, 1) := by decide +kernel
theorem dL_law_202 : decode cL_law 202 = .ok (.iconst 1, 1) := by decide +kernel
theorem dL_law_203 : decode cL_law 203 = .ok (.iadd, 1) := by decide +kernel
theorem dL_law_204 : decode cL_law 204 = .ok (.iaload, 1) := by decide +kernel
theorem dL_law_205 : decode cL_law 205 = .ok (.aload_n 0, 1) := by decide +kernel
theorem dL_law_206 : decode cL_law 206 = .ok (.iload_n 3, 1) := by decide +kernel
theorem dL_law_207 : decode cL_law 207 = .ok (.iconst 2, 1) := by decide +kernel
theorem dL_law_208 : decode cL_law 208 = .ok (.iadd, 1) := by decide +kernel
theorem dL_law_209 : decode cL_law 209 = .ok (.iaload, 1) := by decide +kernel
theorem dL_law_210 : decode cL_law 210 = .ok (.invokevirtual 39, 3) := by decide +kernel
theorem dL_law_213 : decode cL_law 213 = .ok (.if_icmp .eq 186, 3) := by decide +kernel
theorem dL_law_216 : decode cL_law 216 = .ok (.iconst 0, 1) := by decide +kernel
theorem dL_law_217 : decode cL_law 217 = .ok (.ireturn, 1) := by decide +kernel
theorem dL_law_218 : decode cL_law 218 = .ok (.aload_n 1, 1) := by decide +kernel
theorem dL_law_219 : decode cL_law 219 = .ok (.aload_n 0, 1) := by decide +kernel
theorem dL_law_220 : decode cL_law 220 = .ok (.iload_n 3, 1) := by decide +kernel
theorem dL_law_221 : decode cL_law 221 = .ok (.iconst 1, 1) := by decide +kernel
theorem dL_law_222 : decode cL_law 222 = .ok (.iadd, 1) := by decide +kernel
theorem dL_law_223 : decode cL_law 223 = .ok (.iaload, 1) := by decide +kernel
theorem dL_law_224 : decode cL_law 224 = .ok (.aload_n 0, 1) := by decide +kernel
theorem dL_law_225 : decode cL_law 225 = .ok (.iload_n 3, 1) := by decide +kernel
theorem dL_law_226 : decode cL_law 226 = .ok (.iconst 2, 1) := by decide +kernel
theorem dL_law_227 : decode cL_law 227 = .ok (.iadd, 1) := by decide +kernel
theorem dL_law_228 : decode cL_law 228 = .ok (.iaload, 1) := by decide +kernel
theorem dL_law_229 : decode cL_law 229 = .ok (.invokevirtual 40, 3) := by decide +kernel
theorem dL_law_232 : decode cL_law 232 = .ok (.aload_n 2, 1) := by decide +kernel
theorem dL_law_233 : decode cL_law 233 = .ok (.aload_n 0, 1) := by decide +kernel
theorem dL_law_234 : decode cL_law 234 = .ok (.iload_n 3, 1) := by decide +kernel
theorem dL_law_235 : decode cL_law 235 = .ok (.iconst 1, 1) := by decide +kernel
theorem dL_law_236 : decode cL_law 236 = .ok (.iadd, 1) := by decide +kernel
theorem dL_law_237 : decode cL_law 237 = .ok (.iaload, 1) := by decide +kernel
theorem dL_law_238 : decode cL_law 238 = .ok (.aload_n 0, 1) := by decide +kernel
theorem dL_law_239 : decode cL_law 239 = .ok (.iload_n 3, 1) := by decide +kernel
theorem dL_law_240 : decode cL_law 240 = .ok (.iconst 2, 1) := by decide +kernel
theorem dL_law_241 : decode cL_law 241 = .ok (.iadd, 1) := by decide +kernel
theorem dL_law_242 : decode cL_law 242 = .ok (.iaload, 1) := by decide +kernel
theorem dL_law_243 : decode cL_law 243 = .ok (.invokevirtual 43, 3) := by decide +kernel
theorem dL_law_246 : decode cL_law 246 = .ok (.if_icmp .eq 153, 3) := by decide +kernel
theorem dL_law_249 : decode cL_law 249 = .ok (.iconst 0, 1) := by decide +kernel
theorem dL_law_250 : decode cL_law 250 = .ok (.ireturn, 1) := by decide +kernel
theorem dL_law_251 : decode cL_law 251 = .ok (.aload_n 1, 1) := by decide +kernel
theorem dL_law_252 : decode cL_law 252 = .ok (.aload_n 0, 1) := by decide +kernel
theorem dL_law_253 : decode cL_law 253 = .ok (.iload_n 3, 1) := by decide +kernel
theorem dL_law_254 : decode cL_law 254 = .ok (.iconst 1, 1) := by decide +kernel
theorem dL_law_255 : decode cL_law 255 = .ok (.iadd, 1) := by decide +kernel
theorem dL_law_256 : decode cL_law 256 = .ok (.iaload, 1) := by decide +kernel
theorem dL_law_257 : decode cL_law 257 = .ok (.aload_n 0, 1) := by decide +kernel
theorem dL_law_258 : decode cL_law 258 = .ok (.iload_n 3, 1) := by decide +kernel
theorem dL_law_259 : decode cL_law 259 = .ok (.iconst 2, 1) := by decide +kernel
theorem dL_law_260 : decode cL_law 260 = .ok (.iadd, 1) := by decide +kernel
theorem dL_law_261 : decode cL_law 261 = .ok (.iaload, 1) := by decide +kernel
theorem dL_law_262 : decode cL_law 262 = .ok (.invokevirtual 44, 3) := by decide +kernel
theorem dL_law_265 : decode cL_law 265 = .ok (.aload_n 2, 1) := by decide +kernel
theorem dL_law_266 : decode cL_law 266 = .ok (.aload_n 0, 1) := by decide +kernel
theorem dL_law_267 : decode cL_law 267 = .ok (.iload_n 3, 1) := by decide +kernel
theorem dL_law_268 : decode cL_law 268 = .ok (.iconst 1, 1) := by decide +kernel
theorem dL_law_269 : decode cL_law 269 = .ok (.iadd, 1) := by decide +kernel
theorem dL_law_270 : decode cL_law 270 = .ok (.iaload, 1) := by decide +kernel
theorem dL_law_271 : decode cL_law 271 = .ok (.aload_n 0, 1) := by decide +kernel
theorem dL_law_272 : decode cL_law 272 = .ok (.iload_n 3, 1) := by decide +kernel
theorem dL_law_273 : decode cL_law 273 = .ok (.iconst 2, 1) := by decide +kernel
theorem dL_law_274 : decode cL_law 274 = .ok (.iadd, 1) := by decide +kernel
theorem dL_law_275 : decode cL_law 275 = .ok (.iaload, 1) := by decide +kernel
theorem dL_law_276 : decode cL_law 276 = .ok (.invokevirtual 47, 3) := by decide +kernel
theorem dL_law_279 : decode cL_law 279 = .ok (.if_icmp .eq 120, 3) := by decide +kernel
theorem dL_law_282 : decode cL_law 282 = .ok (.iconst 0, 1) := by decide +kernel
theorem dL_law_283 : decode cL_law 283 = .ok (.ireturn, 1) := by decide +kernel
theorem dL_law_284 : decode cL_law 284 = .ok (.aload_n 1, 1) := by decide +kernel
theorem dL_law_285 : decode cL_law 285 = .ok (.aload_n 0, 1) := by decide +kernel
theorem dL_law_286 : decode cL_law 286 = .ok (.iload_n 3, 1) := by decide +kernel
theorem dL_law_287 : decode cL_law 287 = .ok (.iconst 1, 1) := by decide +kernel
theorem dL_law_288 : decode cL_law 288 = .ok (.iadd, 1) := by decide +kernel
theorem dL_law_289 : decode cL_law 289 = .ok (.iaload, 1) := by decide +kernel
theorem dL_law_290 : decode cL_law 290 = .ok (.invokevirtual 48, 3) := by decide +kernel
theorem dL_law_293 : decode cL_law 293 = .ok (.aload_n 2, 1) := by decide +kernel
theorem dL_law_294 : decode cL_law 294 = .ok (.aload_n 0, 1) := by decide +kernel
theorem dL_law_295 : decode cL_law 295 = .ok (.iload_n 3, 1) := by decide +kernel
theorem dL_law_296 : decode cL_law 296 = .ok (.iconst 1, 1) := by decide +kernel
theorem dL_law_297 : decode cL_law 297 = .ok (.iadd, 1) := by decide +kernel
theorem dL_law_298 : decode cL_law 298 = .ok (.iaload, 1) := by decide +kernel
theorem dL_law_299 : decode cL_law 299 = .ok (.invokevirtual 51, 3) := by decide +kernel
theorem dL_law_302 : decode cL_law 302 = .ok (.if_icmp .eq 97, 3) := by decide +kernel
theorem dL_law_305 : decode cL_law 305 = .ok (.iconst 0, 1) := by decide +kernel
theorem dL_law_306 : decode cL_law 306 = .ok (.ireturn, 1) := by decide +kernel
theorem dL_law_307 : decode cL_law 307 = .ok (.aload_n 1, 1) := by decide +kernel
theorem dL_law_308 : decode cL_law 308 = .ok (.aload_n 0, 1) := by decide +kernel
theorem dL_law_309 : decode cL_law 309 = .ok (.iload_n 3, 1) := by decide +kernel
theorem dL_law_310 : decode cL_law 310 = .ok (.iconst 1, 1) := by decide +kernel
theorem dL_law_311 : decode cL_law 311 = .ok (.iadd, 1) := by decide +kernel
theorem dL_law_312 : decode cL_law 312 = .ok (.iaload, 1) := by decide +kernel
theorem dL_law_313 : decode cL_law 313 = .ok (.invokevirtual 52, 3) := by decide +kernel
theorem dL_law_316 : decode cL_law 316 = .ok (.aload_n 2, 1) := by decide +kernel
theorem dL_law_317 : decode cL_law 317 = .ok (.aload_n 0, 1) := by decide +kernel
theorem dL_law_318 : decode cL_law 318 = .ok (.iload_n 3, 1) := by decide +kernel
theorem dL_law_319 : decode cL_law 319 = .ok (.iconst 1, 1) := by decide +kernel
theorem dL_law_320 : decode cL_law 320 = .ok (.iadd, 1) := by decide +kernel
theorem dL_law_321 : decode cL_law 321 = .ok (.iaload, 1) := by decide +kernel
theorem dL_law_322 : decode cL_law 322 = .ok (.invokevirtual 55, 3) := by decide +kernel
theorem dL_law_325 : decode cL_law 325 = .ok (.if_icmp .eq 74, 3) := by decide +kernel
theorem dL_law_328 : decode cL_law 328 = .ok (.iconst 0, 1) := by decide +kernel
theorem dL_law_329 : decode cL_law 329 = .ok (.ireturn, 1) := by decide +kernel
theorem dL_law_330 : decode cL_law 330 = .ok (.aload_n 1, 1) := by decide +kernel
theorem dL_law_331 : decode cL_law 331 = .ok (.aload_n 0, 1) := by decide +kernel
theorem dL_law_332 : decode cL_law 332 = .ok (.iload_n 3, 1) := by decide +kernel
theorem dL_law_333 : decode cL_law 333 = .ok (.iconst 1, 1) := by decide +kernel
theorem dL_law_334 : decode cL_law 334 = .ok (.iadd, 1) := by decide +kernel
theorem dL_law_335 : decode cL_law 335 = .ok (.iaload, 1) := by decide +kernel
theorem dL_law_336 : decode cL_law 336 = .ok (.invokevirtual 56, 3) := by decide +kernel
theorem dL_law_339 : decode cL_law 339 = .ok (.aload_n 2, 1) := by decide +kernel
theorem dL_law_340 : decode cL_law 340 = .ok (.aload_n 0, 1) := by decide +kernel
theorem dL_law_341 : decode cL_law 341 = .ok (.iload_n 3, 1) := by decide +kernel
theorem dL_law_342 : decode cL_law 342 = .ok (.iconst 1, 1) := by decide +kernel
theorem dL_law_343 : decode cL_law 343 = .ok (.iadd, 1) := by decide +kernel
theorem dL_law_344 : decode cL_law 344 = .ok (.iaload, 1) := by decide +kernel
theorem dL_law_345 : decode cL_law 345 = .ok (.invokevirtual 59, 3) := by decide +kernel
theorem dL_law_348 : decode cL_law 348 = .ok (.if_icmp .eq 51, 3) := by decide +kernel
theorem dL_law_351 : decode cL_law 351 = .ok (.iconst 0, 1) := by decide +kernel
theorem dL_law_352 : decode cL_law 352 = .ok (.ireturn, 1) := by decide +kernel
theorem dL_law_353 : decode cL_law 353 = .ok (.aload_n 1, 1) := by decide +kernel
theorem dL_law_354 : decode cL_law 354 = .ok (.aload_n 0, 1) := by decide +kernel
theorem dL_law_355 : decode cL_law 355 = .ok (.iload_n 3, 1) := by decide +kernel
theorem dL_law_356 : decode cL_law 356 = .ok (.iconst 1, 1) := by decide +kernel
theorem dL_law_357 : decode cL_law 357 = .ok (.iadd, 1) := by decide +kernel
theorem dL_law_358 : decode cL_law 358 = .ok (.iaload, 1) := by decide +kernel
theorem dL_law_359 : decode cL_law 359 = .ok (.invokevirtual 60, 3) := by decide +kernel
theorem dL_law_362 : decode cL_law 362 = .ok (.aload_n 2, 1) := by decide +kernel
theorem dL_law_363 : decode cL_law 363 = .ok (.aload_n 0, 1) := by decide +kernel
theorem dL_law_364 : decode cL_law 364 = .ok (.iload_n 3, 1) := by decide +kernel
theorem dL_law_365 : decode cL_law 365 = .ok (.iconst 1, 1) := by decide +kernel
theorem dL_law_366 : decode cL_law 366 = .ok (.iadd, 1) := by decide +kernel
theorem dL_law_367 : decode cL_law 367 = .ok (.iaload, 1) := by decide +kernel
theorem dL_law_368 : decode cL_law 368 = .ok (.invokevirtual 63, 3) := by decide +kernel
theorem dL_law_371 : decode cL_law 371 = .ok (.if_icmp .eq 28, 3) := by decide +kernel
theorem dL_law_374 : decode cL_law 374 = .ok (.iconst 0, 1) := by decide +kernel
theorem dL_law_375 : decode cL_law 375 = .ok (.ireturn, 1) := by decide +kernel
theorem dL_law_376 : decode cL_law 376 = .ok (.aload_n 1, 1) := by decide +kernel
theorem dL_law_377 : decode cL_law 377 = .ok (.aload_n 0, 1) := by decide +kernel
theorem dL_law_378 : decode cL_law 378 = .ok (.iload_n 3, 1) := by decide +kernel
theorem dL_law_379 : decode cL_law 379 = .ok (.iconst 1, 1) := by decide +kernel
theorem dL_law_380 : decode cL_law 380 = .ok (.iadd, 1) := by decide +kernel
theorem dL_law_381 : decode cL_law 381 = .ok (.iaload, 1) := by decide +kernel
theorem dL_law_382 : decode cL_law 382 = .ok (.invokevirtual 64, 3) := by decide +kernel
theorem dL_law_385 : decode cL_law 385 = .ok (.aload_n 2, 1) := by decide +kernel
theorem dL_law_386 : decode cL_law 386 = .ok (.aload_n 0, 1) := by decide +kernel
theorem dL_law_387 : decode cL_law 387 = .ok (.iload_n 3, 1) := by decide +kernel
theorem dL_law_388 : decode cL_law 388 = .ok (.iconst 1, 1) := by decide +kernel
theorem dL_law_389 : decode cL_law 389 = .ok (.iadd, 1) := by decide +kernel
theorem dL_law_390 : decode cL_law 390 = .ok (.iaload, 1) := by decide +kernel
theorem dL_law_391 : decode cL_law 391 = .ok (.invokevirtual 67, 3) := by decide +kernel
theorem dL_law_394 : decode cL_law 394 = .ok (.if_icmp .eq 5, 3) := by decide +kernel
theorem dL_law_397 : decode cL_law 397 = .ok (.iconst 0, 1) := by decide +kernel
theorem dL_law_398 : decode cL_law 398 = .ok (.ireturn, 1) := by decide +kernel
theorem dL_law_399 : decode cL_law 399 = .ok (.iinc 3 3, 3) := by decide +kernel
theorem dL_law_402 : decode cL_law 402 = .ok (.goto (-384), 3) := by decide +kernel
theorem dL_law_405 : decode cL_law 405 = .ok (.iconst 1, 1) := by decide +kernel
theorem dL_law_406 : decode cL_law 406 = .ok (.ireturn, 1) := by decide +kernel
abbrev vwCl : List vw_C := [(RX0, TX0, 4), (RX1, TX1, 3), (RX2, TX2, 8), (RX3, TX3, 3), (RX4, TX4, 12), (RX5, TX5, 4), (RX6, TX6, 3), (RX7, TX7, 8), (RX8, TX8, 22)]
end
