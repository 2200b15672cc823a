section
-- ===== PART A: goes FIRST, ahead of the names: the tables' words, and 'selects' of the private methods out of them =====
/-- a private method of a class that the tables say can be made, by its rows of tables_1 -/
def lw_okq (q : MethodName × Nat) : Prop := (q.1.cls ≠ "java/lang/invoke/MethodHandle" ∧ q.1.cls ≠ "java/lang/invoke/VarHandle") ∧ Cond.instantiable q.1.cls q.2 ∈ tables_1 ∧ Cond.privateMethod q.1 ∈ tables_1 ∧ Cond.instanceMethod q.1 ∈ tables_1
theorem lw_p0 : lw_okq (⟨"StoreStreams$Scribe", "next", "()Z"⟩, 10) := ⟨⟨by decide +kernel, by decide +kernel⟩, List.mem_of_getElem? (i := 26) (by decide +kernel), List.mem_of_getElem? (i := 379) (by decide +kernel), List.mem_of_getElem? (i := 380) (by decide +kernel)⟩
theorem lw_p1 : lw_okq (⟨"StoreStreams$Scribe", "sortAt", "(I)I"⟩, 10) := ⟨⟨by decide +kernel, by decide +kernel⟩, List.mem_of_getElem? (i := 26) (by decide +kernel), List.mem_of_getElem? (i := 383) (by decide +kernel), List.mem_of_getElem? (i := 384) (by decide +kernel)⟩
theorem lw_p2 : lw_okq (⟨"StoreStreams$Scribe", "oneThing", "()Z"⟩, 10) := ⟨⟨by decide +kernel, by decide +kernel⟩, List.mem_of_getElem? (i := 26) (by decide +kernel), List.mem_of_getElem? (i := 387) (by decide +kernel), List.mem_of_getElem? (i := 388) (by decide +kernel)⟩
theorem lw_p3 : lw_okq (⟨"StoreStreams$Scribe", "kindOfKey", "()I"⟩, 10) := ⟨⟨by decide +kernel, by decide +kernel⟩, List.mem_of_getElem? (i := 26) (by decide +kernel), List.mem_of_getElem? (i := 391) (by decide +kernel), List.mem_of_getElem? (i := 392) (by decide +kernel)⟩
theorem lw_p4 : lw_okq (⟨"StoreStreams$Scribe", "isKey", "(I)Z"⟩, 10) := ⟨⟨by decide +kernel, by decide +kernel⟩, List.mem_of_getElem? (i := 26) (by decide +kernel), List.mem_of_getElem? (i := 396) (by decide +kernel), List.mem_of_getElem? (i := 397) (by decide +kernel)⟩
theorem lw_p5 : lw_okq (⟨"StoreStreams$Scribe", "wrong", "(I)Z"⟩, 10) := ⟨⟨by decide +kernel, by decide +kernel⟩, List.mem_of_getElem? (i := 26) (by decide +kernel), List.mem_of_getElem? (i := 405) (by decide +kernel), List.mem_of_getElem? (i := 406) (by decide +kernel)⟩
theorem lw_p6 : lw_okq (⟨"StoreStreams$Scribe", "newName", "(I)Z"⟩, 10) := ⟨⟨by decide +kernel, by decide +kernel⟩, List.mem_of_getElem? (i := 26) (by decide +kernel), List.mem_of_getElem? (i := 409) (by decide +kernel), List.mem_of_getElem? (i := 410) (by decide +kernel)⟩
theorem lw_p7 : lw_okq (⟨"StoreStreams$Scribe", "isName", "()Z"⟩, 10) := ⟨⟨by decide +kernel, by decide +kernel⟩, List.mem_of_getElem? (i := 26) (by decide +kernel), List.mem_of_getElem? (i := 413) (by decide +kernel), List.mem_of_getElem? (i := 414) (by decide +kernel)⟩
theorem lw_p8 : lw_okq (⟨"StoreStreams$Scribe", "ends", "()Z"⟩, 10) := ⟨⟨by decide +kernel, by decide +kernel⟩, List.mem_of_getElem? (i := 26) (by decide +kernel), List.mem_of_getElem? (i := 427) (by decide +kernel), List.mem_of_getElem? (i := 428) (by decide +kernel)⟩
theorem lw_p9 : lw_okq (⟨"StoreStreams$Scribe", "skipKey", "(I)Z"⟩, 10) := ⟨⟨by decide +kernel, by decide +kernel⟩, List.mem_of_getElem? (i := 26) (by decide +kernel), List.mem_of_getElem? (i := 432) (by decide +kernel), List.mem_of_getElem? (i := 433) (by decide +kernel)⟩
theorem lw_p10 : lw_okq (⟨"StoreStreams$Scribe", "end", "([I)Z"⟩, 10) := ⟨⟨by decide +kernel, by decide +kernel⟩, List.mem_of_getElem? (i := 26) (by decide +kernel), List.mem_of_getElem? (i := 436) (by decide +kernel), List.mem_of_getElem? (i := 437) (by decide +kernel)⟩
theorem lw_p11 : lw_okq (⟨"StoreStreams$Scribe", "skipSign", "(I)Z"⟩, 10) := ⟨⟨by decide +kernel, by decide +kernel⟩, List.mem_of_getElem? (i := 26) (by decide +kernel), List.mem_of_getElem? (i := 440) (by decide +kernel), List.mem_of_getElem? (i := 441) (by decide +kernel)⟩
theorem lw_p12 : lw_okq (⟨"StoreStreams$Scribe", "isSign", "(I)Z"⟩, 10) := ⟨⟨by decide +kernel, by decide +kernel⟩, List.mem_of_getElem? (i := 26) (by decide +kernel), List.mem_of_getElem? (i := 444) (by decide +kernel), List.mem_of_getElem? (i := 445) (by decide +kernel)⟩
theorem lw_p13 : lw_okq (⟨"StoreStreams$Scribe", "first", "(II)Z"⟩, 10) := ⟨⟨by decide +kernel, by decide +kernel⟩, List.mem_of_getElem? (i := 26) (by decide +kernel), List.mem_of_getElem? (i := 449) (by decide +kernel), List.mem_of_getElem? (i := 450) (by decide +kernel)⟩
theorem lw_p14 : lw_okq (⟨"StoreStreams$Scribe", "isN", "(II)Z"⟩, 10) := ⟨⟨by decide +kernel, by decide +kernel⟩, List.mem_of_getElem? (i := 26) (by decide +kernel), List.mem_of_getElem? (i := 453) (by decide +kernel), List.mem_of_getElem? (i := 454) (by decide +kernel)⟩
theorem lw_p15 : lw_okq (⟨"StoreStreams$Scribe", "joins", "(II)Z"⟩, 10) := ⟨⟨by decide +kernel, by decide +kernel⟩, List.mem_of_getElem? (i := 26) (by decide +kernel), List.mem_of_getElem? (i := 457) (by decide +kernel), List.mem_of_getElem? (i := 458) (by decide +kernel)⟩
def lw_privs_1 : List (MethodName × Nat) := [(⟨"StoreStreams$Scribe", "next", "()Z"⟩, 10), (⟨"StoreStreams$Scribe", "sortAt", "(I)I"⟩, 10), (⟨"StoreStreams$Scribe", "oneThing", "()Z"⟩, 10), (⟨"StoreStreams$Scribe", "kindOfKey", "()I"⟩, 10), (⟨"StoreStreams$Scribe", "isKey", "(I)Z"⟩, 10), (⟨"StoreStreams$Scribe", "wrong", "(I)Z"⟩, 10), (⟨"StoreStreams$Scribe", "newName", "(I)Z"⟩, 10), (⟨"StoreStreams$Scribe", "isName", "()Z"⟩, 10), (⟨"StoreStreams$Scribe", "ends", "()Z"⟩, 10), (⟨"StoreStreams$Scribe", "skipKey", "(I)Z"⟩, 10), (⟨"StoreStreams$Scribe", "end", "([I)Z"⟩, 10), (⟨"StoreStreams$Scribe", "skipSign", "(I)Z"⟩, 10), (⟨"StoreStreams$Scribe", "isSign", "(I)Z"⟩, 10), (⟨"StoreStreams$Scribe", "first", "(II)Z"⟩, 10), (⟨"StoreStreams$Scribe", "isN", "(II)Z"⟩, 10), (⟨"StoreStreams$Scribe", "joins", "(II)Z"⟩, 10)]
theorem lw_r1 : ∀ q ∈ lw_privs_1, lw_okq q := List.forall_mem_cons.mpr ⟨lw_p0, List.forall_mem_cons.mpr ⟨lw_p1, List.forall_mem_cons.mpr ⟨lw_p2, List.forall_mem_cons.mpr ⟨lw_p3, List.forall_mem_cons.mpr ⟨lw_p4, List.forall_mem_cons.mpr ⟨lw_p5, List.forall_mem_cons.mpr ⟨lw_p6, List.forall_mem_cons.mpr ⟨lw_p7, List.forall_mem_cons.mpr ⟨lw_p8, List.forall_mem_cons.mpr ⟨lw_p9, List.forall_mem_cons.mpr ⟨lw_p10, List.forall_mem_cons.mpr ⟨lw_p11, List.forall_mem_cons.mpr ⟨lw_p12, List.forall_mem_cons.mpr ⟨lw_p13, List.forall_mem_cons.mpr ⟨lw_p14, List.forall_mem_cons.mpr ⟨lw_p15, fun _ h => absurd h List.not_mem_nil⟩⟩⟩⟩⟩⟩⟩⟩⟩⟩⟩⟩⟩⟩⟩⟩
theorem lw_p16 : lw_okq (⟨"StoreStreams$Scribe", "one", "(I)Z"⟩, 10) := ⟨⟨by decide +kernel, by decide +kernel⟩, List.mem_of_getElem? (i := 26) (by decide +kernel), List.mem_of_getElem? (i := 461) (by decide +kernel), List.mem_of_getElem? (i := 462) (by decide +kernel)⟩
theorem lw_p17 : lw_okq (⟨"StoreStreams$Scribe", "name", "(I)Z"⟩, 10) := ⟨⟨by decide +kernel, by decide +kernel⟩, List.mem_of_getElem? (i := 26) (by decide +kernel), List.mem_of_getElem? (i := 469) (by decide +kernel), List.mem_of_getElem? (i := 470) (by decide +kernel)⟩
theorem lw_p18 : lw_okq (⟨"StoreStreams$Scribe", "markAt", "(I)I"⟩, 10) := ⟨⟨by decide +kernel, by decide +kernel⟩, List.mem_of_getElem? (i := 26) (by decide +kernel), List.mem_of_getElem? (i := 474) (by decide +kernel), List.mem_of_getElem? (i := 475) (by decide +kernel)⟩
theorem lw_p19 : lw_okq (⟨"StoreStreams$Scribe", "allCorners", "()Z"⟩, 10) := ⟨⟨by decide +kernel, by decide +kernel⟩, List.mem_of_getElem? (i := 26) (by decide +kernel), List.mem_of_getElem? (i := 478) (by decide +kernel), List.mem_of_getElem? (i := 479) (by decide +kernel)⟩
theorem lw_p20 : lw_okq (⟨"StoreStreams$Scribe", "corner", "(I)Z"⟩, 10) := ⟨⟨by decide +kernel, by decide +kernel⟩, List.mem_of_getElem? (i := 26) (by decide +kernel), List.mem_of_getElem? (i := 482) (by decide +kernel), List.mem_of_getElem? (i := 483) (by decide +kernel)⟩
theorem lw_p21 : lw_okq (⟨"StoreStreams$World", "workOut", "(LStoreStreams$Text;)V"⟩, 15) := ⟨⟨by decide +kernel, by decide +kernel⟩, List.mem_of_getElem? (i := 154) (by decide +kernel), List.mem_of_getElem? (i := 501) (by decide +kernel), List.mem_of_getElem? (i := 502) (by decide +kernel)⟩
theorem lw_p22 : lw_okq (⟨"StoreStreams$World", "worked", "(LStoreStreams$Text;I)I"⟩, 15) := ⟨⟨by decide +kernel, by decide +kernel⟩, List.mem_of_getElem? (i := 154) (by decide +kernel), List.mem_of_getElem? (i := 505) (by decide +kernel), List.mem_of_getElem? (i := 506) (by decide +kernel)⟩
theorem lw_p23 : lw_okq (⟨"StoreStreams$Text", "between", "(II)I"⟩, 17) := ⟨⟨by decide +kernel, by decide +kernel⟩, List.mem_of_getElem? (i := 32) (by decide +kernel), List.mem_of_getElem? (i := 513) (by decide +kernel), List.mem_of_getElem? (i := 514) (by decide +kernel)⟩
theorem lw_p24 : lw_okq (⟨"StoreStreams$World", "memorySlot", "(LStoreStreams$Text;I)I"⟩, 15) := ⟨⟨by decide +kernel, by decide +kernel⟩, List.mem_of_getElem? (i := 154) (by decide +kernel), List.mem_of_getElem? (i := 523) (by decide +kernel), List.mem_of_getElem? (i := 524) (by decide +kernel)⟩
theorem lw_p25 : lw_okq (⟨"StoreStreams$World", "share", "(LStoreStreams$Text;)V"⟩, 15) := ⟨⟨by decide +kernel, by decide +kernel⟩, List.mem_of_getElem? (i := 154) (by decide +kernel), List.mem_of_getElem? (i := 530) (by decide +kernel), List.mem_of_getElem? (i := 531) (by decide +kernel)⟩
theorem lw_p26 : lw_okq (⟨"StoreStreams$World", "shareOf", "(IILStoreStreams$Text;)I"⟩, 15) := ⟨⟨by decide +kernel, by decide +kernel⟩, List.mem_of_getElem? (i := 154) (by decide +kernel), List.mem_of_getElem? (i := 538) (by decide +kernel), List.mem_of_getElem? (i := 539) (by decide +kernel)⟩
theorem lw_p27 : lw_okq (⟨"StoreStreams", "valueThen", "(II)I"⟩, 20) := ⟨⟨by decide +kernel, by decide +kernel⟩, List.mem_of_getElem? (i := 18) (by decide +kernel), List.mem_of_getElem? (i := 565) (by decide +kernel), List.mem_of_getElem? (i := 566) (by decide +kernel)⟩
theorem lw_p28 : lw_okq (⟨"StoreStreams$World", "remember", "(LStoreStreams$Text;)V"⟩, 15) := ⟨⟨by decide +kernel, by decide +kernel⟩, List.mem_of_getElem? (i := 154) (by decide +kernel), List.mem_of_getElem? (i := 582) (by decide +kernel), List.mem_of_getElem? (i := 583) (by decide +kernel)⟩
theorem lw_p29 : lw_okq (⟨"StoreStreams$World", "pour", "(LStoreStreams$Text;)Z"⟩, 15) := ⟨⟨by decide +kernel, by decide +kernel⟩, List.mem_of_getElem? (i := 154) (by decide +kernel), List.mem_of_getElem? (i := 586) (by decide +kernel), List.mem_of_getElem? (i := 587) (by decide +kernel)⟩
theorem lw_p30 : lw_okq (⟨"StoreStreams$World", "pourOne", "(LStoreStreams$Text;I)V"⟩, 15) := ⟨⟨by decide +kernel, by decide +kernel⟩, List.mem_of_getElem? (i := 154) (by decide +kernel), List.mem_of_getElem? (i := 590) (by decide +kernel), List.mem_of_getElem? (i := 591) (by decide +kernel)⟩
theorem lw_p31 : lw_okq (⟨"StoreStreams$Text", "goOn", "(III)Z"⟩, 17) := ⟨⟨by decide +kernel, by decide +kernel⟩, List.mem_of_getElem? (i := 32) (by decide +kernel), List.mem_of_getElem? (i := 644) (by decide +kernel), List.mem_of_getElem? (i := 645) (by decide +kernel)⟩
def lw_privs_2 : List (MethodName × Nat) := [(⟨"StoreStreams$Scribe", "one", "(I)Z"⟩, 10), (⟨"StoreStreams$Scribe", "name", "(I)Z"⟩, 10), (⟨"StoreStreams$Scribe", "markAt", "(I)I"⟩, 10), (⟨"StoreStreams$Scribe", "allCorners", "()Z"⟩, 10), (⟨"StoreStreams$Scribe", "corner", "(I)Z"⟩, 10), (⟨"StoreStreams$World", "workOut", "(LStoreStreams$Text;)V"⟩, 15), (⟨"StoreStreams$World", "worked", "(LStoreStreams$Text;I)I"⟩, 15), (⟨"StoreStreams$Text", "between", "(II)I"⟩, 17), (⟨"StoreStreams$World", "memorySlot", "(LStoreStreams$Text;I)I"⟩, 15), (⟨"StoreStreams$World", "share", "(LStoreStreams$Text;)V"⟩, 15), (⟨"StoreStreams$World", "shareOf", "(IILStoreStreams$Text;)I"⟩, 15), (⟨"StoreStreams", "valueThen", "(II)I"⟩, 20), (⟨"StoreStreams$World", "remember", "(LStoreStreams$Text;)V"⟩, 15), (⟨"StoreStreams$World", "pour", "(LStoreStreams$Text;)Z"⟩, 15), (⟨"StoreStreams$World", "pourOne", "(LStoreStreams$Text;I)V"⟩, 15), (⟨"StoreStreams$Text", "goOn", "(III)Z"⟩, 17)]
theorem lw_r2 : ∀ q ∈ lw_privs_2, lw_okq q := List.forall_mem_cons.mpr ⟨lw_p16, List.forall_mem_cons.mpr ⟨lw_p17, List.forall_mem_cons.mpr ⟨lw_p18, List.forall_mem_cons.mpr ⟨lw_p19, List.forall_mem_cons.mpr ⟨lw_p20, List.forall_mem_cons.mpr ⟨lw_p21, List.forall_mem_cons.mpr ⟨lw_p22, List.forall_mem_cons.mpr ⟨lw_p23, List.forall_mem_cons.mpr ⟨lw_p24, List.forall_mem_cons.mpr ⟨lw_p25, List.forall_mem_cons.mpr ⟨lw_p26, List.forall_mem_cons.mpr ⟨lw_p27, List.forall_mem_cons.mpr ⟨lw_p28, List.forall_mem_cons.mpr ⟨lw_p29, List.forall_mem_cons.mpr ⟨lw_p30, List.forall_mem_cons.mpr ⟨lw_p31, fun _ h => absurd h List.not_mem_nil⟩⟩⟩⟩⟩⟩⟩⟩⟩⟩⟩⟩⟩⟩⟩⟩
theorem lw_p32 : lw_okq (⟨"StoreStreams", "sameStores", "(II)Z"⟩, 20) := ⟨⟨by decide +kernel, by decide +kernel⟩, List.mem_of_getElem? (i := 18) (by decide +kernel), List.mem_of_getElem? (i := 664) (by decide +kernel), List.mem_of_getElem? (i := 665) (by decide +kernel)⟩
theorem lw_p33 : lw_okq (⟨"StoreStreams", "valueBehind", "(IIII)I"⟩, 20) := ⟨⟨by decide +kernel, by decide +kernel⟩, List.mem_of_getElem? (i := 18) (by decide +kernel), List.mem_of_getElem? (i := 672) (by decide +kernel), List.mem_of_getElem? (i := 673) (by decide +kernel)⟩
theorem lw_p34 : lw_okq (⟨"StoreStreams", "mayTry", "(IIII)Z"⟩, 20) := ⟨⟨by decide +kernel, by decide +kernel⟩, List.mem_of_getElem? (i := 18) (by decide +kernel), List.mem_of_getElem? (i := 680) (by decide +kernel), List.mem_of_getElem? (i := 681) (by decide +kernel)⟩
theorem lw_p35 : lw_okq (⟨"StoreStreams", "isSheet", "(I)Z"⟩, 20) := ⟨⟨by decide +kernel, by decide +kernel⟩, List.mem_of_getElem? (i := 18) (by decide +kernel), List.mem_of_getElem? (i := 689) (by decide +kernel), List.mem_of_getElem? (i := 690) (by decide +kernel)⟩
theorem lw_p36 : lw_okq (⟨"StoreStreams", "mayBe", "(II)Z"⟩, 20) := ⟨⟨by decide +kernel, by decide +kernel⟩, List.mem_of_getElem? (i := 18) (by decide +kernel), List.mem_of_getElem? (i := 693) (by decide +kernel), List.mem_of_getElem? (i := 694) (by decide +kernel)⟩
theorem lw_p37 : lw_okq (⟨"StoreStreams", "isMissing", "(I)Z"⟩, 20) := ⟨⟨by decide +kernel, by decide +kernel⟩, List.mem_of_getElem? (i := 18) (by decide +kernel), List.mem_of_getElem? (i := 697) (by decide +kernel), List.mem_of_getElem? (i := 698) (by decide +kernel)⟩
theorem lw_p38 : lw_okq (⟨"StoreStreams", "missWith", "(IIII)J"⟩, 20) := ⟨⟨by decide +kernel, by decide +kernel⟩, List.mem_of_getElem? (i := 18) (by decide +kernel), List.mem_of_getElem? (i := 703) (by decide +kernel), List.mem_of_getElem? (i := 704) (by decide +kernel)⟩
theorem lw_p39 : lw_okq (⟨"StoreStreams", "isRow", "(II)Z"⟩, 20) := ⟨⟨by decide +kernel, by decide +kernel⟩, List.mem_of_getElem? (i := 18) (by decide +kernel), List.mem_of_getElem? (i := 722) (by decide +kernel), List.mem_of_getElem? (i := 723) (by decide +kernel)⟩
theorem lw_p40 : lw_okq (⟨"StoreStreams", "isShelf", "(I)Z"⟩, 20) := ⟨⟨by decide +kernel, by decide +kernel⟩, List.mem_of_getElem? (i := 18) (by decide +kernel), List.mem_of_getElem? (i := 759) (by decide +kernel), List.mem_of_getElem? (i := 760) (by decide +kernel)⟩
theorem lw_p41 : lw_okq (⟨"StoreStreams", "lay", "(IIII)I"⟩, 20) := ⟨⟨by decide +kernel, by decide +kernel⟩, List.mem_of_getElem? (i := 18) (by decide +kernel), List.mem_of_getElem? (i := 763) (by decide +kernel), List.mem_of_getElem? (i := 764) (by decide +kernel)⟩
theorem lw_p42 : lw_okq (⟨"StoreStreams", "layRow", "(II)I"⟩, 20) := ⟨⟨by decide +kernel, by decide +kernel⟩, List.mem_of_getElem? (i := 18) (by decide +kernel), List.mem_of_getElem? (i := 767) (by decide +kernel), List.mem_of_getElem? (i := 768) (by decide +kernel)⟩
theorem lw_p43 : lw_okq (⟨"StoreStreams", "thingOn", "(I)I"⟩, 20) := ⟨⟨by decide +kernel, by decide +kernel⟩, List.mem_of_getElem? (i := 18) (by decide +kernel), List.mem_of_getElem? (i := 775) (by decide +kernel), List.mem_of_getElem? (i := 776) (by decide +kernel)⟩
theorem lw_p44 : lw_okq (⟨"StoreStreamsModel", "advance", "()V"⟩, 63) := ⟨⟨by decide +kernel, by decide +kernel⟩, List.mem_of_getElem? (i := 908) (by decide +kernel), List.mem_of_getElem? (i := 1116) (by decide +kernel), List.mem_of_getElem? (i := 1117) (by decide +kernel)⟩
theorem lw_p45 : lw_okq (⟨"StoreStreamsModel", "byteAt", "(I)I"⟩, 63) := ⟨⟨by decide +kernel, by decide +kernel⟩, List.mem_of_getElem? (i := 908) (by decide +kernel), List.mem_of_getElem? (i := 1120) (by decide +kernel), List.mem_of_getElem? (i := 1121) (by decide +kernel)⟩
theorem lw_p46 : lw_okq (⟨"StoreStreamsModel", "isGood", "()Z"⟩, 63) := ⟨⟨by decide +kernel, by decide +kernel⟩, List.mem_of_getElem? (i := 908) (by decide +kernel), List.mem_of_getElem? (i := 1133) (by decide +kernel), List.mem_of_getElem? (i := 1134) (by decide +kernel)⟩
theorem lw_p47 : lw_okq (⟨"StoreStreamsModel", "wantThing", "()V"⟩, 63) := ⟨⟨by decide +kernel, by decide +kernel⟩, List.mem_of_getElem? (i := 908) (by decide +kernel), List.mem_of_getElem? (i := 1137) (by decide +kernel), List.mem_of_getElem? (i := 1138) (by decide +kernel)⟩
def lw_privs_3 : List (MethodName × Nat) := [(⟨"StoreStreams", "sameStores", "(II)Z"⟩, 20), (⟨"StoreStreams", "valueBehind", "(IIII)I"⟩, 20), (⟨"StoreStreams", "mayTry", "(IIII)Z"⟩, 20), (⟨"StoreStreams", "isSheet", "(I)Z"⟩, 20), (⟨"StoreStreams", "mayBe", "(II)Z"⟩, 20), (⟨"StoreStreams", "isMissing", "(I)Z"⟩, 20), (⟨"StoreStreams", "missWith", "(IIII)J"⟩, 20), (⟨"StoreStreams", "isRow", "(II)Z"⟩, 20), (⟨"StoreStreams", "isShelf", "(I)Z"⟩, 20), (⟨"StoreStreams", "lay", "(IIII)I"⟩, 20), (⟨"StoreStreams", "layRow", "(II)I"⟩, 20), (⟨"StoreStreams", "thingOn", "(I)I"⟩, 20), (⟨"StoreStreamsModel", "advance", "()V"⟩, 63), (⟨"StoreStreamsModel", "byteAt", "(I)I"⟩, 63), (⟨"StoreStreamsModel", "isGood", "()Z"⟩, 63), (⟨"StoreStreamsModel", "wantThing", "()V"⟩, 63)]
theorem lw_r3 : ∀ q ∈ lw_privs_3, lw_okq q := List.forall_mem_cons.mpr ⟨lw_p32, List.forall_mem_cons.mpr ⟨lw_p33, List.forall_mem_cons.mpr ⟨lw_p34, List.forall_mem_cons.mpr ⟨lw_p35, List.forall_mem_cons.mpr ⟨lw_p36, List.forall_mem_cons.mpr ⟨lw_p37, List.forall_mem_cons.mpr ⟨lw_p38, List.forall_mem_cons.mpr ⟨lw_p39, List.forall_mem_cons.mpr ⟨lw_p40, List.forall_mem_cons.mpr ⟨lw_p41, List.forall_mem_cons.mpr ⟨lw_p42, List.forall_mem_cons.mpr ⟨lw_p43, List.forall_mem_cons.mpr ⟨lw_p44, List.forall_mem_cons.mpr ⟨lw_p45, List.forall_mem_cons.mpr ⟨lw_p46, List.forall_mem_cons.mpr ⟨lw_p47, fun _ h => absurd h List.not_mem_nil⟩⟩⟩⟩⟩⟩⟩⟩⟩⟩⟩⟩⟩⟩⟩⟩
theorem lw_p48 : lw_okq (⟨"StoreStreamsModel", "kindHere", "()I"⟩, 63) := ⟨⟨by decide +kernel, by decide +kernel⟩, List.mem_of_getElem? (i := 908) (by decide +kernel), List.mem_of_getElem? (i := 1141) (by decide +kernel), List.mem_of_getElem? (i := 1142) (by decide +kernel)⟩
theorem lw_p49 : lw_okq (⟨"StoreStreamsModel", "isWord", "(J)Z"⟩, 63) := ⟨⟨by decide +kernel, by decide +kernel⟩, List.mem_of_getElem? (i := 908) (by decide +kernel), List.mem_of_getElem? (i := 1146) (by decide +kernel), List.mem_of_getElem? (i := 1147) (by decide +kernel)⟩
theorem lw_p50 : lw_okq (⟨"StoreStreamsModel", "faults", "(I)V"⟩, 63) := ⟨⟨by decide +kernel, by decide +kernel⟩, List.mem_of_getElem? (i := 908) (by decide +kernel), List.mem_of_getElem? (i := 1155) (by decide +kernel), List.mem_of_getElem? (i := 1156) (by decide +kernel)⟩
theorem lw_p51 : lw_okq (⟨"StoreStreamsModel", "isName", "()Z"⟩, 63) := ⟨⟨by decide +kernel, by decide +kernel⟩, List.mem_of_getElem? (i := 908) (by decide +kernel), List.mem_of_getElem? (i := 1159) (by decide +kernel), List.mem_of_getElem? (i := 1160) (by decide +kernel)⟩
theorem lw_p52 : lw_okq (⟨"StoreStreamsModel", "isKey", "()Z"⟩, 63) := ⟨⟨by decide +kernel, by decide +kernel⟩, List.mem_of_getElem? (i := 908) (by decide +kernel), List.mem_of_getElem? (i := 1163) (by decide +kernel), List.mem_of_getElem? (i := 1164) (by decide +kernel)⟩
theorem lw_p53 : lw_okq (⟨"StoreStreamsModel", "known", "()I"⟩, 63) := ⟨⟨by decide +kernel, by decide +kernel⟩, List.mem_of_getElem? (i := 908) (by decide +kernel), List.mem_of_getElem? (i := 1172) (by decide +kernel), List.mem_of_getElem? (i := 1173) (by decide +kernel)⟩
theorem lw_p54 : lw_okq (⟨"StoreStreamsModel", "wantWord", "(J)V"⟩, 63) := ⟨⟨by decide +kernel, by decide +kernel⟩, List.mem_of_getElem? (i := 908) (by decide +kernel), List.mem_of_getElem? (i := 1176) (by decide +kernel), List.mem_of_getElem? (i := 1177) (by decide +kernel)⟩
theorem lw_p55 : lw_okq (⟨"StoreStreamsModel", "wantEnd", "()I"⟩, 63) := ⟨⟨by decide +kernel, by decide +kernel⟩, List.mem_of_getElem? (i := 908) (by decide +kernel), List.mem_of_getElem? (i := 1180) (by decide +kernel), List.mem_of_getElem? (i := 1181) (by decide +kernel)⟩
theorem lw_p56 : lw_okq (⟨"StoreStreamsModel", "wantMark", "(I)V"⟩, 63) := ⟨⟨by decide +kernel, by decide +kernel⟩, List.mem_of_getElem? (i := 908) (by decide +kernel), List.mem_of_getElem? (i := 1184) (by decide +kernel), List.mem_of_getElem? (i := 1185) (by decide +kernel)⟩
theorem lw_p57 : lw_okq (⟨"StoreStreamsModel", "isMark", "(I)Z"⟩, 63) := ⟨⟨by decide +kernel, by decide +kernel⟩, List.mem_of_getElem? (i := 908) (by decide +kernel), List.mem_of_getElem? (i := 1188) (by decide +kernel), List.mem_of_getElem? (i := 1189) (by decide +kernel)⟩
theorem lw_p58 : lw_okq (⟨"StoreStreamsModel", "wantNumber", "(II)I"⟩, 63) := ⟨⟨by decide +kernel, by decide +kernel⟩, List.mem_of_getElem? (i := 908) (by decide +kernel), List.mem_of_getElem? (i := 1193) (by decide +kernel), List.mem_of_getElem? (i := 1194) (by decide +kernel)⟩
theorem lw_p59 : lw_okq (⟨"StoreStreamsModel", "wantCorners", "(I)V"⟩, 63) := ⟨⟨by decide +kernel, by decide +kernel⟩, List.mem_of_getElem? (i := 908) (by decide +kernel), List.mem_of_getElem? (i := 1197) (by decide +kernel), List.mem_of_getElem? (i := 1198) (by decide +kernel)⟩
theorem lw_p60 : lw_okq (⟨"StoreStreamsModel", "wantE", "()V"⟩, 63) := ⟨⟨by decide +kernel, by decide +kernel⟩, List.mem_of_getElem? (i := 908) (by decide +kernel), List.mem_of_getElem? (i := 1201) (by decide +kernel), List.mem_of_getElem? (i := 1202) (by decide +kernel)⟩
theorem lw_p61 : lw_okq (⟨"StoreStreamsModel", "part", "()Z"⟩, 63) := ⟨⟨by decide +kernel, by decide +kernel⟩, List.mem_of_getElem? (i := 908) (by decide +kernel), List.mem_of_getElem? (i := 1205) (by decide +kernel), List.mem_of_getElem? (i := 1206) (by decide +kernel)⟩
theorem lw_p62 : lw_okq (⟨"StoreStreamsModel", "emit", "(I)V"⟩, 63) := ⟨⟨by decide +kernel, by decide +kernel⟩, List.mem_of_getElem? (i := 908) (by decide +kernel), List.mem_of_getElem? (i := 1209) (by decide +kernel), List.mem_of_getElem? (i := 1210) (by decide +kernel)⟩
theorem lw_p63 : lw_okq (⟨"StoreStreamsModel", "ended", "()V"⟩, 63) := ⟨⟨by decide +kernel, by decide +kernel⟩, List.mem_of_getElem? (i := 908) (by decide +kernel), List.mem_of_getElem? (i := 1213) (by decide +kernel), List.mem_of_getElem? (i := 1214) (by decide +kernel)⟩
def lw_privs_4 : List (MethodName × Nat) := [(⟨"StoreStreamsModel", "kindHere", "()I"⟩, 63), (⟨"StoreStreamsModel", "isWord", "(J)Z"⟩, 63), (⟨"StoreStreamsModel", "faults", "(I)V"⟩, 63), (⟨"StoreStreamsModel", "isName", "()Z"⟩, 63), (⟨"StoreStreamsModel", "isKey", "()Z"⟩, 63), (⟨"StoreStreamsModel", "known", "()I"⟩, 63), (⟨"StoreStreamsModel", "wantWord", "(J)V"⟩, 63), (⟨"StoreStreamsModel", "wantEnd", "()I"⟩, 63), (⟨"StoreStreamsModel", "wantMark", "(I)V"⟩, 63), (⟨"StoreStreamsModel", "isMark", "(I)Z"⟩, 63), (⟨"StoreStreamsModel", "wantNumber", "(II)I"⟩, 63), (⟨"StoreStreamsModel", "wantCorners", "(I)V"⟩, 63), (⟨"StoreStreamsModel", "wantE", "()V"⟩, 63), (⟨"StoreStreamsModel", "part", "()Z"⟩, 63), (⟨"StoreStreamsModel", "emit", "(I)V"⟩, 63), (⟨"StoreStreamsModel", "ended", "()V"⟩, 63)]
theorem lw_r4 : ∀ q ∈ lw_privs_4, lw_okq q := List.forall_mem_cons.mpr ⟨lw_p48, List.forall_mem_cons.mpr ⟨lw_p49, List.forall_mem_cons.mpr ⟨lw_p50, List.forall_mem_cons.mpr ⟨lw_p51, List.forall_mem_cons.mpr ⟨lw_p52, List.forall_mem_cons.mpr ⟨lw_p53, List.forall_mem_cons.mpr ⟨lw_p54, List.forall_mem_cons.mpr ⟨lw_p55, List.forall_mem_cons.mpr ⟨lw_p56, List.forall_mem_cons.mpr ⟨lw_p57, List.forall_mem_cons.mpr ⟨lw_p58, List.forall_mem_cons.mpr ⟨lw_p59, List.forall_mem_cons.mpr ⟨lw_p60, List.forall_mem_cons.mpr ⟨lw_p61, List.forall_mem_cons.mpr ⟨lw_p62, List.forall_mem_cons.mpr ⟨lw_p63, fun _ h => absurd h List.not_mem_nil⟩⟩⟩⟩⟩⟩⟩⟩⟩⟩⟩⟩⟩⟩⟩⟩
theorem lw_p64 : lw_okq (⟨"StoreStreamsModel", "top", "()I"⟩, 63) := ⟨⟨by decide +kernel, by decide +kernel⟩, List.mem_of_getElem? (i := 908) (by decide +kernel), List.mem_of_getElem? (i := 1217) (by decide +kernel), List.mem_of_getElem? (i := 1218) (by decide +kernel)⟩
theorem lw_p65 : lw_okq (⟨"StoreStreamsModel", "opens", "(I)V"⟩, 63) := ⟨⟨by decide +kernel, by decide +kernel⟩, List.mem_of_getElem? (i := 908) (by decide +kernel), List.mem_of_getElem? (i := 1223) (by decide +kernel), List.mem_of_getElem? (i := 1224) (by decide +kernel)⟩
theorem lw_p66 : lw_okq (⟨"StoreStreamsModel", "pend", "(I)V"⟩, 63) := ⟨⟨by decide +kernel, by decide +kernel⟩, List.mem_of_getElem? (i := 908) (by decide +kernel), List.mem_of_getElem? (i := 1227) (by decide +kernel), List.mem_of_getElem? (i := 1228) (by decide +kernel)⟩
theorem lw_p67 : lw_okq (⟨"StoreStreamsModel", "goesOn", "()I"⟩, 63) := ⟨⟨by decide +kernel, by decide +kernel⟩, List.mem_of_getElem? (i := 908) (by decide +kernel), List.mem_of_getElem? (i := 1234) (by decide +kernel), List.mem_of_getElem? (i := 1235) (by decide +kernel)⟩
theorem lw_p68 : lw_okq (⟨"StoreStreamsModel", "settle", "(I)V"⟩, 63) := ⟨⟨by decide +kernel, by decide +kernel⟩, List.mem_of_getElem? (i := 908) (by decide +kernel), List.mem_of_getElem? (i := 1242) (by decide +kernel), List.mem_of_getElem? (i := 1243) (by decide +kernel)⟩
theorem lw_p69 : lw_okq (⟨"StoreStreamsModel", "closes", "()V"⟩, 63) := ⟨⟨by decide +kernel, by decide +kernel⟩, List.mem_of_getElem? (i := 908) (by decide +kernel), List.mem_of_getElem? (i := 1249) (by decide +kernel), List.mem_of_getElem? (i := 1250) (by decide +kernel)⟩
theorem lw_p70 : lw_okq (⟨"StoreStreamsModel", "beginAll", "()V"⟩, 63) := ⟨⟨by decide +kernel, by decide +kernel⟩, List.mem_of_getElem? (i := 908) (by decide +kernel), List.mem_of_getElem? (i := 1253) (by decide +kernel), List.mem_of_getElem? (i := 1254) (by decide +kernel)⟩
theorem lw_p71 : lw_okq (⟨"StoreStreamsModel", "beginWorld", "()V"⟩, 63) := ⟨⟨by decide +kernel, by decide +kernel⟩, List.mem_of_getElem? (i := 908) (by decide +kernel), List.mem_of_getElem? (i := 1257) (by decide +kernel), List.mem_of_getElem? (i := 1258) (by decide +kernel)⟩
theorem lw_p72 : lw_okq (⟨"StoreStreamsModel", "of", "(II)I"⟩, 63) := ⟨⟨by decide +kernel, by decide +kernel⟩, List.mem_of_getElem? (i := 908) (by decide +kernel), List.mem_of_getElem? (i := 1261) (by decide +kernel), List.mem_of_getElem? (i := 1262) (by decide +kernel)⟩
theorem lw_p73 : lw_okq (⟨"StoreStreamsModel", "isThing", "(I)Z"⟩, 63) := ⟨⟨by decide +kernel, by decide +kernel⟩, List.mem_of_getElem? (i := 908) (by decide +kernel), List.mem_of_getElem? (i := 1277) (by decide +kernel), List.mem_of_getElem? (i := 1278) (by decide +kernel)⟩
theorem lw_p74 : lw_okq (⟨"StoreStreamsModel", "findValues", "()V"⟩, 63) := ⟨⟨by decide +kernel, by decide +kernel⟩, List.mem_of_getElem? (i := 908) (by decide +kernel), List.mem_of_getElem? (i := 1286) (by decide +kernel), List.mem_of_getElem? (i := 1287) (by decide +kernel)⟩
theorem lw_p75 : lw_okq (⟨"StoreStreamsModel", "worked", "(I)I"⟩, 63) := ⟨⟨by decide +kernel, by decide +kernel⟩, List.mem_of_getElem? (i := 908) (by decide +kernel), List.mem_of_getElem? (i := 1290) (by decide +kernel), List.mem_of_getElem? (i := 1291) (by decide +kernel)⟩
theorem lw_p76 : lw_okq (⟨"StoreStreamsModel", "onLine", "(II)I"⟩, 63) := ⟨⟨by decide +kernel, by decide +kernel⟩, List.mem_of_getElem? (i := 908) (by decide +kernel), List.mem_of_getElem? (i := 1294) (by decide +kernel), List.mem_of_getElem? (i := 1295) (by decide +kernel)⟩
theorem lw_p77 : lw_okq (⟨"StoreStreamsModel", "was", "(II)I"⟩, 63) := ⟨⟨by decide +kernel, by decide +kernel⟩, List.mem_of_getElem? (i := 908) (by decide +kernel), List.mem_of_getElem? (i := 1305) (by decide +kernel), List.mem_of_getElem? (i := 1306) (by decide +kernel)⟩
theorem lw_p78 : lw_okq (⟨"StoreStreamsModel", "flowOf", "(I)I"⟩, 63) := ⟨⟨by decide +kernel, by decide +kernel⟩, List.mem_of_getElem? (i := 908) (by decide +kernel), List.mem_of_getElem? (i := 1313) (by decide +kernel), List.mem_of_getElem? (i := 1314) (by decide +kernel)⟩
theorem lw_p79 : lw_okq (⟨"StoreStreamsModel", "steps", "()Z"⟩, 63) := ⟨⟨by decide +kernel, by decide +kernel⟩, List.mem_of_getElem? (i := 908) (by decide +kernel), List.mem_of_getElem? (i := 1321) (by decide +kernel), List.mem_of_getElem? (i := 1322) (by decide +kernel)⟩
def lw_privs_5 : List (MethodName × Nat) := [(⟨"StoreStreamsModel", "top", "()I"⟩, 63), (⟨"StoreStreamsModel", "opens", "(I)V"⟩, 63), (⟨"StoreStreamsModel", "pend", "(I)V"⟩, 63), (⟨"StoreStreamsModel", "goesOn", "()I"⟩, 63), (⟨"StoreStreamsModel", "settle", "(I)V"⟩, 63), (⟨"StoreStreamsModel", "closes", "()V"⟩, 63), (⟨"StoreStreamsModel", "beginAll", "()V"⟩, 63), (⟨"StoreStreamsModel", "beginWorld", "()V"⟩, 63), (⟨"StoreStreamsModel", "of", "(II)I"⟩, 63), (⟨"StoreStreamsModel", "isThing", "(I)Z"⟩, 63), (⟨"StoreStreamsModel", "findValues", "()V"⟩, 63), (⟨"StoreStreamsModel", "worked", "(I)I"⟩, 63), (⟨"StoreStreamsModel", "onLine", "(II)I"⟩, 63), (⟨"StoreStreamsModel", "was", "(II)I"⟩, 63), (⟨"StoreStreamsModel", "flowOf", "(I)I"⟩, 63), (⟨"StoreStreamsModel", "steps", "()Z"⟩, 63)]
theorem lw_r5 : ∀ q ∈ lw_privs_5, lw_okq q := List.forall_mem_cons.mpr ⟨lw_p64, List.forall_mem_cons.mpr ⟨lw_p65, List.forall_mem_cons.mpr ⟨lw_p66, List.forall_mem_cons.mpr ⟨lw_p67, List.forall_mem_cons.mpr ⟨lw_p68, List.forall_mem_cons.mpr ⟨lw_p69, List.forall_mem_cons.mpr ⟨lw_p70, List.forall_mem_cons.mpr ⟨lw_p71, List.forall_mem_cons.mpr ⟨lw_p72, List.forall_mem_cons.mpr ⟨lw_p73, List.forall_mem_cons.mpr ⟨lw_p74, List.forall_mem_cons.mpr ⟨lw_p75, List.forall_mem_cons.mpr ⟨lw_p76, List.forall_mem_cons.mpr ⟨lw_p77, List.forall_mem_cons.mpr ⟨lw_p78, List.forall_mem_cons.mpr ⟨lw_p79, fun _ h => absurd h List.not_mem_nil⟩⟩⟩⟩⟩⟩⟩⟩⟩⟩⟩⟩⟩⟩⟩⟩
theorem lw_p80 : lw_okq (⟨"StoreStreamsModel", "isKind", "(II)Z"⟩, 63) := ⟨⟨by decide +kernel, by decide +kernel⟩, List.mem_of_getElem? (i := 908) (by decide +kernel), List.mem_of_getElem? (i := 1334) (by decide +kernel), List.mem_of_getElem? (i := 1335) (by decide +kernel)⟩
theorem lw_p81 : lw_okq (⟨"StoreStreamsModel", "movedBy", "(I)I"⟩, 63) := ⟨⟨by decide +kernel, by decide +kernel⟩, List.mem_of_getElem? (i := 908) (by decide +kernel), List.mem_of_getElem? (i := 1350) (by decide +kernel), List.mem_of_getElem? (i := 1351) (by decide +kernel)⟩
theorem lw_p82 : lw_okq (⟨"StoreStreamsModel", "findRing", "(I)I"⟩, 63) := ⟨⟨by decide +kernel, by decide +kernel⟩, List.mem_of_getElem? (i := 908) (by decide +kernel), List.mem_of_getElem? (i := 1362) (by decide +kernel), List.mem_of_getElem? (i := 1363) (by decide +kernel)⟩
theorem lw_p83 : lw_okq (⟨"StoreStreamsModel", "mayStand", "(I)Z"⟩, 63) := ⟨⟨by decide +kernel, by decide +kernel⟩, List.mem_of_getElem? (i := 908) (by decide +kernel), List.mem_of_getElem? (i := 1366) (by decide +kernel), List.mem_of_getElem? (i := 1367) (by decide +kernel)⟩
theorem lw_p84 : lw_okq (⟨"StoreStreamsModel", "setAside", "()V"⟩, 63) := ⟨⟨by decide +kernel, by decide +kernel⟩, List.mem_of_getElem? (i := 908) (by decide +kernel), List.mem_of_getElem? (i := 1378) (by decide +kernel), List.mem_of_getElem? (i := 1379) (by decide +kernel)⟩
theorem lw_p85 : lw_okq (⟨"StoreStreamsModel", "copy", "([I[II)V"⟩, 63) := ⟨⟨by decide +kernel, by decide +kernel⟩, List.mem_of_getElem? (i := 908) (by decide +kernel), List.mem_of_getElem? (i := 1382) (by decide +kernel), List.mem_of_getElem? (i := 1383) (by decide +kernel)⟩
theorem lw_p86 : lw_okq (⟨"StoreStreamsModel", "putBack", "()V"⟩, 63) := ⟨⟨by decide +kernel, by decide +kernel⟩, List.mem_of_getElem? (i := 908) (by decide +kernel), List.mem_of_getElem? (i := 1386) (by decide +kernel), List.mem_of_getElem? (i := 1387) (by decide +kernel)⟩
theorem lw_p87 : lw_okq (⟨"StoreStreamsModel", "isAlike", "(II)Z"⟩, 63) := ⟨⟨by decide +kernel, by decide +kernel⟩, List.mem_of_getElem? (i := 908) (by decide +kernel), List.mem_of_getElem? (i := 1394) (by decide +kernel), List.mem_of_getElem? (i := 1395) (by decide +kernel)⟩
theorem lw_p88 : lw_okq (⟨"StoreStreamsModel", "valueOn", "(IIII)I"⟩, 63) := ⟨⟨by decide +kernel, by decide +kernel⟩, List.mem_of_getElem? (i := 908) (by decide +kernel), List.mem_of_getElem? (i := 1402) (by decide +kernel), List.mem_of_getElem? (i := 1403) (by decide +kernel)⟩
theorem lw_p89 : lw_okq (⟨"StoreStreamsModel", "lacksSort", "(II)I"⟩, 63) := ⟨⟨by decide +kernel, by decide +kernel⟩, List.mem_of_getElem? (i := 908) (by decide +kernel), List.mem_of_getElem? (i := 1422) (by decide +kernel), List.mem_of_getElem? (i := 1423) (by decide +kernel)⟩
theorem lw_p90 : lw_okq (⟨"StoreStreamsModel", "missOf", "(IIII)J"⟩, 63) := ⟨⟨by decide +kernel, by decide +kernel⟩, List.mem_of_getElem? (i := 908) (by decide +kernel), List.mem_of_getElem? (i := 1426) (by decide +kernel), List.mem_of_getElem? (i := 1427) (by decide +kernel)⟩
theorem lw_p91 : lw_okq (⟨"StoreStreamsModel", "isRow", "(II)Z"⟩, 63) := ⟨⟨by decide +kernel, by decide +kernel⟩, List.mem_of_getElem? (i := 908) (by decide +kernel), List.mem_of_getElem? (i := 1442) (by decide +kernel), List.mem_of_getElem? (i := 1443) (by decide +kernel)⟩
theorem lw_p92 : lw_okq (⟨"StoreStreamsModel", "isHeld", "(II)Z"⟩, 63) := ⟨⟨by decide +kernel, by decide +kernel⟩, List.mem_of_getElem? (i := 908) (by decide +kernel), List.mem_of_getElem? (i := 1470) (by decide +kernel), List.mem_of_getElem? (i := 1471) (by decide +kernel)⟩
theorem lw_p93 : lw_okq (⟨"StoreStreamsModel", "kindOn", "(I)I"⟩, 63) := ⟨⟨by decide +kernel, by decide +kernel⟩, List.mem_of_getElem? (i := 908) (by decide +kernel), List.mem_of_getElem? (i := 1478) (by decide +kernel), List.mem_of_getElem? (i := 1479) (by decide +kernel)⟩
theorem lw_p94 : lw_okq (⟨"StoreStreamsModel", "readsIt", "(I)I"⟩, 63) := ⟨⟨by decide +kernel, by decide +kernel⟩, List.mem_of_getElem? (i := 908) (by decide +kernel), List.mem_of_getElem? (i := 1489) (by decide +kernel), List.mem_of_getElem? (i := 1490) (by decide +kernel)⟩
theorem lw_p95 : lw_okq (⟨"StoreStreamsModel", "ran", "(I)V"⟩, 63) := ⟨⟨by decide +kernel, by decide +kernel⟩, List.mem_of_getElem? (i := 908) (by decide +kernel), List.mem_of_getElem? (i := 1493) (by decide +kernel), List.mem_of_getElem? (i := 1494) (by decide +kernel)⟩
def lw_privs_6 : List (MethodName × Nat) := [(⟨"StoreStreamsModel", "isKind", "(II)Z"⟩, 63), (⟨"StoreStreamsModel", "movedBy", "(I)I"⟩, 63), (⟨"StoreStreamsModel", "findRing", "(I)I"⟩, 63), (⟨"StoreStreamsModel", "mayStand", "(I)Z"⟩, 63), (⟨"StoreStreamsModel", "setAside", "()V"⟩, 63), (⟨"StoreStreamsModel", "copy", "([I[II)V"⟩, 63), (⟨"StoreStreamsModel", "putBack", "()V"⟩, 63), (⟨"StoreStreamsModel", "isAlike", "(II)Z"⟩, 63), (⟨"StoreStreamsModel", "valueOn", "(IIII)I"⟩, 63), (⟨"StoreStreamsModel", "lacksSort", "(II)I"⟩, 63), (⟨"StoreStreamsModel", "missOf", "(IIII)J"⟩, 63), (⟨"StoreStreamsModel", "isRow", "(II)Z"⟩, 63), (⟨"StoreStreamsModel", "isHeld", "(II)Z"⟩, 63), (⟨"StoreStreamsModel", "kindOn", "(I)I"⟩, 63), (⟨"StoreStreamsModel", "readsIt", "(I)I"⟩, 63), (⟨"StoreStreamsModel", "ran", "(I)V"⟩, 63)]
theorem lw_r6 : ∀ q ∈ lw_privs_6, lw_okq q := List.forall_mem_cons.mpr ⟨lw_p80, List.forall_mem_cons.mpr ⟨lw_p81, List.forall_mem_cons.mpr ⟨lw_p82, List.forall_mem_cons.mpr ⟨lw_p83, List.forall_mem_cons.mpr ⟨lw_p84, List.forall_mem_cons.mpr ⟨lw_p85, List.forall_mem_cons.mpr ⟨lw_p86, List.forall_mem_cons.mpr ⟨lw_p87, List.forall_mem_cons.mpr ⟨lw_p88, List.forall_mem_cons.mpr ⟨lw_p89, List.forall_mem_cons.mpr ⟨lw_p90, List.forall_mem_cons.mpr ⟨lw_p91, List.forall_mem_cons.mpr ⟨lw_p92, List.forall_mem_cons.mpr ⟨lw_p93, List.forall_mem_cons.mpr ⟨lw_p94, List.forall_mem_cons.mpr ⟨lw_p95, fun _ h => absurd h List.not_mem_nil⟩⟩⟩⟩⟩⟩⟩⟩⟩⟩⟩⟩⟩⟩⟩⟩
theorem lw_p96 : lw_okq (⟨"StoreStreamsModel", "stepsIt", "(I)I"⟩, 63) := ⟨⟨by decide +kernel, by decide +kernel⟩, List.mem_of_getElem? (i := 908) (by decide +kernel), List.mem_of_getElem? (i := 1497) (by decide +kernel), List.mem_of_getElem? (i := 1498) (by decide +kernel)⟩
theorem lw_p97 : lw_okq (⟨"StoreStreamsModel", "thingSteps", "(I)I"⟩, 63) := ⟨⟨by decide +kernel, by decide +kernel⟩, List.mem_of_getElem? (i := 908) (by decide +kernel), List.mem_of_getElem? (i := 1501) (by decide +kernel), List.mem_of_getElem? (i := 1502) (by decide +kernel)⟩
theorem lw_p98 : lw_okq (⟨"StoreStreamsModel", "unitsIt", "(I)I"⟩, 63) := ⟨⟨by decide +kernel, by decide +kernel⟩, List.mem_of_getElem? (i := 908) (by decide +kernel), List.mem_of_getElem? (i := 1505) (by decide +kernel), List.mem_of_getElem? (i := 1506) (by decide +kernel)⟩
theorem lw_p99 : lw_okq (⟨"StoreStreamsModel", "thingUnits", "(I)I"⟩, 63) := ⟨⟨by decide +kernel, by decide +kernel⟩, List.mem_of_getElem? (i := 908) (by decide +kernel), List.mem_of_getElem? (i := 1509) (by decide +kernel), List.mem_of_getElem? (i := 1510) (by decide +kernel)⟩
theorem lw_p100 : lw_okq (⟨"StoreStreamsModel", "tellsIt", "(I)I"⟩, 63) := ⟨⟨by decide +kernel, by decide +kernel⟩, List.mem_of_getElem? (i := 908) (by decide +kernel), List.mem_of_getElem? (i := 1513) (by decide +kernel), List.mem_of_getElem? (i := 1514) (by decide +kernel)⟩
theorem lw_p101 : lw_okq (⟨"StoreStreamsModel", "thingTells", "(I)I"⟩, 63) := ⟨⟨by decide +kernel, by decide +kernel⟩, List.mem_of_getElem? (i := 908) (by decide +kernel), List.mem_of_getElem? (i := 1517) (by decide +kernel), List.mem_of_getElem? (i := 1518) (by decide +kernel)⟩
theorem lw_p102 : lw_okq (⟨"StoreStreamsModel", "moveAll", "(Z)V"⟩, 63) := ⟨⟨by decide +kernel, by decide +kernel⟩, List.mem_of_getElem? (i := 908) (by decide +kernel), List.mem_of_getElem? (i := 1533) (by decide +kernel), List.mem_of_getElem? (i := 1534) (by decide +kernel)⟩
theorem lw_p103 : lw_okq (⟨"StoreStreamsModel", "move", "([IIZ)V"⟩, 63) := ⟨⟨by decide +kernel, by decide +kernel⟩, List.mem_of_getElem? (i := 908) (by decide +kernel), List.mem_of_getElem? (i := 1537) (by decide +kernel), List.mem_of_getElem? (i := 1538) (by decide +kernel)⟩
def lw_privs_7 : List (MethodName × Nat) := [(⟨"StoreStreamsModel", "stepsIt", "(I)I"⟩, 63), (⟨"StoreStreamsModel", "thingSteps", "(I)I"⟩, 63), (⟨"StoreStreamsModel", "unitsIt", "(I)I"⟩, 63), (⟨"StoreStreamsModel", "thingUnits", "(I)I"⟩, 63), (⟨"StoreStreamsModel", "tellsIt", "(I)I"⟩, 63), (⟨"StoreStreamsModel", "thingTells", "(I)I"⟩, 63), (⟨"StoreStreamsModel", "moveAll", "(Z)V"⟩, 63), (⟨"StoreStreamsModel", "move", "([IIZ)V"⟩, 63)]
theorem lw_r7 : ∀ q ∈ lw_privs_7, lw_okq q := List.forall_mem_cons.mpr ⟨lw_p96, List.forall_mem_cons.mpr ⟨lw_p97, List.forall_mem_cons.mpr ⟨lw_p98, List.forall_mem_cons.mpr ⟨lw_p99, List.forall_mem_cons.mpr ⟨lw_p100, List.forall_mem_cons.mpr ⟨lw_p101, List.forall_mem_cons.mpr ⟨lw_p102, List.forall_mem_cons.mpr ⟨lw_p103, fun _ h => absurd h List.not_mem_nil⟩⟩⟩⟩⟩⟩⟩⟩
def lw_privs : List (MethodName × Nat) := lw_privs_1 ++ (lw_privs_2 ++ (lw_privs_3 ++ (lw_privs_4 ++ (lw_privs_5 ++ (lw_privs_6 ++ (lw_privs_7))))))
def lw_tbl : List Cond := k2_sels lw_privs ++ tables_1
theorem lw_privs_ok : ∀ q ∈ lw_privs, lw_okq q := by
  show ∀ q ∈ lw_privs_1 ++ (lw_privs_2 ++ (lw_privs_3 ++ (lw_privs_4 ++ (lw_privs_5 ++ (lw_privs_6 ++ (lw_privs_7)))))), lw_okq q
  exact List.forall_mem_append.mpr ⟨lw_r1, List.forall_mem_append.mpr ⟨lw_r2, List.forall_mem_append.mpr ⟨lw_r3, List.forall_mem_append.mpr ⟨lw_r4, List.forall_mem_append.mpr ⟨lw_r5, List.forall_mem_append.mpr ⟨lw_r6, lw_r7⟩⟩⟩⟩⟩⟩
-- ===== end of PART A; then your names; then what follows =====
end
section
/-! names: out of the claim's printed names (classes, fields, codes, method names) -/
def RX0 : String := "StoreStreams$Delay"
def TX0 : u_T := fun k => match k with
  | _ => ("", "", "", false)
def tyX0 : Nat → FieldType := fun k => match k with
  | _ => .int
abbrev wsX00 : List Cond := u_ws RX0 TX0 0
theorem nmX0 : ∀ a, a < 0 → ∀ b, b < 0 → a ≠ b → (TX0 a).2.1 ≠ (TX0 b).2.1 := by decide +kernel
theorem tyX0_ok : ∀ k, k < 0 → parseFieldDescriptor (TX0 k).2.2.1 = some (tyX0 k) := by decide +kernel
abbrev cX0_init : ByteArray := prog_2_method_1_code
def yX0_init : MethodName := ⟨RX0, "<init>", "()V"⟩
abbrev cX0_reads : ByteArray := prog_2_method_2_code
def yX0_reads : MethodName := ⟨RX0, "reads", "(LStoreStreams$Doing;I)I"⟩
abbrev cX0_tells : ByteArray := prog_2_method_3_code
def yX0_tells : MethodName := ⟨RX0, "tells", "(LStoreStreams$Doing;I)I"⟩
def RX1 : String := "StoreStreams$Doing"
def TX1 : u_T := fun k => match k with
  | 0 => ("StoreStreams$Doing", "number", "I", false)
  | 1 => ("StoreStreams$Doing", "letters", "I", false)
  | 2 => ("StoreStreams$Doing", "isParted", "Z", false)
  | 3 => ("StoreStreams$Doing", "count", "I", false)
  | _ => ("StoreStreams$Doing", "bodies", "[I", true)
def tyX1 : Nat → FieldType := fun k => match k with
  | 0 => .int
  | 1 => .int
  | 2 => .boolean
  | 3 => .int
  | _ => .array .int
abbrev wsX10 : List Cond := u_ws RX1 TX1 5
theorem nmX1 : ∀ a, a < 5 → ∀ b, b < 5 → a ≠ b → (TX1 a).2.1 ≠ (TX1 b).2.1 := by decide +kernel
theorem tyX1_ok : ∀ k, k < 5 → parseFieldDescriptor (TX1 k).2.2.1 = some (tyX1 k) := by decide +kernel
abbrev cX1_init : ByteArray := prog_3_method_1_code
def yX1_init : MethodName := ⟨RX1, "<init>", "()V"⟩
abbrev cX1_clear : ByteArray := prog_3_method_2_code
def yX1_clear : MethodName := ⟨RX1, "clear", "()V"⟩
abbrev cX1_begins : ByteArray := prog_3_method_3_code
def yX1_begins : MethodName := ⟨RX1, "begins", "(I)V"⟩
def RX2 : String := "StoreStreams$Held"
def TX2 : u_T := fun k => match k with
  | _ => ("", "", "", false)
def tyX2 : Nat → FieldType := fun k => match k with
  | _ => .int
abbrev wsX20 : List Cond := u_ws RX2 TX2 0
theorem nmX2 : ∀ a, a < 0 → ∀ b, b < 0 → a ≠ b → (TX2 a).2.1 ≠ (TX2 b).2.1 := by decide +kernel
theorem tyX2_ok : ∀ k, k < 0 → parseFieldDescriptor (TX2 k).2.2.1 = some (tyX2 k) := by decide +kernel
abbrev cX2_init : ByteArray := prog_4_method_1_code
def yX2_init : MethodName := ⟨RX2, "<init>", "()V"⟩
abbrev cX2_reads : ByteArray := prog_4_method_2_code
def yX2_reads : MethodName := ⟨RX2, "reads", "(LStoreStreams$Doing;I)I"⟩
def RX3 : String := "StoreStreams$Helper"
def TX3 : u_T := fun k => match k with
  | _ => ("", "", "", false)
def tyX3 : Nat → FieldType := fun k => match k with
  | _ => .int
abbrev wsX30 : List Cond := u_ws RX3 TX3 0
theorem nmX3 : ∀ a, a < 0 → ∀ b, b < 0 → a ≠ b → (TX3 a).2.1 ≠ (TX3 b).2.1 := by decide +kernel
theorem tyX3_ok : ∀ k, k < 0 → parseFieldDescriptor (TX3 k).2.2.1 = some (tyX3 k) := by decide +kernel
abbrev cX3_init : ByteArray := prog_5_method_1_code
def yX3_init : MethodName := ⟨RX3, "<init>", "()V"⟩
abbrev cX3_steps : ByteArray := prog_5_method_2_code
def yX3_steps : MethodName := ⟨RX3, "steps", "(LStoreStreams$Doing;I)I"⟩
abbrev cX3_tells : ByteArray := prog_5_method_3_code
def yX3_tells : MethodName := ⟨RX3, "tells", "(LStoreStreams$Doing;I)I"⟩
def RX4 : String := "StoreStreams$Scribe"
def TX4 : u_T := fun k => match k with
  | 0 => ("StoreStreams$Scribe", "tape", "[I", true)
  | 1 => ("StoreStreams$Scribe", "fed", "I", false)
  | 2 => ("StoreStreams$Scribe", "faultKind", "I", false)
  | 3 => ("StoreStreams$Scribe", "faultPlace", "I", false)
  | 4 => ("StoreStreams$Scribe", "text", "LStoreStreams$Text;", false)
  | 5 => ("StoreStreams$Scribe", "place", "I", false)
  | 6 => ("StoreStreams$Scribe", "sort", "I", false)
  | 7 => ("StoreStreams$Scribe", "start", "I", false)
  | 8 => ("StoreStreams$Scribe", "size", "I", false)
  | _ => ("StoreStreams$Scribe", "number", "I", false)
def tyX4 : Nat → FieldType := fun k => match k with
  | 0 => .array .int
  | 1 => .int
  | 2 => .int
  | 3 => .int
  | 4 => .object "StoreStreams$Text"
  | 5 => .int
  | 6 => .int
  | 7 => .int
  | 8 => .int
  | _ => .int
abbrev wsX40 : List Cond := u_ws RX4 TX4 10
theorem nmX4 : ∀ a, a < 10 → ∀ b, b < 10 → a ≠ b → (TX4 a).2.1 ≠ (TX4 b).2.1 := by decide +kernel
theorem tyX4_ok : ∀ k, k < 10 → parseFieldDescriptor (TX4 k).2.2.1 = some (tyX4 k) := by decide +kernel
abbrev cX4_init : ByteArray := prog_6_method_1_code
def yX4_init : MethodName := ⟨RX4, "<init>", "()V"⟩
abbrev cX4_write : ByteArray := prog_6_method_2_code
def yX4_write : MethodName := ⟨RX4, "write", "()Z"⟩
abbrev cX4_wrong : ByteArray := prog_6_method_3_code
def yX4_wrong : MethodName := ⟨RX4, "wrong", "(I)Z"⟩
abbrev cX4_next : ByteArray := prog_6_method_4_code
def yX4_next : MethodName := ⟨RX4, "next", "()Z"⟩
abbrev cX4_sortAt : ByteArray := prog_6_method_5_code
def yX4_sortAt : MethodName := ⟨RX4, "sortAt", "(I)I"⟩
abbrev cX4_isKey : ByteArray := prog_6_method_6_code
def yX4_isKey : MethodName := ⟨RX4, "isKey", "(I)Z"⟩
abbrev cX4_isSign : ByteArray := prog_6_method_7_code
def yX4_isSign : MethodName := ⟨RX4, "isSign", "(I)Z"⟩
abbrev cX4_isName : ByteArray := prog_6_method_8_code
def yX4_isName : MethodName := ⟨RX4, "isName", "()Z"⟩
abbrev cX4_isN : ByteArray := prog_6_method_9_code
def yX4_isN : MethodName := ⟨RX4, "isN", "(II)Z"⟩
abbrev cX4_skipSign : ByteArray := prog_6_method_10_code
def yX4_skipSign : MethodName := ⟨RX4, "skipSign", "(I)Z"⟩
abbrev cX4_skipKey : ByteArray := prog_6_method_11_code
def yX4_skipKey : MethodName := ⟨RX4, "skipKey", "(I)Z"⟩
abbrev cX4_oneThing : ByteArray := prog_6_method_12_code
def yX4_oneThing : MethodName := ⟨RX4, "oneThing", "()Z"⟩
abbrev cX4_kindOfKey : ByteArray := prog_6_method_13_code
def yX4_kindOfKey : MethodName := ⟨RX4, "kindOfKey", "()I"⟩
abbrev cX4_newName : ByteArray := prog_6_method_14_code
def yX4_newName : MethodName := ⟨RX4, "newName", "(I)Z"⟩
abbrev cX4_ends : ByteArray := prog_6_method_15_code
def yX4_ends : MethodName := ⟨RX4, "ends", "()Z"⟩
abbrev cX4_end : ByteArray := prog_6_method_16_code
def yX4_end : MethodName := ⟨RX4, "end", "([I)Z"⟩
abbrev cX4_first : ByteArray := prog_6_method_17_code
def yX4_first : MethodName := ⟨RX4, "first", "(II)Z"⟩
abbrev cX4_allCorners : ByteArray := prog_6_method_18_code
def yX4_allCorners : MethodName := ⟨RX4, "allCorners", "()Z"⟩
abbrev cX4_corner : ByteArray := prog_6_method_19_code
def yX4_corner : MethodName := ⟨RX4, "corner", "(I)Z"⟩
abbrev cX4_joins : ByteArray := prog_6_method_20_code
def yX4_joins : MethodName := ⟨RX4, "joins", "(II)Z"⟩
abbrev cX4_markAt : ByteArray := prog_6_method_21_code
def yX4_markAt : MethodName := ⟨RX4, "markAt", "(I)I"⟩
abbrev cX4_one : ByteArray := prog_6_method_22_code
def yX4_one : MethodName := ⟨RX4, "one", "(I)Z"⟩
abbrev cX4_name : ByteArray := prog_6_method_23_code
def yX4_name : MethodName := ⟨RX4, "name", "(I)Z"⟩
def RX5 : String := "StoreStreams$Store"
def TX5 : u_T := fun k => match k with
  | _ => ("", "", "", false)
def tyX5 : Nat → FieldType := fun k => match k with
  | _ => .int
abbrev wsX50 : List Cond := u_ws RX5 TX5 0
theorem nmX5 : ∀ a, a < 0 → ∀ b, b < 0 → a ≠ b → (TX5 a).2.1 ≠ (TX5 b).2.1 := by decide +kernel
theorem tyX5_ok : ∀ k, k < 0 → parseFieldDescriptor (TX5 k).2.2.1 = some (tyX5 k) := by decide +kernel
abbrev cX5_init : ByteArray := prog_7_method_1_code
def yX5_init : MethodName := ⟨RX5, "<init>", "()V"⟩
abbrev cX5_steps : ByteArray := prog_7_method_2_code
def yX5_steps : MethodName := ⟨RX5, "steps", "(LStoreStreams$Doing;I)I"⟩
def RX6 : String := "StoreStreams$Stream"
def TX6 : u_T := fun k => match k with
  | _ => ("", "", "", false)
def tyX6 : Nat → FieldType := fun k => match k with
  | _ => .int
abbrev wsX60 : List Cond := u_ws RX6 TX6 0
theorem nmX6 : ∀ a, a < 0 → ∀ b, b < 0 → a ≠ b → (TX6 a).2.1 ≠ (TX6 b).2.1 := by decide +kernel
theorem tyX6_ok : ∀ k, k < 0 → parseFieldDescriptor (TX6 k).2.2.1 = some (tyX6 k) := by decide +kernel
abbrev cX6_init : ByteArray := prog_8_method_1_code
def yX6_init : MethodName := ⟨RX6, "<init>", "()V"⟩
abbrev cX6_units : ByteArray := prog_8_method_2_code
def yX6_units : MethodName := ⟨RX6, "units", "(LStoreStreams$Doing;I)I"⟩
def RX7 : String := "StoreStreams$Table"
def TX7 : u_T := fun k => match k with
  | _ => ("", "", "", false)
def tyX7 : Nat → FieldType := fun k => match k with
  | _ => .int
abbrev wsX70 : List Cond := u_ws RX7 TX7 0
theorem nmX7 : ∀ a, a < 0 → ∀ b, b < 0 → a ≠ b → (TX7 a).2.1 ≠ (TX7 b).2.1 := by decide +kernel
theorem tyX7_ok : ∀ k, k < 0 → parseFieldDescriptor (TX7 k).2.2.1 = some (tyX7 k) := by decide +kernel
abbrev cX7_init : ByteArray := prog_9_method_1_code
def yX7_init : MethodName := ⟨RX7, "<init>", "()V"⟩
abbrev cX7_reads : ByteArray := prog_9_method_2_code
def yX7_reads : MethodName := ⟨RX7, "reads", "(LStoreStreams$Doing;I)I"⟩
abbrev cX7_units : ByteArray := prog_9_method_3_code
def yX7_units : MethodName := ⟨RX7, "units", "(LStoreStreams$Doing;I)I"⟩
def RX8 : String := "StoreStreams$Text"
def TX8 : u_T := fun k => match k with
  | 0 => ("StoreStreams$Text", "count", "I", false)
  | 1 => ("StoreStreams$Text", "codeSize", "I", false)
  | 2 => ("StoreStreams$Text", "kinds", "[I", true)
  | 3 => ("StoreStreams$Text", "names", "[I", true)
  | 4 => ("StoreStreams$Text", "firsts", "[I", true)
  | 5 => ("StoreStreams$Text", "froms", "[I", true)
  | 6 => ("StoreStreams$Text", "tos", "[I", true)
  | 7 => ("StoreStreams$Text", "codeFroms", "[I", true)
  | 8 => ("StoreStreams$Text", "codeTos", "[I", true)
  | 9 => ("StoreStreams$Text", "moved", "[I", true)
  | 10 => ("StoreStreams$Text", "corners", "[I", true)
  | 11 => ("StoreStreams$Text", "cornerAts", "[I", true)
  | 12 => ("StoreStreams$Text", "cornerValues", "[I", true)
  | 13 => ("StoreStreams$Text", "code", "[I", true)
  | 14 => ("StoreStreams$Text", "path", "[I", true)
  | 15 => ("StoreStreams$Text", "ringSize", "I", false)
  | _ => ("StoreStreams$Text", "ringsSeen", "I", false)
def tyX8 : Nat → FieldType := fun k => match k with
  | 0 => .int
  | 1 => .int
  | 2 => .array .int
  | 3 => .array .int
  | 4 => .array .int
  | 5 => .array .int
  | 6 => .array .int
  | 7 => .array .int
  | 8 => .array .int
  | 9 => .array .int
  | 10 => .array .int
  | 11 => .array .int
  | 12 => .array .int
  | 13 => .array .int
  | 14 => .array .int
  | 15 => .int
  | _ => .int
abbrev wsX80 : List Cond := u_ws RX8 TX8 17
theorem nmX8 : ∀ a, a < 17 → ∀ b, b < 17 → a ≠ b → (TX8 a).2.1 ≠ (TX8 b).2.1 := by decide +kernel
theorem tyX8_ok : ∀ k, k < 17 → parseFieldDescriptor (TX8 k).2.2.1 = some (tyX8 k) := by decide +kernel
abbrev cX8_init : ByteArray := prog_10_method_1_code
def yX8_init : MethodName := ⟨RX8, "<init>", "()V"⟩
abbrev cX8_clear : ByteArray := prog_10_method_2_code
def yX8_clear : MethodName := ⟨RX8, "clear", "()V"⟩
abbrev cX8_take : ByteArray := prog_10_method_3_code
def yX8_take : MethodName := ⟨RX8, "take", "(LStoreStreams$Text;)V"⟩
abbrev cX8_has : ByteArray := prog_10_method_4_code
def yX8_has : MethodName := ⟨RX8, "has", "(I)Z"⟩
abbrev cX8_is : ByteArray := prog_10_method_5_code
def yX8_is : MethodName := ⟨RX8, "is", "(II)Z"⟩
abbrev cX8_find : ByteArray := prog_10_method_6_code
def yX8_find : MethodName := ⟨RX8, "find", "(I)I"⟩
abbrev cX8_lettersOf : ByteArray := prog_10_method_7_code
def yX8_lettersOf : MethodName := ⟨RX8, "lettersOf", "(I)I"⟩
abbrev cX8_open : ByteArray := prog_10_method_8_code
def yX8_open : MethodName := ⟨RX8, "open", "(II)V"⟩
abbrev cX8_close : ByteArray := prog_10_method_9_code
def yX8_close : MethodName := ⟨RX8, "close", "()V"⟩
abbrev cX8_addCode : ByteArray := prog_10_method_10_code
def yX8_addCode : MethodName := ⟨RX8, "addCode", "(II)Z"⟩
abbrev cX8_look : ByteArray := prog_10_method_11_code
def yX8_look : MethodName := ⟨RX8, "look", "(II)I"⟩
abbrev cX8_between : ByteArray := prog_10_method_12_code
def yX8_between : MethodName := ⟨RX8, "between", "(II)I"⟩
abbrev cX8_allMovedBy : ByteArray := prog_10_method_13_code
def yX8_allMovedBy : MethodName := ⟨RX8, "allMovedBy", "(I)I"⟩
abbrev cX8_seekRing : ByteArray := prog_10_method_14_code
def yX8_seekRing : MethodName := ⟨RX8, "seekRing", "(I)I"⟩
abbrev cX8_goOn : ByteArray := prog_10_method_15_code
def yX8_goOn : MethodName := ⟨RX8, "goOn", "(III)Z"⟩
def RX9 : String := "StoreStreams$Thing"
def TX9 : u_T := fun k => match k with
  | _ => ("", "", "", false)
def tyX9 : Nat → FieldType := fun k => match k with
  | _ => .int
abbrev wsX90 : List Cond := u_ws RX9 TX9 0
theorem nmX9 : ∀ a, a < 0 → ∀ b, b < 0 → a ≠ b → (TX9 a).2.1 ≠ (TX9 b).2.1 := by decide +kernel
theorem tyX9_ok : ∀ k, k < 0 → parseFieldDescriptor (TX9 k).2.2.1 = some (tyX9 k) := by decide +kernel
abbrev cX9_init : ByteArray := prog_11_method_1_code
def yX9_init : MethodName := ⟨RX9, "<init>", "()V"⟩
abbrev cX9_reads : ByteArray := prog_11_method_2_code
def yX9_reads : MethodName := ⟨RX9, "reads", "(LStoreStreams$Doing;I)I"⟩
abbrev cX9_steps : ByteArray := prog_11_method_3_code
def yX9_steps : MethodName := ⟨RX9, "steps", "(LStoreStreams$Doing;I)I"⟩
abbrev cX9_units : ByteArray := prog_11_method_4_code
def yX9_units : MethodName := ⟨RX9, "units", "(LStoreStreams$Doing;I)I"⟩
abbrev cX9_tells : ByteArray := prog_11_method_5_code
def yX9_tells : MethodName := ⟨RX9, "tells", "(LStoreStreams$Doing;I)I"⟩
def RX10 : String := "StoreStreams$World"
def TX10 : u_T := fun k => match k with
  | 0 => ("StoreStreams$World", "step", "I", false)
  | 1 => ("StoreStreams$World", "spilled", "J", false)
  | 2 => ("StoreStreams$World", "came", "J", false)
  | 3 => ("StoreStreams$World", "went", "J", false)
  | 4 => ("StoreStreams$World", "eventCount", "I", false)
  | 5 => ("StoreStreams$World", "eventSteps", "[I", true)
  | 6 => ("StoreStreams$World", "eventThings", "[I", true)
  | 7 => ("StoreStreams$World", "eventValues", "[I", true)
  | 8 => ("StoreStreams$World", "held", "[I", true)
  | 9 => ("StoreStreams$World", "values", "[I", true)
  | 10 => ("StoreStreams$World", "flows", "[I", true)
  | 11 => ("StoreStreams$World", "delayed", "[I", true)
  | 12 => ("StoreStreams$World", "memory", "[I", true)
  | 13 => ("StoreStreams$World", "levels", "[J", true)
  | _ => ("StoreStreams$World", "stack", "[I", true)
def tyX10 : Nat → FieldType := fun k => match k with
  | 0 => .int
  | 1 => .long
  | 2 => .long
  | 3 => .long
  | 4 => .int
  | 5 => .array .int
  | 6 => .array .int
  | 7 => .array .int
  | 8 => .array .int
  | 9 => .array .int
  | 10 => .array .int
  | 11 => .array .int
  | 12 => .array .int
  | 13 => .array .long
  | _ => .array .int
abbrev wsX100 : List Cond := u_ws RX10 TX10 15
theorem nmX10 : ∀ a, a < 15 → ∀ b, b < 15 → a ≠ b → (TX10 a).2.1 ≠ (TX10 b).2.1 := by decide +kernel
theorem tyX10_ok : ∀ k, k < 15 → parseFieldDescriptor (TX10 k).2.2.1 = some (tyX10 k) := by decide +kernel
abbrev cX10_init : ByteArray := prog_12_method_1_code
def yX10_init : MethodName := ⟨RX10, "<init>", "()V"⟩
abbrev cX10_take : ByteArray := prog_12_method_2_code
def yX10_take : MethodName := ⟨RX10, "take", "(LStoreStreams$World;)V"⟩
abbrev cX10_restart : ByteArray := prog_12_method_3_code
def yX10_restart : MethodName := ⟨RX10, "restart", "(LStoreStreams$Text;)V"⟩
abbrev cX10_hold : ByteArray := prog_12_method_4_code
def yX10_hold : MethodName := ⟨RX10, "hold", "(LStoreStreams$Text;II)V"⟩
abbrev cX10_stored : ByteArray := prog_12_method_5_code
def yX10_stored : MethodName := ⟨RX10, "stored", "(LStoreStreams$Text;)J"⟩
abbrev cX10_advance : ByteArray := prog_12_method_6_code
def yX10_advance : MethodName := ⟨RX10, "advance", "(LStoreStreams$Text;)Z"⟩
abbrev cX10_remember : ByteArray := prog_12_method_7_code
def yX10_remember : MethodName := ⟨RX10, "remember", "(LStoreStreams$Text;)V"⟩
abbrev cX10_memorySlot : ByteArray := prog_12_method_8_code
def yX10_memorySlot : MethodName := ⟨RX10, "memorySlot", "(LStoreStreams$Text;I)I"⟩
abbrev cX10_pour : ByteArray := prog_12_method_9_code
def yX10_pour : MethodName := ⟨RX10, "pour", "(LStoreStreams$Text;)Z"⟩
abbrev cX10_pourOne : ByteArray := prog_12_method_10_code
def yX10_pourOne : MethodName := ⟨RX10, "pourOne", "(LStoreStreams$Text;I)V"⟩
abbrev cX10_workOut : ByteArray := prog_12_method_11_code
def yX10_workOut : MethodName := ⟨RX10, "workOut", "(LStoreStreams$Text;)V"⟩
abbrev cX10_share : ByteArray := prog_12_method_12_code
def yX10_share : MethodName := ⟨RX10, "share", "(LStoreStreams$Text;)V"⟩
abbrev cX10_shareOf : ByteArray := prog_12_method_13_code
def yX10_shareOf : MethodName := ⟨RX10, "shareOf", "(IILStoreStreams$Text;)I"⟩
abbrev cX10_worked : ByteArray := prog_12_method_14_code
def yX10_worked : MethodName := ⟨RX10, "worked", "(LStoreStreams$Text;I)I"⟩
abbrev cX10_joined : ByteArray := prog_12_method_15_code
def yX10_joined : MethodName := ⟨RX10, "joined", "(III)I"⟩
def RX11 : String := "StoreStreams"
def TX11 : u_T := fun k => match k with
  | 0 => ("StoreStreams", "scribe", "LStoreStreams$Scribe;", true)
  | 1 => ("StoreStreams", "text", "LStoreStreams$Text;", false)
  | 2 => ("StoreStreams", "world", "LStoreStreams$World;", true)
  | 3 => ("StoreStreams", "thought", "LStoreStreams$World;", true)
  | 4 => ("StoreStreams", "past", "[I", true)
  | 5 => ("StoreStreams", "swung", "[I", true)
  | 6 => ("StoreStreams", "isKept", "Z", false)
  | 7 => ("StoreStreams", "keptText", "LStoreStreams$Text;", true)
  | 8 => ("StoreStreams", "keptWorld", "LStoreStreams$World;", true)
  | 9 => ("StoreStreams", "keptPast", "[I", true)
  | 10 => ("StoreStreams", "rowCount", "I", false)
  | 11 => ("StoreStreams", "rows", "[I", true)
  | 12 => ("StoreStreams", "sheetSorts", "[I", true)
  | 13 => ("StoreStreams", "sheetSizes", "[I", true)
  | 14 => ("StoreStreams", "sheetItems", "[I", true)
  | 15 => ("StoreStreams", "shelfHolds", "[I", true)
  | 16 => ("StoreStreams", "shelfNumbers", "[I", true)
  | 17 => ("StoreStreams", "shelfSizes", "[I", true)
  | 18 => ("StoreStreams", "doing", "LStoreStreams$Doing;", true)
  | _ => ("StoreStreams", "kinds", "[LStoreStreams$Thing;", true)
def tyX11 : Nat → FieldType := fun k => match k with
  | 0 => .object "StoreStreams$Scribe"
  | 1 => .object "StoreStreams$Text"
  | 2 => .object "StoreStreams$World"
  | 3 => .object "StoreStreams$World"
  | 4 => .array .int
  | 5 => .array .int
  | 6 => .boolean
  | 7 => .object "StoreStreams$Text"
  | 8 => .object "StoreStreams$World"
  | 9 => .array .int
  | 10 => .int
  | 11 => .array .int
  | 12 => .array .int
  | 13 => .array .int
  | 14 => .array .int
  | 15 => .array .int
  | 16 => .array .int
  | 17 => .array .int
  | 18 => .object "StoreStreams$Doing"
  | _ => .array (.object "StoreStreams$Thing")
abbrev wsX110 : List Cond := u_ws RX11 TX11 20
theorem nmX11 : ∀ a, a < 20 → ∀ b, b < 20 → a ≠ b → (TX11 a).2.1 ≠ (TX11 b).2.1 := by decide +kernel
theorem tyX11_ok : ∀ k, k < 20 → parseFieldDescriptor (TX11 k).2.2.1 = some (tyX11 k) := by decide +kernel
abbrev cX11_init : ByteArray := prog_1_method_1_code
def yX11_init : MethodName := ⟨RX11, "<init>", "()V"⟩
abbrev cX11_feed : ByteArray := prog_1_method_2_code
def yX11_feed : MethodName := ⟨RX11, "feed", "(JI)I"⟩
abbrev cX11_read : ByteArray := prog_1_method_3_code
def yX11_read : MethodName := ⟨RX11, "read", "()I"⟩
abbrev cX11_fault : ByteArray := prog_1_method_4_code
def yX11_fault : MethodName := ⟨RX11, "fault", "(I)I"⟩
abbrev cX11_named : ByteArray := prog_1_method_5_code
def yX11_named : MethodName := ⟨RX11, "named", "(I)I"⟩
abbrev cX11_thing : ByteArray := prog_1_method_6_code
def yX11_thing : MethodName := ⟨RX11, "thing", "(II)I"⟩
abbrev cX11_value : ByteArray := prog_1_method_7_code
def yX11_value : MethodName := ⟨RX11, "value", "(I)I"⟩
abbrev cX11_at : ByteArray := prog_1_method_8_code
def yX11_at : MethodName := ⟨RX11, "at", "(II)I"⟩
abbrev cX11_flow : ByteArray := prog_1_method_9_code
def yX11_flow : MethodName := ⟨RX11, "flow", "(II)I"⟩
abbrev cX11_run : ByteArray := prog_1_method_10_code
def yX11_run : MethodName := ⟨RX11, "run", "(I)I"⟩
abbrev cX11_begin : ByteArray := prog_1_method_11_code
def yX11_begin : MethodName := ⟨RX11, "begin", "()I"⟩
abbrev cX11_change : ByteArray := prog_1_method_12_code
def yX11_change : MethodName := ⟨RX11, "change", "(II)I"⟩
abbrev cX11_event : ByteArray := prog_1_method_13_code
def yX11_event : MethodName := ⟨RX11, "event", "(III)I"⟩
abbrev cX11_sum : ByteArray := prog_1_method_14_code
def yX11_sum : MethodName := ⟨RX11, "sum", "(I)J"⟩
abbrev cX11_moves : ByteArray := prog_1_method_15_code
def yX11_moves : MethodName := ⟨RX11, "moves", "(I)I"⟩
abbrev cX11_reached : ByteArray := prog_1_method_16_code
def yX11_reached : MethodName := ⟨RX11, "reached", "(I)I"⟩
abbrev cX11_rings : ByteArray := prog_1_method_17_code
def yX11_rings : MethodName := ⟨RX11, "rings", "()I"⟩
abbrev cX11_ring : ByteArray := prog_1_method_18_code
def yX11_ring : MethodName := ⟨RX11, "ring", "(II)I"⟩
abbrev cX11_rest : ByteArray := prog_1_method_19_code
def yX11_rest : MethodName := ⟨RX11, "rest", "(I)I"⟩
abbrev cX11_swing : ByteArray := prog_1_method_20_code
def yX11_swing : MethodName := ⟨RX11, "swing", "(II)I"⟩
abbrev cX11_pull : ByteArray := prog_1_method_21_code
def yX11_pull : MethodName := ⟨RX11, "pull", "(IIII)I"⟩
abbrev cX11_best : ByteArray := prog_1_method_22_code
def yX11_best : MethodName := ⟨RX11, "best", "(IIIII)I"⟩
abbrev cX11_miss : ByteArray := prog_1_method_23_code
def yX11_miss : MethodName := ⟨RX11, "miss", "(II)J"⟩
abbrev cX11_fit : ByteArray := prog_1_method_24_code
def yX11_fit : MethodName := ⟨RX11, "fit", "(IIIII)I"⟩
abbrev cX11_prove : ByteArray := prog_1_method_25_code
def yX11_prove : MethodName := ⟨RX11, "prove", "(I)I"⟩
abbrev cX11_row : ByteArray := prog_1_method_26_code
def yX11_row : MethodName := ⟨RX11, "row", "(II)I"⟩
abbrev cX11_alterRow : ByteArray := prog_1_method_27_code
def yX11_alterRow : MethodName := ⟨RX11, "alterRow", "(III)I"⟩
abbrev cX11_judge : ByteArray := prog_1_method_28_code
def yX11_judge : MethodName := ⟨RX11, "judge", "(I)I"⟩
abbrev cX11_sheet : ByteArray := prog_1_method_29_code
def yX11_sheet : MethodName := ⟨RX11, "sheet", "(III)I"⟩
abbrev cX11_put : ByteArray := prog_1_method_30_code
def yX11_put : MethodName := ⟨RX11, "put", "(III)I"⟩
abbrev cX11_item : ByteArray := prog_1_method_31_code
def yX11_item : MethodName := ⟨RX11, "item", "(III)I"⟩
abbrev cX11_shelf : ByteArray := prog_1_method_32_code
def yX11_shelf : MethodName := ⟨RX11, "shelf", "(III)I"⟩
abbrev cX11_taken : ByteArray := prog_1_method_33_code
def yX11_taken : MethodName := ⟨RX11, "taken", "(II)I"⟩
abbrev cX11_act : ByteArray := prog_1_method_34_code
def yX11_act : MethodName := ⟨RX11, "act", "(III)I"⟩
abbrev cX11_trace : ByteArray := prog_1_method_35_code
def yX11_trace : MethodName := ⟨RX11, "trace", "(I)I"⟩
abbrev cX11_many : ByteArray := prog_1_method_36_code
def yX11_many : MethodName := ⟨RX11, "many", "(I)I"⟩
abbrev cX11_keep : ByteArray := prog_1_method_37_code
def yX11_keep : MethodName := ⟨RX11, "keep", "()I"⟩
abbrev cX11_back : ByteArray := prog_1_method_38_code
def yX11_back : MethodName := ⟨RX11, "back", "()I"⟩
abbrev cX11_valueThen : ByteArray := prog_1_method_39_code
def yX11_valueThen : MethodName := ⟨RX11, "valueThen", "(II)I"⟩
abbrev cX11_sameStores : ByteArray := prog_1_method_40_code
def yX11_sameStores : MethodName := ⟨RX11, "sameStores", "(II)Z"⟩
abbrev cX11_valueBehind : ByteArray := prog_1_method_41_code
def yX11_valueBehind : MethodName := ⟨RX11, "valueBehind", "(IIII)I"⟩
abbrev cX11_mayTry : ByteArray := prog_1_method_42_code
def yX11_mayTry : MethodName := ⟨RX11, "mayTry", "(IIII)Z"⟩
abbrev cX11_missWith : ByteArray := prog_1_method_43_code
def yX11_missWith : MethodName := ⟨RX11, "missWith", "(IIII)J"⟩
abbrev cX11_isRow : ByteArray := prog_1_method_44_code
def yX11_isRow : MethodName := ⟨RX11, "isRow", "(II)Z"⟩
abbrev cX11_isSheet : ByteArray := prog_1_method_45_code
def yX11_isSheet : MethodName := ⟨RX11, "isSheet", "(I)Z"⟩
abbrev cX11_isMissing : ByteArray := prog_1_method_46_code
def yX11_isMissing : MethodName := ⟨RX11, "isMissing", "(I)Z"⟩
abbrev cX11_mayBe : ByteArray := prog_1_method_47_code
def yX11_mayBe : MethodName := ⟨RX11, "mayBe", "(II)Z"⟩
abbrev cX11_narrowed : ByteArray := prog_1_method_48_code
def yX11_narrowed : MethodName := ⟨RX11, "narrowed", "(II)I"⟩
abbrev cX11_isShelf : ByteArray := prog_1_method_49_code
def yX11_isShelf : MethodName := ⟨RX11, "isShelf", "(I)Z"⟩
abbrev cX11_lay : ByteArray := prog_1_method_50_code
def yX11_lay : MethodName := ⟨RX11, "lay", "(IIII)I"⟩
abbrev cX11_layRow : ByteArray := prog_1_method_51_code
def yX11_layRow : MethodName := ⟨RX11, "layRow", "(II)I"⟩
abbrev cX11_thingOn : ByteArray := prog_1_method_52_code
def yX11_thingOn : MethodName := ⟨RX11, "thingOn", "(I)I"⟩
abbrev cX11_isUnder : ByteArray := prog_1_method_53_code
def yX11_isUnder : MethodName := ⟨RX11, "isUnder", "(II)Z"⟩
def RX12 : String := "StoreStreamsModel"
def TX12 : u_T := fun k => match k with
  | 0 => ("StoreStreamsModel", "things", "I", false)
  | 1 => ("StoreStreamsModel", "thing", "[I", true)
  | 2 => ("StoreStreamsModel", "signs", "[I", true)
  | 3 => ("StoreStreamsModel", "tape", "[I", true)
  | 4 => ("StoreStreamsModel", "tapeMany", "I", false)
  | 5 => ("StoreStreamsModel", "sort", "I", false)
  | 6 => ("StoreStreamsModel", "begins", "I", false)
  | 7 => ("StoreStreamsModel", "ends", "I", false)
  | 8 => ("StoreStreamsModel", "word", "J", false)
  | 9 => ("StoreStreamsModel", "value", "I", false)
  | 10 => ("StoreStreamsModel", "faultKind", "I", false)
  | 11 => ("StoreStreamsModel", "faultPlace", "I", false)
  | 12 => ("StoreStreamsModel", "freshMany", "I", false)
  | 13 => ("StoreStreamsModel", "fresh", "[I", true)
  | 14 => ("StoreStreamsModel", "laid", "I", false)
  | 15 => ("StoreStreamsModel", "freshSigns", "[I", true)
  | 16 => ("StoreStreamsModel", "pending", "[I", true)
  | 17 => ("StoreStreamsModel", "pendingMany", "I", false)
  | 18 => ("StoreStreamsModel", "open", "I", false)
  | 19 => ("StoreStreamsModel", "now", "I", false)
  | 20 => ("StoreStreamsModel", "amount", "[I", true)
  | 21 => ("StoreStreamsModel", "memory", "[I", true)
  | 22 => ("StoreStreamsModel", "spilled", "J", false)
  | 23 => ("StoreStreamsModel", "came", "J", false)
  | 24 => ("StoreStreamsModel", "went", "J", false)
  | 25 => ("StoreStreamsModel", "events", "I", false)
  | 26 => ("StoreStreamsModel", "event", "[I", true)
  | 27 => ("StoreStreamsModel", "past", "[I", true)
  | 28 => ("StoreStreamsModel", "stack", "[I", true)
  | 29 => ("StoreStreamsModel", "values", "[I", true)
  | 30 => ("StoreStreamsModel", "fresher", "[I", true)
  | 31 => ("StoreStreamsModel", "goes", "[J", true)
  | 32 => ("StoreStreamsModel", "moved", "[I", true)
  | 33 => ("StoreStreamsModel", "path", "[I", true)
  | 34 => ("StoreStreamsModel", "pathMany", "I", false)
  | 35 => ("StoreStreamsModel", "asideNow", "I", false)
  | 36 => ("StoreStreamsModel", "asideAmount", "[I", true)
  | 37 => ("StoreStreamsModel", "asideMemory", "[I", true)
  | 38 => ("StoreStreamsModel", "asideSpilled", "J", false)
  | 39 => ("StoreStreamsModel", "asideCame", "J", false)
  | 40 => ("StoreStreamsModel", "asideWent", "J", false)
  | 41 => ("StoreStreamsModel", "holds", "[I", true)
  | 42 => ("StoreStreamsModel", "rows", "[I", true)
  | 43 => ("StoreStreamsModel", "rowMany", "I", false)
  | 44 => ("StoreStreamsModel", "sorts", "[I", true)
  | 45 => ("StoreStreamsModel", "sizes", "[I", true)
  | 46 => ("StoreStreamsModel", "sheets", "[J", true)
  | 47 => ("StoreStreamsModel", "held", "[I", true)
  | 48 => ("StoreStreamsModel", "heldNumber", "[I", true)
  | 49 => ("StoreStreamsModel", "heldSize", "[I", true)
  | 50 => ("StoreStreamsModel", "kind", "I", false)
  | 51 => ("StoreStreamsModel", "number", "I", false)
  | 52 => ("StoreStreamsModel", "its", "I", false)
  | 53 => ("StoreStreamsModel", "traced", "[I", true)
  | 54 => ("StoreStreamsModel", "bodies", "I", false)
  | 55 => ("StoreStreamsModel", "isParted", "Z", false)
  | 56 => ("StoreStreamsModel", "isKept", "Z", false)
  | 57 => ("StoreStreamsModel", "kept", "[I", true)
  | 58 => ("StoreStreamsModel", "movedTo", "I", false)
  | 59 => ("StoreStreamsModel", "keptSpilled", "J", false)
  | 60 => ("StoreStreamsModel", "keptCame", "J", false)
  | 61 => ("StoreStreamsModel", "keptWent", "J", false)
  | _ => ("StoreStreamsModel", "single", "[I", true)
def tyX12 : Nat → FieldType := fun k => match k with
  | 0 => .int
  | 1 => .array .int
  | 2 => .array .int
  | 3 => .array .int
  | 4 => .int
  | 5 => .int
  | 6 => .int
  | 7 => .int
  | 8 => .long
  | 9 => .int
  | 10 => .int
  | 11 => .int
  | 12 => .int
  | 13 => .array .int
  | 14 => .int
  | 15 => .array .int
  | 16 => .array .int
  | 17 => .int
  | 18 => .int
  | 19 => .int
  | 20 => .array .int
  | 21 => .array .int
  | 22 => .long
  | 23 => .long
  | 24 => .long
  | 25 => .int
  | 26 => .array .int
  | 27 => .array .int
  | 28 => .array .int
  | 29 => .array .int
  | 30 => .array .int
  | 31 => .array .long
  | 32 => .array .int
  | 33 => .array .int
  | 34 => .int
  | 35 => .int
  | 36 => .array .int
  | 37 => .array .int
  | 38 => .long
  | 39 => .long
  | 40 => .long
  | 41 => .array .int
  | 42 => .array .int
  | 43 => .int
  | 44 => .array .int
  | 45 => .array .int
  | 46 => .array .long
  | 47 => .array .int
  | 48 => .array .int
  | 49 => .array .int
  | 50 => .int
  | 51 => .int
  | 52 => .int
  | 53 => .array .int
  | 54 => .int
  | 55 => .boolean
  | 56 => .boolean
  | 57 => .array .int
  | 58 => .int
  | 59 => .long
  | 60 => .long
  | 61 => .long
  | _ => .array .int
abbrev wsX120 : List Cond := u_ws RX12 TX12 63
theorem nmX12 : ∀ a, a < 63 → ∀ b, b < 63 → a ≠ b → (TX12 a).2.1 ≠ (TX12 b).2.1 := by decide +kernel
theorem tyX12_ok : ∀ k, k < 63 → parseFieldDescriptor (TX12 k).2.2.1 = some (tyX12 k) := by decide +kernel
abbrev cX12_init : ByteArray := prog_14_method_1_code
def yX12_init : MethodName := ⟨RX12, "<init>", "()V"⟩
abbrev cX12_in : ByteArray := prog_14_method_2_code
def yX12_in : MethodName := ⟨RX12, "in", "(III)Z"⟩
abbrev cX12_isThing : ByteArray := prog_14_method_3_code
def yX12_isThing : MethodName := ⟨RX12, "isThing", "(I)Z"⟩
abbrev cX12_of : ByteArray := prog_14_method_4_code
def yX12_of : MethodName := ⟨RX12, "of", "(II)I"⟩
abbrev cX12_isKind : ByteArray := prog_14_method_5_code
def yX12_isKind : MethodName := ⟨RX12, "isKind", "(II)Z"⟩
abbrev cX12_feed : ByteArray := prog_14_method_6_code
def yX12_feed : MethodName := ⟨RX12, "feed", "(JI)I"⟩
abbrev cX12_byteAt : ByteArray := prog_14_method_7_code
def yX12_byteAt : MethodName := ⟨RX12, "byteAt", "(I)I"⟩
abbrev cX12_isLetter : ByteArray := prog_14_method_8_code
def yX12_isLetter : MethodName := ⟨RX12, "isLetter", "(I)Z"⟩
abbrev cX12_isDigit : ByteArray := prog_14_method_9_code
def yX12_isDigit : MethodName := ⟨RX12, "isDigit", "(I)Z"⟩
abbrev cX12_advance : ByteArray := prog_14_method_10_code
def yX12_advance : MethodName := ⟨RX12, "advance", "()V"⟩
abbrev cX12_isGood : ByteArray := prog_14_method_11_code
def yX12_isGood : MethodName := ⟨RX12, "isGood", "()Z"⟩
abbrev cX12_faults : ByteArray := prog_14_method_12_code
def yX12_faults : MethodName := ⟨RX12, "faults", "(I)V"⟩
abbrev cX12_isMark : ByteArray := prog_14_method_13_code
def yX12_isMark : MethodName := ⟨RX12, "isMark", "(I)Z"⟩
abbrev cX12_isWord : ByteArray := prog_14_method_14_code
def yX12_isWord : MethodName := ⟨RX12, "isWord", "(J)Z"⟩
abbrev cX12_isKey : ByteArray := prog_14_method_15_code
def yX12_isKey : MethodName := ⟨RX12, "isKey", "()Z"⟩
abbrev cX12_kindHere : ByteArray := prog_14_method_16_code
def yX12_kindHere : MethodName := ⟨RX12, "kindHere", "()I"⟩
abbrev cX12_isName : ByteArray := prog_14_method_17_code
def yX12_isName : MethodName := ⟨RX12, "isName", "()Z"⟩
abbrev cX12_wantMark : ByteArray := prog_14_method_18_code
def yX12_wantMark : MethodName := ⟨RX12, "wantMark", "(I)V"⟩
abbrev cX12_wantWord : ByteArray := prog_14_method_19_code
def yX12_wantWord : MethodName := ⟨RX12, "wantWord", "(J)V"⟩
abbrev cX12_wantNumber : ByteArray := prog_14_method_20_code
def yX12_wantNumber : MethodName := ⟨RX12, "wantNumber", "(II)I"⟩
abbrev cX12_known : ByteArray := prog_14_method_21_code
def yX12_known : MethodName := ⟨RX12, "known", "()I"⟩
abbrev cX12_emit : ByteArray := prog_14_method_22_code
def yX12_emit : MethodName := ⟨RX12, "emit", "(I)V"⟩
abbrev cX12_top : ByteArray := prog_14_method_23_code
def yX12_top : MethodName := ⟨RX12, "top", "()I"⟩
abbrev cX12_opens : ByteArray := prog_14_method_24_code
def yX12_opens : MethodName := ⟨RX12, "opens", "(I)V"⟩
abbrev cX12_pend : ByteArray := prog_14_method_25_code
def yX12_pend : MethodName := ⟨RX12, "pend", "(I)V"⟩
abbrev cX12_closes : ByteArray := prog_14_method_26_code
def yX12_closes : MethodName := ⟨RX12, "closes", "()V"⟩
abbrev cX12_ended : ByteArray := prog_14_method_27_code
def yX12_ended : MethodName := ⟨RX12, "ended", "()V"⟩
abbrev cX12_binds : ByteArray := prog_14_method_28_code
def yX12_binds : MethodName := ⟨RX12, "binds", "(I)I"⟩
abbrev cX12_settle : ByteArray := prog_14_method_29_code
def yX12_settle : MethodName := ⟨RX12, "settle", "(I)V"⟩
abbrev cX12_part : ByteArray := prog_14_method_30_code
def yX12_part : MethodName := ⟨RX12, "part", "()Z"⟩
abbrev cX12_goesOn : ByteArray := prog_14_method_31_code
def yX12_goesOn : MethodName := ⟨RX12, "goesOn", "()I"⟩
abbrev cX12_wantE : ByteArray := prog_14_method_32_code
def yX12_wantE : MethodName := ⟨RX12, "wantE", "()V"⟩
abbrev cX12_wantEnd : ByteArray := prog_14_method_33_code
def yX12_wantEnd : MethodName := ⟨RX12, "wantEnd", "()I"⟩
abbrev cX12_wantCorners : ByteArray := prog_14_method_34_code
def yX12_wantCorners : MethodName := ⟨RX12, "wantCorners", "(I)V"⟩
abbrev cX12_wantThing : ByteArray := prog_14_method_35_code
def yX12_wantThing : MethodName := ⟨RX12, "wantThing", "()V"⟩
abbrev cX12_read : ByteArray := prog_14_method_36_code
def yX12_read : MethodName := ⟨RX12, "read", "()I"⟩
abbrev cX12_fault : ByteArray := prog_14_method_37_code
def yX12_fault : MethodName := ⟨RX12, "fault", "(I)I"⟩
abbrev cX12_named : ByteArray := prog_14_method_38_code
def yX12_named : MethodName := ⟨RX12, "named", "(I)I"⟩
abbrev cX12_thing : ByteArray := prog_14_method_39_code
def yX12_thing : MethodName := ⟨RX12, "thing", "(II)I"⟩
abbrev cX12_beginWorld : ByteArray := prog_14_method_40_code
def yX12_beginWorld : MethodName := ⟨RX12, "beginWorld", "()V"⟩
abbrev cX12_beginAll : ByteArray := prog_14_method_41_code
def yX12_beginAll : MethodName := ⟨RX12, "beginAll", "()V"⟩
abbrev cX12_onLine : ByteArray := prog_14_method_42_code
def yX12_onLine : MethodName := ⟨RX12, "onLine", "(II)I"⟩
abbrev cX12_joined : ByteArray := prog_14_method_43_code
def yX12_joined : MethodName := ⟨RX12, "joined", "(III)I"⟩
abbrev cX12_worked : ByteArray := prog_14_method_44_code
def yX12_worked : MethodName := ⟨RX12, "worked", "(I)I"⟩
abbrev cX12_findValues : ByteArray := prog_14_method_45_code
def yX12_findValues : MethodName := ⟨RX12, "findValues", "()V"⟩
abbrev cX12_flowOf : ByteArray := prog_14_method_46_code
def yX12_flowOf : MethodName := ⟨RX12, "flowOf", "(I)I"⟩
abbrev cX12_steps : ByteArray := prog_14_method_47_code
def yX12_steps : MethodName := ⟨RX12, "steps", "()Z"⟩
abbrev cX12_value : ByteArray := prog_14_method_48_code
def yX12_value : MethodName := ⟨RX12, "value", "(I)I"⟩
abbrev cX12_was : ByteArray := prog_14_method_49_code
def yX12_was : MethodName := ⟨RX12, "was", "(II)I"⟩
abbrev cX12_at : ByteArray := prog_14_method_50_code
def yX12_at : MethodName := ⟨RX12, "at", "(II)I"⟩
abbrev cX12_flow : ByteArray := prog_14_method_51_code
def yX12_flow : MethodName := ⟨RX12, "flow", "(II)I"⟩
abbrev cX12_run : ByteArray := prog_14_method_52_code
def yX12_run : MethodName := ⟨RX12, "run", "(I)I"⟩
abbrev cX12_begin : ByteArray := prog_14_method_53_code
def yX12_begin : MethodName := ⟨RX12, "begin", "()I"⟩
abbrev cX12_change : ByteArray := prog_14_method_54_code
def yX12_change : MethodName := ⟨RX12, "change", "(II)I"⟩
abbrev cX12_event : ByteArray := prog_14_method_55_code
def yX12_event : MethodName := ⟨RX12, "event", "(III)I"⟩
abbrev cX12_sum : ByteArray := prog_14_method_56_code
def yX12_sum : MethodName := ⟨RX12, "sum", "(I)J"⟩
abbrev cX12_movedBy : ByteArray := prog_14_method_57_code
def yX12_movedBy : MethodName := ⟨RX12, "movedBy", "(I)I"⟩
abbrev cX12_moves : ByteArray := prog_14_method_58_code
def yX12_moves : MethodName := ⟨RX12, "moves", "(I)I"⟩
abbrev cX12_reached : ByteArray := prog_14_method_59_code
def yX12_reached : MethodName := ⟨RX12, "reached", "(I)I"⟩
abbrev cX12_findRing : ByteArray := prog_14_method_60_code
def yX12_findRing : MethodName := ⟨RX12, "findRing", "(I)I"⟩
abbrev cX12_mayStand : ByteArray := prog_14_method_61_code
def yX12_mayStand : MethodName := ⟨RX12, "mayStand", "(I)Z"⟩
abbrev cX12_rings : ByteArray := prog_14_method_62_code
def yX12_rings : MethodName := ⟨RX12, "rings", "()I"⟩
abbrev cX12_ring : ByteArray := prog_14_method_63_code
def yX12_ring : MethodName := ⟨RX12, "ring", "(II)I"⟩
abbrev cX12_copy : ByteArray := prog_14_method_64_code
def yX12_copy : MethodName := ⟨RX12, "copy", "([I[II)V"⟩
abbrev cX12_setAside : ByteArray := prog_14_method_65_code
def yX12_setAside : MethodName := ⟨RX12, "setAside", "()V"⟩
abbrev cX12_putBack : ByteArray := prog_14_method_66_code
def yX12_putBack : MethodName := ⟨RX12, "putBack", "()V"⟩
abbrev cX12_rest : ByteArray := prog_14_method_67_code
def yX12_rest : MethodName := ⟨RX12, "rest", "(I)I"⟩
abbrev cX12_isAlike : ByteArray := prog_14_method_68_code
def yX12_isAlike : MethodName := ⟨RX12, "isAlike", "(II)Z"⟩
abbrev cX12_swing : ByteArray := prog_14_method_69_code
def yX12_swing : MethodName := ⟨RX12, "swing", "(II)I"⟩
abbrev cX12_valueOn : ByteArray := prog_14_method_70_code
def yX12_valueOn : MethodName := ⟨RX12, "valueOn", "(IIII)I"⟩
abbrev cX12_pull : ByteArray := prog_14_method_71_code
def yX12_pull : MethodName := ⟨RX12, "pull", "(IIII)I"⟩
abbrev cX12_isSpan : ByteArray := prog_14_method_72_code
def yX12_isSpan : MethodName := ⟨RX12, "isSpan", "(II)Z"⟩
abbrev cX12_best : ByteArray := prog_14_method_73_code
def yX12_best : MethodName := ⟨RX12, "best", "(IIIII)I"⟩
abbrev cX12_missOf : ByteArray := prog_14_method_74_code
def yX12_missOf : MethodName := ⟨RX12, "missOf", "(IIII)J"⟩
abbrev cX12_miss : ByteArray := prog_14_method_75_code
def yX12_miss : MethodName := ⟨RX12, "miss", "(II)J"⟩
abbrev cX12_fit : ByteArray := prog_14_method_76_code
def yX12_fit : MethodName := ⟨RX12, "fit", "(IIIII)I"⟩
abbrev cX12_prove : ByteArray := prog_14_method_77_code
def yX12_prove : MethodName := ⟨RX12, "prove", "(I)I"⟩
abbrev cX12_isRow : ByteArray := prog_14_method_78_code
def yX12_isRow : MethodName := ⟨RX12, "isRow", "(II)Z"⟩
abbrev cX12_row : ByteArray := prog_14_method_79_code
def yX12_row : MethodName := ⟨RX12, "row", "(II)I"⟩
abbrev cX12_alterRow : ByteArray := prog_14_method_80_code
def yX12_alterRow : MethodName := ⟨RX12, "alterRow", "(III)I"⟩
abbrev cX12_judge : ByteArray := prog_14_method_81_code
def yX12_judge : MethodName := ⟨RX12, "judge", "(I)I"⟩
abbrev cX12_isShelf : ByteArray := prog_14_method_82_code
def yX12_isShelf : MethodName := ⟨RX12, "isShelf", "(I)Z"⟩
abbrev cX12_sheet : ByteArray := prog_14_method_83_code
def yX12_sheet : MethodName := ⟨RX12, "sheet", "(III)I"⟩
abbrev cX12_put : ByteArray := prog_14_method_84_code
def yX12_put : MethodName := ⟨RX12, "put", "(III)I"⟩
abbrev cX12_lacksSort : ByteArray := prog_14_method_85_code
def yX12_lacksSort : MethodName := ⟨RX12, "lacksSort", "(II)I"⟩
abbrev cX12_item : ByteArray := prog_14_method_86_code
def yX12_item : MethodName := ⟨RX12, "item", "(III)I"⟩
abbrev cX12_isHeld : ByteArray := prog_14_method_87_code
def yX12_isHeld : MethodName := ⟨RX12, "isHeld", "(II)Z"⟩
abbrev cX12_shelf : ByteArray := prog_14_method_88_code
def yX12_shelf : MethodName := ⟨RX12, "shelf", "(III)I"⟩
abbrev cX12_kindOn : ByteArray := prog_14_method_89_code
def yX12_kindOn : MethodName := ⟨RX12, "kindOn", "(I)I"⟩
abbrev cX12_isUnder : ByteArray := prog_14_method_90_code
def yX12_isUnder : MethodName := ⟨RX12, "isUnder", "(II)Z"⟩
abbrev cX12_taken : ByteArray := prog_14_method_91_code
def yX12_taken : MethodName := ⟨RX12, "taken", "(II)I"⟩
abbrev cX12_ran : ByteArray := prog_14_method_92_code
def yX12_ran : MethodName := ⟨RX12, "ran", "(I)V"⟩
abbrev cX12_readsIt : ByteArray := prog_14_method_93_code
def yX12_readsIt : MethodName := ⟨RX12, "readsIt", "(I)I"⟩
abbrev cX12_thingSteps : ByteArray := prog_14_method_94_code
def yX12_thingSteps : MethodName := ⟨RX12, "thingSteps", "(I)I"⟩
abbrev cX12_stepsIt : ByteArray := prog_14_method_95_code
def yX12_stepsIt : MethodName := ⟨RX12, "stepsIt", "(I)I"⟩
abbrev cX12_thingUnits : ByteArray := prog_14_method_96_code
def yX12_thingUnits : MethodName := ⟨RX12, "thingUnits", "(I)I"⟩
abbrev cX12_unitsIt : ByteArray := prog_14_method_97_code
def yX12_unitsIt : MethodName := ⟨RX12, "unitsIt", "(I)I"⟩
abbrev cX12_thingTells : ByteArray := prog_14_method_98_code
def yX12_thingTells : MethodName := ⟨RX12, "thingTells", "(I)I"⟩
abbrev cX12_tellsIt : ByteArray := prog_14_method_99_code
def yX12_tellsIt : MethodName := ⟨RX12, "tellsIt", "(I)I"⟩
abbrev cX12_act : ByteArray := prog_14_method_100_code
def yX12_act : MethodName := ⟨RX12, "act", "(III)I"⟩
abbrev cX12_trace : ByteArray := prog_14_method_101_code
def yX12_trace : MethodName := ⟨RX12, "trace", "(I)I"⟩
abbrev cX12_many : ByteArray := prog_14_method_102_code
def yX12_many : MethodName := ⟨RX12, "many", "(I)I"⟩
abbrev cX12_move : ByteArray := prog_14_method_103_code
def yX12_move : MethodName := ⟨RX12, "move", "([IIZ)V"⟩
abbrev cX12_moveAll : ByteArray := prog_14_method_104_code
def yX12_moveAll : MethodName := ⟨RX12, "moveAll", "(Z)V"⟩
abbrev cX12_keep : ByteArray := prog_14_method_105_code
def yX12_keep : MethodName := ⟨RX12, "keep", "()I"⟩
abbrev cX12_back : ByteArray := prog_14_method_106_code
def yX12_back : MethodName := ⟨RX12, "back", "()I"⟩
def RJ9 : String := "java/lang/Math"
def TJ9 : u_T := fun k => match k with
  | _ => ("", "", "", false)
def tyJ9 : Nat → FieldType := fun k => match k with
  | _ => .int
abbrev wsJ90 : List Cond := u_ws RJ9 TJ9 0
theorem nmJ9 : ∀ a, a < 0 → ∀ b, b < 0 → a ≠ b → (TJ9 a).2.1 ≠ (TJ9 b).2.1 := by decide +kernel
theorem tyJ9_ok : ∀ k, k < 0 → parseFieldDescriptor (TJ9 k).2.2.1 = some (tyJ9 k) := by decide +kernel
abbrev cJ9_abs_067f4 : ByteArray := prog_15_method_61_code
def yJ9_abs_067f4 : MethodName := ⟨RJ9, "abs", "(J)J"⟩
abbrev cJ9_max_7cf53 : ByteArray := prog_15_method_65_code
def yJ9_max_7cf53 : MethodName := ⟨RJ9, "max", "(II)I"⟩
abbrev cJ9_min_7cf53 : ByteArray := prog_15_method_69_code
def yJ9_min_7cf53 : MethodName := ⟨RJ9, "min", "(II)I"⟩
def RJ10 : String := "java/lang/System"
def TJ10 : u_T := fun k => match k with
  | _ => ("", "", "", false)
def tyJ10 : Nat → FieldType := fun k => match k with
  | _ => .int
abbrev wsJ100 : List Cond := u_ws RJ10 TJ10 0
theorem nmJ10 : ∀ a, a < 0 → ∀ b, b < 0 → a ≠ b → (TJ10 a).2.1 ≠ (TJ10 b).2.1 := by decide +kernel
theorem tyJ10_ok : ∀ k, k < 0 → parseFieldDescriptor (TJ10 k).2.2.1 = some (tyJ10 k) := by decide +kernel
def RJ7 : String := "java/util/Arrays"
def TJ7 : u_T := fun k => match k with
  | _ => ("", "", "", false)
def tyJ7 : Nat → FieldType := fun k => match k with
  | _ => .int
abbrev wsJ70 : List Cond := u_ws RJ7 TJ7 0
theorem nmJ7 : ∀ a, a < 0 → ∀ b, b < 0 → a ≠ b → (TJ7 a).2.1 ≠ (TJ7 b).2.1 := by decide +kernel
theorem tyJ7_ok : ∀ k, k < 0 → parseFieldDescriptor (TJ7 k).2.2.1 = some (tyJ7 k) := by decide +kernel
abbrev cJ7_rangeCheck_23922 : ByteArray := prog_17_method_30_code
def yJ7_rangeCheck_23922 : MethodName := ⟨RJ7, "rangeCheck", "(III)V"⟩
abbrev cJ7_fill_d0a16 : ByteArray := prog_17_method_101_code
def yJ7_fill_d0a16 : MethodName := ⟨RJ7, "fill", "([JJ)V"⟩
abbrev cJ7_fill_fda19 : ByteArray := prog_17_method_104_code
def yJ7_fill_fda19 : MethodName := ⟨RJ7, "fill", "([IIII)V"⟩
def RL : String := "StoreStreamsLaw"
abbrev cls : List vw_C := [(RX0, TX0, 0), (RX1, TX1, 5), (RX2, TX2, 0), (RX3, TX3, 0), (RX4, TX4, 10), (RX5, TX5, 0), (RX6, TX6, 0), (RX7, TX7, 0), (RX8, TX8, 17), (RX9, TX9, 0), (RX10, TX10, 15), (RX11, TX11, 20), (RX12, TX12, 63)]
/-- the words that stay true under every warming -/
def lw_good : List Cond := lw_tbl.filter goodWord
theorem lw_good_sub : ∀ w ∈ lw_good, w ∈ lw_tbl := fun _ h => (List.mem_filter.mp h).1
theorem lg_mem {w : Cond} (i : Nat) (h : lw_tbl[i]? = some w) (hg : goodWord w = true) : w ∈ lw_good := List.mem_filter.mpr ⟨List.mem_of_getElem? h, hg⟩
theorem lg_in {ws : List Cond} (h : ws.all (fun w => goodWord w && decide (w ∈ lw_tbl)) = true) : ∀ w ∈ ws, w ∈ lw_good := fun w hw => by
  have h1 := List.all_eq_true.mp h w hw
  simp only [Bool.and_eq_true, decide_eq_true_eq] at h1
  exact List.mem_filter.mpr ⟨h1.2, h1.1⟩
theorem inX0 : ∀ w ∈ wsX00, w ∈ lw_good := lg_in (by decide +kernel)
theorem inX1 : ∀ w ∈ wsX10, w ∈ lw_good := lg_in (by decide +kernel)
theorem inX2 : ∀ w ∈ wsX20, w ∈ lw_good := lg_in (by decide +kernel)
theorem inX3 : ∀ w ∈ wsX30, w ∈ lw_good := lg_in (by decide +kernel)
theorem inX4 : ∀ w ∈ wsX40, w ∈ lw_good := lg_in (by decide +kernel)
theorem inX5 : ∀ w ∈ wsX50, w ∈ lw_good := lg_in (by decide +kernel)
theorem inX6 : ∀ w ∈ wsX60, w ∈ lw_good := lg_in (by decide +kernel)
theorem inX7 : ∀ w ∈ wsX70, w ∈ lw_good := lg_in (by decide +kernel)
theorem inX8 : ∀ w ∈ wsX80, w ∈ lw_good := lg_in (by decide +kernel)
theorem inX9 : ∀ w ∈ wsX90, w ∈ lw_good := lg_in (by decide +kernel)
theorem inX10 : ∀ w ∈ wsX100, w ∈ lw_good := lg_in (by decide +kernel)
theorem inX11 : ∀ w ∈ wsX110, w ∈ lw_good := lg_in (by decide +kernel)
theorem inX12 : ∀ w ∈ wsX120, w ∈ lw_good := lg_in (by decide +kernel)
end
section
/-! ===== the abstract machine: cells by numbers, ints and longs by cell and place; what an instruction does is a transformer ===== -/
abbrev Hp : Type := (Nat → Nat → Int32) × (Nat → Nat → Int64)
abbrev Lv : Type := List (Nat × Value)
abbrev Fr : Type := Nat × Lv × List Value
abbrev Po : Type := Option Value → Hp → Prop
abbrev Cl : Type := Nat → List Value → Hp → Po → Prop
abbrev Sm : Type := (Fr → Hp → Prop) → Cl → Po → Lv → List Value → Hp → Prop
def sI (σ : Hp) (c k : Nat) (v : Int32) : Hp := (fun a => if a = c then upd (σ.1 a) k v else σ.1 a, σ.2)
def sL (σ : Hp) (c k : Nat) (v : Int64) : Hp := (σ.1, fun a => if a = c then vp_updL (σ.2 a) k v else σ.2 a)
/-- a whole row of ints -/
def sC (σ : Hp) (c : Nat) (f : Nat → Int32) : Hp := (fun a => if a = c then f else σ.1 a, σ.2)
def lget : Lv → Nat → Option Value
  | [], _ => none
  | (j, v) :: t, i => cond (Nat.beq j i) (some v) (lget t i)
def lgo (i : Nat) (q : Nat × Value) : Bool := !(Nat.beq q.1 i) && !(Nat.beq (q.1 + 1) i && Nat.beq q.2.category 2)
def lst1 : Lv → Nat → Value → Lv
  | [], i, v => [(i, v)]
  | (j, w) :: t, i, v => cond (Nat.beq j i) ((i, v) :: t.filter (lgo i)) (cond (lgo i (j, w)) ((j, w) :: lst1 t i v) (lst1 t i v))
def lgo2 (i : Nat) (q : Nat × Value) : Bool := lgo i q && !(Nat.beq q.1 (i + 1))
def lst2 : Lv → Nat → Value → Lv
  | [], i, v => [(i, v)]
  | (j, w) :: t, i, v => cond (Nat.beq j i) ((i, v) :: t.filter (lgo2 i)) (cond (lgo2 i (j, w)) ((j, w) :: lst2 t i v) (lst2 t i v))
def cs (st : List Value) : Nat := (st.map fun v => v.category).sum
def vb (v : Int32) : Prop := v = 0 ∨ v = 1
def oI : Option Value → Int32
  | some (.int v) => v
  | _ => 0
def oL : Option Value → Int64
  | some (.long v) => v
  | _ => 0
/-- what the static rows hold: cell 128 is KEYS, 129 ABOVE -/
def tv (c j : Nat) : Int32 := cond (Nat.beq c 128) (([411, 555, 11522, 131638, 10502465, 10650290, 2232979, 6476969, 283616032, 117696474, 212302449] : List Int32).getD j 0) (([0, 0, 1, 0, 3, 0, 5] : List Int32).getD j 0)
def tn (c : Nat) : Nat := cond (Nat.beq c 128) 11 (cond (Nat.beq c 129) 7 0)
/-- what a cell is: a class (0 to 12), 13 a row of ints, 14 of longs, 15 of things -/
def kd (x : Nat) : Nat := cond (Nat.ble 128 x) 99 (cond (Nat.ble 68 x) (cond (Nat.ble 94 x) (cond (Nat.ble 99 x) (cond (Nat.ble 113 x) (cond (Nat.ble 121 x) (cond (Nat.ble 122 x) 13 14) 13) (cond (Nat.ble 112 x) 14 13)) (cond (Nat.ble 96 x) (cond (Nat.ble 97 x) (cond (Nat.ble 98 x) 12 3) 2) (cond (Nat.ble 95 x) 7 6))) (cond (Nat.ble 89 x) (cond (Nat.ble 91 x) (cond (Nat.ble 92 x) (cond (Nat.ble 93 x) 0 5) 9) (cond (Nat.ble 90 x) 15 13)) (cond (Nat.ble 77 x) (cond (Nat.ble 88 x) 1 13) (cond (Nat.ble 76 x) 14 13)))) (cond (Nat.ble 45 x) (cond (Nat.ble 56 x) (cond (Nat.ble 65 x) (cond (Nat.ble 66 x) (cond (Nat.ble 67 x) 10 13) 14) (cond (Nat.ble 57 x) 13 10)) (cond (Nat.ble 54 x) (cond (Nat.ble 55 x) 13 14) (cond (Nat.ble 46 x) 13 10))) (cond (Nat.ble 4 x) (cond (Nat.ble 18 x) (cond (Nat.ble 31 x) (cond (Nat.ble 32 x) 13 8) 13) (cond (Nat.ble 17 x) 8 13)) (cond (Nat.ble 2 x) (cond (Nat.ble 3 x) 8 13) (cond (Nat.ble 1 x) 4 11)))))
/-- how long a row is -/
def ln (x : Nat) : Nat := cond (Nat.ble 128 x) 0 (cond (Nat.ble 75 x) (cond (Nat.ble 105 x) (cond (Nat.ble 116 x) (cond (Nat.ble 121 x) (cond (Nat.ble 125 x) (cond (Nat.ble 126 x) (cond (Nat.ble 127 x) 3 1800) 30) (cond (Nat.ble 122 x) 4 160)) (cond (Nat.ble 118 x) (cond (Nat.ble 119 x) 4 122) (cond (Nat.ble 117 x) 976 160))) (cond (Nat.ble 109 x) (cond (Nat.ble 114 x) (cond (Nat.ble 115 x) 16 6) (cond (Nat.ble 110 x) 16 300)) (cond (Nat.ble 107 x) (cond (Nat.ble 108 x) 960 18) (cond (Nat.ble 106 x) 160 16)))) (cond (Nat.ble 88 x) (cond (Nat.ble 99 x) (cond (Nat.ble 102 x) (cond (Nat.ble 103 x) 300 320) (cond (Nat.ble 100 x) 300 320)) (cond (Nat.ble 90 x) (cond (Nat.ble 91 x) 0 7) (cond (Nat.ble 89 x) 30 0))) (cond (Nat.ble 81 x) (cond (Nat.ble 84 x) (cond (Nat.ble 85 x) 4 160) (cond (Nat.ble 82 x) 4 122)) (cond (Nat.ble 77 x) (cond (Nat.ble 78 x) 976 32) (cond (Nat.ble 76 x) 16 144))))) (cond (Nat.ble 44 x) (cond (Nat.ble 57 x) (cond (Nat.ble 66 x) (cond (Nat.ble 68 x) (cond (Nat.ble 71 x) 16 6) (cond (Nat.ble 67 x) 0 32)) (cond (Nat.ble 64 x) (cond (Nat.ble 65 x) 16 144) (cond (Nat.ble 60 x) 16 6))) (cond (Nat.ble 53 x) (cond (Nat.ble 55 x) (cond (Nat.ble 56 x) 0 32) (cond (Nat.ble 54 x) 16 144)) (cond (Nat.ble 46 x) (cond (Nat.ble 49 x) 16 6) (cond (Nat.ble 45 x) 0 6)))) (cond (Nat.ble 18 x) (cond (Nat.ble 31 x) (cond (Nat.ble 41 x) (cond (Nat.ble 43 x) 300 96) (cond (Nat.ble 32 x) 16 0)) (cond (Nat.ble 29 x) (cond (Nat.ble 30 x) 6 300) (cond (Nat.ble 27 x) 96 16))) (cond (Nat.ble 13 x) (cond (Nat.ble 16 x) (cond (Nat.ble 17 x) 0 6) (cond (Nat.ble 15 x) 300 96)) (cond (Nat.ble 3 x) (cond (Nat.ble 4 x) 16 0) (cond (Nat.ble 2 x) 300 0))))))
/-- how many fields a class has -/
def nf (x : Nat) : Nat := cond (Nat.ble 13 x) 0 (cond (Nat.ble 8 x) (cond (Nat.ble 10 x) (cond (Nat.ble 11 x) (cond (Nat.ble 12 x) 63 20) 15) (cond (Nat.ble 9 x) 0 17)) (cond (Nat.ble 2 x) (cond (Nat.ble 4 x) (cond (Nat.ble 5 x) 0 10) 0) (cond (Nat.ble 1 x) 5 0)))
/-- what a field is: 0 an int, 1 a long, n + 2 the cell n behind its own -/
def ft1 (x : Nat) : Nat := (cond (Nat.ble 4 x) 3 0)
def ft4 (x : Nat) : Nat := (cond (Nat.ble 4 x) (cond (Nat.ble 5 x) 0 18) (cond (Nat.ble 1 x) 0 3))
def ft8 (x : Nat) : Nat := (cond (Nat.ble 8 x) (cond (Nat.ble 12 x) (cond (Nat.ble 14 x) (cond (Nat.ble 15 x) 0 15) (cond (Nat.ble 13 x) 14 13)) (cond (Nat.ble 10 x) (cond (Nat.ble 11 x) 12 11) (cond (Nat.ble 9 x) 10 9))) (cond (Nat.ble 4 x) (cond (Nat.ble 6 x) (cond (Nat.ble 7 x) 8 7) (cond (Nat.ble 5 x) 6 5)) (cond (Nat.ble 2 x) (cond (Nat.ble 3 x) 4 3) 0)))
def ft10 (x : Nat) : Nat := (cond (Nat.ble 8 x) (cond (Nat.ble 11 x) (cond (Nat.ble 13 x) (cond (Nat.ble 14 x) 12 11) (cond (Nat.ble 12 x) 10 9)) (cond (Nat.ble 9 x) (cond (Nat.ble 10 x) 8 7) 6)) (cond (Nat.ble 5 x) (cond (Nat.ble 6 x) (cond (Nat.ble 7 x) 5 4) 3) (cond (Nat.ble 1 x) (cond (Nat.ble 4 x) 0 1) 0)))
def ft11 (x : Nat) : Nat := (cond (Nat.ble 10 x) (cond (Nat.ble 15 x) (cond (Nat.ble 17 x) (cond (Nat.ble 18 x) (cond (Nat.ble 19 x) 92 90) 89) (cond (Nat.ble 16 x) 88 87)) (cond (Nat.ble 12 x) (cond (Nat.ble 13 x) (cond (Nat.ble 14 x) 86 85) 84) (cond (Nat.ble 11 x) 83 0))) (cond (Nat.ble 5 x) (cond (Nat.ble 7 x) (cond (Nat.ble 8 x) (cond (Nat.ble 9 x) 82 69) 33) (cond (Nat.ble 6 x) 0 81)) (cond (Nat.ble 2 x) (cond (Nat.ble 3 x) (cond (Nat.ble 4 x) 80 58) 47) (cond (Nat.ble 1 x) 5 3))))
def ft12 (x : Nat) : Nat := (cond (Nat.ble 32 x) (cond (Nat.ble 46 x) (cond (Nat.ble 53 x) (cond (Nat.ble 58 x) (cond (Nat.ble 59 x) (cond (Nat.ble 62 x) 31 1) 0) (cond (Nat.ble 54 x) (cond (Nat.ble 57 x) 30 0) 29)) (cond (Nat.ble 48 x) (cond (Nat.ble 49 x) (cond (Nat.ble 50 x) 0 28) 27) (cond (Nat.ble 47 x) 26 25))) (cond (Nat.ble 38 x) (cond (Nat.ble 43 x) (cond (Nat.ble 44 x) (cond (Nat.ble 45 x) 24 23) 0) (cond (Nat.ble 41 x) (cond (Nat.ble 42 x) 22 21) 1)) (cond (Nat.ble 34 x) (cond (Nat.ble 36 x) (cond (Nat.ble 37 x) 20 19) 0) (cond (Nat.ble 33 x) 18 17)))) (cond (Nat.ble 17 x) (cond (Nat.ble 26 x) (cond (Nat.ble 29 x) (cond (Nat.ble 30 x) (cond (Nat.ble 31 x) 16 15) 14) (cond (Nat.ble 27 x) (cond (Nat.ble 28 x) 13 12) 11)) (cond (Nat.ble 21 x) (cond (Nat.ble 22 x) (cond (Nat.ble 25 x) 0 1) 10) (cond (Nat.ble 20 x) 9 0))) (cond (Nat.ble 8 x) (cond (Nat.ble 14 x) (cond (Nat.ble 15 x) (cond (Nat.ble 16 x) 8 7) 0) (cond (Nat.ble 9 x) (cond (Nat.ble 13 x) 6 0) 1)) (cond (Nat.ble 2 x) (cond (Nat.ble 3 x) (cond (Nat.ble 4 x) 0 5) 4) (cond (Nat.ble 1 x) 3 0)))))
def ft (ci k : Nat) : Nat := cond (Nat.beq ci 12) (ft12 k) (cond (Nat.beq ci 11) (ft11 k) (cond (Nat.beq ci 10) (ft10 k) (cond (Nat.beq ci 8) (ft8 k) (cond (Nat.beq ci 4) (ft4 k) (ft1 k)))))
/-! instructions -/
def i_stop : Sm := fun _ _ _ _ _ _ => False
def i_pI (v : Int32) (nx : Nat) : Sm := fun X _ _ lv st σ => X (nx, lv, .int v :: st) σ
def i_pL (v : Int64) (nx : Nat) : Sm := fun X _ _ lv st σ => X (nx, lv, .long v :: st) σ
def i_lI (i nx : Nat) : Sm := fun X _ _ lv st σ => match lget lv i with
  | some (.int v) => X (nx, lv, .int v :: st) σ
  | _ => False
def i_lL (i nx : Nat) : Sm := fun X _ _ lv st σ => match lget lv i with
  | some (.long v) => X (nx, lv, .long v :: st) σ
  | _ => False
def i_lA (i nx : Nat) : Sm := fun X _ _ lv st σ => match lget lv i with
  | some (.ref v) => X (nx, lv, .ref v :: st) σ
  | _ => False
def i_sI (i nx : Nat) : Sm := fun X _ _ lv st σ => match st with
  | .int v :: st => X (nx, lst1 lv i (.int v), st) σ
  | _ => False
def i_sL (i nx : Nat) : Sm := fun X _ _ lv st σ => match st with
  | .long v :: st => X (nx, lst2 lv i (.long v), st) σ
  | _ => False
def i_sA (i nx : Nat) : Sm := fun X _ _ lv st σ => match st with
  | .ref v :: st => X (nx, lst1 lv i (.ref v), st) σ
  | _ => False
def i_inc (i : Nat) (c : Int32) (nx : Nat) : Sm := fun X _ _ lv st σ => match lget lv i with
  | some (.int v) => X (nx, lst1 lv i (.int (v + c)), st) σ
  | _ => False
def i_b (f : Int32 → Int32 → Int32) (nx : Nat) : Sm := fun X _ _ lv st σ => match st with
  | .int y :: .int x :: st => X (nx, lv, .int (f x y) :: st) σ
  | _ => False
def i_bL (f : Int64 → Int64 → Int64) (nx : Nat) : Sm := fun X _ _ lv st σ => match st with
  | .long y :: .long x :: st => X (nx, lv, .long (f x y) :: st) σ
  | _ => False
def i_div (nx : Nat) : Sm := fun X _ _ lv st σ => match st with
  | .int y :: .int x :: st => ¬ y = 0 ∧ X (nx, lv, .int (x / y) :: st) σ
  | _ => False
def i_rem (nx : Nat) : Sm := fun X _ _ lv st σ => match st with
  | .int y :: .int x :: st => ¬ y = 0 ∧ X (nx, lv, .int (x - x / y * y) :: st) σ
  | _ => False
def i_ldiv (nx : Nat) : Sm := fun X _ _ lv st σ => match st with
  | .long y :: .long x :: st => ¬ y = 0 ∧ X (nx, lv, .long (x / y) :: st) σ
  | _ => False
def i_u (f : Int32 → Int32) (nx : Nat) : Sm := fun X _ _ lv st σ => match st with
  | .int x :: st => X (nx, lv, .int (f x) :: st) σ
  | _ => False
def i_uL (f : Int64 → Int64) (nx : Nat) : Sm := fun X _ _ lv st σ => match st with
  | .long x :: st => X (nx, lv, .long (f x) :: st) σ
  | _ => False
def i_i2l (nx : Nat) : Sm := fun X _ _ lv st σ => match st with
  | .int x :: st => X (nx, lv, .long x.toInt64 :: st) σ
  | _ => False
def i_l2i (nx : Nat) : Sm := fun X _ _ lv st σ => match st with
  | .long x :: st => X (nx, lv, .int x.toInt32 :: st) σ
  | _ => False
def i_lsh (f : Int64 → Int32 → Int64) (nx : Nat) : Sm := fun X _ _ lv st σ => match st with
  | .int y :: .long x :: st => X (nx, lv, .long (f x y) :: st) σ
  | _ => False
def i_lcmp (nx : Nat) : Sm := fun X _ _ lv st σ => match st with
  | .long y :: .long x :: st => X (nx, lv, .int (lg_cmp x y) :: st) σ
  | _ => False
def i_dup (nx : Nat) : Sm := fun X _ _ lv st σ => match st with
  | .int x :: st => X (nx, lv, .int x :: .int x :: st) σ
  | .ref x :: st => X (nx, lv, .ref x :: .ref x :: st) σ
  | _ => False
def i_dup2 (nx : Nat) : Sm := fun X _ _ lv st σ => match st with
  | .int y :: .ref x :: st => X (nx, lv, .int y :: .ref x :: .int y :: .ref x :: st) σ
  | _ => False
def i_pop (nx : Nat) : Sm := fun X _ _ lv st σ => match st with
  | .int _ :: st => X (nx, lv, st) σ
  | _ => False
def i_eq (t nx : Nat) : Sm := fun X _ _ lv st σ => match st with
  | .int x :: st => if x = 0 then X (t, lv, st) σ else X (nx, lv, st) σ
  | _ => False
def i_ne (t nx : Nat) : Sm := fun X _ _ lv st σ => match st with
  | .int x :: st => if x = 0 then X (nx, lv, st) σ else X (t, lv, st) σ
  | _ => False
def i_lt (t nx : Nat) : Sm := fun X _ _ lv st σ => match st with
  | .int x :: st => if x < 0 then X (t, lv, st) σ else X (nx, lv, st) σ
  | _ => False
def i_ge (t nx : Nat) : Sm := fun X _ _ lv st σ => match st with
  | .int x :: st => if 0 ≤ x then X (t, lv, st) σ else X (nx, lv, st) σ
  | _ => False
def i_gt (t nx : Nat) : Sm := fun X _ _ lv st σ => match st with
  | .int x :: st => if 0 < x then X (t, lv, st) σ else X (nx, lv, st) σ
  | _ => False
def i_le (t nx : Nat) : Sm := fun X _ _ lv st σ => match st with
  | .int x :: st => if x ≤ 0 then X (t, lv, st) σ else X (nx, lv, st) σ
  | _ => False
def i_ceq (t nx : Nat) : Sm := fun X _ _ lv st σ => match st with
  | .int y :: .int x :: st => if x = y then X (t, lv, st) σ else X (nx, lv, st) σ
  | _ => False
def i_cne (t nx : Nat) : Sm := fun X _ _ lv st σ => match st with
  | .int y :: .int x :: st => if x = y then X (nx, lv, st) σ else X (t, lv, st) σ
  | _ => False
def i_clt (t nx : Nat) : Sm := fun X _ _ lv st σ => match st with
  | .int y :: .int x :: st => if x < y then X (t, lv, st) σ else X (nx, lv, st) σ
  | _ => False
def i_cge (t nx : Nat) : Sm := fun X _ _ lv st σ => match st with
  | .int y :: .int x :: st => if y ≤ x then X (t, lv, st) σ else X (nx, lv, st) σ
  | _ => False
def i_cgt (t nx : Nat) : Sm := fun X _ _ lv st σ => match st with
  | .int y :: .int x :: st => if y < x then X (t, lv, st) σ else X (nx, lv, st) σ
  | _ => False
def i_cle (t nx : Nat) : Sm := fun X _ _ lv st σ => match st with
  | .int y :: .int x :: st => if x ≤ y then X (t, lv, st) σ else X (nx, lv, st) σ
  | _ => False
def i_go (t : Nat) : Sm := fun X _ _ lv st σ => X (t, lv, st) σ
def swc (X : Fr → Hp → Prop) (lv : Lv) (st : List Value) (σ : Hp) (x : Int32) (d : Nat) : List (Int32 × Nat) → Prop
  | [] => X (d, lv, st) σ
  | (v, t) :: l => if x = v then X (t, lv, st) σ else swc X lv st σ x d l
def i_sw (ts : List (Int32 × Nat)) (d : Nat) : Sm := fun X _ _ lv st σ => match st with
  | .int x :: st => swc X lv st σ x d ts
  | _ => False
def i_gI (ci k nx : Nat) : Sm := fun X _ _ lv st σ => match st with
  | .ref c :: st => cond (Nat.beq (kd c) ci) (X (nx, lv, .int (σ.1 c k) :: st) σ) False
  | _ => False
def i_gL (ci k nx : Nat) : Sm := fun X _ _ lv st σ => match st with
  | .ref c :: st => cond (Nat.beq (kd c) ci) (X (nx, lv, .long (σ.2 c k) :: st) σ) False
  | _ => False
def i_gA (ci k o nx : Nat) : Sm := fun X _ _ lv st σ => match st with
  | .ref c :: st => cond (Nat.beq (kd c) ci) (X (nx, lv, .ref (c + o) :: st) σ) False
  | _ => False
def i_fI (ci k nx : Nat) : Sm := fun X _ _ lv st σ => match st with
  | .int v :: .ref c :: st => cond (Nat.beq (kd c) ci) (X (nx, lv, st) (sI σ c k v)) False
  | _ => False
def i_fZ (ci k nx : Nat) : Sm := fun X _ _ lv st σ => match st with
  | .int v :: .ref c :: st => cond (Nat.beq (kd c) ci) (vb v ∧ X (nx, lv, st) (sI σ c k v)) False
  | _ => False
def i_fL (ci k nx : Nat) : Sm := fun X _ _ lv st σ => match st with
  | .long v :: .ref c :: st => cond (Nat.beq (kd c) ci) (X (nx, lv, st) (sL σ c k v)) False
  | _ => False
def i_ald (nx : Nat) : Sm := fun X _ _ lv st σ => match st with
  | .int i :: .ref c :: st => cond (Nat.beq (kd c) 13) (vp_in i (ln c) ∧ X (nx, lv, .int (σ.1 c i.toNatClampNeg) :: st) σ) False
  | _ => False
def i_lald (nx : Nat) : Sm := fun X _ _ lv st σ => match st with
  | .int i :: .ref c :: st => cond (Nat.beq (kd c) 14) (vp_in i (ln c) ∧ X (nx, lv, .long (σ.2 c i.toNatClampNeg) :: st) σ) False
  | _ => False
def i_ast (nx : Nat) : Sm := fun X _ _ lv st σ => match st with
  | .int v :: .int i :: .ref c :: st => cond (Nat.beq (kd c) 13) (vp_in i (ln c) ∧ X (nx, lv, st) (sI σ c i.toNatClampNeg v)) False
  | _ => False
def i_last (nx : Nat) : Sm := fun X _ _ lv st σ => match st with
  | .long v :: .int i :: .ref c :: st => cond (Nat.beq (kd c) 14) (vp_in i (ln c) ∧ X (nx, lv, st) (sL σ c i.toNatClampNeg v)) False
  | _ => False
def i_aln (nx : Nat) : Sm := fun X _ _ lv st σ => match st with
  | .ref c :: st => cond (Nat.beq (kd c) 13) (X (nx, lv, .int (Int32.ofNat (ln c)) :: st) σ) (cond (Nat.beq (kd c) 14) (X (nx, lv, .int (Int32.ofNat (ln c)) :: st) σ) False)
  | _ => False
def i_aald (nx : Nat) : Sm := fun X _ _ lv st σ => match st with
  | .int i :: .ref c :: st => cond (Nat.beq (kd c) 15) (vp_in i (ln c) ∧ X (nx, lv, .ref (91 + i.toNatClampNeg) :: st) σ) False
  | _ => False
def i_gs (c nx : Nat) : Sm := fun X _ _ lv st σ => X (nx, lv, .ref c :: st) σ
def i_tld (c nx : Nat) : Sm := fun X _ _ lv st σ => match st with
  | .int i :: .ref d :: st => cond (Nat.beq d c) (vp_in i (tn c) ∧ X (nx, lv, .int (tv c i.toNatClampNeg) :: st) σ) False
  | _ => False
def i_tln (c nx : Nat) : Sm := fun X _ _ lv st σ => match st with
  | .ref d :: st => cond (Nat.beq d c) (X (nx, lv, .int (Int32.ofNat (tn c)) :: st) σ) False
  | _ => False
def i_mx (nx : Nat) : Sm := fun X _ _ lv st σ => match st with
  | .int y :: .int x :: st => cond (Nat.ble (cs st) 8) (X (nx, lv, .int (if x < y then y else x) :: st) σ) False
  | _ => False
def i_mn (nx : Nat) : Sm := fun X _ _ lv st σ => match st with
  | .int y :: .int x :: st => cond (Nat.ble (cs st) 8) (X (nx, lv, .int (if y < x then y else x) :: st) σ) False
  | _ => False
def i_mabs (nx : Nat) : Sm := fun X _ _ lv st σ => match st with
  | .long x :: st => cond (Nat.ble (cs st) 8) (X (nx, lv, .long (if 0 < x then x else -x) :: st) σ) False
  | _ => False
def i_cpy (nx : Nat) : Sm := fun X _ _ lv st σ => match st with
  | .int n :: .int dp :: .ref d :: .int sp :: .ref a :: st => cond (Nat.ble (cs st) 8 && (Nat.beq (kd a) 13 && (Nat.beq (kd d) 13 && !(Nat.beq a d)))) ((¬ sp < 0 ∧ ¬ dp < 0 ∧ ¬ n < 0 ∧ sp.toNatClampNeg + n.toNatClampNeg ≤ ln a ∧ dp.toNatClampNeg + n.toNatClampNeg ≤ ln d) ∧ X (nx, lv, st) (sC σ d (va_cpy (σ.1 a) (σ.1 d) sp.toNatClampNeg dp.toNatClampNeg n.toNatClampNeg))) False
  | _ => False
/-- the receiver: a cell of a class, one of the seven acting things, or none (a static method) -/
def rk (ci : Nat) (a : List Value) : Bool := match a with
  | .ref c :: _ => Nat.beq (kd c) ci
  | _ => false
def rT (a : List Value) : Bool := match a with
  | .ref c :: _ => Nat.ble 91 c && Nat.ble c 97
  | _ => false
def rS (_ : List Value) : Bool := true
def hdr (a : List Value) : Nat := match a with
  | .ref c :: _ => c
  | _ => 0
def i_cv (r : List Value → Bool) (y n nx : Nat) : Sm := fun X call _ lv st σ => cond (Nat.ble (cs (st.drop n)) 8 && (Nat.beq (st.take n).length n && r (st.take n).reverse)) (call y (st.take n).reverse σ (fun _ τ => X (nx, lv, st.drop n) τ)) False
def i_cI (r : List Value → Bool) (y n nx : Nat) : Sm := fun X call _ lv st σ => cond (Nat.ble (cs (st.drop n)) 8 && (Nat.beq (st.take n).length n && r (st.take n).reverse)) (call y (st.take n).reverse σ (fun r τ => X (nx, lv, .int (oI r) :: st.drop n) τ)) False
def i_cL (r : List Value → Bool) (y n nx : Nat) : Sm := fun X call _ lv st σ => cond (Nat.ble (cs (st.drop n)) 8 && (Nat.beq (st.take n).length n && r (st.take n).reverse)) (call y (st.take n).reverse σ (fun r τ => X (nx, lv, .long (oL r) :: st.drop n) τ)) False
/-- a call of an act: the receiver's cell says which body -/
def i_cD (f : Nat → Nat) (n nx : Nat) : Sm := fun X call _ lv st σ => cond (Nat.ble (cs (st.drop n)) 8 && (Nat.beq (st.take n).length n && rT (st.take n).reverse)) (call (f (hdr (st.take n).reverse)) (st.take n).reverse σ (fun r τ => X (nx, lv, .int (oI r) :: st.drop n) τ)) False
def i_rI : Sm := fun _ _ Q _ st σ => match st with
  | [.int v] => Q (some (.int v)) σ
  | _ => False
def i_rZ : Sm := fun _ _ Q _ st σ => match st with
  | [.int v] => vb v ∧ Q (some (.int v)) σ
  | _ => False
def i_rL : Sm := fun _ _ Q _ st σ => match st with
  | [.long v] => Q (some (.long v)) σ
  | _ => False
def i_rV : Sm := fun _ _ Q _ st σ => match st with
  | [] => Q none σ
  | _ => False
/-- from a frame on: the least that the transformers close -/
def WP (c : Nat → Sm) (call : Cl) (Q : Po) (fr : Fr) (σ : Hp) : Prop := ∀ X : Fr → Hp → Prop, (∀ (pc : Nat) (lv : Lv) (st : List Value) (τ : Hp), c pc X call Q lv st τ → X (pc, lv, st) τ) → (∀ (pc : Nat) (lv lv' : Lv) (st : List Value) (τ : Hp), (∀ q ∈ lv, q ∈ lv') → X (pc, lv, st) τ → X (pc, lv', st) τ) → X fr σ
/-- some steps on, till a cut -/
def wk (c : Nat → Sm) (call : Cl) (Q : Po) (cut : Nat → Bool) (Z : Fr → Hp → Prop) : Nat → Fr → Hp → Prop
  | 0, fr, σ => Z fr σ
  | n + 1, fr, σ => cond (cut fr.1) (Z fr σ) (c fr.1 (wk c call Q cut Z n) call Q fr.2.1 fr.2.2 σ)
def Mono (i : Sm) : Prop := ∀ (X Y : Fr → Hp → Prop) (call call' : Cl) (Q Q' : Po), (∀ fr σ, X fr σ → Y fr σ) → (∀ y a σ K K', (∀ r τ, K r τ → K' r τ) → call y a σ K → call' y a σ K') → (∀ r τ, Q r τ → Q' r τ) → ∀ lv st σ, i X call Q lv st σ → i Y call' Q' lv st σ
def CMono (call : Cl) : Prop := ∀ y a σ (K K' : Po), (∀ r τ, K r τ → K' r τ) → call y a σ K → call y a σ K'
end
section
/-! ===== the machine over the kit: what the cells are in a heap, and that each transformer tells the truth ===== -/
def mv (ad : Nat → Nat) : Value → Value
  | .ref a => .ref (ad a)
  | v => v
def mvl (ad : Nat → Nat) (q : Nat × Value) : Nat × Value := (q.1, mv ad q.2)
theorem mv_cat (ad : Nat → Nat) (v : Value) : (mv ad v).category = v.category := by cases v <;> rfl
theorem mv_cs (ad : Nat → Nat) (st : List Value) : ((st.map (mv ad)).map fun v => v.category).sum = cs st := by
  unfold cs
  rw [List.map_map]
  congr 1
  exact List.map_congr_left (fun v _ => mv_cat ad v)
def fv (ad : Nat → Nat) (σ : Hp) (c ci k : Nat) : Value := match ft ci k with
  | 0 => .int (σ.1 c k)
  | 1 => .long (σ.2 c k)
  | o + 2 => .ref (ad (c + o))
abbrev T3 : Type := ClassId × ClassId × ClassId
def cel (t : T3) (ad : Nat → Nat) (σ : Hp) (c : Nat) : va_E := cond (Nat.beq (kd c) 13) (.inl (t.1, ln c, .inl (σ.1 c))) (cond (Nat.beq (kd c) 14) (.inl (t.2.1, ln c, .inr (.inl (σ.2 c)))) (cond (Nat.beq (kd c) 15) (.inl (t.2.2, ln c, .inr (.inr (.inr (.inr (fun i => some (ad (91 + i)))))))) (.inr (kd c, (List.range (nf (kd c))).map (fv ad σ c (kd c))))))
def wsA (t : T3) (ad : Nat → Nat) (σ : Hp) : va_W := (List.range 128).map (fun c => (ad c, cel t ad σ c))
def tysA (t : T3) : List (ClassId × FieldType) := [(t.1, .int), (t.2.1, .long), (t.2.2, .object "StoreStreams$Thing")]
def AA (ad : Nat → Nat) : Nat → Prop := fun q => ∃ c, c < 128 ∧ q = ad c
def Inj (ad : Nat → Nat) : Prop := ∀ i j, i < 128 → j < 128 → ad i = ad j → i = j
def Stat (A : Nat → Prop) (ad : Nat → Nat) (U : State) (H : Heap) : Prop := va_Z "StoreStreams" "KEYS" "[I" (.ref (ad 128)) A U H ∧ va_T .int (ad 128) 11 (fun j => .int (tv 128 j)) A U H ∧ va_Z "StoreStreams" "ABOVE" "[I" (.ref (ad 129)) A U H ∧ va_T .int (ad 129) 7 (fun j => .int (tv 129 j)) A U H ∧ va_Nw (.fieldLinkNest "StoreStreams$Scribe" 68 "StoreStreams" "KEYS" "[I" "StoreStreams") U
theorem kd_lt {c k : Nat} (h : Nat.beq (kd c) k = true) (hk : Nat.beq k 99 = false) : c < 128 := by
  rcases Nat.lt_or_ge c 128 with q | q
  · exact q
  · exfalso
    have e : kd c = 99 := by unfold kd; rw [show Nat.ble 128 c = true from Nat.ble_eq_true_of_le q]; rfl
    rw [e] at h
    rw [Nat.eq_of_beq_eq_true h] at hk
    have := Nat.beq_refl k
    rw [this] at hk
    cases hk
theorem ws_get {t : T3} {ad : Nat → Nat} {σ : Hp} {c : Nat} (h : c < 128) : (wsA t ad σ)[c]? = some (ad c, cel t ad σ c) := by
  simp [wsA, h]
theorem ws_set {t : T3} {ad : Nat → Nat} {σ τ : Hp} {c : Nat} {e : va_E} (he : e = cel t ad τ c) (ho : ∀ d, d ≠ c → cel t ad τ d = cel t ad σ d) : (wsA t ad σ).set c (ad c, e) = wsA t ad τ := by
  apply List.ext_getElem?
  intro j
  rw [List.getElem?_set]
  by_cases hj : c = j
  · subst hj
    by_cases h : c < 128
    · simp [wsA, h, he]
    · simp [wsA, h]
  · rw [if_neg hj]
    by_cases h : j < 128
    · rw [ws_get h, ws_get h, ho j (fun q => hj q.symm)]
    · simp [wsA, h]
theorem va_Dws {t : T3} {ad : Nat → Nat} {σ : Hp} (h : Inj ad) : va_D (AA ad) (wsA t ad σ) := by
  have key : ∀ (k : Nat) (q : Nat × va_E), (wsA t ad σ)[k]? = some q → k < 128 ∧ q.1 = ad k := by
    intro k q hq
    by_cases hk : k < 128
    · rw [ws_get hk] at hq
      cases hq
      exact ⟨hk, rfl⟩
    · simp [wsA, hk] at hq
  refine ⟨fun i j p q hp hq e => ?_, fun k q hq => ?_⟩
  · obtain ⟨h1, h2⟩ := key i p hp
    obtain ⟨h3, h4⟩ := key j q hq
    exact h i j h1 h3 (by rw [← h2, ← h4, e])
  · obtain ⟨h1, h2⟩ := key k q hq
    exact ⟨k, h1, h2⟩
theorem cel_o {t : T3} {ad : Nat → Nat} {σ : Hp} {c ci : Nat} (h : Nat.beq (kd c) ci = true) (hc : Nat.ble 13 ci = false) : cel t ad σ c = .inr (ci, (List.range (nf ci)).map (fv ad σ c ci)) := by
  have e := Nat.eq_of_beq_eq_true h
  have hl : ci < 13 := Nat.not_le.mp (fun q => by rw [Nat.ble_eq_true_of_le q] at hc; cases hc)
  have q : ∀ k, 13 ≤ k → Nat.beq ci k = false := fun k hk => by
    cases hb : Nat.beq ci k with
    | false => rfl
    | true => have := Nat.eq_of_beq_eq_true hb; omega
  unfold cel
  rw [e, q 13 (by omega), q 14 (by omega), q 15 (by omega)]
  rfl
theorem cel_i {t : T3} {ad : Nat → Nat} {σ : Hp} {c : Nat} (h : Nat.beq (kd c) 13 = true) : cel t ad σ c = .inl (t.1, ln c, .inl (σ.1 c)) := by unfold cel; rw [h]; rfl
theorem cel_l {t : T3} {ad : Nat → Nat} {σ : Hp} {c : Nat} (h : Nat.beq (kd c) 14 = true) : cel t ad σ c = .inl (t.2.1, ln c, .inr (.inl (σ.2 c))) := by
  have e := Nat.eq_of_beq_eq_true h
  unfold cel; rw [e]; rfl
theorem cel_q {t : T3} {ad : Nat → Nat} {σ : Hp} {c : Nat} (h : Nat.beq (kd c) 15 = true) : cel t ad σ c = .inl (t.2.2, ln c, .inr (.inr (.inr (.inr (fun i => some (ad (91 + i))))))) := by
  have e := Nat.eq_of_beq_eq_true h
  unfold cel; rw [e]; rfl
theorem fv_eq {ad : Nat → Nat} {σ τ : Hp} {c ci k : Nat} (h1 : τ.1 c k = σ.1 c k) (h2 : τ.2 c k = σ.2 c k) : fv ad τ c ci k = fv ad σ c ci k := by
  unfold fv
  split <;> simp_all
theorem cel_eq {t : T3} {ad : Nat → Nat} {σ τ : Hp} {c : Nat} (h1 : τ.1 c = σ.1 c) (h2 : τ.2 c = σ.2 c) : cel t ad τ c = cel t ad σ c := by
  unfold cel
  rw [h1, h2]
  have : (fv ad τ c (kd c)) = (fv ad σ c (kd c)) := funext fun k => fv_eq (by rw [h1]) (by rw [h2])
  rw [this]
theorem sI_ne {σ : Hp} {c k d : Nat} {v : Int32} (h : d ≠ c) : (sI σ c k v).1 d = σ.1 d := if_neg h
theorem sI_eq (σ : Hp) (c k : Nat) (v : Int32) : (sI σ c k v).1 c = upd (σ.1 c) k v := if_pos rfl
theorem sL_ne {σ : Hp} {c k d : Nat} {v : Int64} (h : d ≠ c) : (sL σ c k v).2 d = σ.2 d := if_neg h
theorem sL_eq (σ : Hp) (c k : Nat) (v : Int64) : (sL σ c k v).2 c = vp_updL (σ.2 c) k v := if_pos rfl
theorem sC_ne {σ : Hp} {c d : Nat} {f : Nat → Int32} (h : d ≠ c) : (sC σ c f).1 d = σ.1 d := if_neg h
theorem sC_eq (σ : Hp) (c : Nat) (f : Nat → Int32) : (sC σ c f).1 c = f := if_pos rfl
/-- a field of an object, written -/
theorem fs_set {ad : Nat → Nat} {σ τ : Hp} {c ci k : Nat} {w : Value} (hk : k < nf ci) (hw : fv ad τ c ci k = w) (ho : ∀ j, j ≠ k → fv ad τ c ci j = fv ad σ c ci j) : ((List.range (nf ci)).map (fv ad σ c ci)).set k w = (List.range (nf ci)).map (fv ad τ c ci) := by
  apply List.ext_getElem?
  intro j
  rw [List.getElem?_set]
  by_cases hj : k = j
  · subst hj
    simp [hk, hw]
  · rw [if_neg hj]
    by_cases h : j < nf ci
    · simp [h, ho j (fun q => hj q.symm)]
    · simp [h]
theorem ws_fI {t : T3} {ad : Nat → Nat} {σ : Hp} {c ci k : Nat} {v : Int32} (h : Nat.beq (kd c) ci = true) (hc : Nat.ble 13 ci = false) (hk : k < nf ci) (hf : ft ci k = 0) : (wsA t ad σ).set c (ad c, .inr (ci, ((List.range (nf ci)).map (fv ad σ c ci)).set k (.int v))) = wsA t ad (sI σ c k v) := by
  refine ws_set ?_ (fun d hd => cel_eq (sI_ne hd) rfl)
  rw [cel_o h hc]
  exact congrArg (fun l => (Sum.inr (ci, l) : va_E)) (fs_set (ad := ad) (c := c) hk (τ := sI σ c k v) (by unfold fv; rw [hf]; show Value.int ((sI σ c k v).1 c k) = _; rw [sI_eq]; simp [upd]) (fun j hj => fv_eq (by rw [sI_eq]; simp [upd, hj]) rfl))
theorem ws_fL {t : T3} {ad : Nat → Nat} {σ : Hp} {c ci k : Nat} {v : Int64} (h : Nat.beq (kd c) ci = true) (hc : Nat.ble 13 ci = false) (hk : k < nf ci) (hf : ft ci k = 1) : (wsA t ad σ).set c (ad c, .inr (ci, ((List.range (nf ci)).map (fv ad σ c ci)).set k (.long v))) = wsA t ad (sL σ c k v) := by
  refine ws_set ?_ (fun d hd => cel_eq rfl (sL_ne hd))
  rw [cel_o h hc]
  exact congrArg (fun l => (Sum.inr (ci, l) : va_E)) (fs_set (ad := ad) (c := c) hk (τ := sL σ c k v) (by unfold fv; rw [hf]; show Value.long ((sL σ c k v).2 c k) = _; rw [sL_eq]; simp [vp_updL]) (fun j hj => fv_eq rfl (by rw [sL_eq]; simp [vp_updL, hj])))
theorem ws_ai {t : T3} {ad : Nat → Nat} {σ : Hp} {c k : Nat} {v : Int32} (h : Nat.beq (kd c) 13 = true) : (wsA t ad σ).set c (ad c, .inl (t.1, ln c, .inl (upd (σ.1 c) k v))) = wsA t ad (sI σ c k v) :=
  ws_set (by rw [cel_i h, sI_eq]) (fun d hd => cel_eq (sI_ne hd) rfl)
theorem ws_al {t : T3} {ad : Nat → Nat} {σ : Hp} {c k : Nat} {v : Int64} (h : Nat.beq (kd c) 14 = true) : (wsA t ad σ).set c (ad c, .inl (t.2.1, ln c, .inr (.inl (vp_updL (σ.2 c) k v)))) = wsA t ad (sL σ c k v) :=
  ws_set (by rw [cel_l h, sL_eq]) (fun d hd => cel_eq rfl (sL_ne hd))
theorem ws_ac {t : T3} {ad : Nat → Nat} {σ : Hp} {c : Nat} {f : Nat → Int32} (h : Nat.beq (kd c) 13 = true) : (wsA t ad σ).set c (ad c, .inl (t.1, ln c, .inl f)) = wsA t ad (sC σ c f) :=
  ws_set (by rw [cel_i h, sC_eq]) (fun d hd => cel_eq (sC_ne hd) rfl)
theorem fs_get {ad : Nat → Nat} {σ : Hp} {c ci k : Nat} (hk : k < nf ci) : ((List.range (nf ci)).map (fv ad σ c ci))[k]? = some (fv ad σ c ci k) := by simp [hk]
/-! the locals -/
theorem lget_at {ls : Array Slot} {nL : Nat} {ad : Nat → Nat} {i : Nat} {v : Value} : ∀ {lv : Lv}, lv_has ls nL (lv.map (mvl ad)) → lget lv i = some v → ls[i]? = some (.val (mv ad v)) := by
  intro lv
  induction lv with
  | nil => intro _ h; cases h
  | cons q t ih =>
    intro hl h
    obtain ⟨j, w⟩ := q
    unfold lget at h
    cases hb : Nat.beq j i with
    | true =>
      rw [hb] at h
      have e := Nat.eq_of_beq_eq_true hb
      subst e
      cases h
      exact hl.2.2 (j, mv ad v) (by simp [mvl])
    | false =>
      rw [hb] at h
      exact ih ⟨hl.1, hl.2.1, fun q hq => hl.2.2 q (by simp only [List.map_cons]; exact List.mem_cons_of_mem _ hq)⟩ h
theorem lst1_in {i : Nat} {v : Value} : ∀ {lv : Lv} {q : Nat × Value}, q ∈ lst1 lv i v → q = (i, v) ∨ (q ∈ lv ∧ lgo i q = true) := by
  intro lv
  induction lv with
  | nil => intro q h; exact Or.inl (List.mem_singleton.mp h)
  | cons a t ih =>
    intro q h
    obtain ⟨j, w⟩ := a
    unfold lst1 at h
    cases hb : Nat.beq j i with
    | true =>
      rw [hb] at h
      rcases List.mem_cons.mp h with h | h
      · exact Or.inl h
      · obtain ⟨h1, h2⟩ := List.mem_filter.mp h
        exact Or.inr ⟨List.mem_cons_of_mem _ h1, h2⟩
    | false =>
      rw [hb] at h
      cases hg : lgo i (j, w) with
      | true =>
        rw [hg] at h
        rcases List.mem_cons.mp h with h | h
        · subst h
          exact Or.inr ⟨List.mem_cons_self, hg⟩
        · rcases ih h with h | ⟨h1, h2⟩
          · exact Or.inl h
          · exact Or.inr ⟨List.mem_cons_of_mem _ h1, h2⟩
      | false =>
        rw [hg] at h
        rcases ih h with h | ⟨h1, h2⟩
        · exact Or.inl h
        · exact Or.inr ⟨List.mem_cons_of_mem _ h1, h2⟩
theorem lst2_in {i : Nat} {v : Value} : ∀ {lv : Lv} {q : Nat × Value}, q ∈ lst2 lv i v → q = (i, v) ∨ (q ∈ lv ∧ lgo2 i q = true) := by
  intro lv
  induction lv with
  | nil => intro q h; exact Or.inl (List.mem_singleton.mp h)
  | cons a t ih =>
    intro q h
    obtain ⟨j, w⟩ := a
    unfold lst2 at h
    cases hb : Nat.beq j i with
    | true =>
      rw [hb] at h
      rcases List.mem_cons.mp h with h | h
      · exact Or.inl h
      · obtain ⟨h1, h2⟩ := List.mem_filter.mp h
        exact Or.inr ⟨List.mem_cons_of_mem _ h1, h2⟩
    | false =>
      rw [hb] at h
      cases hg : lgo2 i (j, w) with
      | true =>
        rw [hg] at h
        rcases List.mem_cons.mp h with h | h
        · subst h
          exact Or.inr ⟨List.mem_cons_self, hg⟩
        · rcases ih h with h | ⟨h1, h2⟩
          · exact Or.inl h
          · exact Or.inr ⟨List.mem_cons_of_mem _ h1, h2⟩
      | false =>
        rw [hg] at h
        rcases ih h with h | ⟨h1, h2⟩
        · exact Or.inl h
        · exact Or.inr ⟨List.mem_cons_of_mem _ h1, h2⟩
theorem beqN (a b : Nat) : (a == b) = Nat.beq a b := by
  cases h : Nat.beq a b with
  | true => simp [Nat.eq_of_beq_eq_true h]
  | false => simp [Nat.ne_of_beq_eq_false h]
theorem lgo_k {i : Nat} {ad : Nat → Nat} {q : Nat × Value} (h : lgo i q = true) : (!((mvl ad q).1 == i) && !((mvl ad q).1 + 1 == i && (mvl ad q).2.category == 2)) = true := by
  unfold lgo at h
  show (!(q.1 == i) && !(q.1 + 1 == i && (mv ad q.2).category == 2)) = true
  rw [mv_cat, beqN, beqN, beqN]
  exact h
theorem lgo2_k {i : Nat} {ad : Nat → Nat} {q : Nat × Value} (h : lgo2 i q = true) : (!((mvl ad q).1 == i) && (!((mvl ad q).1 == i + 1) && !((mvl ad q).1 + 1 == i && (mvl ad q).2.category == 2))) = true := by
  unfold lgo2 at h
  simp only [Bool.and_eq_true] at h
  have h1 := lgo_k (ad := ad) h.1
  simp only [Bool.and_eq_true] at h1 ⊢
  exact ⟨h1.1, by rw [beqN]; exact h.2, h1.2⟩
theorem lv_1 {ls : Array Slot} {nL i : Nat} {ad : Nat → Nat} {v : Value} {lv : Lv} (h : lv_has ls nL ((i, mv ad v) :: (lv.map (mvl ad)).filter (fun q => !(q.1 == i) && !(q.1 + 1 == i && q.2.category == 2)))) : lv_has ls nL ((lst1 lv i v).map (mvl ad)) := by
  refine ⟨h.1, h.2.1, fun q hq => h.2.2 q ?_⟩
  obtain ⟨a, ha, rfl⟩ := List.mem_map.mp hq
  rcases lst1_in ha with rfl | ⟨h1, h2⟩
  · exact List.mem_cons_self
  · exact List.mem_cons_of_mem _ (List.mem_filter.mpr ⟨List.mem_map_of_mem h1, lgo_k h2⟩)
theorem lv_2 {ls : Array Slot} {nL i : Nat} {ad : Nat → Nat} {v : Value} {lv : Lv} (h : lv_has ls nL ((i, mv ad v) :: (lv.map (mvl ad)).filter (fun q => !(q.1 == i) && (!(q.1 == i + 1) && !(q.1 + 1 == i && q.2.category == 2))))) : lv_has ls nL ((lst2 lv i v).map (mvl ad)) := by
  refine ⟨h.1, h.2.1, fun q hq => h.2.2 q ?_⟩
  obtain ⟨a, ha, rfl⟩ := List.mem_map.mp hq
  rcases lst2_in ha with rfl | ⟨h1, h2⟩
  · exact List.mem_cons_self
  · exact List.mem_cons_of_mem _ (List.mem_filter.mpr ⟨List.mem_map_of_mem h1, lgo2_k h2⟩)
theorem lget_ix {i : Nat} {v : Value} : ∀ {lv : Lv}, lget lv i = some v → ∃ k : Nat, lv[k]? = some (i, v) := by
  intro lv
  induction lv with
  | nil => intro h; cases h
  | cons q t ih =>
    intro h
    obtain ⟨j, w⟩ := q
    unfold lget at h
    cases hb : Nat.beq j i with
    | true =>
      rw [hb] at h
      have e := Nat.eq_of_beq_eq_true hb
      subst e
      cases h
      exact ⟨0, rfl⟩
    | false =>
      rw [hb] at h
      obtain ⟨k, hk⟩ := ih h
      exact ⟨k + 1, hk⟩
/-! the frame of a method, its contract, and what it is that a transformer tells the truth -/
abbrev MI : Type := Nat → MethodName × ByteArray × Nat × Option FieldType
def rmD (d : Nat) : Room := { frames := d, cells := 0, slots := 0, locals := 64 * d }
def rtok (rt : Option FieldType) (r : Option Value) : Prop := match rt with
  | none => r = none
  | some .int => ∃ v, r = some (.int v)
  | some .boolean => ∃ v, r = some (.int v)
  | some .long => ∃ v, r = some (.long v)
  | _ => False
def Pin (G : va_G) (t : T3) (ad : Nat → Nat) (σ : Hp) (a : List Value) : Array Value → State → Prop := va_Pc (a.map (mv ad)) (fun U => va_P G cls (wsA t ad σ) U.heap ∧ va_K G cls (tysA t) U ∧ Stat (AA ad) ad U U.heap)
def Qin (G : va_G) (t : T3) (ad : Nat → Nat) (rt : Option FieldType) (K : Po) : Array Value → State → Outcome → State → Prop := fun _ st oc u => (∃ (r : Option Value) (τ : Hp), oc = .returned (r.map (mv ad)) ∧ rtok rt r ∧ K r τ ∧ va_P G cls (wsA t ad τ) u.heap) ∧ va_F (AA ad) st u
def Con (mi : MI) (l : Launch) (G : va_G) (t : T3) (ad : Nat → Nat) (d y : Nat) (a : List Value) (σ : Hp) (K : Po) : Prop := Met l (mi y).1 (Cond.code (mi y).1 (mi y).2.1 (mi y).2.2.1 (mi y).2.2.2 :: lw_good) (rmD d) (Pin G t ad σ a) (Qin G t ad (mi y).2.2.2 K) 0 0 (AA ad)
def Ctx (p : Program) (R : Room) (s : State) (m : MethodId) (args : Array Value) (meth : Method) (c : Code) (cc : ByteArray) (own : String) (nL : Nat) (rt : Option FieldType) (G : va_G) (t : T3) (ad : Nat → Nat) (d : Nat) : Prop :=
  p.tables.exec = Jvm.exec ∧ c.code = cc ∧ c.maxLocals = nL ∧ meth.sig.returnType = rt ∧ meth.locks = false ∧ s.vm.findClass own = some m.cls ∧ (∀ w ∈ lw_good, w.before args s = true) ∧ va_K G cls (tysA t) s ∧ Inj ad ∧ Stat (AA ad) ad s s.heap ∧ d + 1 ≤ R.frames ∧ 64 * d + 64 ≤ R.locals
def Jd (p : Program) (l : Launch) (e : Env) (R : Room) (s : State) (m : MethodId) (args : Array Value) (below : List Frame) (meth : Method) (c : Code) (nL : Nat) (G : va_G) (t : T3) (ad : Nat → Nat) (Qc : Array Value → State → Outcome → State → Prop) (fr : Fr) (σ : Hp) : Prop :=
  ∀ (H : Heap) (locs : List Loc) (ls : Array Slot), va_P G cls (wsA t ad σ) H → va_S (AA ad) s.heap H locs → lv_has ls nL (fr.2.1.map (mvl ad)) → W p l e R s m args below meth c H locs 0 0 (MQ below Qc args s 0 0 (AA ad)) (F0 m fr.1 ls (fr.2.2.map (mv ad)))
def SndI (mi : MI) (cc : ByteArray) (own : String) (nL : Nat) (rt : Option FieldType) (i : Sm) (pc : Nat) : Prop :=
  Mono i ∧ ∀ (p : Program) (l : Launch) (e : Env) (R : Room) (s : State) (m : MethodId) (args : Array Value) (below : List Frame) (meth : Method) (c : Code) (G : va_G) (t : T3) (ad : Nat → Nat) (d : Nat) (Qc : Array Value → State → Outcome → State → Prop), Ctx p R s m args meth c cc own nL rt G t ad d →
    ∀ (call : Cl), (∀ y a σ K, call y a σ K → Con mi l G t ad d y a σ K) → ∀ (Q : Po), (∀ (r : Option Value) (τ : Hp) (u : State), rtok rt r → Q r τ → va_P G cls (wsA t ad τ) u.heap → va_F (AA ad) s u → Qc args s (.returned (r.map (mv ad))) u) →
    ∀ (X : Fr → Hp → Prop), (∀ fr τ, X fr τ → Jd p l e R s m args below meth c nL G t ad Qc fr τ) → ∀ (lv : Lv) (st : List Value) (σ : Hp), i X call Q lv st σ → Jd p l e R s m args below meth c nL G t ad Qc (pc, lv, st) σ
end
section
theorem n_stop {mi : MI} {cc : ByteArray} {own : String} {nL : Nat} {rt : Option FieldType} {pc : Nat} : SndI mi cc own nL rt i_stop pc := ⟨fun _ _ _ _ _ _ _ _ _ _ _ _ h => h.elim, fun _ _ _ _ _ _ _ _ _ _ _ _ _ _ _ _ _ _ _ _ _ _ _ _ _ h => h.elim⟩
theorem n_cond {mi : MI} {cc : ByteArray} {own : String} {nL : Nat} {rt : Option FieldType} {pc : Nat} {b : Bool} {i j : Sm} (hi : SndI mi cc own nL rt i pc) (hj : SndI mi cc own nL rt j pc) : SndI mi cc own nL rt (cond b i j) pc := by cases b; exact hj; exact hi
theorem n_leaf {mi : MI} {cc : ByteArray} {own : String} {nL : Nat} {rt : Option FieldType} {pc k : Nat} {i : Sm} (hi : SndI mi cc own nL rt i k) : SndI mi cc own nL rt (cond (Nat.beq pc k) i i_stop) pc := by
  cases hb : Nat.beq pc k with
  | true => rw [Nat.eq_of_beq_eq_true hb]; exact hi
  | false => exact n_stop
theorem m_pI (v : Int32) (nx : Nat) : Mono (i_pI v nx) := by
  intro X Y call call' Q Q' hX hc hQ lv st σ h
  exact hX _ _ h
theorem m_pL (v : Int64) (nx : Nat) : Mono (i_pL v nx) := by
  intro X Y call call' Q Q' hX hc hQ lv st σ h
  exact hX _ _ h
theorem m_go (nx : Nat) : Mono (i_go nx) := by
  intro X Y call call' Q Q' hX hc hQ lv st σ h
  exact hX _ _ h
theorem m_gs (k nx : Nat) : Mono (i_gs k nx) := by
  intro X Y call call' Q Q' hX hc hQ lv st σ h
  exact hX _ _ h
theorem m_lI (i nx : Nat) : Mono (i_lI i nx) := by
  intro X Y call call' Q Q' hX hc hQ lv st σ h
  revert h; unfold i_lI; cases lget lv i with
  | none => exact id
  | some v => cases v <;> first | exact id | exact hX _ _
theorem m_lL (i nx : Nat) : Mono (i_lL i nx) := by
  intro X Y call call' Q Q' hX hc hQ lv st σ h
  revert h; unfold i_lL; cases lget lv i with
  | none => exact id
  | some v => cases v <;> first | exact id | exact hX _ _
theorem m_lA (i nx : Nat) : Mono (i_lA i nx) := by
  intro X Y call call' Q Q' hX hc hQ lv st σ h
  revert h; unfold i_lA; cases lget lv i with
  | none => exact id
  | some v => cases v <;> first | exact id | exact hX _ _
theorem m_inc (i : Nat) (k : Int32) (nx : Nat) : Mono (i_inc i k nx) := by
  intro X Y call call' Q Q' hX hc hQ lv st σ h
  revert h; unfold i_inc; cases lget lv i with
  | none => exact id
  | some v => cases v <;> first | exact id | exact hX _ _
theorem m_sI (i nx : Nat) : Mono (i_sI i nx) := by
  intro X Y call call' Q Q' hX hc hQ lv st σ h
  revert h; unfold i_sI; split
  · exact hX _ _
  · exact id
theorem m_sL (i nx : Nat) : Mono (i_sL i nx) := by
  intro X Y call call' Q Q' hX hc hQ lv st σ h
  revert h; unfold i_sL; split
  · exact hX _ _
  · exact id
theorem m_sA (i nx : Nat) : Mono (i_sA i nx) := by
  intro X Y call call' Q Q' hX hc hQ lv st σ h
  revert h; unfold i_sA; split
  · exact hX _ _
  · exact id
theorem m_b (f : Int32 → Int32 → Int32) (nx : Nat) : Mono (i_b f nx) := by
  intro X Y call call' Q Q' hX hc hQ lv st σ h
  revert h; unfold i_b; split
  · exact hX _ _
  · exact id
theorem m_bL (f : Int64 → Int64 → Int64) (nx : Nat) : Mono (i_bL f nx) := by
  intro X Y call call' Q Q' hX hc hQ lv st σ h
  revert h; unfold i_bL; split
  · exact hX _ _
  · exact id
theorem m_u (f : Int32 → Int32) (nx : Nat) : Mono (i_u f nx) := by
  intro X Y call call' Q Q' hX hc hQ lv st σ h
  revert h; unfold i_u; split
  · exact hX _ _
  · exact id
theorem m_uL (f : Int64 → Int64) (nx : Nat) : Mono (i_uL f nx) := by
  intro X Y call call' Q Q' hX hc hQ lv st σ h
  revert h; unfold i_uL; split
  · exact hX _ _
  · exact id
theorem m_i2l (nx : Nat) : Mono (i_i2l nx) := by
  intro X Y call call' Q Q' hX hc hQ lv st σ h
  revert h; unfold i_i2l; split
  · exact hX _ _
  · exact id
theorem m_l2i (nx : Nat) : Mono (i_l2i nx) := by
  intro X Y call call' Q Q' hX hc hQ lv st σ h
  revert h; unfold i_l2i; split
  · exact hX _ _
  · exact id
theorem m_lsh (f : Int64 → Int32 → Int64) (nx : Nat) : Mono (i_lsh f nx) := by
  intro X Y call call' Q Q' hX hc hQ lv st σ h
  revert h; unfold i_lsh; split
  · exact hX _ _
  · exact id
theorem m_lcmp (nx : Nat) : Mono (i_lcmp nx) := by
  intro X Y call call' Q Q' hX hc hQ lv st σ h
  revert h; unfold i_lcmp; split
  · exact hX _ _
  · exact id
theorem m_dup2 (nx : Nat) : Mono (i_dup2 nx) := by
  intro X Y call call' Q Q' hX hc hQ lv st σ h
  revert h; unfold i_dup2; split
  · exact hX _ _
  · exact id
theorem m_pop (nx : Nat) : Mono (i_pop nx) := by
  intro X Y call call' Q Q' hX hc hQ lv st σ h
  revert h; unfold i_pop; split
  · exact hX _ _
  · exact id
theorem m_dup (nx : Nat) : Mono (i_dup nx) := by
  intro X Y call call' Q Q' hX hc hQ lv st σ h
  revert h; unfold i_dup; split
  · exact hX _ _
  · exact hX _ _
  · exact id
theorem m_div (nx : Nat) : Mono (i_div nx) := by
  intro X Y call call' Q Q' hX hc hQ lv st σ h
  revert h; unfold i_div; split
  · exact fun h => ⟨h.1, hX _ _ h.2⟩
  · exact id
theorem m_rem (nx : Nat) : Mono (i_rem nx) := by
  intro X Y call call' Q Q' hX hc hQ lv st σ h
  revert h; unfold i_rem; split
  · exact fun h => ⟨h.1, hX _ _ h.2⟩
  · exact id
theorem m_ldiv (nx : Nat) : Mono (i_ldiv nx) := by
  intro X Y call call' Q Q' hX hc hQ lv st σ h
  revert h; unfold i_ldiv; split
  · exact fun h => ⟨h.1, hX _ _ h.2⟩
  · exact id
theorem m_eq (t nx : Nat) : Mono (i_eq t nx) := by
  intro X Y call call' Q Q' hX hc hQ lv st σ h
  revert h; unfold i_eq; split
  · split <;> exact hX _ _
  · exact id
theorem m_ne (t nx : Nat) : Mono (i_ne t nx) := by
  intro X Y call call' Q Q' hX hc hQ lv st σ h
  revert h; unfold i_ne; split
  · split <;> exact hX _ _
  · exact id
theorem m_lt (t nx : Nat) : Mono (i_lt t nx) := by
  intro X Y call call' Q Q' hX hc hQ lv st σ h
  revert h; unfold i_lt; split
  · split <;> exact hX _ _
  · exact id
theorem m_ge (t nx : Nat) : Mono (i_ge t nx) := by
  intro X Y call call' Q Q' hX hc hQ lv st σ h
  revert h; unfold i_ge; split
  · split <;> exact hX _ _
  · exact id
theorem m_gt (t nx : Nat) : Mono (i_gt t nx) := by
  intro X Y call call' Q Q' hX hc hQ lv st σ h
  revert h; unfold i_gt; split
  · split <;> exact hX _ _
  · exact id
theorem m_le (t nx : Nat) : Mono (i_le t nx) := by
  intro X Y call call' Q Q' hX hc hQ lv st σ h
  revert h; unfold i_le; split
  · split <;> exact hX _ _
  · exact id
theorem m_ceq (t nx : Nat) : Mono (i_ceq t nx) := by
  intro X Y call call' Q Q' hX hc hQ lv st σ h
  revert h; unfold i_ceq; split
  · split <;> exact hX _ _
  · exact id
theorem m_cne (t nx : Nat) : Mono (i_cne t nx) := by
  intro X Y call call' Q Q' hX hc hQ lv st σ h
  revert h; unfold i_cne; split
  · split <;> exact hX _ _
  · exact id
theorem m_clt (t nx : Nat) : Mono (i_clt t nx) := by
  intro X Y call call' Q Q' hX hc hQ lv st σ h
  revert h; unfold i_clt; split
  · split <;> exact hX _ _
  · exact id
theorem m_cge (t nx : Nat) : Mono (i_cge t nx) := by
  intro X Y call call' Q Q' hX hc hQ lv st σ h
  revert h; unfold i_cge; split
  · split <;> exact hX _ _
  · exact id
theorem m_cgt (t nx : Nat) : Mono (i_cgt t nx) := by
  intro X Y call call' Q Q' hX hc hQ lv st σ h
  revert h; unfold i_cgt; split
  · split <;> exact hX _ _
  · exact id
theorem m_cle (t nx : Nat) : Mono (i_cle t nx) := by
  intro X Y call call' Q Q' hX hc hQ lv st σ h
  revert h; unfold i_cle; split
  · split <;> exact hX _ _
  · exact id
theorem m_swc {X Y : Fr → Hp → Prop} (hX : ∀ fr σ, X fr σ → Y fr σ) {lv : Lv} {st : List Value} {σ : Hp} {x : Int32} {d : Nat} : ∀ {ts : List (Int32 × Nat)}, swc X lv st σ x d ts → swc Y lv st σ x d ts := by
  intro ts
  induction ts with
  | nil => exact hX _ _
  | cons q t ih =>
    obtain ⟨v, k⟩ := q
    unfold swc
    split
    · exact hX _ _
    · exact ih
theorem m_sw (ts : List (Int32 × Nat)) (k : Nat) : Mono (i_sw ts k) := by
  intro X Y call call' Q Q' hX hc hQ lv st σ h
  revert h; unfold i_sw; split
  · exact m_swc hX
  · exact id
theorem m_gI (ci k nx : Nat) : Mono (i_gI ci k nx) := by
  intro X Y call call' Q Q' hX hc hQ lv st σ h
  revert h; unfold i_gI; split
  · rename_i q _; cases Nat.beq (kd q) ci
    · exact id
    · exact hX _ _
  · exact id
theorem m_gL (ci k nx : Nat) : Mono (i_gL ci k nx) := by
  intro X Y call call' Q Q' hX hc hQ lv st σ h
  revert h; unfold i_gL; split
  · rename_i q _; cases Nat.beq (kd q) ci
    · exact id
    · exact hX _ _
  · exact id
theorem m_gA (ci k o nx : Nat) : Mono (i_gA ci k o nx) := by
  intro X Y call call' Q Q' hX hc hQ lv st σ h
  revert h; unfold i_gA; split
  · rename_i q _; cases Nat.beq (kd q) ci
    · exact id
    · exact hX _ _
  · exact id
theorem m_fI (ci k nx : Nat) : Mono (i_fI ci k nx) := by
  intro X Y call call' Q Q' hX hc hQ lv st σ h
  revert h; unfold i_fI; split
  · rename_i q _; cases Nat.beq (kd q) ci
    · exact id
    · exact hX _ _
  · exact id
theorem m_fL (ci k nx : Nat) : Mono (i_fL ci k nx) := by
  intro X Y call call' Q Q' hX hc hQ lv st σ h
  revert h; unfold i_fL; split
  · rename_i q _; cases Nat.beq (kd q) ci
    · exact id
    · exact hX _ _
  · exact id
theorem m_tln (k nx : Nat) : Mono (i_tln k nx) := by
  intro X Y call call' Q Q' hX hc hQ lv st σ h
  revert h; unfold i_tln; split
  · rename_i q _; cases Nat.beq q k
    · exact id
    · exact hX _ _
  · exact id
theorem m_tld (k nx : Nat) : Mono (i_tld k nx) := by
  intro X Y call call' Q Q' hX hc hQ lv st σ h
  revert h; unfold i_tld; split
  · rename_i q _; cases Nat.beq q k
    · exact id
    · exact fun h => ⟨h.1, hX _ _ h.2⟩
  · exact id
theorem m_fZ (ci k nx : Nat) : Mono (i_fZ ci k nx) := by
  intro X Y call call' Q Q' hX hc hQ lv st σ h
  revert h; unfold i_fZ; split
  · rename_i q _; cases Nat.beq (kd q) ci
    · exact id
    · exact fun h => ⟨h.1, hX _ _ h.2⟩
  · exact id
theorem m_ald (nx : Nat) : Mono (i_ald nx) := by
  intro X Y call call' Q Q' hX hc hQ lv st σ h
  revert h; unfold i_ald; split
  · rename_i q _; cases Nat.beq (kd q) 13
    · exact id
    · exact fun h => ⟨h.1, hX _ _ h.2⟩
  · exact id
theorem m_lald (nx : Nat) : Mono (i_lald nx) := by
  intro X Y call call' Q Q' hX hc hQ lv st σ h
  revert h; unfold i_lald; split
  · rename_i q _; cases Nat.beq (kd q) 14
    · exact id
    · exact fun h => ⟨h.1, hX _ _ h.2⟩
  · exact id
theorem m_ast (nx : Nat) : Mono (i_ast nx) := by
  intro X Y call call' Q Q' hX hc hQ lv st σ h
  revert h; unfold i_ast; split
  · rename_i q _; cases Nat.beq (kd q) 13
    · exact id
    · exact fun h => ⟨h.1, hX _ _ h.2⟩
  · exact id
theorem m_last (nx : Nat) : Mono (i_last nx) := by
  intro X Y call call' Q Q' hX hc hQ lv st σ h
  revert h; unfold i_last; split
  · rename_i q _; cases Nat.beq (kd q) 14
    · exact id
    · exact fun h => ⟨h.1, hX _ _ h.2⟩
  · exact id
theorem m_aald (nx : Nat) : Mono (i_aald nx) := by
  intro X Y call call' Q Q' hX hc hQ lv st σ h
  revert h; unfold i_aald; split
  · rename_i q _; cases Nat.beq (kd q) 15
    · exact id
    · exact fun h => ⟨h.1, hX _ _ h.2⟩
  · exact id
theorem m_aln (nx : Nat) : Mono (i_aln nx) := by
  intro X Y call call' Q Q' hX hc hQ lv st σ h
  revert h; unfold i_aln; split
  · rename_i q _; cases Nat.beq (kd q) 13
    · cases Nat.beq (kd q) 14
      · exact id
      · exact hX _ _
    · exact hX _ _
  · exact id
theorem m_mx (nx : Nat) : Mono (i_mx nx) := by
  intro X Y call call' Q Q' hX hc hQ lv st σ h
  revert h; unfold i_mx; split
  · rename_i q; cases Nat.ble (cs q) 8
    · exact id
    · exact hX _ _
  · exact id
theorem m_mn (nx : Nat) : Mono (i_mn nx) := by
  intro X Y call call' Q Q' hX hc hQ lv st σ h
  revert h; unfold i_mn; split
  · rename_i q; cases Nat.ble (cs q) 8
    · exact id
    · exact hX _ _
  · exact id
theorem m_mabs (nx : Nat) : Mono (i_mabs nx) := by
  intro X Y call call' Q Q' hX hc hQ lv st σ h
  revert h; unfold i_mabs; split
  · rename_i q; cases Nat.ble (cs q) 8
    · exact id
    · exact hX _ _
  · exact id
theorem m_cpy (nx : Nat) : Mono (i_cpy nx) := by
  intro X Y call call' Q Q' hX hc hQ lv st σ h
  revert h; unfold i_cpy; split
  · rename_i q a st; cases (Nat.ble (cs st) 8 && (Nat.beq (kd a) 13 && (Nat.beq (kd _) 13 && !(Nat.beq a _))))
    · exact id
    · exact fun h => ⟨h.1, hX _ _ h.2⟩
  · exact id
theorem m_cv (k : List Value → Bool) (y n nx : Nat) : Mono (i_cv k y n nx) := by
  intro X Y call call' Q Q' hX hc hQ lv st σ h
  revert h; unfold i_cv; cases (Nat.ble (cs (st.drop n)) 8 && (Nat.beq (st.take n).length n && k (st.take n).reverse))
  · exact id
  · exact hc _ _ _ _ _ (fun r τ => hX _ _)
theorem m_cI (k : List Value → Bool) (y n nx : Nat) : Mono (i_cI k y n nx) := by
  intro X Y call call' Q Q' hX hc hQ lv st σ h
  revert h; unfold i_cI; cases (Nat.ble (cs (st.drop n)) 8 && (Nat.beq (st.take n).length n && k (st.take n).reverse))
  · exact id
  · exact hc _ _ _ _ _ (fun r τ => hX _ _)
theorem m_cL (k : List Value → Bool) (y n nx : Nat) : Mono (i_cL k y n nx) := by
  intro X Y call call' Q Q' hX hc hQ lv st σ h
  revert h; unfold i_cL; cases (Nat.ble (cs (st.drop n)) 8 && (Nat.beq (st.take n).length n && k (st.take n).reverse))
  · exact id
  · exact hc _ _ _ _ _ (fun r τ => hX _ _)
theorem m_cD (f : Nat → Nat) (n nx : Nat) : Mono (i_cD f n nx) := by
  intro X Y call call' Q Q' hX hc hQ lv st σ h
  revert h; unfold i_cD; cases (Nat.ble (cs (st.drop n)) 8 && (Nat.beq (st.take n).length n && rT (st.take n).reverse))
  · exact id
  · exact hc _ _ _ _ _ (fun r τ => hX _ _)
theorem m_rI : Mono i_rI := by
  intro X Y call call' Q Q' hX hc hQ lv st σ h
  revert h; unfold i_rI; split
  · exact hQ _ _
  · exact id
theorem m_rL : Mono i_rL := by
  intro X Y call call' Q Q' hX hc hQ lv st σ h
  revert h; unfold i_rL; split
  · exact hQ _ _
  · exact id
theorem m_rV : Mono i_rV := by
  intro X Y call call' Q Q' hX hc hQ lv st σ h
  revert h; unfold i_rV; split
  · exact hQ _ _
  · exact id
theorem m_rZ : Mono i_rZ := by
  intro X Y call call' Q Q' hX hc hQ lv st σ h
  revert h; unfold i_rZ; split
  · exact fun h => ⟨h.1, hQ _ _ h.2⟩
  · exact id
theorem n_iconst {mi : MI} {cc : ByteArray} {own : String} {nL : Nat} {rt : Option FieldType} {pc : Nat} {n : Int} {v : Int32} (hd : decode cc pc = .ok (.iconst n, 1)) (hv : Int32.ofInt n = v) : SndI mi cc own nL rt (i_pI v (pc + 1)) pc := by
  refine ⟨m_pI _ _, ?_⟩
  intro p l e R s m args below meth c G t ad d Qc F call hcall Q hQ X hX lv st σ h H locs ls hP hS hl
  obtain ⟨hx, hb, hml, hr, hlocks, hown, hts, hK, hJ, hst, hfr, hlo⟩ := F
  exact lv_iconst hx hb hd hv (hX _ _ h H locs ls hP hS hl)
theorem n_bipush {mi : MI} {cc : ByteArray} {own : String} {nL : Nat} {rt : Option FieldType} {pc : Nat} {n : Int} {v : Int32} (hd : decode cc pc = .ok (.bipush n, 2)) (hv : (Int8.ofInt n).toInt32 = v) : SndI mi cc own nL rt (i_pI v (pc + 2)) pc := by
  refine ⟨m_pI _ _, ?_⟩
  intro p l e R s m args below meth c G t ad d Qc F call hcall Q hQ X hX lv st σ h H locs ls hP hS hl
  obtain ⟨hx, hb, hml, hr, hlocks, hown, hts, hK, hJ, hst, hfr, hlo⟩ := F
  exact lv_bipush hx hb hd hv (hX _ _ h H locs ls hP hS hl)
theorem n_sipush {mi : MI} {cc : ByteArray} {own : String} {nL : Nat} {rt : Option FieldType} {pc : Nat} {n : Int} {v : Int32} (hd : decode cc pc = .ok (.sipush n, 3)) (hv : (Int16.ofInt n).toInt32 = v) : SndI mi cc own nL rt (i_pI v (pc + 3)) pc := by
  refine ⟨m_pI _ _, ?_⟩
  intro p l e R s m args below meth c G t ad d Qc F call hcall Q hQ X hX lv st σ h H locs ls hP hS hl
  obtain ⟨hx, hb, hml, hr, hlocks, hown, hts, hK, hJ, hst, hfr, hlo⟩ := F
  exact lv_sipush hx hb hd hv (hX _ _ h H locs ls hP hS hl)
theorem n_ldc {mi : MI} {cc : ByteArray} {own : String} {nL : Nat} {rt : Option FieldType} {pc : Nat} {i : Nat} {v : Int32} (hd : decode cc pc = .ok (.ldc i, 2)) (hw : Cond.constant own i v ∈ lw_good) : SndI mi cc own nL rt (i_pI v (pc + 2)) pc := by
  refine ⟨m_pI _ _, ?_⟩
  intro p l e R s m args below meth c G t ad d Qc F call hcall Q hQ X hX lv st σ h H locs ls hP hS hl
  obtain ⟨hx, hb, hml, hr, hlocks, hown, hts, hK, hJ, hst, hfr, hlo⟩ := F
  exact lv_ldc hx hb hown (hts _ hw) hd (hX _ _ h H locs ls hP hS hl)
theorem n_ldcw {mi : MI} {cc : ByteArray} {own : String} {nL : Nat} {rt : Option FieldType} {pc : Nat} {i : Nat} {v : Int32} (hd : decode cc pc = .ok (.ldc_w i, 3)) (hw : Cond.constant own i v ∈ lw_good) : SndI mi cc own nL rt (i_pI v (pc + 3)) pc := by
  refine ⟨m_pI _ _, ?_⟩
  intro p l e R s m args below meth c G t ad d Qc F call hcall Q hQ X hX lv st σ h H locs ls hP hS hl
  obtain ⟨hx, hb, hml, hr, hlocks, hown, hts, hK, hJ, hst, hfr, hlo⟩ := F
  exact lv_ldcw hx hb hown (hts _ hw) hd (hX _ _ h H locs ls hP hS hl)
theorem n_ldc2 {mi : MI} {cc : ByteArray} {own : String} {nL : Nat} {rt : Option FieldType} {pc : Nat} {i : Nat} {v : Int64} (hd : decode cc pc = .ok (.ldc2_w i, 3)) (hw : Cond.constantLong own i v ∈ lw_good) : SndI mi cc own nL rt (i_pL v (pc + 3)) pc := by
  refine ⟨m_pL _ _, ?_⟩
  intro p l e R s m args below meth c G t ad d Qc F call hcall Q hQ X hX lv st σ h H locs ls hP hS hl
  obtain ⟨hx, hb, hml, hr, hlocks, hown, hts, hK, hJ, hst, hfr, hlo⟩ := F
  exact lv_ldc2 hx hb hown (hts _ hw) hd (hX _ _ h H locs ls hP hS hl)
theorem n_lconst {mi : MI} {cc : ByteArray} {own : String} {nL : Nat} {rt : Option FieldType} {pc : Nat} {n : Fin 2} {v : Int64} (hd : decode cc pc = .ok (.lconst n, 1)) (hv : Int64.ofNat (n : Nat) = v) : SndI mi cc own nL rt (i_pL v (pc + 1)) pc := by
  refine ⟨m_pL _ _, ?_⟩
  intro p l e R s m args below meth c G t ad d Qc F call hcall Q hQ X hX lv st σ h H locs ls hP hS hl
  obtain ⟨hx, hb, hml, hr, hlocks, hown, hts, hK, hJ, hst, hfr, hlo⟩ := F
  exact lv_lconst hx hb hd hv (hX _ _ h H locs ls hP hS hl)
theorem n_iload_n {mi : MI} {cc : ByteArray} {own : String} {nL : Nat} {rt : Option FieldType} {pc : Nat} {k : Fin 4} {i : Nat} (hd : decode cc pc = .ok (.iload_n k, 1)) (hi : (k : Nat) = i) : SndI mi cc own nL rt (i_lI i (pc + 1)) pc := by
  refine ⟨m_lI _ _, ?_⟩
  intro p l e R s m args below meth c G t ad d Qc F call hcall Q hQ X hX lv st σ h H locs ls hP hS hl
  obtain ⟨hx, hb, hml, hr, hlocks, hown, hts, hK, hJ, hst, hfr, hlo⟩ := F
  unfold i_lI at h
  split at h
  · rename_i v hg
    exact lv_iload_n hx hb hd hi (lget_at hl hg) (hX _ _ h H locs ls hP hS hl)
  · exact h.elim
theorem n_iload {mi : MI} {cc : ByteArray} {own : String} {nL : Nat} {rt : Option FieldType} {pc : Nat} {i : Nat} (hd : decode cc pc = .ok (.iload i, 2)) : SndI mi cc own nL rt (i_lI i (pc + 2)) pc := by
  refine ⟨m_lI _ _, ?_⟩
  intro p l e R s m args below meth c G t ad d Qc F call hcall Q hQ X hX lv st σ h H locs ls hP hS hl
  obtain ⟨hx, hb, hml, hr, hlocks, hown, hts, hK, hJ, hst, hfr, hlo⟩ := F
  unfold i_lI at h
  split at h
  · rename_i v hg
    exact lv_iload hx hb hd (lget_at hl hg) (hX _ _ h H locs ls hP hS hl)
  · exact h.elim
theorem n_lload_n {mi : MI} {cc : ByteArray} {own : String} {nL : Nat} {rt : Option FieldType} {pc : Nat} {k : Fin 4} {i : Nat} (hd : decode cc pc = .ok (.lload_n k, 1)) (hi : (k : Nat) = i) : SndI mi cc own nL rt (i_lL i (pc + 1)) pc := by
  refine ⟨m_lL _ _, ?_⟩
  intro p l e R s m args below meth c G t ad d Qc F call hcall Q hQ X hX lv st σ h H locs ls hP hS hl
  obtain ⟨hx, hb, hml, hr, hlocks, hown, hts, hK, hJ, hst, hfr, hlo⟩ := F
  unfold i_lL at h
  split at h
  · rename_i v hg
    exact lv_lload_n hx hb hd hi (lget_at hl hg) (hX _ _ h H locs ls hP hS hl)
  · exact h.elim
theorem n_lload {mi : MI} {cc : ByteArray} {own : String} {nL : Nat} {rt : Option FieldType} {pc : Nat} {i : Nat} (hd : decode cc pc = .ok (.lload i, 2)) : SndI mi cc own nL rt (i_lL i (pc + 2)) pc := by
  refine ⟨m_lL _ _, ?_⟩
  intro p l e R s m args below meth c G t ad d Qc F call hcall Q hQ X hX lv st σ h H locs ls hP hS hl
  obtain ⟨hx, hb, hml, hr, hlocks, hown, hts, hK, hJ, hst, hfr, hlo⟩ := F
  unfold i_lL at h
  split at h
  · rename_i v hg
    exact lv_lload hx hb hd (lget_at hl hg) (hX _ _ h H locs ls hP hS hl)
  · exact h.elim
theorem n_aload_n {mi : MI} {cc : ByteArray} {own : String} {nL : Nat} {rt : Option FieldType} {pc : Nat} {k : Fin 4} {i : Nat} (hd : decode cc pc = .ok (.aload_n k, 1)) (hi : (k : Nat) = i) : SndI mi cc own nL rt (i_lA i (pc + 1)) pc := by
  refine ⟨m_lA _ _, ?_⟩
  intro p l e R s m args below meth c G t ad d Qc F call hcall Q hQ X hX lv st σ h H locs ls hP hS hl
  obtain ⟨hx, hb, hml, hr, hlocks, hown, hts, hK, hJ, hst, hfr, hlo⟩ := F
  unfold i_lA at h
  split at h
  · rename_i v hg
    exact lv_aload_n hx hb hd hi (lget_at hl hg) (hX _ _ h H locs ls hP hS hl)
  · exact h.elim
theorem n_aload {mi : MI} {cc : ByteArray} {own : String} {nL : Nat} {rt : Option FieldType} {pc : Nat} {i : Nat} (hd : decode cc pc = .ok (.aload i, 2)) : SndI mi cc own nL rt (i_lA i (pc + 2)) pc := by
  refine ⟨m_lA _ _, ?_⟩
  intro p l e R s m args below meth c G t ad d Qc F call hcall Q hQ X hX lv st σ h H locs ls hP hS hl
  obtain ⟨hx, hb, hml, hr, hlocks, hown, hts, hK, hJ, hst, hfr, hlo⟩ := F
  unfold i_lA at h
  split at h
  · rename_i v hg
    exact lv_aload hx hb hd (lget_at hl hg) (hX _ _ h H locs ls hP hS hl)
  · exact h.elim
theorem n_istore_n {mi : MI} {cc : ByteArray} {own : String} {nL : Nat} {rt : Option FieldType} {pc : Nat} {k : Fin 4} {i : Nat} (hd : decode cc pc = .ok (.istore_n k, 1)) (hi : (k : Nat) = i) (hn : i < nL) : SndI mi cc own nL rt (i_sI i (pc + 1)) pc := by
  refine ⟨m_sI _ _, ?_⟩
  intro p l e R s m args below meth c G t ad d Qc F call hcall Q hQ X hX lv st σ h H locs ls hP hS hl
  obtain ⟨hx, hb, hml, hr, hlocks, hown, hts, hK, hJ, hst, hfr, hlo⟩ := F
  unfold i_sI at h
  split at h
  · exact lv_istore_n hx hb hd hi hl hn rfl (fun ls' hl' => hX _ _ h H locs ls' hP hS (lv_1 hl'))
  · exact h.elim
theorem n_istore {mi : MI} {cc : ByteArray} {own : String} {nL : Nat} {rt : Option FieldType} {pc : Nat} {i : Nat} (hd : decode cc pc = .ok (.istore i, 2)) (hn : i < nL) : SndI mi cc own nL rt (i_sI i (pc + 2)) pc := by
  refine ⟨m_sI _ _, ?_⟩
  intro p l e R s m args below meth c G t ad d Qc F call hcall Q hQ X hX lv st σ h H locs ls hP hS hl
  obtain ⟨hx, hb, hml, hr, hlocks, hown, hts, hK, hJ, hst, hfr, hlo⟩ := F
  unfold i_sI at h
  split at h
  · exact lv_istore hx hb hd hl hn rfl (fun ls' hl' => hX _ _ h H locs ls' hP hS (lv_1 hl'))
  · exact h.elim
theorem n_lstore_n {mi : MI} {cc : ByteArray} {own : String} {nL : Nat} {rt : Option FieldType} {pc : Nat} {k : Fin 4} {i : Nat} (hd : decode cc pc = .ok (.lstore_n k, 1)) (hi : (k : Nat) = i) (hn : i + 1 < nL) : SndI mi cc own nL rt (i_sL i (pc + 1)) pc := by
  refine ⟨m_sL _ _, ?_⟩
  intro p l e R s m args below meth c G t ad d Qc F call hcall Q hQ X hX lv st σ h H locs ls hP hS hl
  obtain ⟨hx, hb, hml, hr, hlocks, hown, hts, hK, hJ, hst, hfr, hlo⟩ := F
  unfold i_sL at h
  split at h
  · exact lv_lstore_n hx hb hd hi hl hn rfl (fun ls' hl' => hX _ _ h H locs ls' hP hS (lv_2 hl'))
  · exact h.elim
theorem n_lstore {mi : MI} {cc : ByteArray} {own : String} {nL : Nat} {rt : Option FieldType} {pc : Nat} {i : Nat} (hd : decode cc pc = .ok (.lstore i, 2)) (hn : i + 1 < nL) : SndI mi cc own nL rt (i_sL i (pc + 2)) pc := by
  refine ⟨m_sL _ _, ?_⟩
  intro p l e R s m args below meth c G t ad d Qc F call hcall Q hQ X hX lv st σ h H locs ls hP hS hl
  obtain ⟨hx, hb, hml, hr, hlocks, hown, hts, hK, hJ, hst, hfr, hlo⟩ := F
  unfold i_sL at h
  split at h
  · exact lv_lstore hx hb hd hl hn rfl (fun ls' hl' => hX _ _ h H locs ls' hP hS (lv_2 hl'))
  · exact h.elim
theorem n_astore_n {mi : MI} {cc : ByteArray} {own : String} {nL : Nat} {rt : Option FieldType} {pc : Nat} {k : Fin 4} {i : Nat} (hd : decode cc pc = .ok (.astore_n k, 1)) (hi : (k : Nat) = i) (hn : i < nL) : SndI mi cc own nL rt (i_sA i (pc + 1)) pc := by
  refine ⟨m_sA _ _, ?_⟩
  intro p l e R s m args below meth c G t ad d Qc F call hcall Q hQ X hX lv st σ h H locs ls hP hS hl
  obtain ⟨hx, hb, hml, hr, hlocks, hown, hts, hK, hJ, hst, hfr, hlo⟩ := F
  unfold i_sA at h
  split at h
  · exact lv_astore_n hx hb hd hi hl hn rfl (fun ls' hl' => hX _ _ h H locs ls' hP hS (lv_1 hl'))
  · exact h.elim
theorem n_astore {mi : MI} {cc : ByteArray} {own : String} {nL : Nat} {rt : Option FieldType} {pc : Nat} {i : Nat} (hd : decode cc pc = .ok (.astore i, 2)) (hn : i < nL) : SndI mi cc own nL rt (i_sA i (pc + 2)) pc := by
  refine ⟨m_sA _ _, ?_⟩
  intro p l e R s m args below meth c G t ad d Qc F call hcall Q hQ X hX lv st σ h H locs ls hP hS hl
  obtain ⟨hx, hb, hml, hr, hlocks, hown, hts, hK, hJ, hst, hfr, hlo⟩ := F
  unfold i_sA at h
  split at h
  · exact lv_astore hx hb hd hl hn rfl (fun ls' hl' => hX _ _ h H locs ls' hP hS (lv_1 hl'))
  · exact h.elim
theorem n_iinc {mi : MI} {cc : ByteArray} {own : String} {nL : Nat} {rt : Option FieldType} {pc : Nat} {i : Nat} {n : Int} {v : Int32} (hd : decode cc pc = .ok (.iinc i n, 3)) (hv : Int32.ofInt n = v) (hn : i < nL) : SndI mi cc own nL rt (i_inc i v (pc + 3)) pc := by
  refine ⟨m_inc _ _ _, ?_⟩
  intro p l e R s m args below meth c G t ad d Qc F call hcall Q hQ X hX lv st σ h H locs ls hP hS hl
  obtain ⟨hx, hb, hml, hr, hlocks, hown, hts, hK, hJ, hst, hfr, hlo⟩ := F
  unfold i_inc at h
  split at h
  · rename_i x hg
    obtain ⟨k, hk⟩ := lget_ix hg
    exact lv_iinc hx hb hd hl (k := k) (x := x) (by rw [List.getElem?_map, hk]; rfl) (by rw [hv]) hn rfl (fun ls' hl' => hX _ _ h H locs ls' hP hS (lv_1 hl'))
  · exact h.elim
theorem n_iadd {mi : MI} {cc : ByteArray} {own : String} {nL : Nat} {rt : Option FieldType} {pc : Nat} (hd : decode cc pc = .ok (.iadd, 1)) : SndI mi cc own nL rt (i_b (fun x y => x + y) (pc + 1)) pc := by
  refine ⟨m_b _ _, ?_⟩
  intro p l e R s m args below meth c G t ad d Qc F call hcall Q hQ X hX lv st σ h H locs ls hP hS hl
  obtain ⟨hx, hb, hml, hr, hlocks, hown, hts, hK, hJ, hst, hfr, hlo⟩ := F
  unfold i_b at h
  split at h
  · exact lv_iadd hx hb hd (hX _ _ h H locs ls hP hS hl)
  · exact h.elim
theorem n_isub {mi : MI} {cc : ByteArray} {own : String} {nL : Nat} {rt : Option FieldType} {pc : Nat} (hd : decode cc pc = .ok (.isub, 1)) : SndI mi cc own nL rt (i_b (fun x y => x - y) (pc + 1)) pc := by
  refine ⟨m_b _ _, ?_⟩
  intro p l e R s m args below meth c G t ad d Qc F call hcall Q hQ X hX lv st σ h H locs ls hP hS hl
  obtain ⟨hx, hb, hml, hr, hlocks, hown, hts, hK, hJ, hst, hfr, hlo⟩ := F
  unfold i_b at h
  split at h
  · exact lv_isub hx hb hd (hX _ _ h H locs ls hP hS hl)
  · exact h.elim
theorem n_imul {mi : MI} {cc : ByteArray} {own : String} {nL : Nat} {rt : Option FieldType} {pc : Nat} (hd : decode cc pc = .ok (.imul, 1)) : SndI mi cc own nL rt (i_b (fun x y => x * y) (pc + 1)) pc := by
  refine ⟨m_b _ _, ?_⟩
  intro p l e R s m args below meth c G t ad d Qc F call hcall Q hQ X hX lv st σ h H locs ls hP hS hl
  obtain ⟨hx, hb, hml, hr, hlocks, hown, hts, hK, hJ, hst, hfr, hlo⟩ := F
  unfold i_b at h
  split at h
  · exact lv_imul hx hb hd (hX _ _ h H locs ls hP hS hl)
  · exact h.elim
theorem n_iand {mi : MI} {cc : ByteArray} {own : String} {nL : Nat} {rt : Option FieldType} {pc : Nat} (hd : decode cc pc = .ok (.iand, 1)) : SndI mi cc own nL rt (i_b (fun x y => x &&& y) (pc + 1)) pc := by
  refine ⟨m_b _ _, ?_⟩
  intro p l e R s m args below meth c G t ad d Qc F call hcall Q hQ X hX lv st σ h H locs ls hP hS hl
  obtain ⟨hx, hb, hml, hr, hlocks, hown, hts, hK, hJ, hst, hfr, hlo⟩ := F
  unfold i_b at h
  split at h
  · exact lv_iand hx hb hd (hX _ _ h H locs ls hP hS hl)
  · exact h.elim
theorem n_ior {mi : MI} {cc : ByteArray} {own : String} {nL : Nat} {rt : Option FieldType} {pc : Nat} (hd : decode cc pc = .ok (.ior, 1)) : SndI mi cc own nL rt (i_b (fun x y => x ||| y) (pc + 1)) pc := by
  refine ⟨m_b _ _, ?_⟩
  intro p l e R s m args below meth c G t ad d Qc F call hcall Q hQ X hX lv st σ h H locs ls hP hS hl
  obtain ⟨hx, hb, hml, hr, hlocks, hown, hts, hK, hJ, hst, hfr, hlo⟩ := F
  unfold i_b at h
  split at h
  · exact lv_ior hx hb hd (hX _ _ h H locs ls hP hS hl)
  · exact h.elim
theorem n_ixor {mi : MI} {cc : ByteArray} {own : String} {nL : Nat} {rt : Option FieldType} {pc : Nat} (hd : decode cc pc = .ok (.ixor, 1)) : SndI mi cc own nL rt (i_b (fun x y => x ^^^ y) (pc + 1)) pc := by
  refine ⟨m_b _ _, ?_⟩
  intro p l e R s m args below meth c G t ad d Qc F call hcall Q hQ X hX lv st σ h H locs ls hP hS hl
  obtain ⟨hx, hb, hml, hr, hlocks, hown, hts, hK, hJ, hst, hfr, hlo⟩ := F
  unfold i_b at h
  split at h
  · exact lv_ixor hx hb hd (hX _ _ h H locs ls hP hS hl)
  · exact h.elim
theorem n_ishl {mi : MI} {cc : ByteArray} {own : String} {nL : Nat} {rt : Option FieldType} {pc : Nat} (hd : decode cc pc = .ok (.ishl, 1)) : SndI mi cc own nL rt (i_b (fun x y => x <<< (y &&& 31)) (pc + 1)) pc := by
  refine ⟨m_b _ _, ?_⟩
  intro p l e R s m args below meth c G t ad d Qc F call hcall Q hQ X hX lv st σ h H locs ls hP hS hl
  obtain ⟨hx, hb, hml, hr, hlocks, hown, hts, hK, hJ, hst, hfr, hlo⟩ := F
  unfold i_b at h
  split at h
  · exact lv_ishl hx hb hd (hX _ _ h H locs ls hP hS hl)
  · exact h.elim
theorem n_ishr {mi : MI} {cc : ByteArray} {own : String} {nL : Nat} {rt : Option FieldType} {pc : Nat} (hd : decode cc pc = .ok (.ishr, 1)) : SndI mi cc own nL rt (i_b (fun x y => x >>> (y &&& 31)) (pc + 1)) pc := by
  refine ⟨m_b _ _, ?_⟩
  intro p l e R s m args below meth c G t ad d Qc F call hcall Q hQ X hX lv st σ h H locs ls hP hS hl
  obtain ⟨hx, hb, hml, hr, hlocks, hown, hts, hK, hJ, hst, hfr, hlo⟩ := F
  unfold i_b at h
  split at h
  · exact lv_ishr hx hb hd (hX _ _ h H locs ls hP hS hl)
  · exact h.elim
theorem n_ladd {mi : MI} {cc : ByteArray} {own : String} {nL : Nat} {rt : Option FieldType} {pc : Nat} (hd : decode cc pc = .ok (.ladd, 1)) : SndI mi cc own nL rt (i_bL (fun x y => x + y) (pc + 1)) pc := by
  refine ⟨m_bL _ _, ?_⟩
  intro p l e R s m args below meth c G t ad d Qc F call hcall Q hQ X hX lv st σ h H locs ls hP hS hl
  obtain ⟨hx, hb, hml, hr, hlocks, hown, hts, hK, hJ, hst, hfr, hlo⟩ := F
  unfold i_bL at h
  split at h
  · exact lv_ladd hx hb hd (hX _ _ h H locs ls hP hS hl)
  · exact h.elim
theorem n_lsub {mi : MI} {cc : ByteArray} {own : String} {nL : Nat} {rt : Option FieldType} {pc : Nat} (hd : decode cc pc = .ok (.lsub, 1)) : SndI mi cc own nL rt (i_bL (fun x y => x - y) (pc + 1)) pc := by
  refine ⟨m_bL _ _, ?_⟩
  intro p l e R s m args below meth c G t ad d Qc F call hcall Q hQ X hX lv st σ h H locs ls hP hS hl
  obtain ⟨hx, hb, hml, hr, hlocks, hown, hts, hK, hJ, hst, hfr, hlo⟩ := F
  unfold i_bL at h
  split at h
  · exact lv_lsub hx hb hd (hX _ _ h H locs ls hP hS hl)
  · exact h.elim
theorem n_lmul {mi : MI} {cc : ByteArray} {own : String} {nL : Nat} {rt : Option FieldType} {pc : Nat} (hd : decode cc pc = .ok (.lmul, 1)) : SndI mi cc own nL rt (i_bL (fun x y => x * y) (pc + 1)) pc := by
  refine ⟨m_bL _ _, ?_⟩
  intro p l e R s m args below meth c G t ad d Qc F call hcall Q hQ X hX lv st σ h H locs ls hP hS hl
  obtain ⟨hx, hb, hml, hr, hlocks, hown, hts, hK, hJ, hst, hfr, hlo⟩ := F
  unfold i_bL at h
  split at h
  · exact lv_lmul hx hb hd (hX _ _ h H locs ls hP hS hl)
  · exact h.elim
theorem n_land {mi : MI} {cc : ByteArray} {own : String} {nL : Nat} {rt : Option FieldType} {pc : Nat} (hd : decode cc pc = .ok (.land, 1)) : SndI mi cc own nL rt (i_bL (fun x y => x &&& y) (pc + 1)) pc := by
  refine ⟨m_bL _ _, ?_⟩
  intro p l e R s m args below meth c G t ad d Qc F call hcall Q hQ X hX lv st σ h H locs ls hP hS hl
  obtain ⟨hx, hb, hml, hr, hlocks, hown, hts, hK, hJ, hst, hfr, hlo⟩ := F
  unfold i_bL at h
  split at h
  · exact lv_land hx hb hd (hX _ _ h H locs ls hP hS hl)
  · exact h.elim
theorem n_lor {mi : MI} {cc : ByteArray} {own : String} {nL : Nat} {rt : Option FieldType} {pc : Nat} (hd : decode cc pc = .ok (.lor, 1)) : SndI mi cc own nL rt (i_bL (fun x y => x ||| y) (pc + 1)) pc := by
  refine ⟨m_bL _ _, ?_⟩
  intro p l e R s m args below meth c G t ad d Qc F call hcall Q hQ X hX lv st σ h H locs ls hP hS hl
  obtain ⟨hx, hb, hml, hr, hlocks, hown, hts, hK, hJ, hst, hfr, hlo⟩ := F
  unfold i_bL at h
  split at h
  · exact lv_lor hx hb hd (hX _ _ h H locs ls hP hS hl)
  · exact h.elim
theorem n_lxor {mi : MI} {cc : ByteArray} {own : String} {nL : Nat} {rt : Option FieldType} {pc : Nat} (hd : decode cc pc = .ok (.lxor, 1)) : SndI mi cc own nL rt (i_bL (fun x y => x ^^^ y) (pc + 1)) pc := by
  refine ⟨m_bL _ _, ?_⟩
  intro p l e R s m args below meth c G t ad d Qc F call hcall Q hQ X hX lv st σ h H locs ls hP hS hl
  obtain ⟨hx, hb, hml, hr, hlocks, hown, hts, hK, hJ, hst, hfr, hlo⟩ := F
  unfold i_bL at h
  split at h
  · exact lv_lxor hx hb hd (hX _ _ h H locs ls hP hS hl)
  · exact h.elim
theorem n_idiv {mi : MI} {cc : ByteArray} {own : String} {nL : Nat} {rt : Option FieldType} {pc : Nat} (hd : decode cc pc = .ok (.idiv, 1)) : SndI mi cc own nL rt (i_div (pc + 1)) pc := by
  refine ⟨m_div _, ?_⟩
  intro p l e R s m args below meth c G t ad d Qc F call hcall Q hQ X hX lv st σ h H locs ls hP hS hl
  obtain ⟨hx, hb, hml, hr, hlocks, hown, hts, hK, hJ, hst, hfr, hlo⟩ := F
  unfold i_div at h
  split at h
  · exact lv_idiv hx hb hd h.1 (hX _ _ h.2 H locs ls hP hS hl)
  · exact h.elim
theorem n_irem {mi : MI} {cc : ByteArray} {own : String} {nL : Nat} {rt : Option FieldType} {pc : Nat} (hd : decode cc pc = .ok (.irem, 1)) : SndI mi cc own nL rt (i_rem (pc + 1)) pc := by
  refine ⟨m_rem _, ?_⟩
  intro p l e R s m args below meth c G t ad d Qc F call hcall Q hQ X hX lv st σ h H locs ls hP hS hl
  obtain ⟨hx, hb, hml, hr, hlocks, hown, hts, hK, hJ, hst, hfr, hlo⟩ := F
  unfold i_rem at h
  split at h
  · exact lv_irem hx hb hd h.1 (hX _ _ h.2 H locs ls hP hS hl)
  · exact h.elim
theorem n_ldiv {mi : MI} {cc : ByteArray} {own : String} {nL : Nat} {rt : Option FieldType} {pc : Nat} (hd : decode cc pc = .ok (.ldiv, 1)) : SndI mi cc own nL rt (i_ldiv (pc + 1)) pc := by
  refine ⟨m_ldiv _, ?_⟩
  intro p l e R s m args below meth c G t ad d Qc F call hcall Q hQ X hX lv st σ h H locs ls hP hS hl
  obtain ⟨hx, hb, hml, hr, hlocks, hown, hts, hK, hJ, hst, hfr, hlo⟩ := F
  unfold i_ldiv at h
  split at h
  · exact lv_ldiv hx hb hd h.1 (hX _ _ h.2 H locs ls hP hS hl)
  · exact h.elim
theorem n_ineg {mi : MI} {cc : ByteArray} {own : String} {nL : Nat} {rt : Option FieldType} {pc : Nat} (hd : decode cc pc = .ok (.ineg, 1)) : SndI mi cc own nL rt (i_u (fun x => -x) (pc + 1)) pc := by
  refine ⟨m_u _ _, ?_⟩
  intro p l e R s m args below meth c G t ad d Qc F call hcall Q hQ X hX lv st σ h H locs ls hP hS hl
  obtain ⟨hx, hb, hml, hr, hlocks, hown, hts, hK, hJ, hst, hfr, hlo⟩ := F
  unfold i_u at h
  split at h
  · exact lv_ineg hx hb hd (hX _ _ h H locs ls hP hS hl)
  · exact h.elim
theorem n_i2b {mi : MI} {cc : ByteArray} {own : String} {nL : Nat} {rt : Option FieldType} {pc : Nat} (hd : decode cc pc = .ok (.i2b, 1)) : SndI mi cc own nL rt (i_u (fun x => x.toInt8.toInt32) (pc + 1)) pc := by
  refine ⟨m_u _ _, ?_⟩
  intro p l e R s m args below meth c G t ad d Qc F call hcall Q hQ X hX lv st σ h H locs ls hP hS hl
  obtain ⟨hx, hb, hml, hr, hlocks, hown, hts, hK, hJ, hst, hfr, hlo⟩ := F
  unfold i_u at h
  split at h
  · exact lv_i2b hx hb hd rfl (hX _ _ h H locs ls hP hS hl)
  · exact h.elim
theorem n_i2s {mi : MI} {cc : ByteArray} {own : String} {nL : Nat} {rt : Option FieldType} {pc : Nat} (hd : decode cc pc = .ok (.i2s, 1)) : SndI mi cc own nL rt (i_u (fun x => x.toInt16.toInt32) (pc + 1)) pc := by
  refine ⟨m_u _ _, ?_⟩
  intro p l e R s m args below meth c G t ad d Qc F call hcall Q hQ X hX lv st σ h H locs ls hP hS hl
  obtain ⟨hx, hb, hml, hr, hlocks, hown, hts, hK, hJ, hst, hfr, hlo⟩ := F
  unfold i_u at h
  split at h
  · exact lv_i2s hx hb hd rfl (hX _ _ h H locs ls hP hS hl)
  · exact h.elim
theorem n_lneg {mi : MI} {cc : ByteArray} {own : String} {nL : Nat} {rt : Option FieldType} {pc : Nat} (hd : decode cc pc = .ok (.lneg, 1)) : SndI mi cc own nL rt (i_uL (fun x => -x) (pc + 1)) pc := by
  refine ⟨m_uL _ _, ?_⟩
  intro p l e R s m args below meth c G t ad d Qc F call hcall Q hQ X hX lv st σ h H locs ls hP hS hl
  obtain ⟨hx, hb, hml, hr, hlocks, hown, hts, hK, hJ, hst, hfr, hlo⟩ := F
  unfold i_uL at h
  split at h
  · exact lv_lneg hx hb hd (hX _ _ h H locs ls hP hS hl)
  · exact h.elim
theorem n_i2l {mi : MI} {cc : ByteArray} {own : String} {nL : Nat} {rt : Option FieldType} {pc : Nat} (hd : decode cc pc = .ok (.i2l, 1)) : SndI mi cc own nL rt (i_i2l (pc + 1)) pc := by
  refine ⟨m_i2l _, ?_⟩
  intro p l e R s m args below meth c G t ad d Qc F call hcall Q hQ X hX lv st σ h H locs ls hP hS hl
  obtain ⟨hx, hb, hml, hr, hlocks, hown, hts, hK, hJ, hst, hfr, hlo⟩ := F
  unfold i_i2l at h
  split at h
  · exact lv_i2l hx hb hd rfl (hX _ _ h H locs ls hP hS hl)
  · exact h.elim
theorem n_l2i {mi : MI} {cc : ByteArray} {own : String} {nL : Nat} {rt : Option FieldType} {pc : Nat} (hd : decode cc pc = .ok (.l2i, 1)) : SndI mi cc own nL rt (i_l2i (pc + 1)) pc := by
  refine ⟨m_l2i _, ?_⟩
  intro p l e R s m args below meth c G t ad d Qc F call hcall Q hQ X hX lv st σ h H locs ls hP hS hl
  obtain ⟨hx, hb, hml, hr, hlocks, hown, hts, hK, hJ, hst, hfr, hlo⟩ := F
  unfold i_l2i at h
  split at h
  · exact lv_l2i hx hb hd rfl (hX _ _ h H locs ls hP hS hl)
  · exact h.elim
theorem n_lushr {mi : MI} {cc : ByteArray} {own : String} {nL : Nat} {rt : Option FieldType} {pc : Nat} (hd : decode cc pc = .ok (.lushr, 1)) : SndI mi cc own nL rt (i_lsh (fun x y => (x.toUInt64 >>> (y.toInt64.toUInt64 &&& Int64.toUInt64 63)).toInt64) (pc + 1)) pc := by
  refine ⟨m_lsh _ _, ?_⟩
  intro p l e R s m args below meth c G t ad d Qc F call hcall Q hQ X hX lv st σ h H locs ls hP hS hl
  obtain ⟨hx, hb, hml, hr, hlocks, hown, hts, hK, hJ, hst, hfr, hlo⟩ := F
  unfold i_lsh at h
  split at h
  · exact lv_lushr hx hb hd rfl (hX _ _ h H locs ls hP hS hl)
  · exact h.elim
theorem n_lshl {mi : MI} {cc : ByteArray} {own : String} {nL : Nat} {rt : Option FieldType} {pc : Nat} (hd : decode cc pc = .ok (.lshl, 1)) : SndI mi cc own nL rt (i_lsh (fun x y => x <<< (y.toInt64 &&& 63)) (pc + 1)) pc := by
  refine ⟨m_lsh _ _, ?_⟩
  intro p l e R s m args below meth c G t ad d Qc F call hcall Q hQ X hX lv st σ h H locs ls hP hS hl
  obtain ⟨hx, hb, hml, hr, hlocks, hown, hts, hK, hJ, hst, hfr, hlo⟩ := F
  unfold i_lsh at h
  split at h
  · exact lv_lshl hx hb hd rfl (hX _ _ h H locs ls hP hS hl)
  · exact h.elim
theorem n_lshr {mi : MI} {cc : ByteArray} {own : String} {nL : Nat} {rt : Option FieldType} {pc : Nat} (hd : decode cc pc = .ok (.lshr, 1)) : SndI mi cc own nL rt (i_lsh (fun x y => x >>> (y.toInt64 &&& 63)) (pc + 1)) pc := by
  refine ⟨m_lsh _ _, ?_⟩
  intro p l e R s m args below meth c G t ad d Qc F call hcall Q hQ X hX lv st σ h H locs ls hP hS hl
  obtain ⟨hx, hb, hml, hr, hlocks, hown, hts, hK, hJ, hst, hfr, hlo⟩ := F
  unfold i_lsh at h
  split at h
  · exact lv_lshr hx hb hd rfl (hX _ _ h H locs ls hP hS hl)
  · exact h.elim
theorem n_lcmp {mi : MI} {cc : ByteArray} {own : String} {nL : Nat} {rt : Option FieldType} {pc : Nat} (hd : decode cc pc = .ok (.lcmp, 1)) : SndI mi cc own nL rt (i_lcmp (pc + 1)) pc := by
  refine ⟨m_lcmp _, ?_⟩
  intro p l e R s m args below meth c G t ad d Qc F call hcall Q hQ X hX lv st σ h H locs ls hP hS hl
  obtain ⟨hx, hb, hml, hr, hlocks, hown, hts, hK, hJ, hst, hfr, hlo⟩ := F
  unfold i_lcmp at h
  split at h
  · exact W.lcmp hx hb hd (hX _ _ h H locs ls hP hS hl)
  · exact h.elim
theorem n_dup {mi : MI} {cc : ByteArray} {own : String} {nL : Nat} {rt : Option FieldType} {pc : Nat} (hd : decode cc pc = .ok (.dup, 1)) : SndI mi cc own nL rt (i_dup (pc + 1)) pc := by
  refine ⟨m_dup _, ?_⟩
  intro p l e R s m args below meth c G t ad d Qc F call hcall Q hQ X hX lv st σ h H locs ls hP hS hl
  obtain ⟨hx, hb, hml, hr, hlocks, hown, hts, hK, hJ, hst, hfr, hlo⟩ := F
  unfold i_dup at h
  split at h
  · exact lv_dup hx hb hd rfl (hX _ _ h H locs ls hP hS hl)
  · exact lv_dup hx hb hd rfl (hX _ _ h H locs ls hP hS hl)
  · exact h.elim
theorem n_dup2 {mi : MI} {cc : ByteArray} {own : String} {nL : Nat} {rt : Option FieldType} {pc : Nat} (hd : decode cc pc = .ok (.dup2, 1)) : SndI mi cc own nL rt (i_dup2 (pc + 1)) pc := by
  refine ⟨m_dup2 _, ?_⟩
  intro p l e R s m args below meth c G t ad d Qc F call hcall Q hQ X hX lv st σ h H locs ls hP hS hl
  obtain ⟨hx, hb, hml, hr, hlocks, hown, hts, hK, hJ, hst, hfr, hlo⟩ := F
  unfold i_dup2 at h
  split at h
  · exact lv_dup2_11 hx hb hd rfl rfl (hX _ _ h H locs ls hP hS hl)
  · exact h.elim
theorem n_pop {mi : MI} {cc : ByteArray} {own : String} {nL : Nat} {rt : Option FieldType} {pc : Nat} (hd : decode cc pc = .ok (.pop, 1)) : SndI mi cc own nL rt (i_pop (pc + 1)) pc := by
  refine ⟨m_pop _, ?_⟩
  intro p l e R s m args below meth c G t ad d Qc F call hcall Q hQ X hX lv st σ h H locs ls hP hS hl
  obtain ⟨hx, hb, hml, hr, hlocks, hown, hts, hK, hJ, hst, hfr, hlo⟩ := F
  unfold i_pop at h
  split at h
  · exact lv_pop hx hb hd rfl (hX _ _ h H locs ls hP hS hl)
  · exact h.elim
theorem n_ifeq {mi : MI} {cc : ByteArray} {own : String} {nL : Nat} {rt : Option FieldType} {pc : Nat} {off : Int} {tgt : Nat} (hd : decode cc pc = .ok (.ifCond .eq off, 3)) (ht : (pc : Int) + off = (tgt : Int)) : SndI mi cc own nL rt (i_eq tgt (pc + 3)) pc := by
  refine ⟨m_eq _ _, ?_⟩
  intro p l e R s m args below meth c G t ad d Qc F call hcall Q hQ X hX lv st σ h H locs ls hP hS hl
  obtain ⟨hx, hb, hml, hr, hlocks, hown, hts, hK, hJ, hst, hfr, hlo⟩ := F
  unfold i_eq at h
  split at h
  · exact lv_if_eq hx hb hd ht (fun q => by rw [if_pos q] at h; exact hX _ _ h H locs ls hP hS hl) (fun q => by rw [if_neg q] at h; exact hX _ _ h H locs ls hP hS hl)
  · exact h.elim
theorem n_ifceq {mi : MI} {cc : ByteArray} {own : String} {nL : Nat} {rt : Option FieldType} {pc : Nat} {off : Int} {tgt : Nat} (hd : decode cc pc = .ok (.if_icmp .eq off, 3)) (ht : (pc : Int) + off = (tgt : Int)) : SndI mi cc own nL rt (i_ceq tgt (pc + 3)) pc := by
  refine ⟨m_ceq _ _, ?_⟩
  intro p l e R s m args below meth c G t ad d Qc F call hcall Q hQ X hX lv st σ h H locs ls hP hS hl
  obtain ⟨hx, hb, hml, hr, hlocks, hown, hts, hK, hJ, hst, hfr, hlo⟩ := F
  unfold i_ceq at h
  split at h
  · exact lv_icmp_eq hx hb hd ht (fun q => by rw [if_pos q] at h; exact hX _ _ h H locs ls hP hS hl) (fun q => by rw [if_neg q] at h; exact hX _ _ h H locs ls hP hS hl)
  · exact h.elim
theorem n_ifne {mi : MI} {cc : ByteArray} {own : String} {nL : Nat} {rt : Option FieldType} {pc : Nat} {off : Int} {tgt : Nat} (hd : decode cc pc = .ok (.ifCond .ne off, 3)) (ht : (pc : Int) + off = (tgt : Int)) : SndI mi cc own nL rt (i_ne tgt (pc + 3)) pc := by
  refine ⟨m_ne _ _, ?_⟩
  intro p l e R s m args below meth c G t ad d Qc F call hcall Q hQ X hX lv st σ h H locs ls hP hS hl
  obtain ⟨hx, hb, hml, hr, hlocks, hown, hts, hK, hJ, hst, hfr, hlo⟩ := F
  unfold i_ne at h
  split at h
  · exact lv_if_ne hx hb hd ht (fun q => by rw [if_neg q] at h; exact hX _ _ h H locs ls hP hS hl) (fun q => by rw [if_pos q] at h; exact hX _ _ h H locs ls hP hS hl)
  · exact h.elim
theorem n_ifcne {mi : MI} {cc : ByteArray} {own : String} {nL : Nat} {rt : Option FieldType} {pc : Nat} {off : Int} {tgt : Nat} (hd : decode cc pc = .ok (.if_icmp .ne off, 3)) (ht : (pc : Int) + off = (tgt : Int)) : SndI mi cc own nL rt (i_cne tgt (pc + 3)) pc := by
  refine ⟨m_cne _ _, ?_⟩
  intro p l e R s m args below meth c G t ad d Qc F call hcall Q hQ X hX lv st σ h H locs ls hP hS hl
  obtain ⟨hx, hb, hml, hr, hlocks, hown, hts, hK, hJ, hst, hfr, hlo⟩ := F
  unfold i_cne at h
  split at h
  · exact lv_icmp_ne hx hb hd ht (fun q => by rw [if_neg q] at h; exact hX _ _ h H locs ls hP hS hl) (fun q => by rw [if_pos q] at h; exact hX _ _ h H locs ls hP hS hl)
  · exact h.elim
theorem n_iflt {mi : MI} {cc : ByteArray} {own : String} {nL : Nat} {rt : Option FieldType} {pc : Nat} {off : Int} {tgt : Nat} (hd : decode cc pc = .ok (.ifCond .lt off, 3)) (ht : (pc : Int) + off = (tgt : Int)) : SndI mi cc own nL rt (i_lt tgt (pc + 3)) pc := by
  refine ⟨m_lt _ _, ?_⟩
  intro p l e R s m args below meth c G t ad d Qc F call hcall Q hQ X hX lv st σ h H locs ls hP hS hl
  obtain ⟨hx, hb, hml, hr, hlocks, hown, hts, hK, hJ, hst, hfr, hlo⟩ := F
  unfold i_lt at h
  split at h
  · exact lv_if_lt hx hb hd ht (fun q => by rw [if_pos q] at h; exact hX _ _ h H locs ls hP hS hl) (fun q => by rw [if_neg q] at h; exact hX _ _ h H locs ls hP hS hl)
  · exact h.elim
theorem n_ifclt {mi : MI} {cc : ByteArray} {own : String} {nL : Nat} {rt : Option FieldType} {pc : Nat} {off : Int} {tgt : Nat} (hd : decode cc pc = .ok (.if_icmp .lt off, 3)) (ht : (pc : Int) + off = (tgt : Int)) : SndI mi cc own nL rt (i_clt tgt (pc + 3)) pc := by
  refine ⟨m_clt _ _, ?_⟩
  intro p l e R s m args below meth c G t ad d Qc F call hcall Q hQ X hX lv st σ h H locs ls hP hS hl
  obtain ⟨hx, hb, hml, hr, hlocks, hown, hts, hK, hJ, hst, hfr, hlo⟩ := F
  unfold i_clt at h
  split at h
  · exact lv_icmp_lt hx hb hd ht (fun q => by rw [if_pos q] at h; exact hX _ _ h H locs ls hP hS hl) (fun q => by rw [if_neg q] at h; exact hX _ _ h H locs ls hP hS hl)
  · exact h.elim
theorem n_ifge {mi : MI} {cc : ByteArray} {own : String} {nL : Nat} {rt : Option FieldType} {pc : Nat} {off : Int} {tgt : Nat} (hd : decode cc pc = .ok (.ifCond .ge off, 3)) (ht : (pc : Int) + off = (tgt : Int)) : SndI mi cc own nL rt (i_ge tgt (pc + 3)) pc := by
  refine ⟨m_ge _ _, ?_⟩
  intro p l e R s m args below meth c G t ad d Qc F call hcall Q hQ X hX lv st σ h H locs ls hP hS hl
  obtain ⟨hx, hb, hml, hr, hlocks, hown, hts, hK, hJ, hst, hfr, hlo⟩ := F
  unfold i_ge at h
  split at h
  · exact lv_if_ge hx hb hd ht (fun q => by rw [if_pos q] at h; exact hX _ _ h H locs ls hP hS hl) (fun q => by rw [if_neg q] at h; exact hX _ _ h H locs ls hP hS hl)
  · exact h.elim
theorem n_ifcge {mi : MI} {cc : ByteArray} {own : String} {nL : Nat} {rt : Option FieldType} {pc : Nat} {off : Int} {tgt : Nat} (hd : decode cc pc = .ok (.if_icmp .ge off, 3)) (ht : (pc : Int) + off = (tgt : Int)) : SndI mi cc own nL rt (i_cge tgt (pc + 3)) pc := by
  refine ⟨m_cge _ _, ?_⟩
  intro p l e R s m args below meth c G t ad d Qc F call hcall Q hQ X hX lv st σ h H locs ls hP hS hl
  obtain ⟨hx, hb, hml, hr, hlocks, hown, hts, hK, hJ, hst, hfr, hlo⟩ := F
  unfold i_cge at h
  split at h
  · exact lv_icmp_ge hx hb hd ht (fun q => by rw [if_pos q] at h; exact hX _ _ h H locs ls hP hS hl) (fun q => by rw [if_neg q] at h; exact hX _ _ h H locs ls hP hS hl)
  · exact h.elim
theorem n_ifgt {mi : MI} {cc : ByteArray} {own : String} {nL : Nat} {rt : Option FieldType} {pc : Nat} {off : Int} {tgt : Nat} (hd : decode cc pc = .ok (.ifCond .gt off, 3)) (ht : (pc : Int) + off = (tgt : Int)) : SndI mi cc own nL rt (i_gt tgt (pc + 3)) pc := by
  refine ⟨m_gt _ _, ?_⟩
  intro p l e R s m args below meth c G t ad d Qc F call hcall Q hQ X hX lv st σ h H locs ls hP hS hl
  obtain ⟨hx, hb, hml, hr, hlocks, hown, hts, hK, hJ, hst, hfr, hlo⟩ := F
  unfold i_gt at h
  split at h
  · exact lv_if_gt hx hb hd ht (fun q => by rw [if_pos q] at h; exact hX _ _ h H locs ls hP hS hl) (fun q => by rw [if_neg q] at h; exact hX _ _ h H locs ls hP hS hl)
  · exact h.elim
theorem n_ifcgt {mi : MI} {cc : ByteArray} {own : String} {nL : Nat} {rt : Option FieldType} {pc : Nat} {off : Int} {tgt : Nat} (hd : decode cc pc = .ok (.if_icmp .gt off, 3)) (ht : (pc : Int) + off = (tgt : Int)) : SndI mi cc own nL rt (i_cgt tgt (pc + 3)) pc := by
  refine ⟨m_cgt _ _, ?_⟩
  intro p l e R s m args below meth c G t ad d Qc F call hcall Q hQ X hX lv st σ h H locs ls hP hS hl
  obtain ⟨hx, hb, hml, hr, hlocks, hown, hts, hK, hJ, hst, hfr, hlo⟩ := F
  unfold i_cgt at h
  split at h
  · exact lv_icmp_gt hx hb hd ht (fun q => by rw [if_pos q] at h; exact hX _ _ h H locs ls hP hS hl) (fun q => by rw [if_neg q] at h; exact hX _ _ h H locs ls hP hS hl)
  · exact h.elim
theorem n_ifle {mi : MI} {cc : ByteArray} {own : String} {nL : Nat} {rt : Option FieldType} {pc : Nat} {off : Int} {tgt : Nat} (hd : decode cc pc = .ok (.ifCond .le off, 3)) (ht : (pc : Int) + off = (tgt : Int)) : SndI mi cc own nL rt (i_le tgt (pc + 3)) pc := by
  refine ⟨m_le _ _, ?_⟩
  intro p l e R s m args below meth c G t ad d Qc F call hcall Q hQ X hX lv st σ h H locs ls hP hS hl
  obtain ⟨hx, hb, hml, hr, hlocks, hown, hts, hK, hJ, hst, hfr, hlo⟩ := F
  unfold i_le at h
  split at h
  · exact lv_if_le hx hb hd ht (fun q => by rw [if_pos q] at h; exact hX _ _ h H locs ls hP hS hl) (fun q => by rw [if_neg q] at h; exact hX _ _ h H locs ls hP hS hl)
  · exact h.elim
theorem n_ifcle {mi : MI} {cc : ByteArray} {own : String} {nL : Nat} {rt : Option FieldType} {pc : Nat} {off : Int} {tgt : Nat} (hd : decode cc pc = .ok (.if_icmp .le off, 3)) (ht : (pc : Int) + off = (tgt : Int)) : SndI mi cc own nL rt (i_cle tgt (pc + 3)) pc := by
  refine ⟨m_cle _ _, ?_⟩
  intro p l e R s m args below meth c G t ad d Qc F call hcall Q hQ X hX lv st σ h H locs ls hP hS hl
  obtain ⟨hx, hb, hml, hr, hlocks, hown, hts, hK, hJ, hst, hfr, hlo⟩ := F
  unfold i_cle at h
  split at h
  · exact lv_icmp_le hx hb hd ht (fun q => by rw [if_pos q] at h; exact hX _ _ h H locs ls hP hS hl) (fun q => by rw [if_neg q] at h; exact hX _ _ h H locs ls hP hS hl)
  · exact h.elim
theorem n_goto {mi : MI} {cc : ByteArray} {own : String} {nL : Nat} {rt : Option FieldType} {pc : Nat} {off : Int} {tgt : Nat} (hd : decode cc pc = .ok (.goto off, 3)) (ht : (pc : Int) + off = (tgt : Int)) : SndI mi cc own nL rt (i_go tgt) pc := by
  refine ⟨m_go _, ?_⟩
  intro p l e R s m args below meth c G t ad d Qc F call hcall Q hQ X hX lv st σ h H locs ls hP hS hl
  obtain ⟨hx, hb, hml, hr, hlocks, hown, hts, hK, hJ, hst, hfr, hlo⟩ := F
  exact lv_goto hx hb hd ht (hX _ _ h H locs ls hP hS hl)
end
section
/-! ===== rows over the heap ===== -/
theorem n_gI {mi : MI} {cc : ByteArray} {own : String} {nL : Nat} {rt : Option FieldType} {pc : Nat} {C : String} {T : u_T} {ci k i : Nat} (hd : decode cc pc = .ok (.getfield i, 3)) (hc : cls[ci]? = some (C, T, nf ci)) (hin : ∀ w ∈ u_ws C T (nf ci), w ∈ lw_good) (h13 : Nat.ble 13 ci = false) (hk : k < nf ci) (hf : ft ci k = 0) (hw : Cond.fieldLink own i (T k).1 (T k).2.1 (T k).2.2.1 ∈ lw_good) : SndI mi cc own nL rt (i_gI ci k (pc + 3)) pc := by
  refine ⟨m_gI _ _ _, ?_⟩
  intro p l e R s m args below meth c G t ad d Qc F call hcall Q hQ X hX lv st σ h H locs ls hP hS hl
  obtain ⟨hx, hb, hml, hr, hlocks, hown, hts, hK, hJ, hst, hfr, hlo⟩ := F
  unfold i_gI at h
  split at h
  · rename_i q st'
    cases hq : Nat.beq (kd q) ci with
    | false => rw [hq] at h; exact h.elim
    | true =>
      rw [hq] at h
      have hlt : q < 128 := kd_lt hq (by cases h9 : Nat.beq ci 99 with | false => rfl | true => rw [Nat.eq_of_beq_eq_true h9] at h13; cases h13)
      refine va_get (D := G) (ci := ci) (C := C) (T := T) (N := nf ci) hx hb hts hin hown hK hP q (by rw [ws_get hlt, cel_o hq h13]) hc k hk (hts _ hw) (fun _ h9 => h9) (v := .int (σ.1 q k)) (by rw [fs_get hk]; unfold fv; rw [hf]) hd ?_
      exact hX _ _ h H locs ls hP hS hl
  · exact h.elim
theorem n_gL {mi : MI} {cc : ByteArray} {own : String} {nL : Nat} {rt : Option FieldType} {pc : Nat} {C : String} {T : u_T} {ci k i : Nat} (hd : decode cc pc = .ok (.getfield i, 3)) (hc : cls[ci]? = some (C, T, nf ci)) (hin : ∀ w ∈ u_ws C T (nf ci), w ∈ lw_good) (h13 : Nat.ble 13 ci = false) (hk : k < nf ci) (hf : ft ci k = 1) (hw : Cond.fieldLink own i (T k).1 (T k).2.1 (T k).2.2.1 ∈ lw_good) : SndI mi cc own nL rt (i_gL ci k (pc + 3)) pc := by
  refine ⟨m_gL _ _ _, ?_⟩
  intro p l e R s m args below meth c G t ad d Qc F call hcall Q hQ X hX lv st σ h H locs ls hP hS hl
  obtain ⟨hx, hb, hml, hr, hlocks, hown, hts, hK, hJ, hst, hfr, hlo⟩ := F
  unfold i_gL at h
  split at h
  · rename_i q st'
    cases hq : Nat.beq (kd q) ci with
    | false => rw [hq] at h; exact h.elim
    | true =>
      rw [hq] at h
      have hlt : q < 128 := kd_lt hq (by cases h9 : Nat.beq ci 99 with | false => rfl | true => rw [Nat.eq_of_beq_eq_true h9] at h13; cases h13)
      refine va_get (D := G) (ci := ci) (C := C) (T := T) (N := nf ci) hx hb hts hin hown hK hP q (by rw [ws_get hlt, cel_o hq h13]) hc k hk (hts _ hw) (fun _ h9 => h9) (v := .long (σ.2 q k)) (by rw [fs_get hk]; unfold fv; rw [hf]) hd ?_
      exact hX _ _ h H locs ls hP hS hl
  · exact h.elim
theorem n_gA {mi : MI} {cc : ByteArray} {own : String} {nL : Nat} {rt : Option FieldType} {pc : Nat} {C : String} {T : u_T} {ci k i o : Nat} (hd : decode cc pc = .ok (.getfield i, 3)) (hc : cls[ci]? = some (C, T, nf ci)) (hin : ∀ w ∈ u_ws C T (nf ci), w ∈ lw_good) (h13 : Nat.ble 13 ci = false) (hk : k < nf ci) (hf : ft ci k = o + 2) (hw : Cond.fieldLink own i (T k).1 (T k).2.1 (T k).2.2.1 ∈ lw_good) : SndI mi cc own nL rt (i_gA ci k o (pc + 3)) pc := by
  refine ⟨m_gA _ _ _ _, ?_⟩
  intro p l e R s m args below meth c G t ad d Qc F call hcall Q hQ X hX lv st σ h H locs ls hP hS hl
  obtain ⟨hx, hb, hml, hr, hlocks, hown, hts, hK, hJ, hst, hfr, hlo⟩ := F
  unfold i_gA at h
  split at h
  · rename_i q st'
    cases hq : Nat.beq (kd q) ci with
    | false => rw [hq] at h; exact h.elim
    | true =>
      rw [hq] at h
      have hlt : q < 128 := kd_lt hq (by cases h9 : Nat.beq ci 99 with | false => rfl | true => rw [Nat.eq_of_beq_eq_true h9] at h13; cases h13)
      refine va_get (D := G) (ci := ci) (C := C) (T := T) (N := nf ci) hx hb hts hin hown hK hP q (by rw [ws_get hlt, cel_o hq h13]) hc k hk (hts _ hw) (fun _ h9 => h9) (v := .ref (ad (q + o))) (by rw [fs_get hk]; unfold fv; rw [hf]) hd ?_
      exact hX _ _ h H locs ls hP hS hl
  · exact h.elim
theorem n_fI {mi : MI} {cc : ByteArray} {own : String} {nL : Nat} {rt : Option FieldType} {pc : Nat} {C : String} {T : u_T} {ci k i : Nat} (hd : decode cc pc = .ok (.putfield i, 3)) (hc : cls[ci]? = some (C, T, nf ci)) (hin : ∀ w ∈ u_ws C T (nf ci), w ∈ lw_good) (h13 : Nat.ble 13 ci = false) (ty0 : Nat → FieldType) (hty : ∀ k, k < nf ci → parseFieldDescriptor (T k).2.2.1 = some (ty0 k)) (hnm : ∀ a, a < nf ci → ∀ b, b < nf ci → a ≠ b → (T a).2.1 ≠ (T b).2.1) (hk : k < nf ci) (hf : ft ci k = 0) (hw : Cond.fieldLink own i (T k).1 (T k).2.1 (T k).2.2.1 ∈ lw_good) (hfin : (T k).2.2.2 = false) (hpt : parseFieldDescriptor (T k).2.2.1 = some .int) : SndI mi cc own nL rt (i_fI ci k (pc + 3)) pc := by
  refine ⟨m_fI _ _ _, ?_⟩
  intro p l e R s m args below meth c G t ad d Qc F call hcall Q hQ X hX lv st σ h H locs ls hP hS hl
  obtain ⟨hx, hb, hml, hr, hlocks, hown, hts, hK, hJ, hst, hfr, hlo⟩ := F
  unfold i_fI at h
  split at h
  · rename_i v q st'
    cases hq : Nat.beq (kd q) ci with
    | false => rw [hq] at h; exact h.elim
    | true =>
      rw [hq] at h
      have hlt : q < 128 := kd_lt hq (by cases h9 : Nat.beq ci 99 with | false => rfl | true => rw [Nat.eq_of_beq_eq_true h9] at h13; cases h13)
      refine va_put (D := G) (ci := ci) (v := .int v) (ty := .int) (C := C) (T := T) (N := nf ci) hx hb hts hin ty0 hty hnm hown hK hP (va_Dws hJ) hS q (by rw [ws_get hlt, cel_o hq h13]) hc k hk (hts _ hw) (fun _ h9 => h9) hfin hpt rfl rfl (by simp [hk]) hd (fun H1 locs1 hP1 hD1 hS1 => ?_)
      rw [ws_fI hq h13 hk hf] at hP1
      exact hX _ _ h H1 locs1 ls hP1 hS1 hl
  · exact h.elim
theorem vb_nar {v : Int32} (h : vb v) : narrow .boolean (.int v) = .int v := by rcases h with rfl | rfl <;> rfl
theorem vb_fit {v : Int32} (h : vb v) : fits .boolean (.int v) = true := by rcases h with rfl | rfl <;> rfl
theorem n_fZ {mi : MI} {cc : ByteArray} {own : String} {nL : Nat} {rt : Option FieldType} {pc : Nat} {C : String} {T : u_T} {ci k i : Nat} (hd : decode cc pc = .ok (.putfield i, 3)) (hc : cls[ci]? = some (C, T, nf ci)) (hin : ∀ w ∈ u_ws C T (nf ci), w ∈ lw_good) (h13 : Nat.ble 13 ci = false) (ty0 : Nat → FieldType) (hty : ∀ k, k < nf ci → parseFieldDescriptor (T k).2.2.1 = some (ty0 k)) (hnm : ∀ a, a < nf ci → ∀ b, b < nf ci → a ≠ b → (T a).2.1 ≠ (T b).2.1) (hk : k < nf ci) (hf : ft ci k = 0) (hw : Cond.fieldLink own i (T k).1 (T k).2.1 (T k).2.2.1 ∈ lw_good) (hfin : (T k).2.2.2 = false) (hpt : parseFieldDescriptor (T k).2.2.1 = some .boolean) : SndI mi cc own nL rt (i_fZ ci k (pc + 3)) pc := by
  refine ⟨m_fZ _ _ _, ?_⟩
  intro p l e R s m args below meth c G t ad d Qc F call hcall Q hQ X hX lv st σ h H locs ls hP hS hl
  obtain ⟨hx, hb, hml, hr, hlocks, hown, hts, hK, hJ, hst, hfr, hlo⟩ := F
  unfold i_fZ at h
  split at h
  · rename_i v q st'
    cases hq : Nat.beq (kd q) ci with
    | false => rw [hq] at h; exact h.elim
    | true =>
      rw [hq] at h
      have hlt : q < 128 := kd_lt hq (by cases h9 : Nat.beq ci 99 with | false => rfl | true => rw [Nat.eq_of_beq_eq_true h9] at h13; cases h13)
      refine va_put (D := G) (ci := ci) (v := .int v) (ty := .boolean) (C := C) (T := T) (N := nf ci) hx hb hts hin ty0 hty hnm hown hK hP (va_Dws hJ) hS q (by rw [ws_get hlt, cel_o hq h13]) hc k hk (hts _ hw) (fun _ h9 => h9) hfin hpt (vb_nar h.1) (vb_fit h.1) (by simp [hk]) hd (fun H1 locs1 hP1 hD1 hS1 => ?_)
      rw [ws_fI hq h13 hk hf] at hP1
      exact hX _ _ h.2 H1 locs1 ls hP1 hS1 hl
  · exact h.elim
theorem n_fL {mi : MI} {cc : ByteArray} {own : String} {nL : Nat} {rt : Option FieldType} {pc : Nat} {C : String} {T : u_T} {ci k i : Nat} (hd : decode cc pc = .ok (.putfield i, 3)) (hc : cls[ci]? = some (C, T, nf ci)) (hin : ∀ w ∈ u_ws C T (nf ci), w ∈ lw_good) (h13 : Nat.ble 13 ci = false) (ty0 : Nat → FieldType) (hty : ∀ k, k < nf ci → parseFieldDescriptor (T k).2.2.1 = some (ty0 k)) (hnm : ∀ a, a < nf ci → ∀ b, b < nf ci → a ≠ b → (T a).2.1 ≠ (T b).2.1) (hk : k < nf ci) (hf : ft ci k = 1) (hw : Cond.fieldLink own i (T k).1 (T k).2.1 (T k).2.2.1 ∈ lw_good) (hfin : (T k).2.2.2 = false) (hpt : parseFieldDescriptor (T k).2.2.1 = some .long) : SndI mi cc own nL rt (i_fL ci k (pc + 3)) pc := by
  refine ⟨m_fL _ _ _, ?_⟩
  intro p l e R s m args below meth c G t ad d Qc F call hcall Q hQ X hX lv st σ h H locs ls hP hS hl
  obtain ⟨hx, hb, hml, hr, hlocks, hown, hts, hK, hJ, hst, hfr, hlo⟩ := F
  unfold i_fL at h
  split at h
  · rename_i v q st'
    cases hq : Nat.beq (kd q) ci with
    | false => rw [hq] at h; exact h.elim
    | true =>
      rw [hq] at h
      have hlt : q < 128 := kd_lt hq (by cases h9 : Nat.beq ci 99 with | false => rfl | true => rw [Nat.eq_of_beq_eq_true h9] at h13; cases h13)
      refine va_put (D := G) (ci := ci) (v := .long v) (ty := .long) (C := C) (T := T) (N := nf ci) hx hb hts hin ty0 hty hnm hown hK hP (va_Dws hJ) hS q (by rw [ws_get hlt, cel_o hq h13]) hc k hk (hts _ hw) (fun _ h9 => h9) hfin hpt rfl rfl (by simp [hk]) hd (fun H1 locs1 hP1 hD1 hS1 => ?_)
      rw [ws_fL hq h13 hk hf] at hP1
      exact hX _ _ h H1 locs1 ls hP1 hS1 hl
  · exact h.elim
theorem n_ald {mi : MI} {cc : ByteArray} {own : String} {nL : Nat} {rt : Option FieldType} {pc : Nat} (hd : decode cc pc = .ok (.iaload, 1)) : SndI mi cc own nL rt (i_ald (pc + 1)) pc := by
  refine ⟨m_ald _, ?_⟩
  intro p l e R s m args below meth c G t ad d Qc F call hcall Q hQ X hX lv st σ h H locs ls hP hS hl
  obtain ⟨hx, hb, hml, hr, hlocks, hown, hts, hK, hJ, hst, hfr, hlo⟩ := F
  unfold i_ald at h
  split at h
  · rename_i v q st'
    cases hq : Nat.beq (kd q) 13 with
    | false => rw [hq] at h; exact h.elim
    | true =>
      rw [hq] at h
      have hlt : q < 128 := kd_lt hq rfl
      refine va_iald (D := G) hx hb hK hP q 0 (by rw [ws_get hlt, cel_i hq]) rfl h.1 hd ?_
      exact hX _ _ h.2 H locs ls hP hS hl
  · exact h.elim
theorem n_lald {mi : MI} {cc : ByteArray} {own : String} {nL : Nat} {rt : Option FieldType} {pc : Nat} (hd : decode cc pc = .ok (.laload, 1)) : SndI mi cc own nL rt (i_lald (pc + 1)) pc := by
  refine ⟨m_lald _, ?_⟩
  intro p l e R s m args below meth c G t ad d Qc F call hcall Q hQ X hX lv st σ h H locs ls hP hS hl
  obtain ⟨hx, hb, hml, hr, hlocks, hown, hts, hK, hJ, hst, hfr, hlo⟩ := F
  unfold i_lald at h
  split at h
  · rename_i v q st'
    cases hq : Nat.beq (kd q) 14 with
    | false => rw [hq] at h; exact h.elim
    | true =>
      rw [hq] at h
      have hlt : q < 128 := kd_lt hq rfl
      refine va_lald (D := G) hx hb hK hP q 1 (by rw [ws_get hlt, cel_l hq]) rfl h.1 hd ?_
      exact hX _ _ h.2 H locs ls hP hS hl
  · exact h.elim
theorem n_aald {mi : MI} {cc : ByteArray} {own : String} {nL : Nat} {rt : Option FieldType} {pc : Nat} (hd : decode cc pc = .ok (.aaload, 1)) : SndI mi cc own nL rt (i_aald (pc + 1)) pc := by
  refine ⟨m_aald _, ?_⟩
  intro p l e R s m args below meth c G t ad d Qc F call hcall Q hQ X hX lv st σ h H locs ls hP hS hl
  obtain ⟨hx, hb, hml, hr, hlocks, hown, hts, hK, hJ, hst, hfr, hlo⟩ := F
  unfold i_aald at h
  split at h
  · rename_i v q st'
    cases hq : Nat.beq (kd q) 15 with
    | false => rw [hq] at h; exact h.elim
    | true =>
      rw [hq] at h
      have hlt : q < 128 := kd_lt hq rfl
      refine va_aldq (D := G) hx hb hK hP q 2 (by rw [ws_get hlt, cel_q hq]) rfl h.1 hd ?_
      exact hX _ _ h.2 H locs ls hP hS hl
  · exact h.elim
theorem n_ast {mi : MI} {cc : ByteArray} {own : String} {nL : Nat} {rt : Option FieldType} {pc : Nat} (hd : decode cc pc = .ok (.iastore, 1)) : SndI mi cc own nL rt (i_ast (pc + 1)) pc := by
  refine ⟨m_ast _, ?_⟩
  intro p l e R s m args below meth c G t ad d Qc F call hcall Q hQ X hX lv st σ h H locs ls hP hS hl
  obtain ⟨hx, hb, hml, hr, hlocks, hown, hts, hK, hJ, hst, hfr, hlo⟩ := F
  unfold i_ast at h
  split at h
  · rename_i v i q st'
    cases hq : Nat.beq (kd q) 13 with
    | false => rw [hq] at h; exact h.elim
    | true =>
      rw [hq] at h
      have hlt : q < 128 := kd_lt hq rfl
      refine va_iast (D := G) hx hb hK hP (va_Dws hJ) hS q 0 (by rw [ws_get hlt, cel_i hq]) rfl h.1 hd (fun H1 locs1 hP1 hD1 hS1 => ?_)
      rw [ws_ai hq] at hP1
      exact hX _ _ h.2 H1 locs1 ls hP1 hS1 hl
  · exact h.elim
theorem n_last {mi : MI} {cc : ByteArray} {own : String} {nL : Nat} {rt : Option FieldType} {pc : Nat} (hd : decode cc pc = .ok (.lastore, 1)) : SndI mi cc own nL rt (i_last (pc + 1)) pc := by
  refine ⟨m_last _, ?_⟩
  intro p l e R s m args below meth c G t ad d Qc F call hcall Q hQ X hX lv st σ h H locs ls hP hS hl
  obtain ⟨hx, hb, hml, hr, hlocks, hown, hts, hK, hJ, hst, hfr, hlo⟩ := F
  unfold i_last at h
  split at h
  · rename_i v i q st'
    cases hq : Nat.beq (kd q) 14 with
    | false => rw [hq] at h; exact h.elim
    | true =>
      rw [hq] at h
      have hlt : q < 128 := kd_lt hq rfl
      refine va_last (D := G) hx hb hK hP (va_Dws hJ) hS q 1 (by rw [ws_get hlt, cel_l hq]) rfl h.1 hd (fun H1 locs1 hP1 hD1 hS1 => ?_)
      rw [ws_al hq] at hP1
      exact hX _ _ h.2 H1 locs1 ls hP1 hS1 hl
  · exact h.elim
theorem n_aln {mi : MI} {cc : ByteArray} {own : String} {nL : Nat} {rt : Option FieldType} {pc : Nat} (hd : decode cc pc = .ok (.arraylength, 1)) : SndI mi cc own nL rt (i_aln (pc + 1)) pc := by
  refine ⟨m_aln _, ?_⟩
  intro p l e R s m args below meth c G t ad d Qc F call hcall Q hQ X hX lv st σ h H locs ls hP hS hl
  obtain ⟨hx, hb, hml, hr, hlocks, hown, hts, hK, hJ, hst, hfr, hlo⟩ := F
  unfold i_aln at h
  split at h
  · rename_i q st'
    cases hq : Nat.beq (kd q) 13 with
    | true =>
      rw [hq] at h
      have hlt : q < 128 := kd_lt hq rfl
      refine va_alen (D := G) hx hb hK hP q 0 (by rw [ws_get hlt, cel_i hq]) rfl rfl hd ?_
      exact hX _ _ h H locs ls hP hS hl
    | false =>
      rw [hq] at h
      cases hq2 : Nat.beq (kd q) 14 with
      | true =>
        rw [hq2] at h
        have hlt : q < 128 := kd_lt hq2 rfl
        refine va_alen (D := G) hx hb hK hP q 1 (by rw [ws_get hlt, cel_l hq2]) rfl rfl hd ?_
        exact hX _ _ h H locs ls hP hS hl
      | false => rw [hq2] at h; exact h.elim
  · exact h.elim
theorem n_gsA {mi : MI} {cc : ByteArray} {own : String} {nL : Nat} {rt : Option FieldType} {pc : Nat} {i : Nat} (hd : decode cc pc = .ok (.getstatic i, 3)) (hw : Cond.fieldLink own i "StoreStreams" "ABOVE" "[I" ∈ lw_good) : SndI mi cc own nL rt (i_gs 129 (pc + 3)) pc := by
  refine ⟨m_gs _ _, ?_⟩
  intro p l e R s m args below meth c G t ad d Qc F call hcall Q hQ X hX lv st σ h H locs ls hP hS hl
  obtain ⟨hx, hb, hml, hr, hlocks, hown, hts, hK, hJ, hst, hfr, hlo⟩ := F
  exact va_gets hx hb hst.2.2.1 hS hown (hts _ hw) (fun _ h9 => h9) hd (hX _ _ h H locs ls hP hS hl)
theorem n_gsK {mi : MI} {cc : ByteArray} {nL : Nat} {rt : Option FieldType} {pc : Nat} (hd : decode cc pc = .ok (.getstatic 68, 3)) : SndI mi cc "StoreStreams$Scribe" nL rt (i_gs 128 (pc + 3)) pc := by
  refine ⟨m_gs _ _, ?_⟩
  intro p l e R s m args below meth c G t ad d Qc F call hcall Q hQ X hX lv st σ h H locs ls hP hS hl
  obtain ⟨hx, hb, hml, hr, hlocks, hown, hts, hK, hJ, hst, hfr, hlo⟩ := F
  exact va_getsN hx hb hst.1 hS hown (va_Nw.use rfl hst.2.2.2.2) (fun _ h9 => h9) hd (hX _ _ h H locs ls hP hS hl)
theorem st_T {A : Nat → Prop} {ad : Nat → Nat} {U : State} {H : Heap} {k : Nat} (h : Stat A ad U H) (hk : k = 128 ∨ k = 129) : va_T .int (ad k) (tn k) (fun j => .int (tv k j)) A U H := by
  rcases hk with rfl | rfl
  · exact h.2.1
  · exact h.2.2.2.1
theorem n_tld {mi : MI} {cc : ByteArray} {own : String} {nL : Nat} {rt : Option FieldType} {pc : Nat} {k : Nat} (hd : decode cc pc = .ok (.iaload, 1)) (hk : k = 128 ∨ k = 129) : SndI mi cc own nL rt (i_tld k (pc + 1)) pc := by
  refine ⟨m_tld _ _, ?_⟩
  intro p l e R s m args below meth c G t ad d Qc F call hcall Q hQ X hX lv st σ h H locs ls hP hS hl
  obtain ⟨hx, hb, hml, hr, hlocks, hown, hts, hK, hJ, hst, hfr, hlo⟩ := F
  unfold i_tld at h
  split at h
  · rename_i v q st'
    cases hq : Nat.beq q k with
    | false => rw [hq] at h; exact h.elim
    | true =>
      rw [hq] at h
      have e := Nat.eq_of_beq_eq_true hq
      subst e
      exact va_ti hx hb (st_T hst hk) hS h.1 rfl hd (hX _ _ h.2 H locs ls hP hS hl)
  · exact h.elim
theorem n_tln {mi : MI} {cc : ByteArray} {own : String} {nL : Nat} {rt : Option FieldType} {pc : Nat} {k : Nat} (hd : decode cc pc = .ok (.arraylength, 1)) (hk : k = 128 ∨ k = 129) : SndI mi cc own nL rt (i_tln k (pc + 1)) pc := by
  refine ⟨m_tln _ _, ?_⟩
  intro p l e R s m args below meth c G t ad d Qc F call hcall Q hQ X hX lv st σ h H locs ls hP hS hl
  obtain ⟨hx, hb, hml, hr, hlocks, hown, hts, hK, hJ, hst, hfr, hlo⟩ := F
  unfold i_tln at h
  split at h
  · rename_i q st'
    cases hq : Nat.beq q k with
    | false => rw [hq] at h; exact h.elim
    | true =>
      rw [hq] at h
      have e := Nat.eq_of_beq_eq_true hq
      subst e
      exact va_tlen hx hb (st_T hst hk) hS rfl hd (hX _ _ h H locs ls hP hS hl)
  · exact h.elim
theorem n_mx {mi : MI} {cc : ByteArray} {own : String} {nL : Nat} {rt : Option FieldType} {pc : Nat} {i : Nat} (hd : decode cc pc = .ok (.invokestatic i, 3)) (hw : Cond.methodLink own i Lib.Math.max.name ∈ lw_good) (hw1 : Cond.static Lib.Math.max.name ∈ lw_good) (hw2 : Cond.initialized "java/lang/Math" ∈ lw_good) (hw3 : Cond.code Lib.Math.max.name Lib.Math.max.code 2 (some .int) ∈ lw_good) : SndI mi cc own nL rt (i_mx (pc + 3)) pc := by
  refine ⟨m_mx _, ?_⟩
  intro p l e R s m args below meth c G t ad d Qc F call hcall Q hQ X hX lv st σ h H locs ls hP hS hl
  obtain ⟨hx, hb, hml, hr, hlocks, hown, hts, hK, hJ, hst, hfr, hlo⟩ := F
  unfold i_mx at h
  split at h
  · rename_i st'
    cases hq : Nat.ble (cs st') 8 with
    | false => rw [hq] at h; exact h.elim
    | true =>
      rw [hq] at h
      have h8 := Nat.le_of_ble_eq_true hq
      refine va_mmax hx hb (by rw [hml]; exact hl.1.symm) hown (hts _ hw) (hts _ hw1) (hts _ hw2) (hts _ hw3) (by omega) (by rw [mv_cs]; omega) (Nat.zero_le _) (Nat.zero_le _) hd ?_
      exact hX _ _ h H locs ls hP hS hl
  · exact h.elim
theorem n_mn {mi : MI} {cc : ByteArray} {own : String} {nL : Nat} {rt : Option FieldType} {pc : Nat} {i : Nat} (hd : decode cc pc = .ok (.invokestatic i, 3)) (hw : Cond.methodLink own i Lib.Math.min.name ∈ lw_good) (hw1 : Cond.static Lib.Math.min.name ∈ lw_good) (hw2 : Cond.initialized "java/lang/Math" ∈ lw_good) (hw3 : Cond.code Lib.Math.min.name Lib.Math.min.code 2 (some .int) ∈ lw_good) : SndI mi cc own nL rt (i_mn (pc + 3)) pc := by
  refine ⟨m_mn _, ?_⟩
  intro p l e R s m args below meth c G t ad d Qc F call hcall Q hQ X hX lv st σ h H locs ls hP hS hl
  obtain ⟨hx, hb, hml, hr, hlocks, hown, hts, hK, hJ, hst, hfr, hlo⟩ := F
  unfold i_mn at h
  split at h
  · rename_i st'
    cases hq : Nat.ble (cs st') 8 with
    | false => rw [hq] at h; exact h.elim
    | true =>
      rw [hq] at h
      have h8 := Nat.le_of_ble_eq_true hq
      refine va_mmin hx hb (by rw [hml]; exact hl.1.symm) hown (hts _ hw) (hts _ hw1) (hts _ hw2) (hts _ hw3) (by omega) (by rw [mv_cs]; omega) (Nat.zero_le _) (Nat.zero_le _) hd ?_
      exact hX _ _ h H locs ls hP hS hl
  · exact h.elim
theorem n_mabs {mi : MI} {cc : ByteArray} {own : String} {nL : Nat} {rt : Option FieldType} {pc : Nat} {i : Nat} (hd : decode cc pc = .ok (.invokestatic i, 3)) (hw : Cond.methodLink own i Lib.MathLoose.abs_long.x ∈ lw_good) (hw1 : Cond.static Lib.MathLoose.abs_long.x ∈ lw_good) (hw2 : Cond.initialized "java/lang/Math" ∈ lw_good) (hw3 : Cond.code Lib.MathLoose.abs_long.x Lib.MathLoose.abs_long.code 2 (some .long) ∈ lw_good) : SndI mi cc own nL rt (i_mabs (pc + 3)) pc := by
  refine ⟨m_mabs _, ?_⟩
  intro p l e R s m args below meth c G t ad d Qc F call hcall Q hQ X hX lv st σ h H locs ls hP hS hl
  obtain ⟨hx, hb, hml, hr, hlocks, hown, hts, hK, hJ, hst, hfr, hlo⟩ := F
  unfold i_mabs at h
  split at h
  · rename_i st'
    cases hq : Nat.ble (cs st') 8 with
    | false => rw [hq] at h; exact h.elim
    | true =>
      rw [hq] at h
      have h8 := Nat.le_of_ble_eq_true hq
      refine va_mabs_long hx hb (by rw [hml]; exact hl.1.symm) hown (hts _ hw) (hts _ hw1) (hts _ hw2) (hts _ hw3) (by omega) (by rw [mv_cs]; omega) (Nat.zero_le _) (Nat.zero_le _) hd ?_
      exact hX _ _ h H locs ls hP hS hl
  · exact h.elim
theorem n_cpy {mi : MI} {cc : ByteArray} {own : String} {nL : Nat} {rt : Option FieldType} {pc : Nat} {i : Nat} (hd : decode cc pc = .ok (.invokestatic i, 3)) (hw : Cond.methodLink own i arraycopyName ∈ lw_good) (hw0 : Cond.native arraycopyName ∈ lw_good) (hw1 : Cond.static arraycopyName ∈ lw_good) (hw2 : Cond.initialized "java/lang/System" ∈ lw_good) : SndI mi cc own nL rt (i_cpy (pc + 3)) pc := by
  refine ⟨m_cpy _, ?_⟩
  intro p l e R s m args below meth c G t ad d Qc F call hcall Q hQ X hX lv st σ h H locs ls hP hS hl
  obtain ⟨hx, hb, hml, hr, hlocks, hown, hts, hK, hJ, hst, hfr, hlo⟩ := F
  unfold i_cpy at h
  split at h
  · rename_i n dp q sp a st'
    cases hq : (Nat.ble (cs st') 8 && (Nat.beq (kd a) 13 && (Nat.beq (kd q) 13 && !(Nat.beq a q)))) with
    | false => rw [hq] at h; exact h.elim
    | true =>
      rw [hq] at h
      simp only [Bool.and_eq_true] at hq
      obtain ⟨q8, qa, qd, qn⟩ := hq
      have h8 := Nat.le_of_ble_eq_true q8
      have hlt : q < 128 := kd_lt qd rfl
      have hla : a < 128 := kd_lt qa rfl
      obtain ⟨⟨h1, h2, h3, h4, h5⟩, h6⟩ := h
      have hnw : nativeFrameWords "java/lang/System" "arraycopy" 5 ≤ 40 := by decide
      refine va_copyi (D := G) hx hb (by rw [hml]; exact hl.1.symm) hown (hts _ hw) (hts _ hw0) (hts _ hw1) (hts _ hw2) hK hP (va_Dws hJ) hS a q 0 0 (by rw [ws_get hla, cel_i qa]) (by rw [ws_get hlt, cel_i qd]) rfl rfl rfl h1 h2 h3 h4 h5 (fun _ _ => rfl) (by omega) (by rw [mv_cs]; omega) hd (fun H1 locs1 hP1 hD1 hS1 => ?_)
      rw [ws_ac qd] at hP1
      exact hX _ _ h6 H1 locs1 ls hP1 hS1 hl
  · exact h.elim
theorem n_rI {mi : MI} {cc : ByteArray} {own : String} {nL : Nat} {pc : Nat} (hd : decode cc pc = .ok (.ireturn, 1)) : SndI mi cc own nL (some .int) i_rI pc := by
  refine ⟨m_rI, ?_⟩
  intro p l e R s m args below meth c G t ad d Qc F call hcall Q hQ X hX lv st σ h H locs ls hP hS hl
  obtain ⟨hx, hb, hml, hr, hlocks, hown, hts, hK, hJ, hst, hfr, hlo⟩ := F
  unfold i_rI at h
  split at h
  · rename_i v
    exact W.iret hx hb hr (fun u hu hW => hQ (some (.int v)) σ u ⟨_, rfl⟩ h (by rw [hu]; exact hP) (hS.F hu)) hS.2.2 hd
  · exact h.elim
theorem n_rZ {mi : MI} {cc : ByteArray} {own : String} {nL : Nat} {pc : Nat} (hd : decode cc pc = .ok (.ireturn, 1)) : SndI mi cc own nL (some .boolean) i_rZ pc := by
  refine ⟨m_rZ, ?_⟩
  intro p l e R s m args below meth c G t ad d Qc F call hcall Q hQ X hX lv st σ h H locs ls hP hS hl
  obtain ⟨hx, hb, hml, hr, hlocks, hown, hts, hK, hJ, hst, hfr, hlo⟩ := F
  unfold i_rZ at h
  split at h
  · rename_i v
    exact W.zret hx hb hr (vb_nar h.1) (fun u hu hW => hQ (some (.int v)) σ u ⟨_, rfl⟩ h.2 (by rw [hu]; exact hP) (hS.F hu)) hS.2.2 hd
  · exact h.elim
theorem n_rL {mi : MI} {cc : ByteArray} {own : String} {nL : Nat} {pc : Nat} (hd : decode cc pc = .ok (.lreturn, 1)) : SndI mi cc own nL (some .long) i_rL pc := by
  refine ⟨m_rL, ?_⟩
  intro p l e R s m args below meth c G t ad d Qc F call hcall Q hQ X hX lv st σ h H locs ls hP hS hl
  obtain ⟨hx, hb, hml, hr, hlocks, hown, hts, hK, hJ, hst, hfr, hlo⟩ := F
  unfold i_rL at h
  split at h
  · rename_i v
    exact W.lret hx hb hr (fun u hu hW => hQ (some (.long v)) σ u ⟨_, rfl⟩ h (by rw [hu]; exact hP) (hS.F hu)) hS.2.2 hd
  · exact h.elim
theorem n_rV {mi : MI} {cc : ByteArray} {own : String} {nL : Nat} {pc : Nat} (hd : decode cc pc = .ok (.return_, 1)) : SndI mi cc own nL (none) i_rV pc := by
  refine ⟨m_rV, ?_⟩
  intro p l e R s m args below meth c G t ad d Qc F call hcall Q hQ X hX lv st σ h H locs ls hP hS hl
  obtain ⟨hx, hb, hml, hr, hlocks, hown, hts, hK, hJ, hst, hfr, hlo⟩ := F
  unfold i_rV at h
  split at h
  · exact W.vret hx hb hr (fun u hu hW => hQ none σ u rfl h (by rw [hu]; exact hP) (hS.F hu)) hS.2.2 hd
  · exact h.elim
theorem sw_go {p : Program} {l : Launch} {e : Env} {R : Room} {s : State} {m : MethodId} {args : Array Value} {below : List Frame} {meth : Method} {c : Code} {nL : Nat} {G : va_G} {t : T3} {ad : Nat → Nat} {Qc : Array Value → State → Outcome → State → Prop} {X : Fr → Hp → Prop} {lv : Lv} {st : List Value} {σ : Hp} {x : Int32} {k : Nat} : ∀ {ts : List (Int32 × Nat)}, swc X lv st σ x k ts → ∃ g : Nat, X (g, lv, st) σ ∧ ((∃ q ∈ ts, q.1 = x ∧ q.2 = g ∧ ts.find? (fun q => q.1 == x) = some q) ∨ (g = k ∧ ∀ q ∈ ts, q.1 ≠ x)) := by
  intro ts
  induction ts with
  | nil => intro h; exact ⟨k, h, Or.inr ⟨rfl, fun q hq => by cases hq⟩⟩
  | cons a l ih =>
    intro h
    obtain ⟨v, g⟩ := a
    unfold swc at h
    by_cases e : x = v
    · rw [if_pos e] at h
      exact ⟨g, h, Or.inl ⟨(v, g), List.mem_cons_self, e.symm, rfl, by simp [e]⟩⟩
    · rw [if_neg e] at h
      obtain ⟨g2, h1, h2⟩ := ih h
      refine ⟨g2, h1, ?_⟩
      rcases h2 with ⟨q, q1, q2, q3, q4⟩ | ⟨q1, q2⟩
      · exact Or.inl ⟨q, List.mem_cons_of_mem _ q1, q2, q3, by rw [List.find?_cons_of_neg (by simpa using fun z => e z.symm)]; exact q4⟩
      · exact Or.inr ⟨q1, fun q hq => by rcases List.mem_cons.mp hq with rfl | hq; exact fun z => e z.symm; exact q2 q hq⟩
/-- a table's rows: the j-th value from lo on goes to the j-th place -/
def tsOk (pc lo : Int) (offs : List Int) (ts : List (Int32 × Nat)) : Bool := decide (offs.length = ts.length) && (List.range ts.length).all (fun j => match ts[j]?, offs[j]? with
  | some q, some o => decide (q.1.toInt = lo + j) && decide (pc + o = (q.2 : Int))
  | _, _ => false)
theorem ts_at {pc lo : Int} {offs : List Int} {ts : List (Int32 × Nat)} (h : tsOk pc lo offs ts = true) : offs.length = ts.length ∧ ∀ (j : Nat) (q : Int32 × Nat), ts[j]? = some q → ∃ o : Int, offs[j]? = some o ∧ q.1.toInt = lo + j ∧ pc + o = (q.2 : Int) := by
  unfold tsOk at h
  simp only [Bool.and_eq_true, decide_eq_true_eq] at h
  refine ⟨h.1, fun j q hj => ?_⟩
  have hlt : j < ts.length := (List.getElem?_eq_some_iff.mp hj).1
  have h2 := List.all_eq_true.mp h.2 j (List.mem_range.mpr hlt)
  have ho : j < offs.length := by rw [h.1]; exact hlt
  rw [hj, List.getElem?_eq_getElem ho] at h2
  simp only [Bool.and_eq_true, decide_eq_true_eq] at h2
  exact ⟨offs[j], List.getElem?_eq_getElem ho, h2.1, h2.2⟩
theorem n_tsw {mi : MI} {cc : ByteArray} {own : String} {nL : Nat} {rt : Option FieldType} {pc : Nat} {dflt lo hi : Int} {offs : Array Int} {len : Nat} {ts : List (Int32 × Nat)} {k : Nat} (hd : decode cc pc = .ok (.tableswitch dflt lo hi offs, len)) (hok : tsOk (pc : Int) lo offs.toList ts = true) (hlen : lo + (ts.length : Int) = hi + 1) (hk : (pc : Int) + dflt = (k : Int)) : SndI mi cc own nL rt (i_sw ts k) pc := by
  refine ⟨m_sw _ _, ?_⟩
  intro p l e R s m args below meth c G t ad d Qc F call hcall Q hQ X hX lv st σ h H locs ls hP hS hl
  obtain ⟨hx, hb, hml, hr, hlocks, hown, hts, hK, hJ, hst, hfr, hlo⟩ := F
  unfold i_sw at h
  split at h
  · rename_i x st'
    obtain ⟨hl1, hl2⟩ := ts_at hok
    obtain ⟨g, hg, hc⟩ := sw_go (p := p) (l := l) (e := e) (R := R) (s := s) (m := m) (args := args) (below := below) (meth := meth) (c := c) (nL := nL) (G := G) (t := t) (ad := ad) (Qc := Qc) h
    rcases hc with ⟨q, q1, q2, q3, -⟩ | ⟨q1, q2⟩
    · obtain ⟨j, hj, hjq⟩ := List.mem_iff_getElem.mp q1
      obtain ⟨o, o1, o2, o3⟩ := hl2 j q (by rw [List.getElem?_eq_getElem hj, hjq])
      rw [q2] at o2
      rw [q3] at o3
      exact lv_tableIn hx hb hd (by omega) (by omega) (off := o) (by rw [← Array.getElem?_toList, show (x.toInt - lo).toNat = j by omega]; exact o1) o3 (hX _ _ hg H locs ls hP hS hl)
    · rw [q1] at hg
      refine lv_tableOut hx hb hd ?_ hk (hX _ _ hg H locs ls hP hS hl)
      rcases Int.lt_or_le x.toInt lo with z | z
      · exact Or.inl z
      · refine Or.inr (Int.not_le.mp fun z2 => ?_)
        have hj : (x.toInt - lo).toNat < ts.length := by omega
        obtain ⟨o, -, o2, -⟩ := hl2 _ _ (List.getElem?_eq_getElem hj)
        exact q2 _ (List.getElem_mem hj) (Int32.toInt_inj.mp (by omega))
  · exact h.elim
def lsOk (pc : Int) (ps : List (Int × Int)) (ts : List (Int32 × Nat)) : Bool := decide (ps.map (fun q => (q.1, pc + q.2)) = ts.map (fun q => (q.1.toInt, (q.2 : Int)))) && (ps.zip (ps.drop 1)).all (fun (a, next) => a.1 < next.1)
end
section
/-! ===== calls ===== -/
theorem Stat.to {A : Nat → Prop} {ad : Nat → Nat} {s U : State} {H H1 : Heap} (h : Stat A ad s H) (hW : s.WarmedH U.vm) (hq : ∀ a : Nat, a < H.size → ¬ A a → H1[a]? = H[a]?) : Stat A ad U H1 :=
  ⟨(va_Z.moved hW.alike h.1).kept hq, (va_T.moved hW.alike h.2.1).kept hq, (va_Z.moved hW.alike h.2.2.1).kept hq, (va_T.moved hW.alike h.2.2.2.1).kept hq, va_Nw.warmF hW h.2.2.2.2⟩
theorem Stat.at {A : Nat → Prop} {ad : Nat → Nat} {s U : State} {H : Heap} (h : Stat A ad s H) (hv : s.vm = U.vm) : Stat A ad U H :=
  ⟨va_Z.moved (by rw [hv]; exact Vm.Alike.refl _) h.1, va_T.moved (by rw [hv]; exact Vm.Alike.refl _) h.2.1, va_Z.moved (by rw [hv]; exact Vm.Alike.refl _) h.2.2.1, va_T.moved (by rw [hv]; exact Vm.Alike.refl _) h.2.2.2.1, va_Nw.same rfl hv h.2.2.2.2⟩
theorem pin_blind {G : va_G} {t : T3} {ad : Nat → Nat} {σ : Hp} {a : List Value} : FrameBlind (Pin G t ad σ a) := fun _ U g mk q => by
  obtain ⟨q0, q1, q2, q3⟩ := q
  exact ⟨q0, q1, va_K.moved (u := U) (U := U.calling g mk _) (Vm.Alike.refl U.vm) q2, q3.at (U := U.calling g mk _) rfl⟩
theorem pin_at {G : va_G} {t : T3} {ad : Nat → Nat} {σ : Hp} {a : List Value} {s : State} {H : Heap} {locs : List Loc} {av : Array Value} (ha : av = (a.map (mv ad)).toArray) (hP : va_P G cls (wsA t ad σ) H) (hK : va_K G cls (tysA t) s) (hst : Stat (AA ad) ad s s.heap) (hS : va_S (AA ad) s.heap H locs) : ∀ U : State, U.heap = H → s.WarmedH U.vm → Pin G t ad σ a av U := by
  intro U hU hW
  subst ha
  exact ⟨rfl, by rw [hU]; exact hP, va_K.moved hW.alike hK, by rw [hU]; exact hst.to hW hS.2.1⟩
section RG
variable {p : Program} {l : Launch} {e : Env} {R : Room} {s : State} {m : MethodId} {args : Array Value} {below : List Frame} {meth : Method} {c : Code} {H : Heap} {locs : List Loc} {Q : State → Prop} {G : va_G} {t : T3} {ad : Nat → Nat} {K : Po} {rty : Option FieldType} {a : Array Value} {pc : Nat} {ls : Array Slot} {st0 rest : List Value}
theorem run_go (hr : va_Run p l e R s m args below meth c H locs 0 0 0 0 (F0 m pc ls st0) rest (Qin G t ad rty K a) (AA ad)) (hS : va_S (AA ad) s.heap H locs)
    (kk : ∀ (r : Option Value) (τ : Hp) (H1 : Heap) (locs1 : List Loc), rtok rty r → K r τ → va_P G cls (wsA t ad τ) H1 → va_S (AA ad) s.heap H1 locs1 → W p l e R s m args below meth c H1 locs1 0 0 Q (F0 m (pc + 3) ls ((r.map (mv ad)).toList ++ rest))) : W p l e R s m args below meth c H locs 0 0 Q (F0 m pc ls st0) := by
  intro T hT X
  obtain ⟨v, st₀, u, T', L, h0, X', hL, e1, e2, ⟨⟨r, τ, hv, hrt, hk, hp⟩, hz, hf⟩, stp⟩ := hr T hT X
  have ev : v = r.map (mv ad) := by injection hv
  subst ev
  rw [h0] at hz hf
  obtain ⟨t2, a1, b1⟩ := kk r τ T'.heap (locs ++ L) hrt hk (by rw [e1]; exact hp)
    ⟨Nat.le_trans hS.1 (by rw [e1]; exact hz), fun q h1 h2 => by rw [e1, hf q (Nat.lt_of_lt_of_le h1 hS.1) h2]; exact hS.2.1 q h1 h2, fun q hq => by
      rcases List.mem_append.mp hq with h | h
      · exact hS.2.2 q h
      · exact hL q h⟩ T' rfl X'
  exact ⟨t2, stp t2 a1, b1⟩
end RG
theorem good_ws {w : Cond} (h : w ∈ lw_good) : GoodIn lw_good (w :: lw_good) := fun x hx => by
  have hm : x ∈ lw_good := by rcases List.mem_cons.mp hx with rfl | q; exact h; exact q
  exact ⟨hm, good_of_word (List.mem_filter.mp hm).2⟩
def MOK (mi : MI) (y n : Nat) : Prop := Cond.code (mi y).1 (mi y).2.1 (mi y).2.2.1 (mi y).2.2.2 ∈ lw_good ∧ Cond.initialized (mi y).1.cls ∈ lw_good ∧ ((mi y).1.cls ≠ "java/lang/invoke/MethodHandle" ∧ (mi y).1.cls ≠ "java/lang/invoke/VarHandle" ∧ (parseMethodDescriptor (mi y).1.desc).map (fun d => d.parameters.length) = some n) ∧ (mi y).2.2.1 ≤ 45
def MOV (mi : MI) (y : Nat) : Prop := Cond.instanceMethod (mi y).1 ∈ lw_good ∧ Cond.selects (mi y).1.cls (mi y).1 (mi y).1 ∈ lw_good
theorem st_split (ad : Nat → Nat) (st : List Value) (n : Nat) : st.map (mv ad) = ((st.take n).reverse.map (mv ad)).reverse ++ (st.drop n).map (mv ad) := by
  rw [List.map_reverse, List.reverse_reverse, ← List.map_append, List.take_append_drop]
theorem rk_spec {ci : Nat} {a : List Value} (h : rk ci a = true) : ∃ (c : Nat) (b : List Value), a = .ref c :: b ∧ Nat.beq (kd c) ci = true := by
  unfold rk at h
  split at h
  · exact ⟨_, _, rfl, h⟩
  · cases h
theorem rT_spec {a : List Value} (h : rT a = true) : ∃ (c : Nat) (b : List Value), a = .ref c :: b ∧ 91 ≤ c ∧ c ≤ 97 := by
  unfold rT at h
  split at h
  · simp only [Bool.and_eq_true] at h
    exact ⟨_, _, rfl, Nat.le_of_ble_eq_true h.1, Nat.le_of_ble_eq_true h.2⟩
  · cases h
/-- what a call of a kind gives: the callee's contract, run -/
def RunOK (mi : MI) (cc : ByteArray) (own : String) (nL : Nat) (rt : Option FieldType) (r : List Value → Bool) (f : Nat → Nat) (n pc : Nat) : Prop :=
  ∀ (p : Program) (l : Launch) (e : Env) (R : Room) (s : State) (m : MethodId) (args : Array Value) (below : List Frame) (meth : Method) (c : Code) (G : va_G) (t : T3) (ad : Nat → Nat) (d : Nat), Ctx p R s m args meth c cc own nL rt G t ad d →
    ∀ (st : List Value) (σ : Hp) (K : Po) (H : Heap) (locs : List Loc) (ls : Array Slot), Con mi l G t ad d (f (hdr (st.take n).reverse)) (st.take n).reverse σ K → r (st.take n).reverse = true → (st.take n).length = n → Nat.ble (cs (st.drop n)) 8 = true → va_P G cls (wsA t ad σ) H → va_S (AA ad) s.heap H locs → ls.size = nL →
    ∃ a : Array Value, va_Run p l e R s m args below meth c H locs 0 0 0 0 (F0 m pc ls (st.map (mv ad))) ((st.drop n).map (mv ad)) (Qin G t ad (mi (f (hdr (st.take n).reverse))).2.2.2 K a) (AA ad)
theorem run_V {mi : MI} {cc : ByteArray} {own : String} {nL : Nat} {rt : Option FieldType} {pc ci i y n : Nat} {T : u_T} {N : Nat} (hd : decode cc pc = .ok (.invokevirtual i, 3)) (hm : MOK mi y n) (hv : MOV mi y) (hc : cls[ci]? = some ((mi y).1.cls, T, N)) (h13 : Nat.ble 13 ci = false) (hw : Cond.methodLink own i (mi y).1 ∈ lw_good) : RunOK mi cc own nL rt (rk ci) (fun _ => y) (n + 1) pc := by
  intro p l e R s m args below meth c G t ad d F st σ K H locs ls hcon hrk hlen h8 hP hS hsz
  obtain ⟨hx, hb, hml, hr, hlocks, hown, hts, hK, hJ, hst, hfr, hlo⟩ := F
  obtain ⟨q, b, ea, hq⟩ := rk_spec hrk
  have hlt : q < 128 := kd_lt hq (by cases h9 : Nat.beq ci 99 with | false => rfl | true => rw [Nat.eq_of_beq_eq_true h9] at h13; cases h13)
  have hlb : b.length = n := by
    have := congrArg List.length ea
    rw [List.length_reverse, hlen] at this
    simpa using this.symm
  obtain ⟨m1, m2, m3, m4⟩ := hm
  have h8' := Nat.le_of_ble_eq_true h8
  rw [ea] at hcon
  refine ⟨_, va_runV (As := b.map (mv ad)) (b := ad q) (C := (mi y).1.cls) (Ts := lw_good) ⟨hx, hb, hml, hown, hts⟩ hcon ⟨callB_of n hts (good_ws m1) rfl rfl rfl (hts _ m2) (hts _ hw) m3 ⟨hfr, by show 8 + ((mi y).2.2.1 + 11) + 64 * d ≤ R.locals; omega⟩, hts _ hv.1, hts _ hv.2⟩ ⟨pin_blind, va_recv hK hP hc (by rw [ws_get hlt, cel_o hq h13]), pin_at rfl hP hK hst hS⟩ rfl (by simp [hlb]) hsz (by show st.map (mv ad) = _; rw [st_split ad st (n + 1), ea]; simp [mv]) (by rw [mv_cs]; show 2 * 0 + _ ≤ 8; omega) hd ⟨Nat.zero_le _, Nat.zero_le _⟩⟩
theorem run_S {mi : MI} {cc : ByteArray} {own : String} {nL : Nat} {rt : Option FieldType} {pc i y n : Nat} (hd : decode cc pc = .ok (.invokestatic i, 3)) (hm : MOK mi y n) (hv : Cond.static (mi y).1 ∈ lw_good) (hw : Cond.methodLink own i (mi y).1 ∈ lw_good) : RunOK mi cc own nL rt rS (fun _ => y) n pc := by
  intro p l e R s m args below meth c G t ad d F st σ K H locs ls hcon hrk hlen h8 hP hS hsz
  obtain ⟨hx, hb, hml, hr, hlocks, hown, hts, hK, hJ, hst, hfr, hlo⟩ := F
  obtain ⟨m1, m2, m3, m4⟩ := hm
  have h8' := Nat.le_of_ble_eq_true h8
  refine ⟨_, va_runS (As := (st.take n).reverse.map (mv ad)) (Ts := lw_good) ⟨hx, hb, hml, hown, hts⟩ hcon ⟨callB_of n hts (good_ws m1) rfl rfl rfl (hts _ m2) (hts _ hw) m3 ⟨hfr, by show 8 + ((mi y).2.2.1 + 11) + 64 * d ≤ R.locals; omega⟩, hts _ hv⟩ ⟨pin_blind, pin_at rfl hP hK hst hS⟩ rfl (by rw [List.length_map, List.length_reverse, hlen]) hsz (st_split ad st n) (by rw [mv_cs]; show 2 * 0 + _ ≤ 8; omega) hd ⟨Nat.zero_le _, Nat.zero_le _⟩⟩
/-- the act that a receiver's class selects; a superclass's act -/
theorem th_kd {c : Nat} (h1 : 91 ≤ c) (h2 : c ≤ 97) : c < 128 ∧ Nat.ble 13 (kd c) = false := by
  have : c = 91 ∨ c = 92 ∨ c = 93 ∨ c = 94 ∨ c = 95 ∨ c = 96 ∨ c = 97 := by omega
  rcases this with rfl | rfl | rfl | rfl | rfl | rfl | rfl <;> exact ⟨by omega, rfl⟩
/-- words of an act's call: x is named, the class of cell c selects f c -/
def DOK (mi : MI) (own : String) (i n : Nat) (x : MethodName) (f : Nat → Nat) (c : Nat) : Prop := MOK mi (f c) n ∧ Cond.methodLink own i x ∈ lw_good ∧ Cond.sameMethod x.cls x.cls x.name x.desc ∈ lw_good ∧ Cond.instanceMethod x ∈ lw_good ∧ (∃ (b0 : ByteArray) (m0 : Nat) (r0 : Option FieldType), Cond.code x b0 m0 r0 ∈ lw_good) ∧ (parseMethodDescriptor x.desc).map (fun d => d.parameters.length) = some n ∧ (x.cls ≠ "java/lang/invoke/MethodHandle" ∧ x.cls ≠ "java/lang/invoke/VarHandle") ∧ ∃ (q : vw_C), cls[kd c]? = some q ∧ Cond.selects q.1 x (mi (f c)).1 ∈ lw_good ∧ Cond.instanceMethod (mi (f c)).1 ∈ lw_good
theorem run_D {mi : MI} {cc : ByteArray} {own : String} {nL : Nat} {rt : Option FieldType} {pc i n : Nat} {x : MethodName} {f : Nat → Nat} (hd : decode cc pc = .ok (.invokevirtual i, 3)) (hD : ∀ c, 91 ≤ c → c ≤ 97 → DOK mi own i n x f c) : RunOK mi cc own nL rt rT f (n + 1) pc := by
  intro p l e R s m args below meth c G t ad d F st σ K H locs ls hcon hrk hlen h8 hP hS hsz
  obtain ⟨hx, hb, hml, hr, hlocks, hown, hts, hK, hJ, hst, hfr, hlo⟩ := F
  obtain ⟨q, b, ea, hq1, hq2⟩ := rT_spec hrk
  obtain ⟨hlt, h13⟩ := th_kd hq1 hq2
  have hlb : b.length = n := by
    have := congrArg List.length ea
    rw [List.length_reverse, hlen] at this
    simpa using this.symm
  have hh : hdr (st.take (n + 1)).reverse = q := by rw [ea]; rfl
  rw [hh] at hcon ⊢
  obtain ⟨⟨m1, m2, m3, m4⟩, w1, w2, w3, ⟨b0, m0, r0, w4⟩, w5, w6, qc, w7, w8, w9⟩ := hD q hq1 hq2
  have h8' := Nat.le_of_ble_eq_true h8
  rw [ea] at hcon
  have hT : GoodIn lw_good (va_wsO own i qc.1 x.cls x (mi (f q)).1 (Cond.code (mi (f q)).1 (mi (f q)).2.1 (mi (f q)).2.2.1 (mi (f q)).2.2.2 :: lw_good)) := by
    intro w hw
    have hm : w ∈ lw_good := by
      unfold va_wsO at hw
      rcases List.mem_append.mp hw with hw | hw
      · simp only [List.mem_cons, List.not_mem_nil, or_false] at hw
        rcases hw with rfl | rfl | rfl | rfl | rfl | rfl
        · exact w1
        · exact w2
        · exact w3
        · exact w8
        · exact w9
        · exact m2
      · exact (good_ws m1 w hw).1
    exact ⟨hm, good_of_word (List.mem_filter.mp hm).2⟩
  refine ⟨_, va_runU (As := b.map (mv ad)) (b := ad q) (C := qc.1) (owner := x.cls) (x := x) (Ts := lw_good) ⟨hx, hb, hml, hown, hts⟩ hcon (va_cwO n hts hT rfl rfl rfl (h0 := w4) ⟨w6.1, w6.2, w5⟩ ⟨hfr, by show 8 + ((mi (f q)).2.2.1 + 11) + 64 * d ≤ R.locals; omega⟩) ⟨pin_blind, va_recv hK hP w7 (by rw [ws_get hlt, cel_o (Nat.beq_refl _) h13]), pin_at rfl hP hK hst hS⟩ rfl (by simp [hlb]) hsz (by show st.map (mv ad) = _; rw [st_split ad st (n + 1), ea]; simp [mv]) (by rw [mv_cs]; show 2 * 0 + _ ≤ 8; omega) hd ⟨Nat.zero_le _, Nat.zero_le _⟩⟩
theorem run_U {mi : MI} {cc : ByteArray} {own : String} {nL : Nat} {rt : Option FieldType} {pc i y n : Nat} (hd : decode cc pc = .ok (.invokespecial i, 3)) (hm : MOK mi y n) (hw : Cond.methodLink own i (mi y).1 ∈ lw_good) (hw1 : Cond.sameMethod (mi y).1.cls (mi y).1.cls (mi y).1.name (mi y).1.desc ∈ lw_good) (hw2 : Cond.superclass own (mi y).1.cls ∈ lw_good) (hw3 : Cond.instanceMethod (mi y).1 ∈ lw_good) (hn : (mi y).1.name ≠ "<init>") : RunOK mi cc own nL rt rT (fun _ => y) (n + 1) pc := by
  intro p l e R s m args below meth c G t ad d F st σ K H locs ls hcon hrk hlen h8 hP hS hsz
  obtain ⟨hx, hb, hml, hr, hlocks, hown, hts, hK, hJ, hst, hfr, hlo⟩ := F
  obtain ⟨q, b, ea, hq1, hq2⟩ := rT_spec hrk
  obtain ⟨hlt, h13⟩ := th_kd hq1 hq2
  have hlb : b.length = n := by
    have := congrArg List.length ea
    rw [List.length_reverse, hlen] at this
    simpa using this.symm
  obtain ⟨m1, m2, m3, m4⟩ := hm
  have h8' := Nat.le_of_ble_eq_true h8
  rw [ea] at hcon
  have hk : kd q < cls.length := by
    show kd q < 13
    exact Nat.not_le.mp fun z => by rw [Nat.ble_eq_true_of_le z] at h13; cases h13
  have hT : GoodIn lw_good (va_wsSU own i (mi y).1 (Cond.code (mi y).1 (mi y).2.1 (mi y).2.2.1 (mi y).2.2.2 :: lw_good)) := by
    intro w hw'
    have hm : w ∈ lw_good := by
      unfold va_wsSU at hw'
      rcases List.mem_append.mp hw' with hw' | hw'
      · simp only [List.mem_cons, List.not_mem_nil, or_false] at hw'
        rcases hw' with rfl | rfl | rfl | rfl | rfl
        · exact hw
        · exact hw1
        · exact hw2
        · exact hw3
        · exact m2
      · exact (good_ws m1 w hw').1
    exact ⟨hm, good_of_word (List.mem_filter.mp hm).2⟩
  have hc : cls[kd q]? = some cls[kd q] := List.getElem?_eq_getElem hk
  refine ⟨_, va_runSU (As := b.map (mv ad)) (b := ad q) (hK.1 _ _ hc).2 ⟨hx, hb, hml, hown, hts⟩ hcon (va_cwSU n hts hT rfl rfl rfl ⟨hn, m3.2.2⟩ ⟨hfr, by show 8 + ((mi y).2.2.1 + 11) + 64 * d ≤ R.locals; omega⟩) ⟨pin_blind, va_recv hK hP hc (by rw [ws_get hlt, cel_o (Nat.beq_refl _) h13]), pin_at rfl hP hK hst hS⟩ rfl (by simp [hlb]) hsz (by show st.map (mv ad) = _; rw [st_split ad st (n + 1), ea]; simp [mv]) (by rw [mv_cs]; show 2 * 0 + _ ≤ 8; omega) hd ⟨Nat.zero_le _, Nat.zero_le _⟩⟩
theorem n_cv {mi : MI} {cc : ByteArray} {own : String} {nL : Nat} {rt : Option FieldType} {pc : Nat} {r : List Value → Bool} {y n : Nat} (hrun : RunOK mi cc own nL rt r (fun _ => y) n pc) (hret : (mi y).2.2.2 = none) : SndI mi cc own nL rt (i_cv r y n (pc + 3)) pc := by
  refine ⟨m_cv _ _ _ _, ?_⟩
  intro p l e R s m args below meth c G t ad d Qc F call hcall Q hQ X hX lv st σ h H locs ls hP hS hl
  have F0' := F
  obtain ⟨hx, hb, hml, hr, hlocks, hown, hts, hK, hJ, hst, hfr, hlo⟩ := F
  unfold i_cv at h
  cases hq : (Nat.ble (cs (st.drop n)) 8 && (Nat.beq (st.take n).length n && r (st.take n).reverse)) with
  | false => rw [hq] at h; exact h.elim
  | true =>
    rw [hq] at h
    simp only [Bool.and_eq_true] at hq
    obtain ⟨a, hR⟩ := hrun p l e R s m args below meth c G t ad d F0' st σ _ H locs ls (hcall _ _ _ _ h) hq.2.2 (Nat.eq_of_beq_eq_true hq.2.1) hq.1 hP hS hl.1
    refine run_go hR hS (fun r τ H1 locs1 hrt hk hP1 hS1 => ?_)
    rw [hret] at hrt
    have e : r = none := hrt
    subst e
    exact hX _ _ hk H1 locs1 ls hP1 hS1 hl
theorem n_cI {mi : MI} {cc : ByteArray} {own : String} {nL : Nat} {rt : Option FieldType} {pc : Nat} {r : List Value → Bool} {y n : Nat} (hrun : RunOK mi cc own nL rt r (fun _ => y) n pc) (hret : (mi y).2.2.2 = some .int ∨ (mi y).2.2.2 = some .boolean) : SndI mi cc own nL rt (i_cI r y n (pc + 3)) pc := by
  refine ⟨m_cI _ _ _ _, ?_⟩
  intro p l e R s m args below meth c G t ad d Qc F call hcall Q hQ X hX lv st σ h H locs ls hP hS hl
  have F0' := F
  obtain ⟨hx, hb, hml, hr, hlocks, hown, hts, hK, hJ, hst, hfr, hlo⟩ := F
  unfold i_cI at h
  cases hq : (Nat.ble (cs (st.drop n)) 8 && (Nat.beq (st.take n).length n && r (st.take n).reverse)) with
  | false => rw [hq] at h; exact h.elim
  | true =>
    rw [hq] at h
    simp only [Bool.and_eq_true] at hq
    obtain ⟨a, hR⟩ := hrun p l e R s m args below meth c G t ad d F0' st σ _ H locs ls (hcall _ _ _ _ h) hq.2.2 (Nat.eq_of_beq_eq_true hq.2.1) hq.1 hP hS hl.1
    refine run_go hR hS (fun r τ H1 locs1 hrt hk hP1 hS1 => ?_)
    have e : ∃ v, r = some (.int v) := by rcases hret with q | q <;> (rw [q] at hrt; exact hrt)
    obtain ⟨v, rfl⟩ := e
    exact hX _ _ hk H1 locs1 ls hP1 hS1 hl
theorem n_cL {mi : MI} {cc : ByteArray} {own : String} {nL : Nat} {rt : Option FieldType} {pc : Nat} {r : List Value → Bool} {y n : Nat} (hrun : RunOK mi cc own nL rt r (fun _ => y) n pc) (hret : (mi y).2.2.2 = some .long) : SndI mi cc own nL rt (i_cL r y n (pc + 3)) pc := by
  refine ⟨m_cL _ _ _ _, ?_⟩
  intro p l e R s m args below meth c G t ad d Qc F call hcall Q hQ X hX lv st σ h H locs ls hP hS hl
  have F0' := F
  obtain ⟨hx, hb, hml, hr, hlocks, hown, hts, hK, hJ, hst, hfr, hlo⟩ := F
  unfold i_cL at h
  cases hq : (Nat.ble (cs (st.drop n)) 8 && (Nat.beq (st.take n).length n && r (st.take n).reverse)) with
  | false => rw [hq] at h; exact h.elim
  | true =>
    rw [hq] at h
    simp only [Bool.and_eq_true] at hq
    obtain ⟨a, hR⟩ := hrun p l e R s m args below meth c G t ad d F0' st σ _ H locs ls (hcall _ _ _ _ h) hq.2.2 (Nat.eq_of_beq_eq_true hq.2.1) hq.1 hP hS hl.1
    refine run_go hR hS (fun r τ H1 locs1 hrt hk hP1 hS1 => ?_)
    rw [hret] at hrt
    obtain ⟨v, rfl⟩ := (show ∃ v, r = some (.long v) from hrt)
    exact hX _ _ hk H1 locs1 ls hP1 hS1 hl
theorem n_cD {mi : MI} {cc : ByteArray} {own : String} {nL : Nat} {rt : Option FieldType} {pc : Nat} {f : Nat → Nat} {n : Nat} (hrun : RunOK mi cc own nL rt rT f n pc) (hret : ∀ c, 91 ≤ c → c ≤ 97 → (mi (f c)).2.2.2 = some .int) : SndI mi cc own nL rt (i_cD f n (pc + 3)) pc := by
  refine ⟨m_cD _ _ _, ?_⟩
  intro p l e R s m args below meth c G t ad d Qc F call hcall Q hQ X hX lv st σ h H locs ls hP hS hl
  have F0' := F
  obtain ⟨hx, hb, hml, hr, hlocks, hown, hts, hK, hJ, hst, hfr, hlo⟩ := F
  unfold i_cD at h
  cases hq : (Nat.ble (cs (st.drop n)) 8 && (Nat.beq (st.take n).length n && rT (st.take n).reverse)) with
  | false => rw [hq] at h; exact h.elim
  | true =>
    rw [hq] at h
    simp only [Bool.and_eq_true] at hq
    obtain ⟨a, hR⟩ := hrun p l e R s m args below meth c G t ad d F0' st σ _ H locs ls (hcall _ _ _ _ h) hq.2.2 (Nat.eq_of_beq_eq_true hq.2.1) hq.1 hP hS hl.1
    refine run_go hR hS (fun r τ H1 locs1 hrt hk hP1 hS1 => ?_)
    obtain ⟨q, b, ea, hq1, hq2⟩ := rT_spec hq.2.2
    rw [hret _ (by rw [ea]; exact hq1) (by rw [ea]; exact hq2)] at hrt
    obtain ⟨v, rfl⟩ := (show ∃ v, r = some (.int v) from hrt)
    exact hX _ _ hk H1 locs1 ls hP1 hS1 hl
theorem ls_go {pc : Int} {dflt : Int} {k : Nat} (hk : pc + dflt = (k : Int)) {X : Fr → Hp → Prop} {lv : Lv} {st : List Value} {σ : Hp} {x : Int32} : ∀ {ps : List (Int × Int)} {ts : List (Int32 × Nat)}, ps.map (fun q => (q.1, pc + q.2)) = ts.map (fun q => (q.1.toInt, (q.2 : Int))) → swc X lv st σ x k ts → ∃ g : Nat, X (g, lv, st) σ ∧ pc + Op.lookupswitch.offset ps dflt x.toInt = (g : Int) := by
  intro ps
  induction ps with
  | nil =>
    intro ts he h
    cases ts with
    | nil => exact ⟨k, h, hk⟩
    | cons a l => simp at he
  | cons a l ih =>
    intro ts he h
    cases ts with
    | nil => simp at he
    | cons b l2 =>
      obtain ⟨a1, a2⟩ := a
      obtain ⟨v, g⟩ := b
      simp only [List.map_cons, List.cons.injEq, Prod.mk.injEq] at he
      obtain ⟨⟨e1, e2⟩, e3⟩ := he
      unfold swc at h
      rw [Op.lookupswitch.offset_cons]
      by_cases e : x = v
      · rw [if_pos e] at h
        rw [if_pos (by rw [e1, e])]
        exact ⟨g, h, e2⟩
      · rw [if_neg e] at h
        rw [if_neg (by rw [e1]; exact fun z => e (Int32.toInt_inj.mp z.symm))]
        exact ih e3 h
theorem n_lsw {mi : MI} {cc : ByteArray} {own : String} {nL : Nat} {rt : Option FieldType} {pc : Nat} {dflt : Int} {ps : Array (Int × Int)} {len : Nat} {ts : List (Int32 × Nat)} {k : Nat} (hd : decode cc pc = .ok (.lookupswitch dflt ps, len)) (hok : ps.toList.map (fun q => (q.1, (pc : Int) + q.2)) = ts.map (fun q => (q.1.toInt, (q.2 : Int)))) (hp : (ps.toList.zip (ps.toList.drop 1)).all (fun (a, next) => a.1 < next.1) = true) (hk : (pc : Int) + dflt = (k : Int)) : SndI mi cc own nL rt (i_sw ts k) pc := by
  refine ⟨m_sw _ _, ?_⟩
  intro p l e R s m args below meth c G t ad d Qc F call hcall Q hQ X hX lv st σ h H locs ls hP hS hl
  have F0' := F
  obtain ⟨hx, hb, hml, hr, hlocks, hown, hts, hK, hJ, hst, hfr, hlo⟩ := F
  unfold i_sw at h
  split at h
  · obtain ⟨g, hg, hgo⟩ := ls_go hk hok h
    exact lv_lookup hx hb hd hp rfl hgo (hX _ _ hg H locs ls hP hS hl)
  · exact h.elim
end
section
/-! ===== methods: what a call comes to, by depth; it holds of the machine ===== -/
def lsn (a : List Value) : Nat := match a with
  | [] => 0
  | v :: l => v.category + lsn l
/-- ms: the code of a method by its number; mL: how many local slots it has -/
def CT (ms : Nat → Nat → Sm) (mL : Nat → Nat) : Nat → Cl
  | 0 => fun _ _ _ _ => False
  | d + 1 => fun y a σ K => cond (Nat.ble (lsn a) (mL y)) (WP (ms y) (CT ms mL d) K (0, lv_args 0 a, []) σ) False
theorem wp_mono {c : Nat → Sm} (hm : ∀ pc, Mono (c pc)) {call call' : Cl} {Q Q' : Po} (hc : ∀ y a σ K K', (∀ r τ, K r τ → K' r τ) → call y a σ K → call' y a σ K') (hQ : ∀ r τ, Q r τ → Q' r τ) {fr : Fr} {σ : Hp} (h : WP c call Q fr σ) : WP c call' Q' fr σ := by
  intro X hX hw
  exact h X (fun pc lv st τ hh => hX pc lv st τ (hm pc _ _ _ _ _ _ (fun _ _ q => q) hc hQ lv st τ hh)) hw
theorem wp_in {c : Nat → Sm} (hm : ∀ pc, Mono (c pc)) {call : Cl} (hc : CMono call) {Q : Po} {pc : Nat} {lv : Lv} {st : List Value} {σ : Hp} (h : c pc (WP c call Q) call Q lv st σ) : WP c call Q (pc, lv, st) σ := fun X hX hw => hX pc lv st σ (hm pc _ _ _ _ _ _ (fun _ _ w => w X hX hw) hc (fun _ _ q => q) lv st σ h)
/-- fewer locals are enough -/
theorem wp_weak {c : Nat → Sm} {call : Cl} {Q : Po} {pc : Nat} {lv lv' : Lv} {st : List Value} {σ : Hp} (hs : ∀ q ∈ lv, q ∈ lv') (h : WP c call Q (pc, lv, st) σ) : WP c call Q (pc, lv', st) σ := fun X hX hw => hw pc lv lv' st σ hs (h X hX hw)
theorem wp_flt {c : Nat → Sm} {call : Cl} {Q : Po} {fr : Fr} {f : Nat × Value → Bool} {σ : Hp} (h : WP c call Q (fr.1, fr.2.1.filter f, fr.2.2) σ) : WP c call Q fr σ := by
  obtain ⟨pc, lv, st⟩ := fr
  exact wp_weak (fun _ hq => (List.mem_filter.mp hq).1) h
theorem wp_run {c : Nat → Sm} (hm : ∀ pc, Mono (c pc)) {call : Cl} (hc : CMono call) {Q : Po} {cut : Nat → Bool} : ∀ (n : Nat) {fr : Fr} {σ : Hp}, wk c call Q cut (WP c call Q) n fr σ → WP c call Q fr σ := by
  intro n
  induction n with
  | zero => intro fr σ h; exact h
  | succ n ih =>
    intro fr σ h
    obtain ⟨pc, lv, st⟩ := fr
    unfold wk at h
    cases hb : cut (pc, lv, st).1 with
    | true => rw [hb] at h; exact h
    | false =>
      rw [hb] at h
      exact wp_in hm hc (hm pc _ _ _ _ _ _ (fun _ _ w => ih w) hc (fun _ _ q => q) lv st σ h)
theorem wp_go {c : Nat → Sm} (hm : ∀ pc, Mono (c pc)) {call : Cl} (hc : CMono call) {Q : Po} (cut : Nat → Bool) (n : Nat) {pc : Nat} {lv : Lv} {st : List Value} {σ : Hp} (h : c pc (wk c call Q cut (WP c call Q) n) call Q lv st σ) : WP c call Q (pc, lv, st) σ :=
  wp_in hm hc (hm pc _ _ _ _ _ _ (fun _ _ w => wp_run hm hc n w) hc (fun _ _ q => q) lv st σ h)
/-- from a place on to the cuts, where the locals that are wanted no more are left out -/
theorem wp_cut {c : Nat → Sm} (hm : ∀ pc, Mono (c pc)) {call : Cl} (hc : CMono call) {Q : Po} (cut : Nat → Bool) (lk : Nat → Nat → Bool) (n : Nat) {pc : Nat} {lv : Lv} {st : List Value} {σ : Hp} (h : c pc (wk c call Q cut (fun fr τ => WP c call Q (fr.1, fr.2.1.filter (fun q => lk fr.1 q.1), fr.2.2) τ) n) call Q lv st σ) : WP c call Q (pc, lv, st) σ := by
  have key : ∀ (n : Nat) (fr : Fr) (τ : Hp), wk c call Q cut (fun fr τ => WP c call Q (fr.1, fr.2.1.filter (fun q => lk fr.1 q.1), fr.2.2) τ) n fr τ → wk c call Q cut (WP c call Q) n fr τ := by
    intro n
    induction n with
    | zero => intro fr τ z; exact wp_flt z
    | succ n ih =>
      intro fr τ z
      unfold wk at z ⊢
      cases hb : cut fr.1 with
      | true => rw [hb] at z; exact wp_flt z
      | false =>
        rw [hb] at z
        exact hm fr.1 _ _ _ _ _ _ ih hc (fun _ _ q => q) _ _ τ z
  exact wp_go hm hc cut n (hm pc _ _ _ _ _ _ (key n) hc (fun _ _ q => q) lv st σ h)
theorem ct_mono {ms : Nat → Nat → Sm} {mL : Nat → Nat} (hm : ∀ y pc, Mono (ms y pc)) : ∀ (d d' : Nat), d ≤ d' → ∀ (y : Nat) (a : List Value) (σ : Hp) (K K' : Po), (∀ r τ, K r τ → K' r τ) → CT ms mL d y a σ K → CT ms mL d' y a σ K' := by
  intro d
  induction d with
  | zero => intro d' _ y a σ K K' _ h; exact h.elim
  | succ d ih =>
    intro d' hd y a σ K K' hK h
    obtain ⟨e, rfl⟩ : ∃ e, d' = e + 1 := ⟨d' - 1, by omega⟩
    unfold CT at h ⊢
    cases hb : Nat.ble (lsn a) (mL y) with
    | false => rw [hb] at h; exact h.elim
    | true =>
      rw [hb] at h
      exact wp_mono (hm y) (fun y a σ K K' q z => ih e (by omega) y a σ K K' q z) hK h
theorem ct_cm {ms : Nat → Nat → Sm} {mL : Nat → Nat} (hm : ∀ y pc, Mono (ms y pc)) (d : Nat) : CMono (CT ms mL d) := fun y a σ K K' q z => ct_mono hm d d (Nat.le_refl d) y a σ K K' q z
theorem lsn_eq (ad : Nat → Nat) : ∀ a : List Value, (lg_sl (a.map (mv ad))).length = lsn a := by
  intro a
  induction a with
  | nil => rfl
  | cons v l ih =>
    rw [List.map_cons, show lg_sl (mv ad v :: l.map (mv ad)) = (if (mv ad v).category = 2 then [.val (mv ad v), .second] else [.val (mv ad v)]) ++ lg_sl (l.map (mv ad)) from rfl, List.length_append, ih, mv_cat]
    show _ = v.category + lsn l
    cases v <;> rfl
theorem lva_map (ad : Nat → Nat) : ∀ (a : List Value) (i : Nat), (lv_args i a).map (mvl ad) = lv_args i (a.map (mv ad)) := by
  intro a
  induction a with
  | nil => intro i; rfl
  | cons v l ih =>
    intro i
    simp only [lv_args, List.map_cons]
    rw [ih, mv_cat]
    rfl
theorem ct_sound {mi : MI} {ms : Nat → Nat → Sm} (hS : ∀ y, plainName (mi y).1.cls = true ∧ ∀ pc, SndI mi (mi y).2.1 (mi y).1.cls (mi y).2.2.1 (mi y).2.2.2 (ms y pc) pc) (l : Launch) (G : va_G) (t : T3) (ad : Nat → Nat) (hJ : Inj ad) : ∀ (d y : Nat) (a : List Value) (σ : Hp) (K : Po), CT ms (fun y => (mi y).2.2.1) d y a σ K → Con mi l G t ad d y a σ K := by
  intro d
  induction d with
  | zero => intro y a σ K h; exact h.elim
  | succ d ih =>
    intro y a σ K h
    unfold CT at h
    cases hb : Nat.ble (lsn a) (mi y).2.2.1 with
    | false => simp only [hb] at h; exact h.elim
    | true =>
      simp only [hb] at h
      have hle := Nat.le_of_ble_eq_true hb
      refine Met.ofW (cc := (mi y).2.1) (maxL := (mi y).2.2.1) (ret := (mi y).2.2.2) (hS y).1 rfl ?_
      intro p e s m args below meth c s₁ B hml hv
      obtain ⟨rfl, hP, hK, hst⟩ := hv
      have hts := atoms_spec (ws := Cond.code (mi y).1 (mi y).2.1 (mi y).2.2.1 (mi y).2.2.2 :: lw_good) B.pre
      have hown : s.vm.findClass (mi y).1.cls = some m.cls := findClass_of_methodNamed B.named
      have hl := lv_entry (a.map (mv ad)) (n := (mi y).2.2.1) (by rw [lsn_eq]; exact hle)
      rw [lg_entry_eq]
      have key : Jd p l e (rmD (d + 1)) s m (a.map (mv ad)).toArray below meth c (mi y).2.2.1 G t ad (Qin G t ad (mi y).2.2.2 K) (0, lv_args 0 a, []) σ :=
        h (Jd p l e (rmD (d + 1)) s m (a.map (mv ad)).toArray below meth c (mi y).2.2.1 G t ad (Qin G t ad (mi y).2.2.2 K)) (fun pc lv st τ hh => ((hS y).2 pc).2 p l e (rmD (d + 1)) s m _ below meth c G t ad d _ ⟨B.exec, B.bytes, hml, B.returns, B.notSynchronized, hown, fun w hw => hts w (List.mem_cons_of_mem _ hw), hK, hJ, hst, Nat.le_refl _, by show 64 * d + 64 ≤ 64 * (d + 1); omega⟩ _ (fun y a σ K z => ih y a σ K z) K (fun r τ u h1 h2 h3 h4 => ⟨⟨r, τ, rfl, h1, h2, h3⟩, h4⟩) _ (fun _ _ z => z) lv st τ hh) (fun pc lv lv' st τ hs z H locs ls q1 q2 q3 => z H locs ls q1 q2 ⟨q3.1, q3.2.1, fun q hq => q3.2.2 q (by obtain ⟨w, hw, rfl⟩ := List.mem_map.mp hq; exact List.mem_map_of_mem (hs w hw))⟩)
      exact key s.heap [] _ hP va_S.rf (by rw [lva_map]; exact hl)
/-! ===== super.m(..) where the superclass inherits m ===== -/
section SX
variable {p : Program} {l : Launch} {e : Env} {R : Room} {s : State} {m : MethodId} {args : Array Value} {below : List Frame} {meth : Method} {c : Code}
theorem callSX {T : State} {locs : List Loc} {cells slots : Nat} (X : Stand p l e R s m args below meth c T locs cells slots) (hexec : p.tables.exec = Jvm.exec) {own owner : String} {index : Nat} {x y : MethodName} {bytes : ByteArray} {maxL : Nat} {ret : Option FieldType} (hyx : y = ⟨owner, x.name, x.desc⟩)
    (hown : s.vm.findClass own = some m.cls) (hlink : (Cond.methodLink own index x).before args s = true) (hsame : (Cond.sameMethod x.cls owner x.name x.desc).before args s = true) (hsup : (Cond.superclass own x.cls).before args s = true) (hsup2 : (Cond.superclass x.cls owner).before args s = true)
    (hinst : (Cond.instanceMethod y).before args s = true) (hcode : (Cond.code y bytes maxL ret).before args s = true) (hno : y.name ≠ "<init>")
    {W : Nat} {Pre : Pt → Array Value → Prop} {Post : Pt → Array Value → Option Value → Pt → Prop} (hK : Back l R p e below s args y 3 W Pre Post)
    {b : Addr} {cellB : Cell} {kB : Class} (hcell : T.heap[b]? = some cellB) (hobj : cellB.vm.isStatics = false) (hkB : s.vm.classes[cellB.cls]? = some kB)
    {g : JFrame} (hg : g.method = m) (hsize : g.locals.size = c.maxLocals) {argsL rest : List Value} (hlen : ∀ sig, parseMethodDescriptor y.desc = some sig → argsL.length = sig.parameters.length)
    (hstack : g.stack = argsL.reverse ++ .ref b :: rest) (hW : 2 * g.monitorRoom + (rest.map fun v => v.category).sum ≤ W) (hdg : decode c.code g.pc = .ok (.invokespecial index, 3))
    (hpre : ∀ vm₁, s.WarmedH vm₁ → Pre ⟨T.setVm vm₁, locs, cells, slots⟩ (Value.ref b :: argsL).toArray) :
    ∃ (v : Option Value) (vm₁ : Vm) (B : Pt), s.WarmedH vm₁ ∧ Stand p l e R s m args below meth c B.U B.locs B.cells B.slots ∧ Post ⟨T.setVm vm₁, locs, cells, slots⟩ (Value.ref b :: argsL).toArray v B ∧
      ∀ target, Steps p.tables e below (B.U.setTop { g with pc := g.pc + 3, stack := v.toList ++ rest }) target → Steps p.tables e below (T.setTop g) target := by
  obtain ⟨mk, methM, hnamed, hmethM, hstM, habM⟩ := Cond.instanceMethod_spec hinst
  obtain ⟨methM', cM, hmethM', -, -, -, -, -, -, hsigM⟩ := Cond.code_spec hnamed hcode
  cases hmethM.symm.trans hmethM'
  obtain ⟨ps, dk, kp, hps, hdk, hkp, hsuper, -, -, hnid⟩ := Cond.superclass_spec hown hsup
  obtain ⟨pt, pk, kt, hpt, hpk, hkt, hsuper2, -, -, -⟩ := Cond.superclass_spec hps hsup2
  subst hyx
  have hn : s.methodNamed? ⟨owner, x.name, x.desc⟩ = some mk := hnamed
  have hpm : pt = mk.cls := Option.some.inj (hpt.symm.trans (findClass_of_methodNamed hnamed))
  have hsz : 0 < s.vm.classes.size := Nat.lt_of_le_of_lt (Nat.zero_le _) (Array.getElem?_eq_some_iff.mp hpk).1
  have hsub : s.vm.isSubclass ps mk.cls = true := by
    rw [← hpm]
    unfold Vm.isSubclass
    obtain ⟨k, hk⟩ : ∃ k, s.vm.classes.size = k + 1 := ⟨s.vm.classes.size - 1, by omega⟩
    rw [hk]
    simp [Vm.isSubclassAux, hpk, hsuper2]
  obtain ⟨vm₁, X₁, hstep₁⟩ := X.invokespecialUp hexec hown hlink hsame hn hmethM hstM habM hno hdk hnid hps hsuper hsub (a := b) (cell := cellB) hcell
    (fun z h => by rw [h] at hobj; cases hobj) hkB (g := g) hg (argsL := argsL) (rest := rest) (hlen _ hsigM) hstack hdg
  obtain ⟨v, B, X', hpost, hsteps⟩ := hK m meth c ⟨T.setVm vm₁, locs, cells, slots⟩ { g with stack := rest } (.invokespecial index) mk (Value.ref b :: argsL).toArray X₁ hg hsize hdg hW (X₁.named hnamed) (hpre vm₁ X₁.warmed)
  exact ⟨v, vm₁, B, X₁.warmed, X', hpost, fun target h => hstep₁ _ (by rw [doInvoke_state]; exact hsteps.trans h)⟩
end SX
theorem run_X {mi : MI} {cc : ByteArray} {own : String} {nL : Nat} {rt : Option FieldType} {pc i y n : Nat} {x : MethodName} (hd : decode cc pc = .ok (.invokespecial i, 3)) (hm : MOK mi y n) (hyx : (mi y).1 = ⟨(mi y).1.cls, x.name, x.desc⟩) (hw : Cond.methodLink own i x ∈ lw_good) (hw1 : Cond.sameMethod x.cls (mi y).1.cls x.name x.desc ∈ lw_good) (hw2 : Cond.superclass own x.cls ∈ lw_good) (hw4 : Cond.superclass x.cls (mi y).1.cls ∈ lw_good) (hw3 : Cond.instanceMethod (mi y).1 ∈ lw_good) (hn : (mi y).1.name ≠ "<init>") : RunOK mi cc own nL rt rT (fun _ => y) (n + 1) pc := by
  intro p l e R s m args below meth c G t ad d F st σ K H locs ls hcon hrk hlen h8 hP hS hsz
  obtain ⟨hx, hb, hml, hr, hlocks, hown, hts, hK, hJ, hst, hfr, hlo⟩ := F
  obtain ⟨q, b, ea, hq1, hq2⟩ := rT_spec hrk
  obtain ⟨hlt, h13⟩ := th_kd hq1 hq2
  have hlb : b.length = n := by
    have := congrArg List.length ea
    rw [List.length_reverse, hlen] at this
    simpa using this.symm
  obtain ⟨m1, m2, m3, m4⟩ := hm
  have h8' := Nat.le_of_ble_eq_true h8
  rw [ea] at hcon
  have hk : kd q < cls.length := by
    show kd q < 13
    exact Nat.not_le.mp fun z => by rw [Nat.ble_eq_true_of_le z] at h13; cases h13
  have hc : cls[kd q]? = some cls[kd q] := List.getElem?_eq_getElem hk
  obtain ⟨cellB, hcB, hoB, hclB⟩ := va_recv hK hP hc (by rw [ws_get hlt, cel_o (Nat.beq_refl _) h13])
  obtain ⟨hfc, kB, hkB, -⟩ := (hK.1 _ _ hc).2
  have hce : G.1 (kd q) = cellB.cls := Option.some.inj (hfc.symm.trans hclB)
  rw [hce] at hkB
  have hini := hts _ m2
  have hB : Back l R p e below s args (mi y).1 3 8 (PreOf R 0 0 (Pin G t ad σ (.ref q :: b))) (PostOf (Qin G t ad (mi y).2.2.2 K) 0 0 (AA ad)) := back_of (bytes := (mi y).2.1) (maxL := (mi y).2.2.1) (ret := (mi y).2.2.2) hcon pin_blind rfl rfl hfr (by show 8 + ((mi y).2.2.1 + 11) + 64 * d ≤ R.locals; omega) (pay_in hts (good_ws m1)) List.mem_cons_self (fun a' U hW => word_at hW (good_of_word (List.mem_filter.mp m2).2) hini)
  refine ⟨((Value.ref q :: b).map (mv ad)).toArray, ?_⟩
  intro T hT X
  obtain ⟨v, vm₁, ⟨U', l2, c2, s2⟩, hW₁, X', ⟨g', mk, t', L, e1, e2, hqq, h1, hL, h2, h3⟩, stp⟩ := callSX X hx (bytes := (mi y).2.1) (maxL := (mi y).2.2.1) (ret := (mi y).2.2.2) hyx hown (hts _ hw) (hts _ hw1) (hts _ hw2) (hts _ hw4) (hts _ hw3) (hts _ m1) hn hB (by rw [hT]; exact hcB) hoB hkB (g := F0 m pc ls (st.map (mv ad))) rfl (hsz.trans hml.symm) (argsL := b.map (mv ad)) (rest := (st.drop (n + 1)).map (mv ad)) (fun sig h => by rw [List.length_map, hlb]; have := m3.2.2; rw [h] at this; exact (Option.some.inj this).symm) (by show st.map (mv ad) = _; rw [st_split ad st (n + 1), ea]; simp [mv]) (by rw [mv_cs]; show 2 * 0 + _ ≤ 8; omega) (by rw [hb]; exact hd)
    (fun vm₁ hW₁ => ⟨Nat.zero_le _, Nat.zero_le _, pin_at rfl hP hK hst hS (T.setVm vm₁) hT hW₁⟩)
  dsimp only [Pt.U, Pt.locs, Pt.cells, Pt.slots] at X' e1 e2 h1 h2 h3 stp
  subst h1; subst h2; subst h3
  exact ⟨v, (T.setVm vm₁).calling g' mk ((Value.ref q :: b).map (mv ad)).toArray, t', U', L, hT, X', hL, e1, e2, hqq, stp⟩
/-- a method that the receiver's class inherits, named through that class -/
theorem run_I {mi : MI} {cc : ByteArray} {own : String} {nL : Nat} {rt : Option FieldType} {pc ci i y n : Nat} {x : MethodName} {C : String} {T : u_T} {N : Nat} (hd : decode cc pc = .ok (.invokevirtual i, 3)) (hm : MOK mi y n) (hyx : (mi y).1 = ⟨(mi y).1.cls, x.name, x.desc⟩) (hc : cls[ci]? = some (C, T, N)) (h13 : Nat.ble 13 ci = false) (hw : Cond.methodLink own i x ∈ lw_good) (hw1 : Cond.sameMethod x.cls (mi y).1.cls x.name x.desc ∈ lw_good) (hw2 : Cond.selects C x (mi y).1 ∈ lw_good) (hw3 : Cond.instanceMethod (mi y).1 ∈ lw_good) : RunOK mi cc own nL rt (rk ci) (fun _ => y) (n + 1) pc := by
  intro p l e R s m args below meth c G t ad d F st σ K H locs ls hcon hrk hlen h8 hP hS hsz
  obtain ⟨hx, hb, hml, hr, hlocks, hown, hts, hK, hJ, hst, hfr, hlo⟩ := F
  obtain ⟨q, b, ea, hq⟩ := rk_spec hrk
  have hlt : q < 128 := kd_lt hq (by cases h9 : Nat.beq ci 99 with | false => rfl | true => rw [Nat.eq_of_beq_eq_true h9] at h13; cases h13)
  have hlb : b.length = n := by
    have := congrArg List.length ea
    rw [List.length_reverse, hlen] at this
    simpa using this.symm
  obtain ⟨m1, m2, m3, m4⟩ := hm
  have h8' := Nat.le_of_ble_eq_true h8
  rw [ea] at hcon
  have hdx : (parseMethodDescriptor x.desc).map (fun d => d.parameters.length) = some n := by have := m3.2.2; rw [hyx] at this; exact this
  have hT : GoodIn lw_good (va_wsU own i C (mi y).1.cls x (mi y).1 (Cond.code (mi y).1 (mi y).2.1 (mi y).2.2.1 (mi y).2.2.2 :: lw_good)) := by
    intro w hw'
    have hm : w ∈ lw_good := by
      unfold va_wsU at hw'
      rcases List.mem_append.mp hw' with hw' | hw'
      · simp only [List.mem_cons, List.not_mem_nil, or_false] at hw'
        rcases hw' with rfl | rfl | rfl | rfl | rfl
        · exact hw
        · exact hw1
        · exact hw2
        · exact hw3
        · exact m2
      · exact (good_ws m1 w hw').1
    exact ⟨hm, good_of_word (List.mem_filter.mp hm).2⟩
  refine ⟨_, va_runU (As := b.map (mv ad)) (b := ad q) (C := C) (owner := (mi y).1.cls) (x := x) (Ts := lw_good) ⟨hx, hb, hml, hown, hts⟩ hcon (va_cwU n hts hT rfl rfl rfl hyx ⟨m3.1, m3.2.1, hdx⟩ ⟨hfr, by show 8 + ((mi y).2.2.1 + 11) + 64 * d ≤ R.locals; omega⟩) ⟨pin_blind, va_recv hK hP hc (by rw [ws_get hlt, cel_o hq h13]), pin_at rfl hP hK hst hS⟩ rfl (by simp [hlb]) hsz (by show st.map (mv ad) = _; rw [st_split ad st (n + 1), ea]; simp [mv]) (by rw [mv_cs]; show 2 * 0 + _ ≤ 8; omega) hd ⟨Nat.zero_le _, Nat.zero_le _⟩⟩
end
