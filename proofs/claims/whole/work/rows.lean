section
-- ===== PART A: goes FIRST, ahead of the names: the tables' words, and 'selects' of the private methods out of them =====
/-- a private method of a class that the tables say can be made, by its rows of tables_1 -/
def lw_okq (q : MethodName × Nat) : Prop := (q.1.cls ≠ "java/lang/invoke/MethodHandle" ∧ q.1.cls ≠ "java/lang/invoke/VarHandle") ∧ Cond.instantiable q.1.cls q.2 ∈ tables_1 ∧ Cond.privateMethod q.1 ∈ tables_1 ∧ Cond.instanceMethod q.1 ∈ tables_1
theorem lw_p0 : lw_okq (⟨"NoneWords$Facts", "addNode", "(II)I"⟩, 11) := ⟨⟨by decide +kernel, by decide +kernel⟩, List.mem_of_getElem? (i := 21) (by decide +kernel), List.mem_of_getElem? (i := 207) (by decide +kernel), List.mem_of_getElem? (i := 208) (by decide +kernel)⟩
theorem lw_p1 : lw_okq (⟨"NoneWords$Writer", "countUses", "(I)V"⟩, 15) := ⟨⟨by decide +kernel, by decide +kernel⟩, List.mem_of_getElem? (i := 65) (by decide +kernel), List.mem_of_getElem? (i := 270) (by decide +kernel), List.mem_of_getElem? (i := 271) (by decide +kernel)⟩
theorem lw_p2 : lw_okq (⟨"NoneWords$Writer", "countUse", "(I)V"⟩, 15) := ⟨⟨by decide +kernel, by decide +kernel⟩, List.mem_of_getElem? (i := 65) (by decide +kernel), List.mem_of_getElem? (i := 278) (by decide +kernel), List.mem_of_getElem? (i := 279) (by decide +kernel)⟩
theorem lw_p3 : lw_okq (⟨"NoneWords$Writer", "await", "(IIII)V"⟩, 15) := ⟨⟨by decide +kernel, by decide +kernel⟩, List.mem_of_getElem? (i := 65) (by decide +kernel), List.mem_of_getElem? (i := 287) (by decide +kernel), List.mem_of_getElem? (i := 288) (by decide +kernel)⟩
theorem lw_p4 : lw_okq (⟨"NoneWords$Writer", "open", "(I)V"⟩, 15) := ⟨⟨by decide +kernel, by decide +kernel⟩, List.mem_of_getElem? (i := 65) (by decide +kernel), List.mem_of_getElem? (i := 291) (by decide +kernel), List.mem_of_getElem? (i := 292) (by decide +kernel)⟩
theorem lw_p5 : lw_okq (⟨"NoneWords$Writer", "say", "(IIII)V"⟩, 15) := ⟨⟨by decide +kernel, by decide +kernel⟩, List.mem_of_getElem? (i := 65) (by decide +kernel), List.mem_of_getElem? (i := 299) (by decide +kernel), List.mem_of_getElem? (i := 300) (by decide +kernel)⟩
theorem lw_p6 : lw_okq (⟨"NoneWords$Writer", "openOfJoins", "(III)V"⟩, 15) := ⟨⟨by decide +kernel, by decide +kernel⟩, List.mem_of_getElem? (i := 65) (by decide +kernel), List.mem_of_getElem? (i := 303) (by decide +kernel), List.mem_of_getElem? (i := 304) (by decide +kernel)⟩
theorem lw_p7 : lw_okq (⟨"NoneWords$Writer", "hasNumber", "(I)Z"⟩, 15) := ⟨⟨by decide +kernel, by decide +kernel⟩, List.mem_of_getElem? (i := 65) (by decide +kernel), List.mem_of_getElem? (i := 307) (by decide +kernel), List.mem_of_getElem? (i := 308) (by decide +kernel)⟩
theorem lw_p8 : lw_okq (⟨"NoneWords$Writer", "close", "(IIII)V"⟩, 15) := ⟨⟨by decide +kernel, by decide +kernel⟩, List.mem_of_getElem? (i := 65) (by decide +kernel), List.mem_of_getElem? (i := 315) (by decide +kernel), List.mem_of_getElem? (i := 316) (by decide +kernel)⟩
theorem lw_p9 : lw_okq (⟨"NoneWords$Writer", "isShared", "(I)Z"⟩, 15) := ⟨⟨by decide +kernel, by decide +kernel⟩, List.mem_of_getElem? (i := 65) (by decide +kernel), List.mem_of_getElem? (i := 319) (by decide +kernel), List.mem_of_getElem? (i := 320) (by decide +kernel)⟩
theorem lw_p10 : lw_okq (⟨"NoneWords$Writer", "giveNumber", "(I)V"⟩, 15) := ⟨⟨by decide +kernel, by decide +kernel⟩, List.mem_of_getElem? (i := 65) (by decide +kernel), List.mem_of_getElem? (i := 323) (by decide +kernel), List.mem_of_getElem? (i := 324) (by decide +kernel)⟩
theorem lw_p11 : lw_okq (⟨"NoneWords$Writer", "openOfLeafAndJoin", "(III)V"⟩, 15) := ⟨⟨by decide +kernel, by decide +kernel⟩, List.mem_of_getElem? (i := 65) (by decide +kernel), List.mem_of_getElem? (i := 337) (by decide +kernel), List.mem_of_getElem? (i := 338) (by decide +kernel)⟩
theorem lw_p12 : lw_okq (⟨"NoneWords$Writer", "goOn", "(III)V"⟩, 15) := ⟨⟨by decide +kernel, by decide +kernel⟩, List.mem_of_getElem? (i := 65) (by decide +kernel), List.mem_of_getElem? (i := 350) (by decide +kernel), List.mem_of_getElem? (i := 351) (by decide +kernel)⟩
theorem lw_p13 : lw_okq (⟨"NoneWords$Speech", "put", "(Ljava/lang/String;)V"⟩, 5) := ⟨⟨by decide +kernel, by decide +kernel⟩, List.mem_of_getElem? (i := 117) (by decide +kernel), List.mem_of_getElem? (i := 386) (by decide +kernel), List.mem_of_getElem? (i := 387) (by decide +kernel)⟩
theorem lw_p14 : lw_okq (⟨"NoneWords$Speech", "put", "(C)V"⟩, 5) := ⟨⟨by decide +kernel, by decide +kernel⟩, List.mem_of_getElem? (i := 117) (by decide +kernel), List.mem_of_getElem? (i := 438) (by decide +kernel), List.mem_of_getElem? (i := 439) (by decide +kernel)⟩
theorem lw_p15 : lw_okq (⟨"NoneWords$Speech", "tellNode", "(I)V"⟩, 5) := ⟨⟨by decide +kernel, by decide +kernel⟩, List.mem_of_getElem? (i := 117) (by decide +kernel), List.mem_of_getElem? (i := 442) (by decide +kernel), List.mem_of_getElem? (i := 443) (by decide +kernel)⟩
def lw_privs_1 : List (MethodName × Nat) := [(⟨"NoneWords$Facts", "addNode", "(II)I"⟩, 11), (⟨"NoneWords$Writer", "countUses", "(I)V"⟩, 15), (⟨"NoneWords$Writer", "countUse", "(I)V"⟩, 15), (⟨"NoneWords$Writer", "await", "(IIII)V"⟩, 15), (⟨"NoneWords$Writer", "open", "(I)V"⟩, 15), (⟨"NoneWords$Writer", "say", "(IIII)V"⟩, 15), (⟨"NoneWords$Writer", "openOfJoins", "(III)V"⟩, 15), (⟨"NoneWords$Writer", "hasNumber", "(I)Z"⟩, 15), (⟨"NoneWords$Writer", "close", "(IIII)V"⟩, 15), (⟨"NoneWords$Writer", "isShared", "(I)Z"⟩, 15), (⟨"NoneWords$Writer", "giveNumber", "(I)V"⟩, 15), (⟨"NoneWords$Writer", "openOfLeafAndJoin", "(III)V"⟩, 15), (⟨"NoneWords$Writer", "goOn", "(III)V"⟩, 15), (⟨"NoneWords$Speech", "put", "(Ljava/lang/String;)V"⟩, 5), (⟨"NoneWords$Speech", "put", "(C)V"⟩, 5), (⟨"NoneWords$Speech", "tellNode", "(I)V"⟩, 5)]
theorem lw_r1 : ∀ q ∈ lw_privs_1, lw_okq q := List.forall_mem_cons.mpr ⟨lw_p0, List.forall_mem_cons.mpr ⟨lw_p1, List.forall_mem_cons.mpr ⟨lw_p2, List.forall_mem_cons.mpr ⟨lw_p3, List.forall_mem_cons.mpr ⟨lw_p4, List.forall_mem_cons.mpr ⟨lw_p5, List.forall_mem_cons.mpr ⟨lw_p6, List.forall_mem_cons.mpr ⟨lw_p7, List.forall_mem_cons.mpr ⟨lw_p8, List.forall_mem_cons.mpr ⟨lw_p9, List.forall_mem_cons.mpr ⟨lw_p10, List.forall_mem_cons.mpr ⟨lw_p11, List.forall_mem_cons.mpr ⟨lw_p12, List.forall_mem_cons.mpr ⟨lw_p13, List.forall_mem_cons.mpr ⟨lw_p14, List.forall_mem_cons.mpr ⟨lw_p15, fun _ h => absurd h List.not_mem_nil⟩⟩⟩⟩⟩⟩⟩⟩⟩⟩⟩⟩⟩⟩⟩⟩
theorem lw_p16 : lw_okq (⟨"NoneWords$Speech", "tellJoin", "(I)V"⟩, 5) := ⟨⟨by decide +kernel, by decide +kernel⟩, List.mem_of_getElem? (i := 117) (by decide +kernel), List.mem_of_getElem? (i := 447) (by decide +kernel), List.mem_of_getElem? (i := 448) (by decide +kernel)⟩
theorem lw_p17 : lw_okq (⟨"NoneWords$Speech", "tellTerms", "(IZLjava/lang/String;)V"⟩, 5) := ⟨⟨by decide +kernel, by decide +kernel⟩, List.mem_of_getElem? (i := 117) (by decide +kernel), List.mem_of_getElem? (i := 454) (by decide +kernel), List.mem_of_getElem? (i := 455) (by decide +kernel)⟩
theorem lw_p18 : lw_okq (⟨"NoneWords$Speech", "tellSet", "(II)V"⟩, 5) := ⟨⟨by decide +kernel, by decide +kernel⟩, List.mem_of_getElem? (i := 117) (by decide +kernel), List.mem_of_getElem? (i := 464) (by decide +kernel), List.mem_of_getElem? (i := 465) (by decide +kernel)⟩
theorem lw_p19 : lw_okq (⟨"NoneWords$Speech", "tellLeaf", "(I)V"⟩, 5) := ⟨⟨by decide +kernel, by decide +kernel⟩, List.mem_of_getElem? (i := 117) (by decide +kernel), List.mem_of_getElem? (i := 480) (by decide +kernel), List.mem_of_getElem? (i := 481) (by decide +kernel)⟩
theorem lw_p20 : lw_okq (⟨"NoneWords$Speech", "tellNumber", "(I)V"⟩, 5) := ⟨⟨by decide +kernel, by decide +kernel⟩, List.mem_of_getElem? (i := 117) (by decide +kernel), List.mem_of_getElem? (i := 508) (by decide +kernel), List.mem_of_getElem? (i := 509) (by decide +kernel)⟩
theorem lw_p21 : lw_okq (⟨"NoneWords$Search", "allOptions", "()I"⟩, 5) := ⟨⟨by decide +kernel, by decide +kernel⟩, List.mem_of_getElem? (i := 140) (by decide +kernel), List.mem_of_getElem? (i := 554) (by decide +kernel), List.mem_of_getElem? (i := 555) (by decide +kernel)⟩
theorem lw_p22 : lw_okq (⟨"NoneWords$Search", "bar", "(I)I"⟩, 5) := ⟨⟨by decide +kernel, by decide +kernel⟩, List.mem_of_getElem? (i := 140) (by decide +kernel), List.mem_of_getElem? (i := 565) (by decide +kernel), List.mem_of_getElem? (i := 566) (by decide +kernel)⟩
theorem lw_p23 : lw_okq (⟨"NoneWords$Search", "takeAllBack", "()V"⟩, 5) := ⟨⟨by decide +kernel, by decide +kernel⟩, List.mem_of_getElem? (i := 140) (by decide +kernel), List.mem_of_getElem? (i := 588) (by decide +kernel), List.mem_of_getElem? (i := 589) (by decide +kernel)⟩
theorem lw_p24 : lw_okq (⟨"NoneWords$Search", "findsWorldWithout", "(I)Z"⟩, 5) := ⟨⟨by decide +kernel, by decide +kernel⟩, List.mem_of_getElem? (i := 140) (by decide +kernel), List.mem_of_getElem? (i := 608) (by decide +kernel), List.mem_of_getElem? (i := 609) (by decide +kernel)⟩
theorem lw_p25 : lw_okq (⟨"NoneWordsModel", "isName", "(I)Z"⟩, 28) := ⟨⟨by decide +kernel, by decide +kernel⟩, List.mem_of_getElem? (i := 612) (by decide +kernel), List.mem_of_getElem? (i := 712) (by decide +kernel), List.mem_of_getElem? (i := 713) (by decide +kernel)⟩
theorem lw_p26 : lw_okq (⟨"NoneWordsModel", "clear", "()V"⟩, 28) := ⟨⟨by decide +kernel, by decide +kernel⟩, List.mem_of_getElem? (i := 612) (by decide +kernel), List.mem_of_getElem? (i := 716) (by decide +kernel), List.mem_of_getElem? (i := 717) (by decide +kernel)⟩
theorem lw_p27 : lw_okq (⟨"NoneWordsModel", "there", "(II)I"⟩, 28) := ⟨⟨by decide +kernel, by decide +kernel⟩, List.mem_of_getElem? (i := 612) (by decide +kernel), List.mem_of_getElem? (i := 723) (by decide +kernel), List.mem_of_getElem? (i := 724) (by decide +kernel)⟩
theorem lw_p28 : lw_okq (⟨"NoneWordsModel", "make", "(IIZ)V"⟩, 28) := ⟨⟨by decide +kernel, by decide +kernel⟩, List.mem_of_getElem? (i := 612) (by decide +kernel), List.mem_of_getElem? (i := 727) (by decide +kernel), List.mem_of_getElem? (i := 728) (by decide +kernel)⟩
theorem lw_p29 : lw_okq (⟨"NoneWordsModel", "tell", "(IIIZ)V"⟩, 28) := ⟨⟨by decide +kernel, by decide +kernel⟩, List.mem_of_getElem? (i := 612) (by decide +kernel), List.mem_of_getElem? (i := 731) (by decide +kernel), List.mem_of_getElem? (i := 732) (by decide +kernel)⟩
theorem lw_p30 : lw_okq (⟨"NoneWordsModel", "keep", "(II)V"⟩, 28) := ⟨⟨by decide +kernel, by decide +kernel⟩, List.mem_of_getElem? (i := 612) (by decide +kernel), List.mem_of_getElem? (i := 735) (by decide +kernel), List.mem_of_getElem? (i := 736) (by decide +kernel)⟩
theorem lw_p31 : lw_okq (⟨"NoneWordsModel", "isSaid", "(III)Z"⟩, 28) := ⟨⟨by decide +kernel, by decide +kernel⟩, List.mem_of_getElem? (i := 612) (by decide +kernel), List.mem_of_getElem? (i := 739) (by decide +kernel), List.mem_of_getElem? (i := 740) (by decide +kernel)⟩
def lw_privs_2 : List (MethodName × Nat) := [(⟨"NoneWords$Speech", "tellJoin", "(I)V"⟩, 5), (⟨"NoneWords$Speech", "tellTerms", "(IZLjava/lang/String;)V"⟩, 5), (⟨"NoneWords$Speech", "tellSet", "(II)V"⟩, 5), (⟨"NoneWords$Speech", "tellLeaf", "(I)V"⟩, 5), (⟨"NoneWords$Speech", "tellNumber", "(I)V"⟩, 5), (⟨"NoneWords$Search", "allOptions", "()I"⟩, 5), (⟨"NoneWords$Search", "bar", "(I)I"⟩, 5), (⟨"NoneWords$Search", "takeAllBack", "()V"⟩, 5), (⟨"NoneWords$Search", "findsWorldWithout", "(I)Z"⟩, 5), (⟨"NoneWordsModel", "isName", "(I)Z"⟩, 28), (⟨"NoneWordsModel", "clear", "()V"⟩, 28), (⟨"NoneWordsModel", "there", "(II)I"⟩, 28), (⟨"NoneWordsModel", "make", "(IIZ)V"⟩, 28), (⟨"NoneWordsModel", "tell", "(IIIZ)V"⟩, 28), (⟨"NoneWordsModel", "keep", "(II)V"⟩, 28), (⟨"NoneWordsModel", "isSaid", "(III)Z"⟩, 28)]
theorem lw_r2 : ∀ q ∈ lw_privs_2, lw_okq q := List.forall_mem_cons.mpr ⟨lw_p16, List.forall_mem_cons.mpr ⟨lw_p17, List.forall_mem_cons.mpr ⟨lw_p18, List.forall_mem_cons.mpr ⟨lw_p19, List.forall_mem_cons.mpr ⟨lw_p20, List.forall_mem_cons.mpr ⟨lw_p21, List.forall_mem_cons.mpr ⟨lw_p22, List.forall_mem_cons.mpr ⟨lw_p23, List.forall_mem_cons.mpr ⟨lw_p24, List.forall_mem_cons.mpr ⟨lw_p25, List.forall_mem_cons.mpr ⟨lw_p26, List.forall_mem_cons.mpr ⟨lw_p27, List.forall_mem_cons.mpr ⟨lw_p28, List.forall_mem_cons.mpr ⟨lw_p29, List.forall_mem_cons.mpr ⟨lw_p30, List.forall_mem_cons.mpr ⟨lw_p31, fun _ h => absurd h List.not_mem_nil⟩⟩⟩⟩⟩⟩⟩⟩⟩⟩⟩⟩⟩⟩⟩⟩
theorem lw_p32 : lw_okq (⟨"NoneWordsModel", "isNode", "(I)Z"⟩, 28) := ⟨⟨by decide +kernel, by decide +kernel⟩, List.mem_of_getElem? (i := 612) (by decide +kernel), List.mem_of_getElem? (i := 747) (by decide +kernel), List.mem_of_getElem? (i := 748) (by decide +kernel)⟩
theorem lw_p33 : lw_okq (⟨"NoneWordsModel", "count", "(I)I"⟩, 28) := ⟨⟨by decide +kernel, by decide +kernel⟩, List.mem_of_getElem? (i := 612) (by decide +kernel), List.mem_of_getElem? (i := 755) (by decide +kernel), List.mem_of_getElem? (i := 756) (by decide +kernel)⟩
theorem lw_p34 : lw_okq (⟨"NoneWordsModel", "setOf", "(II)I"⟩, 28) := ⟨⟨by decide +kernel, by decide +kernel⟩, List.mem_of_getElem? (i := 612) (by decide +kernel), List.mem_of_getElem? (i := 763) (by decide +kernel), List.mem_of_getElem? (i := 764) (by decide +kernel)⟩
theorem lw_p35 : lw_okq (⟨"NoneWordsModel", "isWanted", "(II)Z"⟩, 28) := ⟨⟨by decide +kernel, by decide +kernel⟩, List.mem_of_getElem? (i := 612) (by decide +kernel), List.mem_of_getElem? (i := 767) (by decide +kernel), List.mem_of_getElem? (i := 768) (by decide +kernel)⟩
theorem lw_p36 : lw_okq (⟨"NoneWordsModel", "countUses", "(I)V"⟩, 28) := ⟨⟨by decide +kernel, by decide +kernel⟩, List.mem_of_getElem? (i := 612) (by decide +kernel), List.mem_of_getElem? (i := 775) (by decide +kernel), List.mem_of_getElem? (i := 776) (by decide +kernel)⟩
theorem lw_p37 : lw_okq (⟨"NoneWordsModel", "push", "(I)V"⟩, 28) := ⟨⟨by decide +kernel, by decide +kernel⟩, List.mem_of_getElem? (i := 612) (by decide +kernel), List.mem_of_getElem? (i := 779) (by decide +kernel), List.mem_of_getElem? (i := 780) (by decide +kernel)⟩
theorem lw_p38 : lw_okq (⟨"NoneWordsModel", "go", "()V"⟩, 28) := ⟨⟨by decide +kernel, by decide +kernel⟩, List.mem_of_getElem? (i := 612) (by decide +kernel), List.mem_of_getElem? (i := 783) (by decide +kernel), List.mem_of_getElem? (i := 784) (by decide +kernel)⟩
theorem lw_p39 : lw_okq (⟨"NoneWordsModel", "startTwo", "(III)V"⟩, 28) := ⟨⟨by decide +kernel, by decide +kernel⟩, List.mem_of_getElem? (i := 612) (by decide +kernel), List.mem_of_getElem? (i := 787) (by decide +kernel), List.mem_of_getElem? (i := 788) (by decide +kernel)⟩
theorem lw_p40 : lw_okq (⟨"NoneWordsModel", "endWith", "(ZIII)V"⟩, 28) := ⟨⟨by decide +kernel, by decide +kernel⟩, List.mem_of_getElem? (i := 612) (by decide +kernel), List.mem_of_getElem? (i := 791) (by decide +kernel), List.mem_of_getElem? (i := 792) (by decide +kernel)⟩
theorem lw_p41 : lw_okq (⟨"NoneWordsModel", "because", "(ZIII)V"⟩, 28) := ⟨⟨by decide +kernel, by decide +kernel⟩, List.mem_of_getElem? (i := 612) (by decide +kernel), List.mem_of_getElem? (i := 795) (by decide +kernel), List.mem_of_getElem? (i := 796) (by decide +kernel)⟩
theorem lw_p42 : lw_okq (⟨"NoneWordsModel", "begin", "()V"⟩, 28) := ⟨⟨by decide +kernel, by decide +kernel⟩, List.mem_of_getElem? (i := 612) (by decide +kernel), List.mem_of_getElem? (i := 799) (by decide +kernel), List.mem_of_getElem? (i := 800) (by decide +kernel)⟩
theorem lw_p43 : lw_okq (⟨"NoneWordsModel", "say", "(J)V"⟩, 28) := ⟨⟨by decide +kernel, by decide +kernel⟩, List.mem_of_getElem? (i := 612) (by decide +kernel), List.mem_of_getElem? (i := 804) (by decide +kernel), List.mem_of_getElem? (i := 805) (by decide +kernel)⟩
theorem lw_p44 : lw_okq (⟨"NoneWordsModel", "put", "(I)V"⟩, 28) := ⟨⟨by decide +kernel, by decide +kernel⟩, List.mem_of_getElem? (i := 612) (by decide +kernel), List.mem_of_getElem? (i := 809) (by decide +kernel), List.mem_of_getElem? (i := 810) (by decide +kernel)⟩
theorem lw_p45 : lw_okq (⟨"NoneWordsModel", "told", "(I)V"⟩, 28) := ⟨⟨by decide +kernel, by decide +kernel⟩, List.mem_of_getElem? (i := 612) (by decide +kernel), List.mem_of_getElem? (i := 815) (by decide +kernel), List.mem_of_getElem? (i := 816) (by decide +kernel)⟩
theorem lw_p46 : lw_okq (⟨"NoneWordsModel", "joinWords", "(I)V"⟩, 28) := ⟨⟨by decide +kernel, by decide +kernel⟩, List.mem_of_getElem? (i := 612) (by decide +kernel), List.mem_of_getElem? (i := 819) (by decide +kernel), List.mem_of_getElem? (i := 820) (by decide +kernel)⟩
theorem lw_p47 : lw_okq (⟨"NoneWordsModel", "counted", "(IZ)I"⟩, 28) := ⟨⟨by decide +kernel, by decide +kernel⟩, List.mem_of_getElem? (i := 612) (by decide +kernel), List.mem_of_getElem? (i := 823) (by decide +kernel), List.mem_of_getElem? (i := 824) (by decide +kernel)⟩
def lw_privs_3 : List (MethodName × Nat) := [(⟨"NoneWordsModel", "isNode", "(I)Z"⟩, 28), (⟨"NoneWordsModel", "count", "(I)I"⟩, 28), (⟨"NoneWordsModel", "setOf", "(II)I"⟩, 28), (⟨"NoneWordsModel", "isWanted", "(II)Z"⟩, 28), (⟨"NoneWordsModel", "countUses", "(I)V"⟩, 28), (⟨"NoneWordsModel", "push", "(I)V"⟩, 28), (⟨"NoneWordsModel", "go", "()V"⟩, 28), (⟨"NoneWordsModel", "startTwo", "(III)V"⟩, 28), (⟨"NoneWordsModel", "endWith", "(ZIII)V"⟩, 28), (⟨"NoneWordsModel", "because", "(ZIII)V"⟩, 28), (⟨"NoneWordsModel", "begin", "()V"⟩, 28), (⟨"NoneWordsModel", "say", "(J)V"⟩, 28), (⟨"NoneWordsModel", "put", "(I)V"⟩, 28), (⟨"NoneWordsModel", "told", "(I)V"⟩, 28), (⟨"NoneWordsModel", "joinWords", "(I)V"⟩, 28), (⟨"NoneWordsModel", "counted", "(IZ)I"⟩, 28)]
theorem lw_r3 : ∀ q ∈ lw_privs_3, lw_okq q := List.forall_mem_cons.mpr ⟨lw_p32, List.forall_mem_cons.mpr ⟨lw_p33, List.forall_mem_cons.mpr ⟨lw_p34, List.forall_mem_cons.mpr ⟨lw_p35, List.forall_mem_cons.mpr ⟨lw_p36, List.forall_mem_cons.mpr ⟨lw_p37, List.forall_mem_cons.mpr ⟨lw_p38, List.forall_mem_cons.mpr ⟨lw_p39, List.forall_mem_cons.mpr ⟨lw_p40, List.forall_mem_cons.mpr ⟨lw_p41, List.forall_mem_cons.mpr ⟨lw_p42, List.forall_mem_cons.mpr ⟨lw_p43, List.forall_mem_cons.mpr ⟨lw_p44, List.forall_mem_cons.mpr ⟨lw_p45, List.forall_mem_cons.mpr ⟨lw_p46, List.forall_mem_cons.mpr ⟨lw_p47, fun _ h => absurd h List.not_mem_nil⟩⟩⟩⟩⟩⟩⟩⟩⟩⟩⟩⟩⟩⟩⟩⟩
theorem lw_p48 : lw_okq (⟨"NoneWordsModel", "row", "(IZ)I"⟩, 28) := ⟨⟨by decide +kernel, by decide +kernel⟩, List.mem_of_getElem? (i := 612) (by decide +kernel), List.mem_of_getElem? (i := 829) (by decide +kernel), List.mem_of_getElem? (i := 830) (by decide +kernel)⟩
theorem lw_p49 : lw_okq (⟨"NoneWordsModel", "words", "(II)V"⟩, 28) := ⟨⟨by decide +kernel, by decide +kernel⟩, List.mem_of_getElem? (i := 612) (by decide +kernel), List.mem_of_getElem? (i := 835) (by decide +kernel), List.mem_of_getElem? (i := 836) (by decide +kernel)⟩
theorem lw_p50 : lw_okq (⟨"NoneWordsModel", "leafWords", "(I)V"⟩, 28) := ⟨⟨by decide +kernel, by decide +kernel⟩, List.mem_of_getElem? (i := 612) (by decide +kernel), List.mem_of_getElem? (i := 846) (by decide +kernel), List.mem_of_getElem? (i := 847) (by decide +kernel)⟩
theorem lw_p51 : lw_okq (⟨"NoneWordsModel", "end", "(I)V"⟩, 28) := ⟨⟨by decide +kernel, by decide +kernel⟩, List.mem_of_getElem? (i := 612) (by decide +kernel), List.mem_of_getElem? (i := 857) (by decide +kernel), List.mem_of_getElem? (i := 858) (by decide +kernel)⟩
theorem lw_p52 : lw_okq (⟨"NoneWordsModel", "give", "(I)V"⟩, 28) := ⟨⟨by decide +kernel, by decide +kernel⟩, List.mem_of_getElem? (i := 612) (by decide +kernel), List.mem_of_getElem? (i := 861) (by decide +kernel), List.mem_of_getElem? (i := 862) (by decide +kernel)⟩
theorem lw_p53 : lw_okq (⟨"NoneWordsModel", "later", "(III)V"⟩, 28) := ⟨⟨by decide +kernel, by decide +kernel⟩, List.mem_of_getElem? (i := 612) (by decide +kernel), List.mem_of_getElem? (i := 865) (by decide +kernel), List.mem_of_getElem? (i := 866) (by decide +kernel)⟩
theorem lw_p54 : lw_okq (⟨"NoneWordsModel", "isSimple", "(I)Z"⟩, 28) := ⟨⟨by decide +kernel, by decide +kernel⟩, List.mem_of_getElem? (i := 612) (by decide +kernel), List.mem_of_getElem? (i := 869) (by decide +kernel), List.mem_of_getElem? (i := 870) (by decide +kernel)⟩
theorem lw_p55 : lw_okq (⟨"NoneWordsModel", "startOne", "(III)V"⟩, 28) := ⟨⟨by decide +kernel, by decide +kernel⟩, List.mem_of_getElem? (i := 612) (by decide +kernel), List.mem_of_getElem? (i := 873) (by decide +kernel), List.mem_of_getElem? (i := 874) (by decide +kernel)⟩
theorem lw_p56 : lw_okq (⟨"NoneWordsModel", "goOn", "(III)V"⟩, 28) := ⟨⟨by decide +kernel, by decide +kernel⟩, List.mem_of_getElem? (i := 612) (by decide +kernel), List.mem_of_getElem? (i := 877) (by decide +kernel), List.mem_of_getElem? (i := 878) (by decide +kernel)⟩
theorem lw_p57 : lw_okq (⟨"NoneWordsModel", "thus", "(I)V"⟩, 28) := ⟨⟨by decide +kernel, by decide +kernel⟩, List.mem_of_getElem? (i := 612) (by decide +kernel), List.mem_of_getElem? (i := 881) (by decide +kernel), List.mem_of_getElem? (i := 882) (by decide +kernel)⟩
theorem lw_p58 : lw_okq (⟨"NoneWordsModel", "isSentence", "(I)Z"⟩, 28) := ⟨⟨by decide +kernel, by decide +kernel⟩, List.mem_of_getElem? (i := 612) (by decide +kernel), List.mem_of_getElem? (i := 890) (by decide +kernel), List.mem_of_getElem? (i := 891) (by decide +kernel)⟩
theorem lw_p59 : lw_okq (⟨"NoneWordsModel", "none", "()V"⟩, 28) := ⟨⟨by decide +kernel, by decide +kernel⟩, List.mem_of_getElem? (i := 612) (by decide +kernel), List.mem_of_getElem? (i := 910) (by decide +kernel), List.mem_of_getElem? (i := 911) (by decide +kernel)⟩
theorem lw_p60 : lw_okq (⟨"NoneWordsModel", "can", "(I)Z"⟩, 28) := ⟨⟨by decide +kernel, by decide +kernel⟩, List.mem_of_getElem? (i := 612) (by decide +kernel), List.mem_of_getElem? (i := 914) (by decide +kernel), List.mem_of_getElem? (i := 915) (by decide +kernel)⟩
theorem lw_p61 : lw_okq (⟨"NoneWordsModel", "isKept", "(I)Z"⟩, 28) := ⟨⟨by decide +kernel, by decide +kernel⟩, List.mem_of_getElem? (i := 612) (by decide +kernel), List.mem_of_getElem? (i := 918) (by decide +kernel), List.mem_of_getElem? (i := 919) (by decide +kernel)⟩
theorem lw_p62 : lw_okq (⟨"NoneWordsModel", "advance", "()Z"⟩, 28) := ⟨⟨by decide +kernel, by decide +kernel⟩, List.mem_of_getElem? (i := 612) (by decide +kernel), List.mem_of_getElem? (i := 922) (by decide +kernel), List.mem_of_getElem? (i := 923) (by decide +kernel)⟩
def lw_privs_4 : List (MethodName × Nat) := [(⟨"NoneWordsModel", "row", "(IZ)I"⟩, 28), (⟨"NoneWordsModel", "words", "(II)V"⟩, 28), (⟨"NoneWordsModel", "leafWords", "(I)V"⟩, 28), (⟨"NoneWordsModel", "end", "(I)V"⟩, 28), (⟨"NoneWordsModel", "give", "(I)V"⟩, 28), (⟨"NoneWordsModel", "later", "(III)V"⟩, 28), (⟨"NoneWordsModel", "isSimple", "(I)Z"⟩, 28), (⟨"NoneWordsModel", "startOne", "(III)V"⟩, 28), (⟨"NoneWordsModel", "goOn", "(III)V"⟩, 28), (⟨"NoneWordsModel", "thus", "(I)V"⟩, 28), (⟨"NoneWordsModel", "isSentence", "(I)Z"⟩, 28), (⟨"NoneWordsModel", "none", "()V"⟩, 28), (⟨"NoneWordsModel", "can", "(I)Z"⟩, 28), (⟨"NoneWordsModel", "isKept", "(I)Z"⟩, 28), (⟨"NoneWordsModel", "advance", "()Z"⟩, 28)]
theorem lw_r4 : ∀ q ∈ lw_privs_4, lw_okq q := List.forall_mem_cons.mpr ⟨lw_p48, List.forall_mem_cons.mpr ⟨lw_p49, List.forall_mem_cons.mpr ⟨lw_p50, List.forall_mem_cons.mpr ⟨lw_p51, List.forall_mem_cons.mpr ⟨lw_p52, List.forall_mem_cons.mpr ⟨lw_p53, List.forall_mem_cons.mpr ⟨lw_p54, List.forall_mem_cons.mpr ⟨lw_p55, List.forall_mem_cons.mpr ⟨lw_p56, List.forall_mem_cons.mpr ⟨lw_p57, List.forall_mem_cons.mpr ⟨lw_p58, List.forall_mem_cons.mpr ⟨lw_p59, List.forall_mem_cons.mpr ⟨lw_p60, List.forall_mem_cons.mpr ⟨lw_p61, List.forall_mem_cons.mpr ⟨lw_p62, fun _ h => absurd h List.not_mem_nil⟩⟩⟩⟩⟩⟩⟩⟩⟩⟩⟩⟩⟩⟩⟩
def lw_privs : List (MethodName × Nat) := lw_privs_1 ++ (lw_privs_2 ++ (lw_privs_3 ++ (lw_privs_4)))
def lw_tbl : List Cond := k2_sels lw_privs ++ tables_1
theorem lw_privs_ok : ∀ q ∈ lw_privs, lw_okq q := by
  show ∀ q ∈ lw_privs_1 ++ (lw_privs_2 ++ (lw_privs_3 ++ (lw_privs_4))), lw_okq q
  exact List.forall_mem_append.mpr ⟨lw_r1, List.forall_mem_append.mpr ⟨lw_r2, List.forall_mem_append.mpr ⟨lw_r3, lw_r4⟩⟩⟩
end
section
/-! names: the words of the tables that last, the classes, the methods -/
def TB : List Cond := lw_tbl.filter goodWord
theorem inTB {w : Cond} (i : Nat) (h : lw_tbl[i]? = some w) (hg : goodWord w = true) : w ∈ TB := List.mem_filter.mpr ⟨List.mem_of_getElem? h, hg⟩
theorem TB_good : GoodIn TB TB := fun w h => ⟨h, good_of_word (List.mem_filter.mp h).2⟩
theorem TB_of {args : Array Value} {s : State} (h : ∀ w ∈ lw_tbl, w.before args s = true) : ∀ w ∈ TB, w.before args s = true := fun w hw => h w (List.mem_filter.mp hw).1
theorem gTB_c {y : MethodName} {b : ByteArray} {n : Nat} {r : Option FieldType} (h : Cond.code y b n r ∈ TB) : GoodIn TB (Cond.code y b n r :: TB) := fun w hw => (List.mem_cons.mp hw).elim (fun e => e ▸ TB_good _ h) (TB_good w)
theorem gTB_V {own : String} {idx : Nat} {C : String} {y : MethodName} {b : ByteArray} {n : Nat} {r : Option FieldType} (h1 : Cond.methodLink own idx y ∈ TB) (h : Cond.instanceMethod y ∈ TB ∧ Cond.selects C y y ∈ TB ∧ Cond.initialized C ∈ TB ∧ Cond.code y b n r ∈ TB) : GoodIn TB (wsV own idx C y (Cond.code y b n r :: TB)) := by
  intro w hw
  rcases List.mem_append.mp hw with hw | hw
  · simp only [List.mem_cons, List.not_mem_nil, or_false] at hw
    rcases hw with rfl | rfl | rfl | rfl
    · exact TB_good _ h1
    · exact TB_good _ h.1
    · exact TB_good _ h.2.1
    · exact TB_good _ h.2.2.1
  · exact gTB_c h.2.2.2 w hw
theorem gTB_S {own : String} {idx : Nat} {y : MethodName} {b : ByteArray} {n : Nat} {r : Option FieldType} (h1 : Cond.methodLink own idx y ∈ TB) (h : Cond.static y ∈ TB ∧ Cond.initialized own ∈ TB ∧ Cond.code y b n r ∈ TB) : GoodIn TB (wsS own idx y (Cond.code y b n r :: TB)) := by
  intro w hw
  rcases List.mem_append.mp hw with hw | hw
  · simp only [List.mem_cons, List.not_mem_nil, or_false] at hw
    rcases hw with rfl | rfl | rfl
    · exact TB_good _ h1
    · exact TB_good _ h.1
    · exact TB_good _ h.2.1
  · exact gTB_c h.2.2 w hw
def T_F : u_T := fun k => match k with
  | 0 => ("NoneWords$Facts", "versions", "[I", true)
  | 1 => ("NoneWords$Facts", "names", "I", false)
  | 2 => ("NoneWords$Facts", "kinds", "[I", true)
  | 3 => ("NoneWords$Facts", "truths", "[I", true)
  | 4 => ("NoneWords$Facts", "toldNames", "[I", true)
  | 5 => ("NoneWords$Facts", "toldSets", "[I", true)
  | 6 => ("NoneWords$Facts", "toldOthers", "[I", true)
  | 7 => ("NoneWords$Facts", "toldOtherSets", "[I", true)
  | 8 => ("NoneWords$Facts", "leftParts", "[I", true)
  | 9 => ("NoneWords$Facts", "rightParts", "[I", true)
  | _ => ("NoneWords$Facts", "nodes", "I", false)
def ty_F : Nat → FieldType := fun k => match k with
  | 0 => .array .int
  | 1 => .int
  | 2 => .array .int
  | 3 => .array .int
  | 4 => .array .int
  | 5 => .array .int
  | 6 => .array .int
  | 7 => .array .int
  | 8 => .array .int
  | 9 => .array .int
  | _ => .int
theorem nm_F : ∀ a, a < 11 → ∀ b, b < 11 → a ≠ b → (T_F a).2.1 ≠ (T_F b).2.1 := by decide +kernel
theorem tk_F : ∀ k, k < 11 → parseFieldDescriptor (T_F k).2.2.1 = some (ty_F k) := by decide +kernel
theorem in_F : ∀ z ∈ u_ws "NoneWords$Facts" T_F 11, z ∈ TB := by decide +kernel
def T_S : u_T := fun k => match k with
  | 0 => ("NoneWords$Search", "facts", "LNoneWords$Facts;", true)
  | 1 => ("NoneWords$Search", "leftOut", "[Z", true)
  | 2 => ("NoneWords$Search", "bars", "[I", true)
  | 3 => ("NoneWords$Search", "stayed", "[I", true)
  | _ => ("NoneWords$Search", "stays", "I", false)
def ty_S : Nat → FieldType := fun k => match k with
  | 0 => .object "NoneWords$Facts"
  | 1 => .array .boolean
  | 2 => .array .int
  | 3 => .array .int
  | _ => .int
theorem nm_S : ∀ a, a < 5 → ∀ b, b < 5 → a ≠ b → (T_S a).2.1 ≠ (T_S b).2.1 := by decide +kernel
theorem tk_S : ∀ k, k < 5 → parseFieldDescriptor (T_S k).2.2.1 = some (ty_S k) := by decide +kernel
theorem in_S : ∀ z ∈ u_ws "NoneWords$Search" T_S 5, z ∈ TB := by decide +kernel
def T_P : u_T := fun k => match k with
  | 0 => ("NoneWords$Speech", "facts", "LNoneWords$Facts;", true)
  | 1 => ("NoneWords$Speech", "writer", "LNoneWords$Writer;", true)
  | 2 => ("NoneWords$Speech", "signs", "[C", true)
  | 3 => ("NoneWords$Speech", "length", "I", false)
  | _ => ("NoneWords$Speech", "shown", "I", false)
def ty_P : Nat → FieldType := fun k => match k with
  | 0 => .object "NoneWords$Facts"
  | 1 => .object "NoneWords$Writer"
  | 2 => .array .char
  | 3 => .int
  | _ => .int
theorem nm_P : ∀ a, a < 5 → ∀ b, b < 5 → a ≠ b → (T_P a).2.1 ≠ (T_P b).2.1 := by decide +kernel
theorem tk_P : ∀ k, k < 5 → parseFieldDescriptor (T_P k).2.2.1 = some (ty_P k) := by decide +kernel
theorem in_P : ∀ z ∈ u_ws "NoneWords$Speech" T_P 5, z ∈ TB := by decide +kernel
def T_W : u_T := fun k => match k with
  | 0 => ("NoneWords$Writer", "facts", "LNoneWords$Facts;", true)
  | 1 => ("NoneWords$Writer", "uses", "[I", true)
  | 2 => ("NoneWords$Writer", "nodeNumbers", "[I", true)
  | 3 => ("NoneWords$Writer", "numbers", "I", false)
  | 4 => ("NoneWords$Writer", "openings", "[I", true)
  | 5 => ("NoneWords$Writer", "firstCauses", "[I", true)
  | 6 => ("NoneWords$Writer", "secondCauses", "[I", true)
  | 7 => ("NoneWords$Writer", "conclusions", "[I", true)
  | 8 => ("NoneWords$Writer", "sentenceNumbers", "[I", true)
  | 9 => ("NoneWords$Writer", "sentences", "I", false)
  | 10 => ("NoneWords$Writer", "steps", "[I", true)
  | 11 => ("NoneWords$Writer", "stepNodes", "[I", true)
  | 12 => ("NoneWords$Writer", "stepFirsts", "[I", true)
  | 13 => ("NoneWords$Writer", "stepSeconds", "[I", true)
  | _ => ("NoneWords$Writer", "waiting", "I", false)
def ty_W : Nat → FieldType := fun k => match k with
  | 0 => .object "NoneWords$Facts"
  | 1 => .array .int
  | 2 => .array .int
  | 3 => .int
  | 4 => .array .int
  | 5 => .array .int
  | 6 => .array .int
  | 7 => .array .int
  | 8 => .array .int
  | 9 => .int
  | 10 => .array .int
  | 11 => .array .int
  | 12 => .array .int
  | 13 => .array .int
  | _ => .int
theorem nm_W : ∀ a, a < 15 → ∀ b, b < 15 → a ≠ b → (T_W a).2.1 ≠ (T_W b).2.1 := by decide +kernel
theorem tk_W : ∀ k, k < 15 → parseFieldDescriptor (T_W k).2.2.1 = some (ty_W k) := by decide +kernel
theorem in_W : ∀ z ∈ u_ws "NoneWords$Writer" T_W 15, z ∈ TB := by decide +kernel
def T_N : u_T := fun k => match k with
  | 0 => ("NoneWords", "facts", "LNoneWords$Facts;", true)
  | 1 => ("NoneWords", "writer", "LNoneWords$Writer;", true)
  | 2 => ("NoneWords", "speech", "LNoneWords$Speech;", true)
  | _ => ("NoneWords", "search", "LNoneWords$Search;", true)
def ty_N : Nat → FieldType := fun k => match k with
  | 0 => .object "NoneWords$Facts"
  | 1 => .object "NoneWords$Writer"
  | 2 => .object "NoneWords$Speech"
  | _ => .object "NoneWords$Search"
theorem nm_N : ∀ a, a < 4 → ∀ b, b < 4 → a ≠ b → (T_N a).2.1 ≠ (T_N b).2.1 := by decide +kernel
theorem tk_N : ∀ k, k < 4 → parseFieldDescriptor (T_N k).2.2.1 = some (ty_N k) := by decide +kernel
theorem in_N : ∀ z ∈ u_ws "NoneWords" T_N 4, z ∈ TB := by decide +kernel
def T_K : u_T := fun k => match k with
  | 0 => ("NoneWordsModel", "code", "I", false)
  | 1 => ("NoneWordsModel", "versions", "[I", true)
  | 2 => ("NoneWordsModel", "names", "I", false)
  | 3 => ("NoneWordsModel", "nodes", "I", false)
  | 4 => ("NoneWordsModel", "kind", "[I", true)
  | 5 => ("NoneWordsModel", "one", "[I", true)
  | 6 => ("NoneWordsModel", "oneSet", "[I", true)
  | 7 => ("NoneWordsModel", "two", "[I", true)
  | 8 => ("NoneWordsModel", "twoSet", "[I", true)
  | 9 => ("NoneWordsModel", "has", "[Z", true)
  | 10 => ("NoneWordsModel", "says", "[Z", true)
  | 11 => ("NoneWordsModel", "out", "[I", true)
  | 12 => ("NoneWordsModel", "begins", "[I", true)
  | 13 => ("NoneWordsModel", "lines", "[I", true)
  | 14 => ("NoneWordsModel", "number", "[I", true)
  | 15 => ("NoneWordsModel", "used", "[I", true)
  | 16 => ("NoneWordsModel", "size", "I", false)
  | 17 => ("NoneWordsModel", "sentences", "I", false)
  | 18 => ("NoneWordsModel", "numbers", "I", false)
  | 19 => ("NoneWordsModel", "in", "[Z", true)
  | 20 => ("NoneWordsModel", "pile", "[I", true)
  | 21 => ("NoneWordsModel", "steps", "[I", true)
  | 22 => ("NoneWordsModel", "kept", "[I", true)
  | 23 => ("NoneWordsModel", "piled", "I", false)
  | 24 => ("NoneWordsModel", "world", "[I", true)
  | 25 => ("NoneWordsModel", "away", "[Z", true)
  | 26 => ("NoneWordsModel", "stay", "[I", true)
  | _ => ("NoneWordsModel", "stays", "I", false)
def ty_K : Nat → FieldType := fun k => match k with
  | 0 => .int
  | 1 => .array .int
  | 2 => .int
  | 3 => .int
  | 4 => .array .int
  | 5 => .array .int
  | 6 => .array .int
  | 7 => .array .int
  | 8 => .array .int
  | 9 => .array .boolean
  | 10 => .array .boolean
  | 11 => .array .int
  | 12 => .array .int
  | 13 => .array .int
  | 14 => .array .int
  | 15 => .array .int
  | 16 => .int
  | 17 => .int
  | 18 => .int
  | 19 => .array .boolean
  | 20 => .array .int
  | 21 => .array .int
  | 22 => .array .int
  | 23 => .int
  | 24 => .array .int
  | 25 => .array .boolean
  | 26 => .array .int
  | _ => .int
theorem nm_K : ∀ a, a < 28 → ∀ b, b < 28 → a ≠ b → (T_K a).2.1 ≠ (T_K b).2.1 := by decide +kernel
theorem tk_K : ∀ k, k < 28 → parseFieldDescriptor (T_K k).2.2.1 = some (ty_K k) := by decide +kernel
theorem in_K : ∀ z ∈ u_ws "NoneWordsModel" T_K 28, z ∈ TB := by decide +kernel
abbrev vwCl : List vw_C := [("NoneWords$Facts", T_F, 11), ("NoneWords$Search", T_S, 5), ("NoneWords$Speech", T_P, 5), ("NoneWords$Writer", T_W, 15), ("NoneWords", T_N, 4), ("NoneWordsModel", T_K, 28)]
theorem clg_0 : vwCl[0]? = some ("NoneWords$Facts", T_F, 11) := rfl
theorem clg_1 : vwCl[1]? = some ("NoneWords$Search", T_S, 5) := rfl
theorem clg_2 : vwCl[2]? = some ("NoneWords$Speech", T_P, 5) := rfl
theorem clg_3 : vwCl[3]? = some ("NoneWords$Writer", T_W, 15) := rfl
theorem clg_4 : vwCl[4]? = some ("NoneWords", T_N, 4) := rfl
theorem clg_5 : vwCl[5]? = some ("NoneWordsModel", T_K, 28) := rfl
end
section
/-! GW: the machine at a frame, whatever the heap is that holds the world w and whatever the locals are that hold lv -/
abbrev Mem : Type := Nat → Nat → Int32
/-- a cell's number at a place is written -/
def ms (M : Mem) (q i : Nat) (x : Int32) : Mem := fun q2 => if q2 = q then upd (M q) i x else M q2
/-- what a method takes as given of cells outside its world (texts): it lasts -/
abbrev gw_Z : Type := (Nat → Prop) → State → Heap → Prop
def gw_ZOK (Z : gw_Z) : Prop := (∀ (A B : Nat → Prop) (u U : State) (H H1 : Heap), u.WarmedH U.vm → (∀ q, B q → A q) → (∀ a : Nat, a < H.size → ¬ A a → H1[a]? = H[a]?) → Z A u H → Z B U H1) ∧ ∀ (A : Nat → Prop) (u U : State) (H : Heap), U.vm = u.vm → Z A u H → Z A U H
def gw_Z0 : gw_Z := fun _ _ _ => True
theorem gw_Z0_ok : gw_ZOK gw_Z0 := ⟨fun _ _ _ _ _ _ _ _ _ _ => trivial, fun _ _ _ _ _ _ => trivial⟩
def GC (p : Program) (s : State) (m : MethodId) (args : Array Value) (meth : Method) (c : Code) (cc : ByteArray) (nL : Nat) (ret : Option FieldType) (own : String) (Ts : List Cond) (D : va_G) (cl : List vw_C) (tys : List (ClassId × FieldType)) (A : Nat → Prop) (Z : gw_Z) : Prop :=
  p.tables.exec = Jvm.exec ∧ c.code = cc ∧ c.maxLocals = nL ∧ s.vm.findClass own = some m.cls ∧ (∀ w ∈ Ts, w.before args s = true) ∧ va_K D cl tys s ∧ meth.locks = false ∧ meth.sig.returnType = ret ∧ (∀ q : Nat, s.heap.size ≤ q → A q) ∧ Z A s s.heap ∧ gw_ZOK Z
def GW (p : Program) (l : Launch) (e : Env) (R : Room) (s : State) (m : MethodId) (args : Array Value) (below : List Frame) (meth : Method) (c : Code) (Q : State → Prop) (D : va_G) (cl : List vw_C) (A : Nat → Prop) (nL cells slots : Nat) (w : va_W) (pc : Nat) (lv : List (Nat × Value)) (st : List Value) : Prop :=
  ∀ (H : Heap) (locs : List Loc) (ls : Array Slot), va_P D cl w H → va_D A w → va_S A s.heap H locs → lv_has ls nL lv → W p l e R s m args below meth c H locs cells slots Q (F0 m pc ls st)
/-- a method's end: its answer, the world behind it, and nothing else changed -/
def QW (D : va_G) (cl : List vw_C) (tys : List (ClassId × FieldType)) (A : Nat → Prop) (oc : Option Value) (wf : va_W) : Array Value → State → Outcome → State → Prop := fun _ st o t =>
  o = .returned oc ∧ va_P D cl wf t.heap ∧ va_K D cl tys t ∧ va_D A wf ∧ va_F A st t
/-- a contract over a world -/
def CW (l : Launch) (y : MethodName) (ws : List Cond) (rm : Room) (D : va_G) (cl : List vw_C) (tys : List (ClassId × FieldType)) (Z : gw_Z) (av : List Value) (w : va_W) (oc : Option Value) (wf : va_W) (mc ms : Nat) : Prop :=
  ∀ sz : Nat, Met l y ws rm (va_Pc av (fun U => U.heap.size = sz ∧ va_P D cl w U.heap ∧ va_K D cl tys U ∧ va_D (fun _ => True) w ∧ Z (va_A w sz) U U.heap)) (QW D cl tys (va_A w sz) oc wf) mc ms (va_A w sz)
section GWS
variable {p : Program} {l : Launch} {e : Env} {R : Room} {s : State} {m : MethodId} {args : Array Value} {below : List Frame} {meth : Method} {c : Code} {Q : State → Prop} {D : va_G} {cl : List vw_C} {tys : List (ClassId × FieldType)} {A : Nat → Prop} {nL cells slots : Nat} {w : va_W} {pc : Nat} {lv lv' : List (Nat × Value)} {st : List Value} {cc : ByteArray} {ret : Option FieldType} {own : String} {Ts : List Cond} {Z : gw_Z}
theorem gw_iconst (C : GC p s m args meth c cc nL ret own Ts D cl tys A Z) {n : Int} {v : Int32} (hd : decode cc pc = .ok (.iconst n, 1)) (hv : Int32.ofInt n = v) (k : GW p l e R s m args below meth c Q D cl A nL cells slots w (pc + 1) lv (.int v :: st)) : GW p l e R s m args below meth c Q D cl A nL cells slots w pc lv st :=
  fun H locs ls hP hD hS hl => lv_iconst C.1 C.2.1 hd hv (k H locs ls hP hD hS hl)
theorem gw_bipush (C : GC p s m args meth c cc nL ret own Ts D cl tys A Z) {n : Int} {v : Int32} (hd : decode cc pc = .ok (.bipush n, 2)) (hv : (Int8.ofInt n).toInt32 = v) (k : GW p l e R s m args below meth c Q D cl A nL cells slots w (pc + 2) lv (.int v :: st)) : GW p l e R s m args below meth c Q D cl A nL cells slots w pc lv st :=
  fun H locs ls hP hD hS hl => lv_bipush C.1 C.2.1 hd hv (k H locs ls hP hD hS hl)
theorem gw_sipush (C : GC p s m args meth c cc nL ret own Ts D cl tys A Z) {n : Int} {v : Int32} (hd : decode cc pc = .ok (.sipush n, 3)) (hv : (Int16.ofInt n).toInt32 = v) (k : GW p l e R s m args below meth c Q D cl A nL cells slots w (pc + 3) lv (.int v :: st)) : GW p l e R s m args below meth c Q D cl A nL cells slots w pc lv st :=
  fun H locs ls hP hD hS hl => lv_sipush C.1 C.2.1 hd hv (k H locs ls hP hD hS hl)
theorem gw_ldc (C : GC p s m args meth c cc nL ret own Ts D cl tys A Z) {index : Nat} {v : Int32} (hd : decode cc pc = .ok (.ldc index, 2)) (hc : Cond.constant own index v ∈ Ts) (k : GW p l e R s m args below meth c Q D cl A nL cells slots w (pc + 2) lv (.int v :: st)) : GW p l e R s m args below meth c Q D cl A nL cells slots w pc lv st :=
  fun H locs ls hP hD hS hl => lv_ldc C.1 C.2.1 C.2.2.2.1 (C.2.2.2.2.1 _ hc) hd (k H locs ls hP hD hS hl)
theorem gw_iload_n (C : GC p s m args meth c cc nL ret own Ts D cl tys A Z) {f : Fin 4} {i : Nat} {x : Int32} (j : Nat) (hd : decode cc pc = .ok (.iload_n f, 1)) (hi : (f : Nat) = i) (hj : lv[j]? = some (i, .int x)) (k : GW p l e R s m args below meth c Q D cl A nL cells slots w (pc + 1) lv (.int x :: st)) : GW p l e R s m args below meth c Q D cl A nL cells slots w pc lv st :=
  fun H locs ls hP hD hS hl => lv_iload_n C.1 C.2.1 hd hi (lv_at hl j hj) (k H locs ls hP hD hS hl)
theorem gw_iload (C : GC p s m args meth c cc nL ret own Ts D cl tys A Z) {i : Nat} {x : Int32} (j : Nat) (hd : decode cc pc = .ok (.iload i, 2)) (hj : lv[j]? = some (i, .int x)) (k : GW p l e R s m args below meth c Q D cl A nL cells slots w (pc + 2) lv (.int x :: st)) : GW p l e R s m args below meth c Q D cl A nL cells slots w pc lv st :=
  fun H locs ls hP hD hS hl => lv_iload C.1 C.2.1 hd (lv_at hl j hj) (k H locs ls hP hD hS hl)
theorem gw_aload_n (C : GC p s m args meth c cc nL ret own Ts D cl tys A Z) {f : Fin 4} {i x : Nat} (j : Nat) (hd : decode cc pc = .ok (.aload_n f, 1)) (hi : (f : Nat) = i) (hj : lv[j]? = some (i, .ref x)) (k : GW p l e R s m args below meth c Q D cl A nL cells slots w (pc + 1) lv (.ref x :: st)) : GW p l e R s m args below meth c Q D cl A nL cells slots w pc lv st :=
  fun H locs ls hP hD hS hl => lv_aload_n C.1 C.2.1 hd hi (lv_at hl j hj) (k H locs ls hP hD hS hl)
theorem gw_aload (C : GC p s m args meth c cc nL ret own Ts D cl tys A Z) {i x : Nat} (j : Nat) (hd : decode cc pc = .ok (.aload i, 2)) (hj : lv[j]? = some (i, .ref x)) (k : GW p l e R s m args below meth c Q D cl A nL cells slots w (pc + 2) lv (.ref x :: st)) : GW p l e R s m args below meth c Q D cl A nL cells slots w pc lv st :=
  fun H locs ls hP hD hS hl => lv_aload C.1 C.2.1 hd (lv_at hl j hj) (k H locs ls hP hD hS hl)
/-- the locals behind a store of one slot -/
def gw_sto (lv : List (Nat × Value)) (i : Nat) (v : Value) : List (Nat × Value) := (i, v) :: lv.filter (fun q => !(q.1 == i) && !(q.1 + 1 == i && q.2.category == 2))
theorem gw_istore_n (C : GC p s m args meth c cc nL ret own Ts D cl tys A Z) {f : Fin 4} {i : Nat} {x : Int32} (hd : decode cc pc = .ok (.istore_n f, 1)) (hi : (f : Nat) = i) (hn : i < nL) (hl' : gw_sto lv i (.int x) = lv') (k : GW p l e R s m args below meth c Q D cl A nL cells slots w (pc + 1) lv' st) : GW p l e R s m args below meth c Q D cl A nL cells slots w pc lv (.int x :: st) :=
  fun H locs _ hP hD hS hl => lv_istore_n C.1 C.2.1 hd hi hl hn hl' (fun ls hl => k H locs ls hP hD hS hl)
theorem gw_istore (C : GC p s m args meth c cc nL ret own Ts D cl tys A Z) {i : Nat} {x : Int32} (hd : decode cc pc = .ok (.istore i, 2)) (hn : i < nL) (hl' : gw_sto lv i (.int x) = lv') (k : GW p l e R s m args below meth c Q D cl A nL cells slots w (pc + 2) lv' st) : GW p l e R s m args below meth c Q D cl A nL cells slots w pc lv (.int x :: st) :=
  fun H locs _ hP hD hS hl => lv_istore C.1 C.2.1 hd hl hn hl' (fun ls hl => k H locs ls hP hD hS hl)
theorem gw_astore_n (C : GC p s m args meth c cc nL ret own Ts D cl tys A Z) {f : Fin 4} {i x : Nat} (hd : decode cc pc = .ok (.astore_n f, 1)) (hi : (f : Nat) = i) (hn : i < nL) (hl' : gw_sto lv i (.ref x) = lv') (k : GW p l e R s m args below meth c Q D cl A nL cells slots w (pc + 1) lv' st) : GW p l e R s m args below meth c Q D cl A nL cells slots w pc lv (.ref x :: st) :=
  fun H locs _ hP hD hS hl => lv_astore_n C.1 C.2.1 hd hi hl hn hl' (fun ls hl => k H locs ls hP hD hS hl)
theorem gw_astore (C : GC p s m args meth c cc nL ret own Ts D cl tys A Z) {i x : Nat} (hd : decode cc pc = .ok (.astore i, 2)) (hn : i < nL) (hl' : gw_sto lv i (.ref x) = lv') (k : GW p l e R s m args below meth c Q D cl A nL cells slots w (pc + 2) lv' st) : GW p l e R s m args below meth c Q D cl A nL cells slots w pc lv (.ref x :: st) :=
  fun H locs _ hP hD hS hl => lv_astore C.1 C.2.1 hd hl hn hl' (fun ls hl => k H locs ls hP hD hS hl)
theorem gw_iinc (C : GC p s m args meth c cc nL ret own Ts D cl tys A Z) {i : Nat} {n : Int} {x v : Int32} (j : Nat) (hd : decode cc pc = .ok (.iinc i n, 3)) (hj : lv[j]? = some (i, .int x)) (hv : x + Int32.ofInt n = v) (hn : i < nL) (hl' : gw_sto lv i (.int v) = lv') (k : GW p l e R s m args below meth c Q D cl A nL cells slots w (pc + 3) lv' st) : GW p l e R s m args below meth c Q D cl A nL cells slots w pc lv st :=
  fun H locs _ hP hD hS hl => lv_iinc C.1 C.2.1 hd hl hj hv hn hl' (fun ls hl => k H locs ls hP hD hS hl)
/-- fewer listed locals, in another order -/
theorem gw_sub (ks : List Nat) (hl' : lv_pick lv ks = lv') (k : GW p l e R s m args below meth c Q D cl A nL cells slots w pc lv' st) : GW p l e R s m args below meth c Q D cl A nL cells slots w pc lv st :=
  fun H locs ls hP hD hS hl => k H locs ls hP hD hS (lv_sub hl ks hl')
theorem gw_iadd (C : GC p s m args meth c cc nL ret own Ts D cl tys A Z) {x y : Int32} (hd : decode cc pc = .ok (.iadd, 1)) (k : GW p l e R s m args below meth c Q D cl A nL cells slots w (pc + 1) lv (.int (x + y) :: st)) : GW p l e R s m args below meth c Q D cl A nL cells slots w pc lv (.int y :: .int x :: st) :=
  fun H locs ls hP hD hS hl => lv_iadd C.1 C.2.1 hd (k H locs ls hP hD hS hl)
theorem gw_isub (C : GC p s m args meth c cc nL ret own Ts D cl tys A Z) {x y : Int32} (hd : decode cc pc = .ok (.isub, 1)) (k : GW p l e R s m args below meth c Q D cl A nL cells slots w (pc + 1) lv (.int (x - y) :: st)) : GW p l e R s m args below meth c Q D cl A nL cells slots w pc lv (.int y :: .int x :: st) :=
  fun H locs ls hP hD hS hl => lv_isub C.1 C.2.1 hd (k H locs ls hP hD hS hl)
theorem gw_imul (C : GC p s m args meth c cc nL ret own Ts D cl tys A Z) {x y : Int32} (hd : decode cc pc = .ok (.imul, 1)) (k : GW p l e R s m args below meth c Q D cl A nL cells slots w (pc + 1) lv (.int (x * y) :: st)) : GW p l e R s m args below meth c Q D cl A nL cells slots w pc lv (.int y :: .int x :: st) :=
  fun H locs ls hP hD hS hl => lv_imul C.1 C.2.1 hd (k H locs ls hP hD hS hl)
theorem gw_iand (C : GC p s m args meth c cc nL ret own Ts D cl tys A Z) {x y : Int32} (hd : decode cc pc = .ok (.iand, 1)) (k : GW p l e R s m args below meth c Q D cl A nL cells slots w (pc + 1) lv (.int (x &&& y) :: st)) : GW p l e R s m args below meth c Q D cl A nL cells slots w pc lv (.int y :: .int x :: st) :=
  fun H locs ls hP hD hS hl => lv_iand C.1 C.2.1 hd (k H locs ls hP hD hS hl)
theorem gw_ior (C : GC p s m args meth c cc nL ret own Ts D cl tys A Z) {x y : Int32} (hd : decode cc pc = .ok (.ior, 1)) (k : GW p l e R s m args below meth c Q D cl A nL cells slots w (pc + 1) lv (.int (x ||| y) :: st)) : GW p l e R s m args below meth c Q D cl A nL cells slots w pc lv (.int y :: .int x :: st) :=
  fun H locs ls hP hD hS hl => lv_ior C.1 C.2.1 hd (k H locs ls hP hD hS hl)
theorem gw_ixor (C : GC p s m args meth c cc nL ret own Ts D cl tys A Z) {x y : Int32} (hd : decode cc pc = .ok (.ixor, 1)) (k : GW p l e R s m args below meth c Q D cl A nL cells slots w (pc + 1) lv (.int (x ^^^ y) :: st)) : GW p l e R s m args below meth c Q D cl A nL cells slots w pc lv (.int y :: .int x :: st) :=
  fun H locs ls hP hD hS hl => lv_ixor C.1 C.2.1 hd (k H locs ls hP hD hS hl)
theorem gw_ishl (C : GC p s m args meth c cc nL ret own Ts D cl tys A Z) {x y : Int32} (hd : decode cc pc = .ok (.ishl, 1)) (k : GW p l e R s m args below meth c Q D cl A nL cells slots w (pc + 1) lv (.int (x <<< (y &&& 31)) :: st)) : GW p l e R s m args below meth c Q D cl A nL cells slots w pc lv (.int y :: .int x :: st) :=
  fun H locs ls hP hD hS hl => lv_ishl C.1 C.2.1 hd (k H locs ls hP hD hS hl)
theorem gw_ishr (C : GC p s m args meth c cc nL ret own Ts D cl tys A Z) {x y : Int32} (hd : decode cc pc = .ok (.ishr, 1)) (k : GW p l e R s m args below meth c Q D cl A nL cells slots w (pc + 1) lv (.int (x >>> (y &&& 31)) :: st)) : GW p l e R s m args below meth c Q D cl A nL cells slots w pc lv (.int y :: .int x :: st) :=
  fun H locs ls hP hD hS hl => lv_ishr C.1 C.2.1 hd (k H locs ls hP hD hS hl)
theorem gw_idiv (C : GC p s m args meth c cc nL ret own Ts D cl tys A Z) {x y : Int32} (hd : decode cc pc = .ok (.idiv, 1)) (hne : ¬ y = 0) (k : GW p l e R s m args below meth c Q D cl A nL cells slots w (pc + 1) lv (.int (x / y) :: st)) : GW p l e R s m args below meth c Q D cl A nL cells slots w pc lv (.int y :: .int x :: st) :=
  fun H locs ls hP hD hS hl => lv_idiv C.1 C.2.1 hd hne (k H locs ls hP hD hS hl)
theorem gw_irem (C : GC p s m args meth c cc nL ret own Ts D cl tys A Z) {x y : Int32} (hd : decode cc pc = .ok (.irem, 1)) (hne : ¬ y = 0) (k : GW p l e R s m args below meth c Q D cl A nL cells slots w (pc + 1) lv (.int (x - x / y * y) :: st)) : GW p l e R s m args below meth c Q D cl A nL cells slots w pc lv (.int y :: .int x :: st) :=
  fun H locs ls hP hD hS hl => lv_irem C.1 C.2.1 hd hne (k H locs ls hP hD hS hl)
theorem gw_ineg (C : GC p s m args meth c cc nL ret own Ts D cl tys A Z) {x : Int32} (hd : decode cc pc = .ok (.ineg, 1)) (k : GW p l e R s m args below meth c Q D cl A nL cells slots w (pc + 1) lv (.int (-x) :: st)) : GW p l e R s m args below meth c Q D cl A nL cells slots w pc lv (.int x :: st) :=
  fun H locs ls hP hD hS hl => lv_ineg C.1 C.2.1 hd (k H locs ls hP hD hS hl)
theorem gw_iushr (C : GC p s m args meth c cc nL ret own Ts D cl tys A Z) {x y : Int32} (hd : decode cc pc = .ok (.iushr, 1)) (k : GW p l e R s m args below meth c Q D cl A nL cells slots w (pc + 1) lv (.int (x.toUInt32 >>> (y.toUInt32 &&& Int32.toUInt32 31)).toInt32 :: st)) : GW p l e R s m args below meth c Q D cl A nL cells slots w pc lv (.int y :: .int x :: st) :=
  fun H locs ls hP hD hS hl => lv_iushr C.1 C.2.1 hd rfl (k H locs ls hP hD hS hl)
theorem gw_i2c (C : GC p s m args meth c cc nL ret own Ts D cl tys A Z) {x : Int32} (hd : decode cc pc = .ok (.i2c, 1)) (k : GW p l e R s m args below meth c Q D cl A nL cells slots w (pc + 1) lv (.int (x.toUInt32 % 65536).toInt32 :: st)) : GW p l e R s m args below meth c Q D cl A nL cells slots w pc lv (.int x :: st) :=
  fun H locs ls hP hD hS hl => lv_i2c C.1 C.2.1 hd rfl (k H locs ls hP hD hS hl)
theorem gw_i2b (C : GC p s m args meth c cc nL ret own Ts D cl tys A Z) {x : Int32} (hd : decode cc pc = .ok (.i2b, 1)) (k : GW p l e R s m args below meth c Q D cl A nL cells slots w (pc + 1) lv (.int x.toInt8.toInt32 :: st)) : GW p l e R s m args below meth c Q D cl A nL cells slots w pc lv (.int x :: st) :=
  fun H locs ls hP hD hS hl => lv_i2b C.1 C.2.1 hd rfl (k H locs ls hP hD hS hl)
theorem gw_dup (C : GC p s m args meth c cc nL ret own Ts D cl tys A Z) {va : Value} (hd : decode cc pc = .ok (.dup, 1)) (hva : va.category = 1) (k : GW p l e R s m args below meth c Q D cl A nL cells slots w (pc + 1) lv (va :: va :: st)) : GW p l e R s m args below meth c Q D cl A nL cells slots w pc lv (va :: st) :=
  fun H locs ls hP hD hS hl => lv_dup C.1 C.2.1 hd hva (k H locs ls hP hD hS hl)
theorem gw_pop (C : GC p s m args meth c cc nL ret own Ts D cl tys A Z) {va : Value} (hd : decode cc pc = .ok (.pop, 1)) (hva : va.category = 1) (k : GW p l e R s m args below meth c Q D cl A nL cells slots w (pc + 1) lv st) : GW p l e R s m args below meth c Q D cl A nL cells slots w pc lv (va :: st) :=
  fun H locs ls hP hD hS hl => lv_pop C.1 C.2.1 hd hva (k H locs ls hP hD hS hl)
theorem gw_dup_x1 (C : GC p s m args meth c cc nL ret own Ts D cl tys A Z) {va vb : Value} (hd : decode cc pc = .ok (.dup_x1, 1)) (hva : va.category = 1) (hvb : vb.category = 1) (k : GW p l e R s m args below meth c Q D cl A nL cells slots w (pc + 1) lv (va :: vb :: va :: st)) : GW p l e R s m args below meth c Q D cl A nL cells slots w pc lv (va :: vb :: st) :=
  fun H locs ls hP hD hS hl => lv_dup_x1 C.1 C.2.1 hd hva hvb (k H locs ls hP hD hS hl)
theorem gw_dup_x2 (C : GC p s m args meth c cc nL ret own Ts D cl tys A Z) {va vb vd : Value} (hd : decode cc pc = .ok (.dup_x2, 1)) (hva : va.category = 1) (hvb : vb.category = 1) (hvd : vd.category = 1) (k : GW p l e R s m args below meth c Q D cl A nL cells slots w (pc + 1) lv (va :: vb :: vd :: va :: st)) : GW p l e R s m args below meth c Q D cl A nL cells slots w pc lv (va :: vb :: vd :: st) :=
  fun H locs ls hP hD hS hl => lv_dup_x2 C.1 C.2.1 hd hva hvb hvd (k H locs ls hP hD hS hl)
theorem gw_dup2 (C : GC p s m args meth c cc nL ret own Ts D cl tys A Z) {va vb : Value} (hd : decode cc pc = .ok (.dup2, 1)) (hva : va.category = 1) (hvb : vb.category = 1) (k : GW p l e R s m args below meth c Q D cl A nL cells slots w (pc + 1) lv (va :: vb :: va :: vb :: st)) : GW p l e R s m args below meth c Q D cl A nL cells slots w pc lv (va :: vb :: st) :=
  fun H locs ls hP hD hS hl => lv_dup2_11 C.1 C.2.1 hd hva hvb (k H locs ls hP hD hS hl)
theorem gw_if_eq (C : GC p s m args meth c cc nL ret own Ts D cl tys A Z) {x : Int32} {off : Int} {tgt : Nat} (hd : decode cc pc = .ok (.ifCond .eq off, 3)) (ht : (pc : Int) + off = (tgt : Int)) (kt : x = 0 → GW p l e R s m args below meth c Q D cl A nL cells slots w tgt lv st) (kf : ¬ (x = 0) → GW p l e R s m args below meth c Q D cl A nL cells slots w (pc + 3) lv st) : GW p l e R s m args below meth c Q D cl A nL cells slots w pc lv (.int x :: st) :=
  fun H locs ls hP hD hS hl => lv_if_eq C.1 C.2.1 hd ht (fun h => kt h H locs ls hP hD hS hl) (fun h => kf h H locs ls hP hD hS hl)
theorem gw_icmp_eq (C : GC p s m args meth c cc nL ret own Ts D cl tys A Z) {x y : Int32} {off : Int} {tgt : Nat} (hd : decode cc pc = .ok (.if_icmp .eq off, 3)) (ht : (pc : Int) + off = (tgt : Int)) (kt : x = y → GW p l e R s m args below meth c Q D cl A nL cells slots w tgt lv st) (kf : ¬ (x = y) → GW p l e R s m args below meth c Q D cl A nL cells slots w (pc + 3) lv st) : GW p l e R s m args below meth c Q D cl A nL cells slots w pc lv (.int y :: .int x :: st) :=
  fun H locs ls hP hD hS hl => lv_icmp_eq C.1 C.2.1 hd ht (fun h => kt h H locs ls hP hD hS hl) (fun h => kf h H locs ls hP hD hS hl)
theorem gw_if_ne (C : GC p s m args meth c cc nL ret own Ts D cl tys A Z) {x : Int32} {off : Int} {tgt : Nat} (hd : decode cc pc = .ok (.ifCond .ne off, 3)) (ht : (pc : Int) + off = (tgt : Int)) (kt : ¬ x = 0 → GW p l e R s m args below meth c Q D cl A nL cells slots w tgt lv st) (kf : x = 0 → GW p l e R s m args below meth c Q D cl A nL cells slots w (pc + 3) lv st) : GW p l e R s m args below meth c Q D cl A nL cells slots w pc lv (.int x :: st) :=
  fun H locs ls hP hD hS hl => lv_if_ne C.1 C.2.1 hd ht (fun h => kt h H locs ls hP hD hS hl) (fun h => kf h H locs ls hP hD hS hl)
theorem gw_icmp_ne (C : GC p s m args meth c cc nL ret own Ts D cl tys A Z) {x y : Int32} {off : Int} {tgt : Nat} (hd : decode cc pc = .ok (.if_icmp .ne off, 3)) (ht : (pc : Int) + off = (tgt : Int)) (kt : ¬ x = y → GW p l e R s m args below meth c Q D cl A nL cells slots w tgt lv st) (kf : x = y → GW p l e R s m args below meth c Q D cl A nL cells slots w (pc + 3) lv st) : GW p l e R s m args below meth c Q D cl A nL cells slots w pc lv (.int y :: .int x :: st) :=
  fun H locs ls hP hD hS hl => lv_icmp_ne C.1 C.2.1 hd ht (fun h => kt h H locs ls hP hD hS hl) (fun h => kf h H locs ls hP hD hS hl)
theorem gw_if_lt (C : GC p s m args meth c cc nL ret own Ts D cl tys A Z) {x : Int32} {off : Int} {tgt : Nat} (hd : decode cc pc = .ok (.ifCond .lt off, 3)) (ht : (pc : Int) + off = (tgt : Int)) (kt : x < 0 → GW p l e R s m args below meth c Q D cl A nL cells slots w tgt lv st) (kf : ¬ (x < 0) → GW p l e R s m args below meth c Q D cl A nL cells slots w (pc + 3) lv st) : GW p l e R s m args below meth c Q D cl A nL cells slots w pc lv (.int x :: st) :=
  fun H locs ls hP hD hS hl => lv_if_lt C.1 C.2.1 hd ht (fun h => kt h H locs ls hP hD hS hl) (fun h => kf h H locs ls hP hD hS hl)
theorem gw_icmp_lt (C : GC p s m args meth c cc nL ret own Ts D cl tys A Z) {x y : Int32} {off : Int} {tgt : Nat} (hd : decode cc pc = .ok (.if_icmp .lt off, 3)) (ht : (pc : Int) + off = (tgt : Int)) (kt : x < y → GW p l e R s m args below meth c Q D cl A nL cells slots w tgt lv st) (kf : ¬ (x < y) → GW p l e R s m args below meth c Q D cl A nL cells slots w (pc + 3) lv st) : GW p l e R s m args below meth c Q D cl A nL cells slots w pc lv (.int y :: .int x :: st) :=
  fun H locs ls hP hD hS hl => lv_icmp_lt C.1 C.2.1 hd ht (fun h => kt h H locs ls hP hD hS hl) (fun h => kf h H locs ls hP hD hS hl)
theorem gw_if_ge (C : GC p s m args meth c cc nL ret own Ts D cl tys A Z) {x : Int32} {off : Int} {tgt : Nat} (hd : decode cc pc = .ok (.ifCond .ge off, 3)) (ht : (pc : Int) + off = (tgt : Int)) (kt : 0 ≤ x → GW p l e R s m args below meth c Q D cl A nL cells slots w tgt lv st) (kf : ¬ (0 ≤ x) → GW p l e R s m args below meth c Q D cl A nL cells slots w (pc + 3) lv st) : GW p l e R s m args below meth c Q D cl A nL cells slots w pc lv (.int x :: st) :=
  fun H locs ls hP hD hS hl => lv_if_ge C.1 C.2.1 hd ht (fun h => kt h H locs ls hP hD hS hl) (fun h => kf h H locs ls hP hD hS hl)
theorem gw_icmp_ge (C : GC p s m args meth c cc nL ret own Ts D cl tys A Z) {x y : Int32} {off : Int} {tgt : Nat} (hd : decode cc pc = .ok (.if_icmp .ge off, 3)) (ht : (pc : Int) + off = (tgt : Int)) (kt : y ≤ x → GW p l e R s m args below meth c Q D cl A nL cells slots w tgt lv st) (kf : ¬ (y ≤ x) → GW p l e R s m args below meth c Q D cl A nL cells slots w (pc + 3) lv st) : GW p l e R s m args below meth c Q D cl A nL cells slots w pc lv (.int y :: .int x :: st) :=
  fun H locs ls hP hD hS hl => lv_icmp_ge C.1 C.2.1 hd ht (fun h => kt h H locs ls hP hD hS hl) (fun h => kf h H locs ls hP hD hS hl)
theorem gw_if_gt (C : GC p s m args meth c cc nL ret own Ts D cl tys A Z) {x : Int32} {off : Int} {tgt : Nat} (hd : decode cc pc = .ok (.ifCond .gt off, 3)) (ht : (pc : Int) + off = (tgt : Int)) (kt : 0 < x → GW p l e R s m args below meth c Q D cl A nL cells slots w tgt lv st) (kf : ¬ (0 < x) → GW p l e R s m args below meth c Q D cl A nL cells slots w (pc + 3) lv st) : GW p l e R s m args below meth c Q D cl A nL cells slots w pc lv (.int x :: st) :=
  fun H locs ls hP hD hS hl => lv_if_gt C.1 C.2.1 hd ht (fun h => kt h H locs ls hP hD hS hl) (fun h => kf h H locs ls hP hD hS hl)
theorem gw_icmp_gt (C : GC p s m args meth c cc nL ret own Ts D cl tys A Z) {x y : Int32} {off : Int} {tgt : Nat} (hd : decode cc pc = .ok (.if_icmp .gt off, 3)) (ht : (pc : Int) + off = (tgt : Int)) (kt : y < x → GW p l e R s m args below meth c Q D cl A nL cells slots w tgt lv st) (kf : ¬ (y < x) → GW p l e R s m args below meth c Q D cl A nL cells slots w (pc + 3) lv st) : GW p l e R s m args below meth c Q D cl A nL cells slots w pc lv (.int y :: .int x :: st) :=
  fun H locs ls hP hD hS hl => lv_icmp_gt C.1 C.2.1 hd ht (fun h => kt h H locs ls hP hD hS hl) (fun h => kf h H locs ls hP hD hS hl)
theorem gw_if_le (C : GC p s m args meth c cc nL ret own Ts D cl tys A Z) {x : Int32} {off : Int} {tgt : Nat} (hd : decode cc pc = .ok (.ifCond .le off, 3)) (ht : (pc : Int) + off = (tgt : Int)) (kt : x ≤ 0 → GW p l e R s m args below meth c Q D cl A nL cells slots w tgt lv st) (kf : ¬ (x ≤ 0) → GW p l e R s m args below meth c Q D cl A nL cells slots w (pc + 3) lv st) : GW p l e R s m args below meth c Q D cl A nL cells slots w pc lv (.int x :: st) :=
  fun H locs ls hP hD hS hl => lv_if_le C.1 C.2.1 hd ht (fun h => kt h H locs ls hP hD hS hl) (fun h => kf h H locs ls hP hD hS hl)
theorem gw_icmp_le (C : GC p s m args meth c cc nL ret own Ts D cl tys A Z) {x y : Int32} {off : Int} {tgt : Nat} (hd : decode cc pc = .ok (.if_icmp .le off, 3)) (ht : (pc : Int) + off = (tgt : Int)) (kt : x ≤ y → GW p l e R s m args below meth c Q D cl A nL cells slots w tgt lv st) (kf : ¬ (x ≤ y) → GW p l e R s m args below meth c Q D cl A nL cells slots w (pc + 3) lv st) : GW p l e R s m args below meth c Q D cl A nL cells slots w pc lv (.int y :: .int x :: st) :=
  fun H locs ls hP hD hS hl => lv_icmp_le C.1 C.2.1 hd ht (fun h => kt h H locs ls hP hD hS hl) (fun h => kf h H locs ls hP hD hS hl)
theorem gw_goto (C : GC p s m args meth c cc nL ret own Ts D cl tys A Z) {off : Int} {tgt : Nat} (hd : decode cc pc = .ok (.goto off, 3)) (ht : (pc : Int) + off = (tgt : Int)) (k : GW p l e R s m args below meth c Q D cl A nL cells slots w tgt lv st) : GW p l e R s m args below meth c Q D cl A nL cells slots w pc lv st :=
  fun H locs ls hP hD hS hl => lv_goto C.1 C.2.1 hd ht (k H locs ls hP hD hS hl)
theorem gw_lookup (C : GC p s m args meth c cc nL ret own Ts D cl tys A Z) {dflt : Int} {ps : Array (Int × Int)} {len : Nat} {x : Int32} {off : Int} {tgt : Nat} (hd : decode cc pc = .ok (.lookupswitch dflt ps, len)) (hp : (ps.toList.zip (ps.toList.drop 1)).all (fun (a, next) => a.1 < next.1) = true) (ho : Op.lookupswitch.offset ps.toList dflt x.toInt = off) (ht : (pc : Int) + off = (tgt : Int)) (k : GW p l e R s m args below meth c Q D cl A nL cells slots w tgt lv st) : GW p l e R s m args below meth c Q D cl A nL cells slots w pc lv (.int x :: st) :=
  fun H locs ls hP hD hS hl => lv_lookup C.1 C.2.1 hd hp ho ht (k H locs ls hP hD hS hl)
theorem gw_tableOut (C : GC p s m args meth c cc nL ret own Ts D cl tys A Z) {dflt lo hi : Int} {offs : Array Int} {len : Nat} {x : Int32} {tgt : Nat} (hd : decode cc pc = .ok (.tableswitch dflt lo hi offs, len)) (h : x.toInt < lo ∨ hi < x.toInt) (ht : (pc : Int) + dflt = (tgt : Int)) (k : GW p l e R s m args below meth c Q D cl A nL cells slots w tgt lv st) : GW p l e R s m args below meth c Q D cl A nL cells slots w pc lv (.int x :: st) :=
  fun H locs ls hP hD hS hl => lv_tableOut C.1 C.2.1 hd h ht (k H locs ls hP hD hS hl)
theorem gw_tableIn (C : GC p s m args meth c cc nL ret own Ts D cl tys A Z) {dflt lo hi : Int} {offs : Array Int} {len : Nat} {x : Int32} {off : Int} {tgt : Nat} (v : Int32) (hv : x = v) (hd : decode cc pc = .ok (.tableswitch dflt lo hi offs, len)) (h1 : ¬ v.toInt < lo) (h2 : ¬ hi < v.toInt) (ho : offs[(v.toInt - lo).toNat]? = some off) (ht : (pc : Int) + off = (tgt : Int)) (k : GW p l e R s m args below meth c Q D cl A nL cells slots w tgt lv st) : GW p l e R s m args below meth c Q D cl A nL cells slots w pc lv (.int x :: st) := by
  subst hv
  exact fun H locs ls hP hD hS hl => lv_tableIn C.1 C.2.1 hd h1 h2 ho ht (k H locs ls hP hD hS hl)
theorem gw_get (C : GC p s m args meth c cc nL ret own Ts D cl tys A Z) {ref C' : String} {T : u_T} {N ci index a : Nat} (hin : ∀ z ∈ u_ws C' T N, z ∈ Ts) (q0 : Nat) {fs : List Value} (he : w[q0]? = some (a, .inr (ci, fs))) (hc : cl[ci]? = some (C', T, N)) (j : Nat) (hj : j < N) (hlink : Cond.fieldLink own index ref (T j).2.1 (T j).2.2.1 ∈ Ts) (hsame : (T j).1 = ref) {v : Value} (hv : fs[j]? = some v) (hd : decode cc pc = .ok (.getfield index, 3)) (k : GW p l e R s m args below meth c Q D cl A nL cells slots w (pc + 3) lv (v :: st)) : GW p l e R s m args below meth c Q D cl A nL cells slots w pc lv (.ref a :: st) :=
  fun H locs ls hP hD hS hl => va_get C.1 C.2.1 C.2.2.2.2.1 hin C.2.2.2.1 C.2.2.2.2.2.1 hP q0 he hc j hj (C.2.2.2.2.1 _ hlink) (fun x h => by rw [← hsame]; exact h) hv hd (k H locs ls hP hD hS hl)
theorem gw_put (C : GC p s m args meth c cc nL ret own Ts D cl tys A Z) {ref C' : String} {T : u_T} {N ci index a : Nat} (hin : ∀ z ∈ u_ws C' T N, z ∈ Ts) (ty0 : Nat → FieldType) (hty : ∀ k, k < N → parseFieldDescriptor (T k).2.2.1 = some (ty0 k)) (hnm : ∀ a, a < N → ∀ b, b < N → a ≠ b → (T a).2.1 ≠ (T b).2.1) (q0 : Nat) {fs : List Value} (he : w[q0]? = some (a, .inr (ci, fs))) (hc : cl[ci]? = some (C', T, N)) (j : Nat) (hj : j < N) (hlink : Cond.fieldLink own index ref (T j).2.1 (T j).2.2.1 ∈ Ts) (hsame : (T j).1 = ref) (hfin : (T j).2.2.2 = false) {v : Value} (hn : narrow (ty0 j) v = v) (hfit : fits (ty0 j) v = true) (hlen : j < fs.length) (hd : decode cc pc = .ok (.putfield index, 3)) {w' : va_W} (hw : w.set q0 (a, .inr (ci, fs.set j v)) = w') (k : GW p l e R s m args below meth c Q D cl A nL cells slots w' (pc + 3) lv st) : GW p l e R s m args below meth c Q D cl A nL cells slots w pc lv (v :: .ref a :: st) :=
  fun H locs ls hP hD hS hl => va_put C.1 C.2.1 C.2.2.2.2.1 hin ty0 hty hnm C.2.2.2.1 C.2.2.2.2.2.1 hP hD hS q0 he hc j hj (C.2.2.2.2.1 _ hlink) (fun x h => by rw [← hsame]; exact h) hfin (hty j hj) hn hfit hlen hd (fun H1 locs1 hP1 hD1 hS1 => k H1 locs1 ls (hw ▸ hP1) (hw ▸ hD1) hS1 hl)
theorem gw_putF (C : GC p s m args meth c cc nL ret own Ts D cl tys A Z) (hin2 : meth.name = "<init>") {C' : String} {T : u_T} {N ci index a : Nat} (hin : ∀ z ∈ u_ws C' T N, z ∈ Ts) (ty0 : Nat → FieldType) (hty : ∀ k, k < N → parseFieldDescriptor (T k).2.2.1 = some (ty0 k)) (hnm : ∀ a, a < N → ∀ b, b < N → a ≠ b → (T a).2.1 ≠ (T b).2.1) (q0 : Nat) {fs : List Value} (he : w[q0]? = some (a, .inr (ci, fs))) (hc : cl[ci]? = some (C', T, N)) (j : Nat) (hj : j < N) (hlink : Cond.fieldLink own index own (T j).2.1 (T j).2.2.1 ∈ Ts) (hsame : (T j).1 = own) (hfin : (T j).2.2.2 = true) {v : Value} (hn : narrow (ty0 j) v = v) (hfit : fits (ty0 j) v = true) (hlen : j < fs.length) (hd : decode cc pc = .ok (.putfield index, 3)) {w' : va_W} (hw : w.set q0 (a, .inr (ci, fs.set j v)) = w') (k : GW p l e R s m args below meth c Q D cl A nL cells slots w' (pc + 3) lv st) : GW p l e R s m args below meth c Q D cl A nL cells slots w pc lv (v :: .ref a :: st) :=
  fun H locs ls hP hD hS hl => va_putF C.1 C.2.1 C.2.2.2.2.1 hin ty0 hty hnm C.2.2.2.1 C.2.2.2.2.2.1 hP hD hS q0 he hc j hj (C.2.2.2.2.1 _ hlink) (fun x h => by rw [← hsame]; exact h) hfin hin2 hsame (hty j hj) hn hfit hlen hd (fun H1 locs1 hP1 hD1 hS1 => k H1 locs1 ls (hw ▸ hP1) (hw ▸ hD1) hS1 hl)
theorem gw_iald (C : GC p s m args meth c cc nL ret own Ts D cl tys A Z) (q0 t0 : Nat) {cA : ClassId} {n a : Nat} {f : Nat → Int32} (ha : w[q0]? = some (a, .inl (cA, n, .inl f))) (ht : tys[t0]? = some (cA, .int)) {i : Int32} (hin : vp_in i n) (hd : decode cc pc = .ok (.iaload, 1)) (k : GW p l e R s m args below meth c Q D cl A nL cells slots w (pc + 1) lv (.int (f i.toNatClampNeg) :: st)) : GW p l e R s m args below meth c Q D cl A nL cells slots w pc lv (.int i :: .ref a :: st) :=
  fun H locs ls hP hD hS hl => va_iald C.1 C.2.1 C.2.2.2.2.2.1 hP q0 t0 ha ht hin hd (k H locs ls hP hD hS hl)
theorem gw_zald (C : GC p s m args meth c cc nL ret own Ts D cl tys A Z) (q0 t0 : Nat) {cA : ClassId} {n a : Nat} {f : Nat → Int32} (ha : w[q0]? = some (a, .inl (cA, n, .inl f))) (ht : tys[t0]? = some (cA, .boolean)) {i : Int32} (hin : vp_in i n) (hd : decode cc pc = .ok (.baload, 1)) (k : GW p l e R s m args below meth c Q D cl A nL cells slots w (pc + 1) lv (.int (f i.toNatClampNeg) :: st)) : GW p l e R s m args below meth c Q D cl A nL cells slots w pc lv (.int i :: .ref a :: st) :=
  fun H locs ls hP hD hS hl => va_zald C.1 C.2.1 C.2.2.2.2.2.1 hP q0 t0 ha ht hin hd (k H locs ls hP hD hS hl)
theorem gw_bald (C : GC p s m args meth c cc nL ret own Ts D cl tys A Z) (q0 t0 : Nat) {cA : ClassId} {n a : Nat} {f : Nat → Int32} (ha : w[q0]? = some (a, .inl (cA, n, .inl f))) (ht : tys[t0]? = some (cA, .byte)) {i : Int32} (hin : vp_in i n) (hd : decode cc pc = .ok (.baload, 1)) (k : GW p l e R s m args below meth c Q D cl A nL cells slots w (pc + 1) lv (.int (f i.toNatClampNeg) :: st)) : GW p l e R s m args below meth c Q D cl A nL cells slots w pc lv (.int i :: .ref a :: st) :=
  fun H locs ls hP hD hS hl => va_bald C.1 C.2.1 C.2.2.2.2.2.1 hP q0 t0 ha ht hin hd (k H locs ls hP hD hS hl)
theorem gw_cald (C : GC p s m args meth c cc nL ret own Ts D cl tys A Z) (q0 t0 : Nat) {cA : ClassId} {n a : Nat} {f : Nat → Int32} (ha : w[q0]? = some (a, .inl (cA, n, .inl f))) (ht : tys[t0]? = some (cA, .char)) {i : Int32} (hin : vp_in i n) (hd : decode cc pc = .ok (.caload, 1)) (k : GW p l e R s m args below meth c Q D cl A nL cells slots w (pc + 1) lv (.int (f i.toNatClampNeg) :: st)) : GW p l e R s m args below meth c Q D cl A nL cells slots w pc lv (.int i :: .ref a :: st) :=
  fun H locs ls hP hD hS hl => va_cald C.1 C.2.1 C.2.2.2.2.2.1 hP q0 t0 ha ht hin hd (k H locs ls hP hD hS hl)
theorem gw_iast (C : GC p s m args meth c cc nL ret own Ts D cl tys A Z) (q0 t0 : Nat) {cA : ClassId} {n a : Nat} {f : Nat → Int32} (ha : w[q0]? = some (a, .inl (cA, n, .inl f))) (ht : tys[t0]? = some (cA, .int)) {i x : Int32} (hin : vp_in i n) (hd : decode cc pc = .ok (.iastore, 1)) {w' : va_W} (hw : w.set q0 (a, .inl (cA, n, .inl (upd f i.toNatClampNeg x))) = w') (k : GW p l e R s m args below meth c Q D cl A nL cells slots w' (pc + 1) lv st) : GW p l e R s m args below meth c Q D cl A nL cells slots w pc lv (.int x :: .int i :: .ref a :: st) :=
  fun H locs ls hP hD hS hl => va_iast C.1 C.2.1 C.2.2.2.2.2.1 hP hD hS q0 t0 ha ht hin hd (fun H1 locs1 hP1 hD1 hS1 => k H1 locs1 ls (hw ▸ hP1) (hw ▸ hD1) hS1 hl)
theorem gw_zast (C : GC p s m args meth c cc nL ret own Ts D cl tys A Z) (q0 t0 : Nat) {cA : ClassId} {n a : Nat} {f : Nat → Int32} (ha : w[q0]? = some (a, .inl (cA, n, .inl f))) (ht : tys[t0]? = some (cA, .boolean)) {i x : Int32} (hin : vp_in i n) (hd : decode cc pc = .ok (.bastore, 1)) {w' : va_W} (hw : w.set q0 (a, .inl (cA, n, .inl (upd f i.toNatClampNeg (vp_nar .boolean x)))) = w') (k : GW p l e R s m args below meth c Q D cl A nL cells slots w' (pc + 1) lv st) : GW p l e R s m args below meth c Q D cl A nL cells slots w pc lv (.int x :: .int i :: .ref a :: st) :=
  fun H locs ls hP hD hS hl => va_zast C.1 C.2.1 C.2.2.2.2.2.1 hP hD hS q0 t0 ha ht hin hd (fun H1 locs1 hP1 hD1 hS1 => k H1 locs1 ls (hw ▸ hP1) (hw ▸ hD1) hS1 hl)
theorem gw_bast (C : GC p s m args meth c cc nL ret own Ts D cl tys A Z) (q0 t0 : Nat) {cA : ClassId} {n a : Nat} {f : Nat → Int32} (ha : w[q0]? = some (a, .inl (cA, n, .inl f))) (ht : tys[t0]? = some (cA, .byte)) {i x : Int32} (hin : vp_in i n) (hd : decode cc pc = .ok (.bastore, 1)) {w' : va_W} (hw : w.set q0 (a, .inl (cA, n, .inl (upd f i.toNatClampNeg (vp_nar .byte x)))) = w') (k : GW p l e R s m args below meth c Q D cl A nL cells slots w' (pc + 1) lv st) : GW p l e R s m args below meth c Q D cl A nL cells slots w pc lv (.int x :: .int i :: .ref a :: st) :=
  fun H locs ls hP hD hS hl => va_bast C.1 C.2.1 C.2.2.2.2.2.1 hP hD hS q0 t0 ha ht hin hd (fun H1 locs1 hP1 hD1 hS1 => k H1 locs1 ls (hw ▸ hP1) (hw ▸ hD1) hS1 hl)
theorem gw_cast (C : GC p s m args meth c cc nL ret own Ts D cl tys A Z) (q0 t0 : Nat) {cA : ClassId} {n a : Nat} {f : Nat → Int32} (ha : w[q0]? = some (a, .inl (cA, n, .inl f))) (ht : tys[t0]? = some (cA, .char)) {i x : Int32} (hin : vp_in i n) (hd : decode cc pc = .ok (.castore, 1)) {w' : va_W} (hw : w.set q0 (a, .inl (cA, n, .inl (upd f i.toNatClampNeg (vp_nar .char x)))) = w') (k : GW p l e R s m args below meth c Q D cl A nL cells slots w' (pc + 1) lv st) : GW p l e R s m args below meth c Q D cl A nL cells slots w pc lv (.int x :: .int i :: .ref a :: st) :=
  fun H locs ls hP hD hS hl => va_cast C.1 C.2.1 C.2.2.2.2.2.1 hP hD hS q0 t0 ha ht hin hd (fun H1 locs1 hP1 hD1 hS1 => k H1 locs1 ls (hw ▸ hP1) (hw ▸ hD1) hS1 hl)
theorem gw_alen (C : GC p s m args meth c cc nL ret own Ts D cl tys A Z) (q0 t0 : Nat) {cA : ClassId} {a : Nat} {x : vp_A} (ha : w[q0]? = some (a, .inl (cA, x))) {ty : FieldType} (ht : tys[t0]? = some (cA, ty)) {v : Int32} (hv : Int32.ofNat x.1 = v) (hd : decode cc pc = .ok (.arraylength, 1)) (k : GW p l e R s m args below meth c Q D cl A nL cells slots w (pc + 1) lv (.int v :: st)) : GW p l e R s m args below meth c Q D cl A nL cells slots w pc lv (.ref a :: st) :=
  fun H locs ls hP hD hS hl => va_alen C.1 C.2.1 C.2.2.2.2.2.1 hP q0 t0 ha ht hv hd (k H locs ls hP hD hS hl)
theorem gw_iret (C : GC p s m args meth c cc nL (some .int) own Ts D cl tys A Z) {v : Int32} (hd : decode cc pc = .ok (.ireturn, 1)) : GW p l e R s m args below meth c (MQ below (QW D cl tys A (some (.int v)) w) args s cells slots A) D cl A nL cells slots w pc lv [.int v] :=
  fun _ _ _ hP hD hS _ => W.iret C.1 C.2.1 C.2.2.2.2.2.2.2.1 (fun t ht hW => ⟨rfl, by rw [ht]; exact hP, va_K.moved hW.alike C.2.2.2.2.2.1, hD, hS.F ht⟩) hS.2.2 hd C.2.2.2.2.2.2.1
theorem gw_zret {ty : FieldType} (C : GC p s m args meth c cc nL (some ty) own Ts D cl tys A Z) {v : Int32} (hn : narrow ty (.int v) = .int v) (hd : decode cc pc = .ok (.ireturn, 1)) : GW p l e R s m args below meth c (MQ below (QW D cl tys A (some (.int v)) w) args s cells slots A) D cl A nL cells slots w pc lv [.int v] :=
  fun _ _ _ hP hD hS _ => W.zret C.1 C.2.1 C.2.2.2.2.2.2.2.1 hn (fun t ht hW => ⟨rfl, by rw [ht]; exact hP, va_K.moved hW.alike C.2.2.2.2.2.1, hD, hS.F ht⟩) hS.2.2 hd C.2.2.2.2.2.2.1
theorem gw_vret (C : GC p s m args meth c cc nL none own Ts D cl tys A Z) (hd : decode cc pc = .ok (.return_, 1)) : GW p l e R s m args below meth c (MQ below (QW D cl tys A none w) args s cells slots A) D cl A nL cells slots w pc lv [] :=
  fun _ _ _ hP hD hS _ => W.vret C.1 C.2.1 C.2.2.2.2.2.2.2.1 (fun t ht hW => ⟨rfl, by rw [ht]; exact hP, va_K.moved hW.alike C.2.2.2.2.2.1, hD, hS.F ht⟩) hS.2.2 hd C.2.2.2.2.2.2.1
theorem gw_widen {k n : Nat} (h1 : cells ≤ k) (h2 : slots ≤ n) (kk : GW p l e R s m args below meth c Q D cl A nL k n w pc lv st) : GW p l e R s m args below meth c Q D cl A nL cells slots w pc lv st :=
  fun H locs ls hP hD hS hl => W.widen h1 h2 (kk H locs ls hP hD hS hl)
/-- a call's run, over the whole world -/
theorem gw_call {st0 rest : List Value} {a : Array Value} {oc : Option Value} {w' : va_W} {mc ms2 : Nat}
    (hA : ∀ q : Nat, s.heap.size ≤ q → A q)
    (hr : ∀ (H : Heap) (locs : List Loc) (ls : Array Slot), va_P D cl w H → va_D A w → va_S A s.heap H locs → lv_has ls nL lv → va_Run p l e R s m args below meth c H locs cells slots mc ms2 (F0 m pc ls st0) rest (QW D cl tys (va_A w H.size) oc w' a) (va_A w H.size))
    (k : GW p l e R s m args below meth c Q D cl A nL (cells + mc) (slots + ms2) w' (pc + 3) lv (oc.toList ++ rest)) : GW p l e R s m args below meth c Q D cl A nL cells slots w pc lv st0 := by
  intro H locs ls hP hD hS hl T hT X
  obtain ⟨v, st₀, t, T', L, h0, X', hL, e1, e2, ⟨ho, hP1, hK1, hD1, hz, hkp⟩, st⟩ := hr H locs ls hP hD hS hl T hT X
  cases ho
  rw [h0] at hz hkp
  have hF : ∀ q, va_A w H.size q → A q := by
    intro q h
    rcases h with ⟨j, x, h⟩ | h
    · exact hD.2 j (q, x) h
    · exact hA q (Nat.le_trans hS.1 h)
  have hS1 : va_S A s.heap T'.heap (locs ++ L) := ⟨Nat.le_trans hS.1 (by rw [e1]; exact hz), fun q h1 h2 => by rw [e1, hkp q (Nat.lt_of_lt_of_le h1 hS.1) (fun z => h2 (hF q z))]; exact hS.2.1 q h1 h2, fun q hq => by
    rcases List.mem_append.mp hq with h | h
    · exact hS.2.2 q h
    · exact hF _ (hL q h)⟩
  obtain ⟨t2, a1, b1⟩ := k T'.heap (locs ++ L) ls (by rw [e1]; exact hP1) (hD1.weaken (fun _ q _ h => hF q.1 h)) hS1 hl T' rfl X'
  exact ⟨t2, st t2 a1, b1⟩
theorem gw_pre (hZ : gw_ZOK Z) {av : List Value} {sz : Nat} : FrameBlind (va_Pc av (fun U => U.heap.size = sz ∧ va_P D cl w U.heap ∧ va_K D cl tys U ∧ va_D (fun _ => True) w ∧ Z (va_A w sz) U U.heap)) := fun a U g mk q => by
  obtain ⟨q0, q1, qP, qK, qD, qZ⟩ := q
  exact ⟨q0, q1, qP, va_K.moved (u := U) (U := U.calling g mk a) (Vm.Alike.refl U.vm) qK, qD, hZ.2 _ U (U.calling g mk a) _ rfl qZ⟩
theorem gw_sub_A (hA : ∀ q : Nat, s.heap.size ≤ q → A q) {H : Heap} {locs : List Loc} (hD : va_D A w) (hS : va_S A s.heap H locs) : ∀ q, va_A w H.size q → A q := by
  intro q h
  rcases h with ⟨j, x, h⟩ | h
  · exact hD.2 j (q, x) h
  · exact hA q (Nat.le_trans hS.1 h)
theorem gw_at {av : List Value} (C : GC p s m args meth c cc nL ret own Ts D cl tys A Z) {H : Heap} {locs : List Loc} (hP : va_P D cl w H) (hD : va_D A w) (hS : va_S A s.heap H locs) : ∀ U : State, U.heap = H → s.WarmedH U.vm → va_Pc av (fun U => U.heap.size = H.size ∧ va_P D cl w U.heap ∧ va_K D cl tys U ∧ va_D (fun _ => True) w ∧ Z (va_A w H.size) U U.heap) av.toArray U :=
  fun U hU hW => ⟨rfl, by rw [hU], by rw [hU]; exact hP, va_K.moved hW.alike C.2.2.2.2.2.1, hD.weaken (fun _ _ _ _ => trivial), C.2.2.2.2.2.2.2.2.2.2.1 A (va_A w H.size) s U s.heap U.heap hW (gw_sub_A C.2.2.2.2.2.2.2.2.1 hD hS) (by rw [hU]; exact hS.2.1) C.2.2.2.2.2.2.2.2.2.1⟩
variable {y : MethodName} {bytes : ByteArray} {maxL mc ms2 n index : Nat} {retc : Option FieldType} {ws : List Cond} {rm : Room} {As rest : List Value} {oc : Option Value} {w' : va_W} {C' : String}
theorem gw_callV (C : GC p s m args meth c cc nL ret own Ts D cl tys A Z) (q0 : Nat) {ci b : Nat} {fs : List Value} {T : u_T} {N : Nat} (he : w[q0]? = some (b, .inr (ci, fs))) (hc : cl[ci]? = some (C', T, N)) (hM : CW l y ws rm D cl tys Z (.ref b :: As) w oc w' mc ms2) (cw : CallW R s args own C' index y bytes maxL retc ws rm mc ms2 n)
    (hn : As.length = n) (hst : st = As.reverse ++ .ref b :: rest) (hroom : (rest.map fun v => v.category).sum ≤ 8) (hd : decode cc pc = .ok (.invokevirtual index, 3)) (hf : cells + mc ≤ R.cells ∧ slots + ms2 ≤ R.slots)
    (k : GW p l e R s m args below meth c Q D cl A nL (cells + mc) (slots + ms2) w' (pc + 3) lv (oc.toList ++ rest)) : GW p l e R s m args below meth c Q D cl A nL cells slots w pc lv st :=
  gw_call C.2.2.2.2.2.2.2.2.1 (fun H locs ls hP hD hS hl => va_runV ⟨C.1, C.2.1, C.2.2.1, C.2.2.2.1, C.2.2.2.2.1⟩ (hM H.size) cw ⟨gw_pre C.2.2.2.2.2.2.2.2.2.2, va_recv C.2.2.2.2.2.1 hP hc he, gw_at C hP hD hS⟩ rfl hn hl.1 hst (lv_room hroom) hd hf) k
theorem gw_callS (C : GC p s m args meth c cc nL ret own Ts D cl tys A Z) (hM : CW l y ws rm D cl tys Z As w oc w' mc ms2) (cw : CallB R s args own index y bytes maxL retc ws rm mc ms2 n ∧ (Cond.static y).before args s = true)
    (hn : As.length = n) (hst : st = As.reverse ++ rest) (hroom : (rest.map fun v => v.category).sum ≤ 8) (hd : decode cc pc = .ok (.invokestatic index, 3)) (hf : cells + mc ≤ R.cells ∧ slots + ms2 ≤ R.slots)
    (k : GW p l e R s m args below meth c Q D cl A nL (cells + mc) (slots + ms2) w' (pc + 3) lv (oc.toList ++ rest)) : GW p l e R s m args below meth c Q D cl A nL cells slots w pc lv st :=
  gw_call C.2.2.2.2.2.2.2.2.1 (fun H locs ls hP hD hS hl => va_runS ⟨C.1, C.2.1, C.2.2.1, C.2.2.2.1, C.2.2.2.2.1⟩ (hM H.size) cw ⟨gw_pre C.2.2.2.2.2.2.2.2.2.2, gw_at C hP hD hS⟩ rfl hn hl.1 hst (lv_room hroom) hd hf) k
theorem gw_callI (C : GC p s m args meth c cc nL ret own Ts D cl tys A Z) {b : Nat} (hM : CW l y ws rm D cl tys Z (.ref b :: As) w oc w' mc ms2) (cw : CallB R s args own index y bytes maxL none ws rm mc ms2 n ∧ y.name = "<init>" ∧ (Cond.instanceMethod y).before args s = true)
    (hn : As.length = n) (hst : st = As.reverse ++ .ref b :: rest) (hroom : (rest.map fun v => v.category).sum ≤ 8) (hd : decode cc pc = .ok (.invokespecial index, 3)) (hf : cells + mc ≤ R.cells ∧ slots + ms2 ≤ R.slots)
    (k : GW p l e R s m args below meth c Q D cl A nL (cells + mc) (slots + ms2) w' (pc + 3) lv (oc.toList ++ rest)) : GW p l e R s m args below meth c Q D cl A nL cells slots w pc lv st :=
  gw_call C.2.2.2.2.2.2.2.2.1 (fun H locs ls hP hD hS hl => va_runI ⟨C.1, C.2.1, C.2.2.1, C.2.2.2.1, C.2.2.2.2.1⟩ (hM H.size) cw ⟨gw_pre C.2.2.2.2.2.2.2.2.2.2, gw_at C hP hD hS⟩ rfl hn hl.1 hst (lv_room hroom) hd hf) k
end GWS
/-- a contract out of a walk from the entry -/
theorem CW.ofG {l : Launch} {y : MethodName} {ws ws' : List Cond} {rm : Room} {D : va_G} {cl : List vw_C} {tys : List (ClassId × FieldType)} {av : List Value} {w wf : va_W} {oc : Option Value} {mc ms : Nat} {cc : ByteArray} {nL : Nat} {ret : Option FieldType} {Z : gw_Z} (hZ : gw_ZOK Z)
    (hy : plainName y.cls = true) (hw : ws = Cond.code y cc nL ret :: ws') (hlen : (lg_sl av).length ≤ nL)
    (body : ∀ (p : Program) (e : Env) (s : State) (m : MethodId) (below : List Frame) (meth : Method) (c : Code) (A : Nat → Prop), GC p s m av.toArray meth c cc nL ret y.cls ws' D cl tys A Z → meth.name = y.name → GW p l e rm s m av.toArray below meth c (MQ below (QW D cl tys A oc wf) av.toArray s mc ms A) D cl A nL 0 0 w 0 (lv_args 0 av) []) : CW l y ws rm D cl tys Z av w oc wf mc ms := by
  intro sz
  refine Met.ofW (cc := cc) (maxL := nL) (ret := ret) hy hw ?_
  intro p e s m args below meth c s₁ B hml hv
  obtain ⟨rfl, hsz, hP, hK, hD0, hz⟩ := hv
  subst hsz
  have hts := atoms_spec (ws := ws) B.pre
  have hown : s.vm.findClass y.cls = some m.cls := findClass_of_methodNamed B.named
  have hl := lv_entry av (n := nL) hlen
  rw [lg_entry_eq]
  exact body p e s m below meth c (va_A w s.heap.size) ⟨B.exec, B.bytes, hml, hown, fun z h => hts z (by rw [hw]; exact List.mem_cons_of_mem _ h), hK, B.notSynchronized, B.returns, fun q h => Or.inr h, hz, hZ⟩ (name_of_methodNamed B.named B.method).1 s.heap [] _ hP hD0.self va_S.rf hl
/-! what a walk's function is made of -/
def inb (i : Int32) (n : Nat) : Bool := decide (¬ (i < 0 ∨ n ≤ i.toNatClampNeg))
def gd {α : Type} (b : Bool) (o : Option α) : Option α := if b = true then o else none
def ob {α β : Type} (o : Option (α × Mem)) (k : α → Mem → Option β) : Option β := match o with
  | some (r, M) => k r M
  | none => none
def om {β : Type} (o : Option Mem) (k : Mem → Option β) : Option β := match o with
  | some M => k M
  | none => none
theorem gd_some {α : Type} {i : Int32} {n : Nat} {o : Option α} {b : α} (h : gd (inb i n) o = some b) : vp_in i n ∧ o = some b := by
  unfold gd at h
  split at h
  · next hc =>
    have h0 : ¬ (i < 0 ∨ n ≤ i.toNatClampNeg) := of_decide_eq_true hc
    exact ⟨h0, h⟩
  · cases h
theorem gd_ne {α : Type} {i : Int32} {o : Option α} {b : α} (h : gd (decide (¬ i = 0)) o = some b) : (¬ i = 0) ∧ o = some b := by
  unfold gd at h
  split at h
  · next hc => exact ⟨of_decide_eq_true hc, h⟩
  · cases h
theorem ob_some {α β : Type} {o : Option (α × Mem)} {k : α → Mem → Option β} {b : β} (h : ob o k = some b) : ∃ (r : α) (M : Mem), o = some (r, M) ∧ k r M = some b := by
  cases o with
  | none => cases h
  | some q => exact ⟨q.1, q.2, rfl, h⟩
theorem om_some {β : Type} {o : Option Mem} {k : Mem → Option β} {b : β} (h : om o k = some b) : ∃ (M : Mem), o = some M ∧ k M = some b := by
  cases o with
  | none => cases h
  | some q => exact ⟨q, rfl, h⟩
section GWR
variable {p : Program} {l : Launch} {e : Env} {R : Room} {s : State} {m : MethodId} {args : Array Value} {below : List Frame} {meth : Method} {c : Code} {Q : State → Prop} {D : va_G} {cl : List vw_C} {tys : List (ClassId × FieldType)} {A : Nat → Prop} {nL cells slots : Nat} {w : va_W} {pc : Nat} {lv lv' : List (Nat × Value)} {st : List Value} {cc : ByteArray} {ret : Option FieldType} {own : String} {Ts : List Cond} {Z : gw_Z}
theorem gw_ireti (C : GC p s m args meth c cc nL (some .int) own Ts D cl tys A Z) {v r : Int32} {M M' : Mem} (hd : decode cc pc = .ok (.ireturn, 1)) (wd : Mem → va_W) (hf : some (v, M) = some (r, M')) : GW p l e R s m args below meth c (MQ below (QW D cl tys A (some (.int r)) (wd M')) args s cells slots A) D cl A nL cells slots (wd M) pc lv [.int v] := by
  cases hf
  exact gw_iret C hd
theorem gw_zreti {ty : FieldType} (C : GC p s m args meth c cc nL (some ty) own Ts D cl tys A Z) {v r : Int32} {M M' : Mem} (hd : decode cc pc = .ok (.ireturn, 1)) (wd : Mem → va_W) (hn : narrow ty (.int v) = .int v) (hf : some (v, M) = some (r, M')) : GW p l e R s m args below meth c (MQ below (QW D cl tys A (some (.int r)) (wd M')) args s cells slots A) D cl A nL cells slots (wd M) pc lv [.int v] := by
  cases hf
  exact gw_zret C hn hd
theorem gw_vreti (C : GC p s m args meth c cc nL none own Ts D cl tys A Z) {M M' : Mem} (hd : decode cc pc = .ok (.return_, 1)) (wd : Mem → va_W) (hf : some M = some M') : GW p l e R s m args below meth c (MQ below (QW D cl tys A none (wd M')) args s cells slots A) D cl A nL cells slots (wd M) pc lv [] := by
  cases hf
  exact gw_vret C hd
variable {y : MethodName} {bytes : ByteArray} {maxL n index : Nat} {retc : Option FieldType} {ws : List Cond} {rm : Room} {As rest : List Value} {v : Value} {w' : va_W} {C' : String}
theorem gw_callVr (C : GC p s m args meth c cc nL ret own Ts D cl tys A Z) (q0 : Nat) {ci b : Nat} {fs : List Value} {T : u_T} {N : Nat} (he : w[q0]? = some (b, .inr (ci, fs))) (hc : cl[ci]? = some (C', T, N)) (hM : CW l y ws rm D cl tys Z (.ref b :: As) w (some v) w' 0 0) (cw : CallW R s args own C' index y bytes maxL retc ws rm 0 0 n)
    (hn : As.length = n) (hst : st = As.reverse ++ .ref b :: rest) (hroom : (rest.map fun v => v.category).sum ≤ 8) (hd : decode cc pc = .ok (.invokevirtual index, 3)) (hf : cells ≤ R.cells ∧ slots ≤ R.slots)
    (k : GW p l e R s m args below meth c Q D cl A nL cells slots w' (pc + 3) lv (v :: rest)) : GW p l e R s m args below meth c Q D cl A nL cells slots w pc lv st := gw_callV C q0 he hc hM cw hn hst hroom hd hf k
theorem gw_callVv (C : GC p s m args meth c cc nL ret own Ts D cl tys A Z) (q0 : Nat) {ci b : Nat} {fs : List Value} {T : u_T} {N : Nat} (he : w[q0]? = some (b, .inr (ci, fs))) (hc : cl[ci]? = some (C', T, N)) (hM : CW l y ws rm D cl tys Z (.ref b :: As) w none w' 0 0) (cw : CallW R s args own C' index y bytes maxL retc ws rm 0 0 n)
    (hn : As.length = n) (hst : st = As.reverse ++ .ref b :: rest) (hroom : (rest.map fun v => v.category).sum ≤ 8) (hd : decode cc pc = .ok (.invokevirtual index, 3)) (hf : cells ≤ R.cells ∧ slots ≤ R.slots)
    (k : GW p l e R s m args below meth c Q D cl A nL cells slots w' (pc + 3) lv rest) : GW p l e R s m args below meth c Q D cl A nL cells slots w pc lv st := gw_callV C q0 he hc hM cw hn hst hroom hd hf k
theorem gw_callSr (C : GC p s m args meth c cc nL ret own Ts D cl tys A Z) (hM : CW l y ws rm D cl tys Z As w (some v) w' 0 0) (cw : CallB R s args own index y bytes maxL retc ws rm 0 0 n ∧ (Cond.static y).before args s = true)
    (hn : As.length = n) (hst : st = As.reverse ++ rest) (hroom : (rest.map fun v => v.category).sum ≤ 8) (hd : decode cc pc = .ok (.invokestatic index, 3)) (hf : cells ≤ R.cells ∧ slots ≤ R.slots)
    (k : GW p l e R s m args below meth c Q D cl A nL cells slots w' (pc + 3) lv (v :: rest)) : GW p l e R s m args below meth c Q D cl A nL cells slots w pc lv st := gw_callS C hM cw hn hst hroom hd hf k
theorem gw_callSv (C : GC p s m args meth c cc nL ret own Ts D cl tys A Z) (hM : CW l y ws rm D cl tys Z As w none w' 0 0) (cw : CallB R s args own index y bytes maxL retc ws rm 0 0 n ∧ (Cond.static y).before args s = true)
    (hn : As.length = n) (hst : st = As.reverse ++ rest) (hroom : (rest.map fun v => v.category).sum ≤ 8) (hd : decode cc pc = .ok (.invokestatic index, 3)) (hf : cells ≤ R.cells ∧ slots ≤ R.slots)
    (k : GW p l e R s m args below meth c Q D cl A nL cells slots w' (pc + 3) lv rest) : GW p l e R s m args below meth c Q D cl A nL cells slots w pc lv st := gw_callS C hM cw hn hst hroom hd hf k
end GWR
section GWN
variable {p : Program} {l : Launch} {e : Env} {R : Room} {s : State} {m : MethodId} {args : Array Value} {below : List Frame} {meth : Method} {c : Code} {H : Heap} {locs : List Loc} {Q : State → Prop} {D : va_G} {cl : List vw_C} {tys : List (ClassId × FieldType)} {A : Nat → Prop} {nL cells slots : Nat} {w : va_W} {pc : Nat} {lv lv' : List (Nat × Value)} {st : List Value} {cc : ByteArray} {ret : Option FieldType} {own : String} {Ts : List Cond} {Z : gw_Z}
/-- an answer that is narrowed on its way out -/
theorem gw_Wzret {Qc : Array Value → State → Outcome → State → Prop} {free : Addr → Prop} {v v' : Int32} {ty : FieldType} (hexec : p.tables.exec = Jvm.exec) (hb : c.code = cc) (hr : meth.sig.returnType = some ty) (hn : narrow ty (.int v) = .int v')
    (hq : ∀ t : State, t.heap = H → s.WarmedH t.vm → Qc args s (.returned (some (.int v'))) t) (hf : ∀ q ∈ locs, free q.base)
    {ls : Array Slot} (hdg : decode cc pc = .ok (.ireturn, 1)) (hlocks : meth.locks = false) : W p l e R s m args below meth c H locs cells slots (MQ below Qc args s cells slots free) (F0 m pc ls [.int v]) := by
  intro T hT X
  have hlocks : meth.locks = false := hlocks
  obtain ⟨fs, hret, hrun, hended, hW, hframe⟩ := X.leave (v := some (.int v')) (fun h => by rw [hr] at h; cases h)
  have hmeth' : T.vm.method? m = some meth := X.method'
  refine ⟨T.setFrames fs, ?_, .returned (some (.int v')), hrun, hended, hq _ hT hW, locs, ⟨⟨_, rfl⟩, hW, hframe⟩, hf⟩
  jvm_step X.here [X.here.top, hexec, hb, hdg, hmeth', hr, hn]
  (try refine ⟨rfl, ?_⟩); (try refine ⟨rfl, ?_⟩)
  first | (intro acts; rw [hret _ acts rfl rfl rfl]) | rw [hret _ _ rfl rfl rfl]
  exact Steps.refl _
theorem gw_zretn {ty : FieldType} (C : GC p s m args meth c cc nL (some ty) own Ts D cl tys A Z) {v r : Int32} {M M' : Mem} (hd : decode cc pc = .ok (.ireturn, 1)) (wd : Mem → va_W) (hn : narrow ty (.int v) = .int (vp_nar ty v)) (hf : some (vp_nar ty v, M) = some (r, M')) : GW p l e R s m args below meth c (MQ below (QW D cl tys A (some (.int r)) (wd M')) args s cells slots A) D cl A nL cells slots (wd M) pc lv [.int v] := by
  cases hf
  exact fun _ _ _ hP hD hS _ => gw_Wzret C.1 C.2.1 C.2.2.2.2.2.2.2.1 hn (fun t ht hW => ⟨rfl, by rw [ht]; exact hP, va_K.moved hW.alike C.2.2.2.2.2.1, hD, hS.F ht⟩) hS.2.2 hd C.2.2.2.2.2.2.1
end GWN
theorem nar_b (v : Int32) : narrow .boolean (.int v) = .int (vp_nar .boolean v) := rfl
theorem nar_c (v : Int32) : narrow .char (.int v) = .int (vp_nar .char v) := rfl
theorem nar_y (v : Int32) : narrow .byte (.int v) = .int (vp_nar .byte v) := rfl
end
section
abbrev tysW (cI cZ cC : ClassId) : List (ClassId × FieldType) := [(cI, .int), (cZ, .boolean), (cC, .char)]
def wc (ad : Nat → Nat) (cI cZ cC : ClassId) (M : Mem) : va_W := [(ad 0, .inr (4, [.ref (ad 1), .ref (ad 11), .ref (ad 23), .ref (ad 25)])),
  (ad 1, .inr (0, [.ref (ad 2), .int (M 1 1), .ref (ad 3), .ref (ad 4), .ref (ad 5), .ref (ad 6), .ref (ad 7), .ref (ad 8), .ref (ad 9), .ref (ad 10), .int (M 1 10)])),
  (ad 2, .inl (cI, 5, .inl (M 2))),
  (ad 3, .inl (cI, 120, .inl (M 3))),
  (ad 4, .inl (cI, 120, .inl (M 4))),
  (ad 5, .inl (cI, 120, .inl (M 5))),
  (ad 6, .inl (cI, 120, .inl (M 6))),
  (ad 7, .inl (cI, 120, .inl (M 7))),
  (ad 8, .inl (cI, 120, .inl (M 8))),
  (ad 9, .inl (cI, 120, .inl (M 9))),
  (ad 10, .inl (cI, 120, .inl (M 10))),
  (ad 11, .inr (3, [.ref (ad 1), .ref (ad 12), .ref (ad 13), .int (M 11 3), .ref (ad 14), .ref (ad 15), .ref (ad 16), .ref (ad 17), .ref (ad 18), .int (M 11 9), .ref (ad 19), .ref (ad 20), .ref (ad 21), .ref (ad 22), .int (M 11 14)])),
  (ad 12, .inl (cI, 120, .inl (M 12))),
  (ad 13, .inl (cI, 120, .inl (M 13))),
  (ad 14, .inl (cI, 120, .inl (M 14))),
  (ad 15, .inl (cI, 120, .inl (M 15))),
  (ad 16, .inl (cI, 120, .inl (M 16))),
  (ad 17, .inl (cI, 120, .inl (M 17))),
  (ad 18, .inl (cI, 120, .inl (M 18))),
  (ad 19, .inl (cI, 121, .inl (M 19))),
  (ad 20, .inl (cI, 121, .inl (M 20))),
  (ad 21, .inl (cI, 121, .inl (M 21))),
  (ad 22, .inl (cI, 121, .inl (M 22))),
  (ad 23, .inr (2, [.ref (ad 1), .ref (ad 11), .ref (ad 24), .int (M 23 3), .int (M 23 4)])),
  (ad 24, .inl (cC, 256, .inl (M 24))),
  (ad 25, .inr (1, [.ref (ad 1), .ref (ad 26), .ref (ad 27), .ref (ad 28), .int (M 25 4)])),
  (ad 26, .inl (cZ, 120, .inl (M 26))),
  (ad 27, .inl (cI, 25, .inl (M 27))),
  (ad 28, .inl (cI, 120, .inl (M 28)))]
theorem wcg_0 {ad : Nat → Nat} {cI cZ cC : ClassId} {M : Mem} : (wc ad cI cZ cC M)[0]? = some (ad 0, .inr (4, [.ref (ad 1), .ref (ad 11), .ref (ad 23), .ref (ad 25)])) := rfl
theorem wcg_1 {ad : Nat → Nat} {cI cZ cC : ClassId} {M : Mem} : (wc ad cI cZ cC M)[1]? = some (ad 1, .inr (0, [.ref (ad 2), .int (M 1 1), .ref (ad 3), .ref (ad 4), .ref (ad 5), .ref (ad 6), .ref (ad 7), .ref (ad 8), .ref (ad 9), .ref (ad 10), .int (M 1 10)])) := rfl
theorem wcf_1_1 {ad : Nat → Nat} {cI cZ cC : ClassId} {M : Mem} {x : Int32} : (wc ad cI cZ cC M).set 1 (ad 1, .inr (0, ([.ref (ad 2), .int (M 1 1), .ref (ad 3), .ref (ad 4), .ref (ad 5), .ref (ad 6), .ref (ad 7), .ref (ad 8), .ref (ad 9), .ref (ad 10), .int (M 1 10)] : List Value).set 1 (.int x))) = wc ad cI cZ cC (ms M 1 1 x) := rfl
theorem wcf_1_10 {ad : Nat → Nat} {cI cZ cC : ClassId} {M : Mem} {x : Int32} : (wc ad cI cZ cC M).set 1 (ad 1, .inr (0, ([.ref (ad 2), .int (M 1 1), .ref (ad 3), .ref (ad 4), .ref (ad 5), .ref (ad 6), .ref (ad 7), .ref (ad 8), .ref (ad 9), .ref (ad 10), .int (M 1 10)] : List Value).set 10 (.int x))) = wc ad cI cZ cC (ms M 1 10 x) := rfl
theorem wcg_2 {ad : Nat → Nat} {cI cZ cC : ClassId} {M : Mem} : (wc ad cI cZ cC M)[2]? = some (ad 2, .inl (cI, 5, .inl (M 2))) := rfl
theorem wca_2 {ad : Nat → Nat} {cI cZ cC : ClassId} {M : Mem} {i : Nat} {x : Int32} : (wc ad cI cZ cC M).set 2 (ad 2, .inl (cI, 5, .inl (upd (M 2) i x))) = wc ad cI cZ cC (ms M 2 i x) := rfl
theorem wcg_3 {ad : Nat → Nat} {cI cZ cC : ClassId} {M : Mem} : (wc ad cI cZ cC M)[3]? = some (ad 3, .inl (cI, 120, .inl (M 3))) := rfl
theorem wca_3 {ad : Nat → Nat} {cI cZ cC : ClassId} {M : Mem} {i : Nat} {x : Int32} : (wc ad cI cZ cC M).set 3 (ad 3, .inl (cI, 120, .inl (upd (M 3) i x))) = wc ad cI cZ cC (ms M 3 i x) := rfl
theorem wcg_4 {ad : Nat → Nat} {cI cZ cC : ClassId} {M : Mem} : (wc ad cI cZ cC M)[4]? = some (ad 4, .inl (cI, 120, .inl (M 4))) := rfl
theorem wca_4 {ad : Nat → Nat} {cI cZ cC : ClassId} {M : Mem} {i : Nat} {x : Int32} : (wc ad cI cZ cC M).set 4 (ad 4, .inl (cI, 120, .inl (upd (M 4) i x))) = wc ad cI cZ cC (ms M 4 i x) := rfl
theorem wcg_5 {ad : Nat → Nat} {cI cZ cC : ClassId} {M : Mem} : (wc ad cI cZ cC M)[5]? = some (ad 5, .inl (cI, 120, .inl (M 5))) := rfl
theorem wca_5 {ad : Nat → Nat} {cI cZ cC : ClassId} {M : Mem} {i : Nat} {x : Int32} : (wc ad cI cZ cC M).set 5 (ad 5, .inl (cI, 120, .inl (upd (M 5) i x))) = wc ad cI cZ cC (ms M 5 i x) := rfl
theorem wcg_6 {ad : Nat → Nat} {cI cZ cC : ClassId} {M : Mem} : (wc ad cI cZ cC M)[6]? = some (ad 6, .inl (cI, 120, .inl (M 6))) := rfl
theorem wca_6 {ad : Nat → Nat} {cI cZ cC : ClassId} {M : Mem} {i : Nat} {x : Int32} : (wc ad cI cZ cC M).set 6 (ad 6, .inl (cI, 120, .inl (upd (M 6) i x))) = wc ad cI cZ cC (ms M 6 i x) := rfl
theorem wcg_7 {ad : Nat → Nat} {cI cZ cC : ClassId} {M : Mem} : (wc ad cI cZ cC M)[7]? = some (ad 7, .inl (cI, 120, .inl (M 7))) := rfl
theorem wca_7 {ad : Nat → Nat} {cI cZ cC : ClassId} {M : Mem} {i : Nat} {x : Int32} : (wc ad cI cZ cC M).set 7 (ad 7, .inl (cI, 120, .inl (upd (M 7) i x))) = wc ad cI cZ cC (ms M 7 i x) := rfl
theorem wcg_8 {ad : Nat → Nat} {cI cZ cC : ClassId} {M : Mem} : (wc ad cI cZ cC M)[8]? = some (ad 8, .inl (cI, 120, .inl (M 8))) := rfl
theorem wca_8 {ad : Nat → Nat} {cI cZ cC : ClassId} {M : Mem} {i : Nat} {x : Int32} : (wc ad cI cZ cC M).set 8 (ad 8, .inl (cI, 120, .inl (upd (M 8) i x))) = wc ad cI cZ cC (ms M 8 i x) := rfl
theorem wcg_9 {ad : Nat → Nat} {cI cZ cC : ClassId} {M : Mem} : (wc ad cI cZ cC M)[9]? = some (ad 9, .inl (cI, 120, .inl (M 9))) := rfl
theorem wca_9 {ad : Nat → Nat} {cI cZ cC : ClassId} {M : Mem} {i : Nat} {x : Int32} : (wc ad cI cZ cC M).set 9 (ad 9, .inl (cI, 120, .inl (upd (M 9) i x))) = wc ad cI cZ cC (ms M 9 i x) := rfl
theorem wcg_10 {ad : Nat → Nat} {cI cZ cC : ClassId} {M : Mem} : (wc ad cI cZ cC M)[10]? = some (ad 10, .inl (cI, 120, .inl (M 10))) := rfl
theorem wca_10 {ad : Nat → Nat} {cI cZ cC : ClassId} {M : Mem} {i : Nat} {x : Int32} : (wc ad cI cZ cC M).set 10 (ad 10, .inl (cI, 120, .inl (upd (M 10) i x))) = wc ad cI cZ cC (ms M 10 i x) := rfl
theorem wcg_11 {ad : Nat → Nat} {cI cZ cC : ClassId} {M : Mem} : (wc ad cI cZ cC M)[11]? = some (ad 11, .inr (3, [.ref (ad 1), .ref (ad 12), .ref (ad 13), .int (M 11 3), .ref (ad 14), .ref (ad 15), .ref (ad 16), .ref (ad 17), .ref (ad 18), .int (M 11 9), .ref (ad 19), .ref (ad 20), .ref (ad 21), .ref (ad 22), .int (M 11 14)])) := rfl
theorem wcf_11_3 {ad : Nat → Nat} {cI cZ cC : ClassId} {M : Mem} {x : Int32} : (wc ad cI cZ cC M).set 11 (ad 11, .inr (3, ([.ref (ad 1), .ref (ad 12), .ref (ad 13), .int (M 11 3), .ref (ad 14), .ref (ad 15), .ref (ad 16), .ref (ad 17), .ref (ad 18), .int (M 11 9), .ref (ad 19), .ref (ad 20), .ref (ad 21), .ref (ad 22), .int (M 11 14)] : List Value).set 3 (.int x))) = wc ad cI cZ cC (ms M 11 3 x) := rfl
theorem wcf_11_9 {ad : Nat → Nat} {cI cZ cC : ClassId} {M : Mem} {x : Int32} : (wc ad cI cZ cC M).set 11 (ad 11, .inr (3, ([.ref (ad 1), .ref (ad 12), .ref (ad 13), .int (M 11 3), .ref (ad 14), .ref (ad 15), .ref (ad 16), .ref (ad 17), .ref (ad 18), .int (M 11 9), .ref (ad 19), .ref (ad 20), .ref (ad 21), .ref (ad 22), .int (M 11 14)] : List Value).set 9 (.int x))) = wc ad cI cZ cC (ms M 11 9 x) := rfl
theorem wcf_11_14 {ad : Nat → Nat} {cI cZ cC : ClassId} {M : Mem} {x : Int32} : (wc ad cI cZ cC M).set 11 (ad 11, .inr (3, ([.ref (ad 1), .ref (ad 12), .ref (ad 13), .int (M 11 3), .ref (ad 14), .ref (ad 15), .ref (ad 16), .ref (ad 17), .ref (ad 18), .int (M 11 9), .ref (ad 19), .ref (ad 20), .ref (ad 21), .ref (ad 22), .int (M 11 14)] : List Value).set 14 (.int x))) = wc ad cI cZ cC (ms M 11 14 x) := rfl
theorem wcg_12 {ad : Nat → Nat} {cI cZ cC : ClassId} {M : Mem} : (wc ad cI cZ cC M)[12]? = some (ad 12, .inl (cI, 120, .inl (M 12))) := rfl
theorem wca_12 {ad : Nat → Nat} {cI cZ cC : ClassId} {M : Mem} {i : Nat} {x : Int32} : (wc ad cI cZ cC M).set 12 (ad 12, .inl (cI, 120, .inl (upd (M 12) i x))) = wc ad cI cZ cC (ms M 12 i x) := rfl
theorem wcg_13 {ad : Nat → Nat} {cI cZ cC : ClassId} {M : Mem} : (wc ad cI cZ cC M)[13]? = some (ad 13, .inl (cI, 120, .inl (M 13))) := rfl
theorem wca_13 {ad : Nat → Nat} {cI cZ cC : ClassId} {M : Mem} {i : Nat} {x : Int32} : (wc ad cI cZ cC M).set 13 (ad 13, .inl (cI, 120, .inl (upd (M 13) i x))) = wc ad cI cZ cC (ms M 13 i x) := rfl
theorem wcg_14 {ad : Nat → Nat} {cI cZ cC : ClassId} {M : Mem} : (wc ad cI cZ cC M)[14]? = some (ad 14, .inl (cI, 120, .inl (M 14))) := rfl
theorem wca_14 {ad : Nat → Nat} {cI cZ cC : ClassId} {M : Mem} {i : Nat} {x : Int32} : (wc ad cI cZ cC M).set 14 (ad 14, .inl (cI, 120, .inl (upd (M 14) i x))) = wc ad cI cZ cC (ms M 14 i x) := rfl
theorem wcg_15 {ad : Nat → Nat} {cI cZ cC : ClassId} {M : Mem} : (wc ad cI cZ cC M)[15]? = some (ad 15, .inl (cI, 120, .inl (M 15))) := rfl
theorem wca_15 {ad : Nat → Nat} {cI cZ cC : ClassId} {M : Mem} {i : Nat} {x : Int32} : (wc ad cI cZ cC M).set 15 (ad 15, .inl (cI, 120, .inl (upd (M 15) i x))) = wc ad cI cZ cC (ms M 15 i x) := rfl
theorem wcg_16 {ad : Nat → Nat} {cI cZ cC : ClassId} {M : Mem} : (wc ad cI cZ cC M)[16]? = some (ad 16, .inl (cI, 120, .inl (M 16))) := rfl
theorem wca_16 {ad : Nat → Nat} {cI cZ cC : ClassId} {M : Mem} {i : Nat} {x : Int32} : (wc ad cI cZ cC M).set 16 (ad 16, .inl (cI, 120, .inl (upd (M 16) i x))) = wc ad cI cZ cC (ms M 16 i x) := rfl
theorem wcg_17 {ad : Nat → Nat} {cI cZ cC : ClassId} {M : Mem} : (wc ad cI cZ cC M)[17]? = some (ad 17, .inl (cI, 120, .inl (M 17))) := rfl
theorem wca_17 {ad : Nat → Nat} {cI cZ cC : ClassId} {M : Mem} {i : Nat} {x : Int32} : (wc ad cI cZ cC M).set 17 (ad 17, .inl (cI, 120, .inl (upd (M 17) i x))) = wc ad cI cZ cC (ms M 17 i x) := rfl
theorem wcg_18 {ad : Nat → Nat} {cI cZ cC : ClassId} {M : Mem} : (wc ad cI cZ cC M)[18]? = some (ad 18, .inl (cI, 120, .inl (M 18))) := rfl
theorem wca_18 {ad : Nat → Nat} {cI cZ cC : ClassId} {M : Mem} {i : Nat} {x : Int32} : (wc ad cI cZ cC M).set 18 (ad 18, .inl (cI, 120, .inl (upd (M 18) i x))) = wc ad cI cZ cC (ms M 18 i x) := rfl
theorem wcg_19 {ad : Nat → Nat} {cI cZ cC : ClassId} {M : Mem} : (wc ad cI cZ cC M)[19]? = some (ad 19, .inl (cI, 121, .inl (M 19))) := rfl
theorem wca_19 {ad : Nat → Nat} {cI cZ cC : ClassId} {M : Mem} {i : Nat} {x : Int32} : (wc ad cI cZ cC M).set 19 (ad 19, .inl (cI, 121, .inl (upd (M 19) i x))) = wc ad cI cZ cC (ms M 19 i x) := rfl
theorem wcg_20 {ad : Nat → Nat} {cI cZ cC : ClassId} {M : Mem} : (wc ad cI cZ cC M)[20]? = some (ad 20, .inl (cI, 121, .inl (M 20))) := rfl
theorem wca_20 {ad : Nat → Nat} {cI cZ cC : ClassId} {M : Mem} {i : Nat} {x : Int32} : (wc ad cI cZ cC M).set 20 (ad 20, .inl (cI, 121, .inl (upd (M 20) i x))) = wc ad cI cZ cC (ms M 20 i x) := rfl
theorem wcg_21 {ad : Nat → Nat} {cI cZ cC : ClassId} {M : Mem} : (wc ad cI cZ cC M)[21]? = some (ad 21, .inl (cI, 121, .inl (M 21))) := rfl
theorem wca_21 {ad : Nat → Nat} {cI cZ cC : ClassId} {M : Mem} {i : Nat} {x : Int32} : (wc ad cI cZ cC M).set 21 (ad 21, .inl (cI, 121, .inl (upd (M 21) i x))) = wc ad cI cZ cC (ms M 21 i x) := rfl
theorem wcg_22 {ad : Nat → Nat} {cI cZ cC : ClassId} {M : Mem} : (wc ad cI cZ cC M)[22]? = some (ad 22, .inl (cI, 121, .inl (M 22))) := rfl
theorem wca_22 {ad : Nat → Nat} {cI cZ cC : ClassId} {M : Mem} {i : Nat} {x : Int32} : (wc ad cI cZ cC M).set 22 (ad 22, .inl (cI, 121, .inl (upd (M 22) i x))) = wc ad cI cZ cC (ms M 22 i x) := rfl
theorem wcg_23 {ad : Nat → Nat} {cI cZ cC : ClassId} {M : Mem} : (wc ad cI cZ cC M)[23]? = some (ad 23, .inr (2, [.ref (ad 1), .ref (ad 11), .ref (ad 24), .int (M 23 3), .int (M 23 4)])) := rfl
theorem wcf_23_3 {ad : Nat → Nat} {cI cZ cC : ClassId} {M : Mem} {x : Int32} : (wc ad cI cZ cC M).set 23 (ad 23, .inr (2, ([.ref (ad 1), .ref (ad 11), .ref (ad 24), .int (M 23 3), .int (M 23 4)] : List Value).set 3 (.int x))) = wc ad cI cZ cC (ms M 23 3 x) := rfl
theorem wcf_23_4 {ad : Nat → Nat} {cI cZ cC : ClassId} {M : Mem} {x : Int32} : (wc ad cI cZ cC M).set 23 (ad 23, .inr (2, ([.ref (ad 1), .ref (ad 11), .ref (ad 24), .int (M 23 3), .int (M 23 4)] : List Value).set 4 (.int x))) = wc ad cI cZ cC (ms M 23 4 x) := rfl
theorem wcg_24 {ad : Nat → Nat} {cI cZ cC : ClassId} {M : Mem} : (wc ad cI cZ cC M)[24]? = some (ad 24, .inl (cC, 256, .inl (M 24))) := rfl
theorem wca_24 {ad : Nat → Nat} {cI cZ cC : ClassId} {M : Mem} {i : Nat} {x : Int32} : (wc ad cI cZ cC M).set 24 (ad 24, .inl (cC, 256, .inl (upd (M 24) i x))) = wc ad cI cZ cC (ms M 24 i x) := rfl
theorem wcg_25 {ad : Nat → Nat} {cI cZ cC : ClassId} {M : Mem} : (wc ad cI cZ cC M)[25]? = some (ad 25, .inr (1, [.ref (ad 1), .ref (ad 26), .ref (ad 27), .ref (ad 28), .int (M 25 4)])) := rfl
theorem wcf_25_4 {ad : Nat → Nat} {cI cZ cC : ClassId} {M : Mem} {x : Int32} : (wc ad cI cZ cC M).set 25 (ad 25, .inr (1, ([.ref (ad 1), .ref (ad 26), .ref (ad 27), .ref (ad 28), .int (M 25 4)] : List Value).set 4 (.int x))) = wc ad cI cZ cC (ms M 25 4 x) := rfl
theorem wcg_26 {ad : Nat → Nat} {cI cZ cC : ClassId} {M : Mem} : (wc ad cI cZ cC M)[26]? = some (ad 26, .inl (cZ, 120, .inl (M 26))) := rfl
theorem wca_26 {ad : Nat → Nat} {cI cZ cC : ClassId} {M : Mem} {i : Nat} {x : Int32} : (wc ad cI cZ cC M).set 26 (ad 26, .inl (cZ, 120, .inl (upd (M 26) i x))) = wc ad cI cZ cC (ms M 26 i x) := rfl
theorem wcg_27 {ad : Nat → Nat} {cI cZ cC : ClassId} {M : Mem} : (wc ad cI cZ cC M)[27]? = some (ad 27, .inl (cI, 25, .inl (M 27))) := rfl
theorem wca_27 {ad : Nat → Nat} {cI cZ cC : ClassId} {M : Mem} {i : Nat} {x : Int32} : (wc ad cI cZ cC M).set 27 (ad 27, .inl (cI, 25, .inl (upd (M 27) i x))) = wc ad cI cZ cC (ms M 27 i x) := rfl
theorem wcg_28 {ad : Nat → Nat} {cI cZ cC : ClassId} {M : Mem} : (wc ad cI cZ cC M)[28]? = some (ad 28, .inl (cI, 120, .inl (M 28))) := rfl
theorem wca_28 {ad : Nat → Nat} {cI cZ cC : ClassId} {M : Mem} {i : Nat} {x : Int32} : (wc ad cI cZ cC M).set 28 (ad 28, .inl (cI, 120, .inl (upd (M 28) i x))) = wc ad cI cZ cC (ms M 28 i x) := rfl
theorem tw_93 : Cond.fieldLink "NoneWords$Facts" 15 "NoneWords$Facts" "names" "I" ∈ TB := inTB 93 (by decide +kernel) (by decide +kernel)
theorem tw_102 : Cond.fieldLink "NoneWords$Facts" 43 "NoneWords$Facts" "nodes" "I" ∈ TB := inTB 102 (by decide +kernel) (by decide +kernel)
theorem tw_285 : Cond.methodLink "NoneWords$Facts" 52 ⟨"NoneWords$Facts", "hasNode", "(I)Z"⟩ ∈ TB := inTB 285 (by decide +kernel) (by decide +kernel)
theorem tw_94 : Cond.fieldLink "NoneWords$Facts" 19 "NoneWords$Facts" "kinds" "[I" ∈ TB := inTB 94 (by decide +kernel) (by decide +kernel)
theorem tw_96 : Cond.fieldLink "NoneWords$Facts" 25 "NoneWords$Facts" "toldNames" "[I" ∈ TB := inTB 96 (by decide +kernel) (by decide +kernel)
theorem tw_97 : Cond.fieldLink "NoneWords$Facts" 28 "NoneWords$Facts" "toldSets" "[I" ∈ TB := inTB 97 (by decide +kernel) (by decide +kernel)
theorem tw_98 : Cond.fieldLink "NoneWords$Facts" 31 "NoneWords$Facts" "toldOthers" "[I" ∈ TB := inTB 98 (by decide +kernel) (by decide +kernel)
theorem tw_99 : Cond.fieldLink "NoneWords$Facts" 34 "NoneWords$Facts" "toldOtherSets" "[I" ∈ TB := inTB 99 (by decide +kernel) (by decide +kernel)
theorem tw_100 : Cond.fieldLink "NoneWords$Facts" 37 "NoneWords$Facts" "leftParts" "[I" ∈ TB := inTB 100 (by decide +kernel) (by decide +kernel)
section FACTS
variable {p : Program} {l : Launch} {e : Env} {s : State} {m : MethodId} {args : Array Value} {below : List Frame} {meth : Method} {c : Code} {D : va_G} {A : Nat → Prop} {Z : gw_Z} {ad : Nat → Nat} {cI cZ cC : ClassId}
abbrev b_F_countNames : ByteArray := prog_2_method_2_code
def y_F_countNames : MethodName := ⟨"NoneWords$Facts", "countNames", "()I"⟩
abbrev ws_F_countNames : List Cond := Cond.code y_F_countNames b_F_countNames 1 (some (FieldType.int)) :: TB
set_option maxRecDepth 100000 in
theorem tc_F_countNames : Cond.code y_F_countNames b_F_countNames 1 (some (FieldType.int)) ∈ TB := inTB 523 rfl rfl
theorem mv_F_countNames : Cond.instanceMethod y_F_countNames ∈ TB ∧ Cond.selects "NoneWords$Facts" y_F_countNames y_F_countNames ∈ TB ∧ Cond.initialized "NoneWords$Facts" ∈ TB ∧ Cond.code y_F_countNames b_F_countNames 1 (some (FieldType.int)) ∈ TB := ⟨inTB 521 (by decide +kernel) (by decide +kernel), inTB 522 (by decide +kernel) (by decide +kernel), inTB 65 (by decide +kernel) (by decide +kernel), tc_F_countNames⟩
theorem pd_F_countNames : y_F_countNames.cls = "NoneWords$Facts" ∧ y_F_countNames.cls ≠ "java/lang/invoke/MethodHandle" ∧ y_F_countNames.cls ≠ "java/lang/invoke/VarHandle" ∧ (parseMethodDescriptor y_F_countNames.desc).map (fun d => d.parameters.length) = some 0 := by decide +kernel
theorem d_F_countNames_0 : decode b_F_countNames 0 = .ok (.aload_n 0, 1) := by decide +kernel
theorem d_F_countNames_1 : decode b_F_countNames 1 = .ok (.getfield 15, 3) := by decide +kernel
theorem d_F_countNames_4 : decode b_F_countNames 4 = .ok (.ireturn, 1) := by decide +kernel
abbrev rm_F_countNames : Room := { frames := 0, cells := 0, slots := 0, locals := 0 }
def f_F_countNames (M : Mem) : Option (Int32 × Mem) :=
  some (M 1 1, M)
set_option maxRecDepth 100000 in
theorem g_F_countNames {r : Int32} {M' : Mem} (C : GC p s m args meth c b_F_countNames 1 (some (FieldType.int)) "NoneWords$Facts" TB D vwCl (tysW cI cZ cC) A Z) {M : Mem} (hf : f_F_countNames M = some (r, M')) : GW p l e rm_F_countNames s m args below meth c (MQ below (QW D vwCl (tysW cI cZ cC) A (some (.int r)) (wc ad cI cZ cC M')) args s 0 0 A) D vwCl A 1 0 0 (wc ad cI cZ cC M) 0 [(0, .ref (ad 1))] [] := by
  unfold f_F_countNames at hf
  refine gw_aload_n C 0 d_F_countNames_0 rfl rfl ?_
  refine gw_get C in_F 1 wcg_1 clg_0 1 (by decide) tw_93 rfl rfl d_F_countNames_1 ?_
  exact gw_ireti C d_F_countNames_4 (wc ad cI cZ cC) hf
theorem c_F_countNames (hZ : gw_ZOK Z) {M : Mem} {r : Int32} {M' : Mem} (hf : f_F_countNames M = some (r, M')) : CW l y_F_countNames ws_F_countNames rm_F_countNames D vwCl (tysW cI cZ cC) Z [.ref (ad 1)] (wc ad cI cZ cC M) (some (.int r)) (wc ad cI cZ cC M') 0 0 :=
  CW.ofG hZ (by decide) rfl (Nat.le_of_ble_eq_true rfl) (fun _ _ _ _ _ _ _ _ C _ => g_F_countNames C hf)
abbrev b_F_countNodes : ByteArray := prog_2_method_3_code
def y_F_countNodes : MethodName := ⟨"NoneWords$Facts", "countNodes", "()I"⟩
abbrev ws_F_countNodes : List Cond := Cond.code y_F_countNodes b_F_countNodes 1 (some (FieldType.int)) :: TB
set_option maxRecDepth 100000 in
theorem tc_F_countNodes : Cond.code y_F_countNodes b_F_countNodes 1 (some (FieldType.int)) ∈ TB := inTB 625 rfl rfl
theorem mv_F_countNodes : Cond.instanceMethod y_F_countNodes ∈ TB ∧ Cond.selects "NoneWords$Facts" y_F_countNodes y_F_countNodes ∈ TB ∧ Cond.initialized "NoneWords$Facts" ∈ TB ∧ Cond.code y_F_countNodes b_F_countNodes 1 (some (FieldType.int)) ∈ TB := ⟨inTB 623 (by decide +kernel) (by decide +kernel), inTB 624 (by decide +kernel) (by decide +kernel), inTB 65 (by decide +kernel) (by decide +kernel), tc_F_countNodes⟩
theorem pd_F_countNodes : y_F_countNodes.cls = "NoneWords$Facts" ∧ y_F_countNodes.cls ≠ "java/lang/invoke/MethodHandle" ∧ y_F_countNodes.cls ≠ "java/lang/invoke/VarHandle" ∧ (parseMethodDescriptor y_F_countNodes.desc).map (fun d => d.parameters.length) = some 0 := by decide +kernel
theorem d_F_countNodes_0 : decode b_F_countNodes 0 = .ok (.aload_n 0, 1) := by decide +kernel
theorem d_F_countNodes_1 : decode b_F_countNodes 1 = .ok (.getfield 43, 3) := by decide +kernel
theorem d_F_countNodes_4 : decode b_F_countNodes 4 = .ok (.ireturn, 1) := by decide +kernel
abbrev rm_F_countNodes : Room := { frames := 0, cells := 0, slots := 0, locals := 0 }
def f_F_countNodes (M : Mem) : Option (Int32 × Mem) :=
  some (M 1 10, M)
set_option maxRecDepth 100000 in
theorem g_F_countNodes {r : Int32} {M' : Mem} (C : GC p s m args meth c b_F_countNodes 1 (some (FieldType.int)) "NoneWords$Facts" TB D vwCl (tysW cI cZ cC) A Z) {M : Mem} (hf : f_F_countNodes M = some (r, M')) : GW p l e rm_F_countNodes s m args below meth c (MQ below (QW D vwCl (tysW cI cZ cC) A (some (.int r)) (wc ad cI cZ cC M')) args s 0 0 A) D vwCl A 1 0 0 (wc ad cI cZ cC M) 0 [(0, .ref (ad 1))] [] := by
  unfold f_F_countNodes at hf
  refine gw_aload_n C 0 d_F_countNodes_0 rfl rfl ?_
  refine gw_get C in_F 1 wcg_1 clg_0 10 (by decide) tw_102 rfl rfl d_F_countNodes_1 ?_
  exact gw_ireti C d_F_countNodes_4 (wc ad cI cZ cC) hf
theorem c_F_countNodes (hZ : gw_ZOK Z) {M : Mem} {r : Int32} {M' : Mem} (hf : f_F_countNodes M = some (r, M')) : CW l y_F_countNodes ws_F_countNodes rm_F_countNodes D vwCl (tysW cI cZ cC) Z [.ref (ad 1)] (wc ad cI cZ cC M) (some (.int r)) (wc ad cI cZ cC M') 0 0 :=
  CW.ofG hZ (by decide) rfl (Nat.le_of_ble_eq_true rfl) (fun _ _ _ _ _ _ _ _ C _ => g_F_countNodes C hf)
abbrev b_F_hasName : ByteArray := prog_2_method_4_code
def y_F_hasName : MethodName := ⟨"NoneWords$Facts", "hasName", "(I)Z"⟩
abbrev ws_F_hasName : List Cond := Cond.code y_F_hasName b_F_hasName 2 (some (FieldType.boolean)) :: TB
set_option maxRecDepth 100000 in
theorem tc_F_hasName : Cond.code y_F_hasName b_F_hasName 2 (some (FieldType.boolean)) ∈ TB := inTB 257 rfl rfl
theorem mv_F_hasName : Cond.instanceMethod y_F_hasName ∈ TB ∧ Cond.selects "NoneWords$Facts" y_F_hasName y_F_hasName ∈ TB ∧ Cond.initialized "NoneWords$Facts" ∈ TB ∧ Cond.code y_F_hasName b_F_hasName 2 (some (FieldType.boolean)) ∈ TB := ⟨inTB 255 (by decide +kernel) (by decide +kernel), inTB 256 (by decide +kernel) (by decide +kernel), inTB 65 (by decide +kernel) (by decide +kernel), tc_F_hasName⟩
theorem pd_F_hasName : y_F_hasName.cls = "NoneWords$Facts" ∧ y_F_hasName.cls ≠ "java/lang/invoke/MethodHandle" ∧ y_F_hasName.cls ≠ "java/lang/invoke/VarHandle" ∧ (parseMethodDescriptor y_F_hasName.desc).map (fun d => d.parameters.length) = some 1 := by decide +kernel
theorem d_F_hasName_0 : decode b_F_hasName 0 = .ok (.iload_n 1, 1) := by decide +kernel
theorem d_F_hasName_1 : decode b_F_hasName 1 = .ok (.ifCond .lt 15, 3) := by decide +kernel
theorem d_F_hasName_4 : decode b_F_hasName 4 = .ok (.iload_n 1, 1) := by decide +kernel
theorem d_F_hasName_5 : decode b_F_hasName 5 = .ok (.aload_n 0, 1) := by decide +kernel
theorem d_F_hasName_6 : decode b_F_hasName 6 = .ok (.getfield 15, 3) := by decide +kernel
theorem d_F_hasName_9 : decode b_F_hasName 9 = .ok (.if_icmp .ge 7, 3) := by decide +kernel
theorem d_F_hasName_12 : decode b_F_hasName 12 = .ok (.iconst 1, 1) := by decide +kernel
theorem d_F_hasName_13 : decode b_F_hasName 13 = .ok (.goto 4, 3) := by decide +kernel
theorem d_F_hasName_16 : decode b_F_hasName 16 = .ok (.iconst 0, 1) := by decide +kernel
theorem d_F_hasName_17 : decode b_F_hasName 17 = .ok (.ireturn, 1) := by decide +kernel
abbrev rm_F_hasName : Room := { frames := 0, cells := 0, slots := 0, locals := 0 }
def f_F_hasName (x1 : Int32) (M : Mem) : Option (Int32 × Mem) :=
  if x1 < 0 then some (0, M) else if (M 1 1) ≤ x1 then some (0, M) else some (1, M)
set_option maxRecDepth 100000 in
theorem g_F_hasName {r : Int32} {M' : Mem} (C : GC p s m args meth c b_F_hasName 2 (some (FieldType.boolean)) "NoneWords$Facts" TB D vwCl (tysW cI cZ cC) A Z) {x1 : Int32} {M : Mem} (hf : f_F_hasName x1 M = some (r, M')) : GW p l e rm_F_hasName s m args below meth c (MQ below (QW D vwCl (tysW cI cZ cC) A (some (.int r)) (wc ad cI cZ cC M')) args s 0 0 A) D vwCl A 2 0 0 (wc ad cI cZ cC M) 0 [(0, .ref (ad 1)), (1, .int x1)] [] := by
  unfold f_F_hasName at hf
  refine gw_iload_n C 1 d_F_hasName_0 rfl rfl ?_
  refine gw_if_lt (tgt := 16) C d_F_hasName_1 (by decide) (fun c => ?_) (fun c => ?_)
  · have hf := (if_pos c).symm.trans hf
    refine gw_iconst (v := 0) C d_F_hasName_16 (by decide) ?_
    exact gw_zreti C d_F_hasName_17 (wc ad cI cZ cC) (by decide) hf
  · have hf := (if_neg c).symm.trans hf
    refine gw_iload_n C 1 d_F_hasName_4 rfl rfl ?_
    refine gw_aload_n C 0 d_F_hasName_5 rfl rfl ?_
    refine gw_get C in_F 1 wcg_1 clg_0 1 (by decide) tw_93 rfl rfl d_F_hasName_6 ?_
    refine gw_icmp_ge (tgt := 16) C d_F_hasName_9 (by decide) (fun c => ?_) (fun c => ?_)
    · have hf := (if_pos c).symm.trans hf
      refine gw_iconst (v := 0) C d_F_hasName_16 (by decide) ?_
      exact gw_zreti C d_F_hasName_17 (wc ad cI cZ cC) (by decide) hf
    · have hf := (if_neg c).symm.trans hf
      refine gw_iconst (v := 1) C d_F_hasName_12 (by decide) ?_
      refine gw_goto (tgt := 17) C d_F_hasName_13 (by decide) ?_
      exact gw_zreti C d_F_hasName_17 (wc ad cI cZ cC) (by decide) hf
theorem c_F_hasName (hZ : gw_ZOK Z) {x1 : Int32} {M : Mem} {r : Int32} {M' : Mem} (hf : f_F_hasName x1 M = some (r, M')) : CW l y_F_hasName ws_F_hasName rm_F_hasName D vwCl (tysW cI cZ cC) Z [.ref (ad 1), .int x1] (wc ad cI cZ cC M) (some (.int r)) (wc ad cI cZ cC M') 0 0 :=
  CW.ofG hZ (by decide) rfl (Nat.le_of_ble_eq_true rfl) (fun _ _ _ _ _ _ _ _ C _ => g_F_hasName C hf)
abbrev b_F_hasNode : ByteArray := prog_2_method_5_code
def y_F_hasNode : MethodName := ⟨"NoneWords$Facts", "hasNode", "(I)Z"⟩
abbrev ws_F_hasNode : List Cond := Cond.code y_F_hasNode b_F_hasNode 2 (some (FieldType.boolean)) :: TB
set_option maxRecDepth 100000 in
theorem tc_F_hasNode : Cond.code y_F_hasNode b_F_hasNode 2 (some (FieldType.boolean)) ∈ TB := inTB 288 rfl rfl
theorem mv_F_hasNode : Cond.instanceMethod y_F_hasNode ∈ TB ∧ Cond.selects "NoneWords$Facts" y_F_hasNode y_F_hasNode ∈ TB ∧ Cond.initialized "NoneWords$Facts" ∈ TB ∧ Cond.code y_F_hasNode b_F_hasNode 2 (some (FieldType.boolean)) ∈ TB := ⟨inTB 286 (by decide +kernel) (by decide +kernel), inTB 287 (by decide +kernel) (by decide +kernel), inTB 65 (by decide +kernel) (by decide +kernel), tc_F_hasNode⟩
theorem pd_F_hasNode : y_F_hasNode.cls = "NoneWords$Facts" ∧ y_F_hasNode.cls ≠ "java/lang/invoke/MethodHandle" ∧ y_F_hasNode.cls ≠ "java/lang/invoke/VarHandle" ∧ (parseMethodDescriptor y_F_hasNode.desc).map (fun d => d.parameters.length) = some 1 := by decide +kernel
theorem d_F_hasNode_0 : decode b_F_hasNode 0 = .ok (.iload_n 1, 1) := by decide +kernel
theorem d_F_hasNode_1 : decode b_F_hasNode 1 = .ok (.ifCond .lt 15, 3) := by decide +kernel
theorem d_F_hasNode_4 : decode b_F_hasNode 4 = .ok (.iload_n 1, 1) := by decide +kernel
theorem d_F_hasNode_5 : decode b_F_hasNode 5 = .ok (.aload_n 0, 1) := by decide +kernel
theorem d_F_hasNode_6 : decode b_F_hasNode 6 = .ok (.getfield 43, 3) := by decide +kernel
theorem d_F_hasNode_9 : decode b_F_hasNode 9 = .ok (.if_icmp .ge 7, 3) := by decide +kernel
theorem d_F_hasNode_12 : decode b_F_hasNode 12 = .ok (.iconst 1, 1) := by decide +kernel
theorem d_F_hasNode_13 : decode b_F_hasNode 13 = .ok (.goto 4, 3) := by decide +kernel
theorem d_F_hasNode_16 : decode b_F_hasNode 16 = .ok (.iconst 0, 1) := by decide +kernel
theorem d_F_hasNode_17 : decode b_F_hasNode 17 = .ok (.ireturn, 1) := by decide +kernel
abbrev rm_F_hasNode : Room := { frames := 0, cells := 0, slots := 0, locals := 0 }
def f_F_hasNode (x1 : Int32) (M : Mem) : Option (Int32 × Mem) :=
  if x1 < 0 then some (0, M) else if (M 1 10) ≤ x1 then some (0, M) else some (1, M)
set_option maxRecDepth 100000 in
theorem g_F_hasNode {r : Int32} {M' : Mem} (C : GC p s m args meth c b_F_hasNode 2 (some (FieldType.boolean)) "NoneWords$Facts" TB D vwCl (tysW cI cZ cC) A Z) {x1 : Int32} {M : Mem} (hf : f_F_hasNode x1 M = some (r, M')) : GW p l e rm_F_hasNode s m args below meth c (MQ below (QW D vwCl (tysW cI cZ cC) A (some (.int r)) (wc ad cI cZ cC M')) args s 0 0 A) D vwCl A 2 0 0 (wc ad cI cZ cC M) 0 [(0, .ref (ad 1)), (1, .int x1)] [] := by
  unfold f_F_hasNode at hf
  refine gw_iload_n C 1 d_F_hasNode_0 rfl rfl ?_
  refine gw_if_lt (tgt := 16) C d_F_hasNode_1 (by decide) (fun c => ?_) (fun c => ?_)
  · have hf := (if_pos c).symm.trans hf
    refine gw_iconst (v := 0) C d_F_hasNode_16 (by decide) ?_
    exact gw_zreti C d_F_hasNode_17 (wc ad cI cZ cC) (by decide) hf
  · have hf := (if_neg c).symm.trans hf
    refine gw_iload_n C 1 d_F_hasNode_4 rfl rfl ?_
    refine gw_aload_n C 0 d_F_hasNode_5 rfl rfl ?_
    refine gw_get C in_F 1 wcg_1 clg_0 10 (by decide) tw_102 rfl rfl d_F_hasNode_6 ?_
    refine gw_icmp_ge (tgt := 16) C d_F_hasNode_9 (by decide) (fun c => ?_) (fun c => ?_)
    · have hf := (if_pos c).symm.trans hf
      refine gw_iconst (v := 0) C d_F_hasNode_16 (by decide) ?_
      exact gw_zreti C d_F_hasNode_17 (wc ad cI cZ cC) (by decide) hf
    · have hf := (if_neg c).symm.trans hf
      refine gw_iconst (v := 1) C d_F_hasNode_12 (by decide) ?_
      refine gw_goto (tgt := 17) C d_F_hasNode_13 (by decide) ?_
      exact gw_zreti C d_F_hasNode_17 (wc ad cI cZ cC) (by decide) hf
theorem c_F_hasNode (hZ : gw_ZOK Z) {x1 : Int32} {M : Mem} {r : Int32} {M' : Mem} (hf : f_F_hasNode x1 M = some (r, M')) : CW l y_F_hasNode ws_F_hasNode rm_F_hasNode D vwCl (tysW cI cZ cC) Z [.ref (ad 1), .int x1] (wc ad cI cZ cC M) (some (.int r)) (wc ad cI cZ cC M') 0 0 :=
  CW.ofG hZ (by decide) rfl (Nat.le_of_ble_eq_true rfl) (fun _ _ _ _ _ _ _ _ C _ => g_F_hasNode C hf)
abbrev b_F_kindOf : ByteArray := prog_2_method_6_code
def y_F_kindOf : MethodName := ⟨"NoneWords$Facts", "kindOf", "(I)I"⟩
abbrev ws_F_kindOf : List Cond := Cond.code y_F_kindOf b_F_kindOf 2 (some (FieldType.int)) :: TB
set_option maxRecDepth 100000 in
theorem tc_F_kindOf : Cond.code y_F_kindOf b_F_kindOf 2 (some (FieldType.int)) ∈ TB := inTB 557 rfl rfl
theorem mv_F_kindOf : Cond.instanceMethod y_F_kindOf ∈ TB ∧ Cond.selects "NoneWords$Facts" y_F_kindOf y_F_kindOf ∈ TB ∧ Cond.initialized "NoneWords$Facts" ∈ TB ∧ Cond.code y_F_kindOf b_F_kindOf 2 (some (FieldType.int)) ∈ TB := ⟨inTB 555 (by decide +kernel) (by decide +kernel), inTB 556 (by decide +kernel) (by decide +kernel), inTB 65 (by decide +kernel) (by decide +kernel), tc_F_kindOf⟩
theorem pd_F_kindOf : y_F_kindOf.cls = "NoneWords$Facts" ∧ y_F_kindOf.cls ≠ "java/lang/invoke/MethodHandle" ∧ y_F_kindOf.cls ≠ "java/lang/invoke/VarHandle" ∧ (parseMethodDescriptor y_F_kindOf.desc).map (fun d => d.parameters.length) = some 1 := by decide +kernel
theorem d_F_kindOf_0 : decode b_F_kindOf 0 = .ok (.aload_n 0, 1) := by decide +kernel
theorem d_F_kindOf_1 : decode b_F_kindOf 1 = .ok (.iload_n 1, 1) := by decide +kernel
theorem d_F_kindOf_2 : decode b_F_kindOf 2 = .ok (.invokevirtual 52, 3) := by decide +kernel
theorem d_F_kindOf_5 : decode b_F_kindOf 5 = .ok (.ifCond .eq 12, 3) := by decide +kernel
theorem d_F_kindOf_8 : decode b_F_kindOf 8 = .ok (.aload_n 0, 1) := by decide +kernel
theorem d_F_kindOf_9 : decode b_F_kindOf 9 = .ok (.getfield 19, 3) := by decide +kernel
theorem d_F_kindOf_12 : decode b_F_kindOf 12 = .ok (.iload_n 1, 1) := by decide +kernel
theorem d_F_kindOf_13 : decode b_F_kindOf 13 = .ok (.iaload, 1) := by decide +kernel
theorem d_F_kindOf_14 : decode b_F_kindOf 14 = .ok (.goto 4, 3) := by decide +kernel
theorem d_F_kindOf_17 : decode b_F_kindOf 17 = .ok (.iconst (-1), 1) := by decide +kernel
theorem d_F_kindOf_18 : decode b_F_kindOf 18 = .ok (.ireturn, 1) := by decide +kernel
abbrev rm_F_kindOf : Room := { frames := 1, cells := 0, slots := 0, locals := 21 }
def f_F_kindOf (x1 : Int32) (M : Mem) : Option (Int32 × Mem) :=
  ob (f_F_hasNode x1 M) fun r2 M2 => if r2 = 0 then some ((-1), M2) else gd (inb x1 120) (some (M2 3 x1.toNatClampNeg, M2))
set_option maxRecDepth 100000 in
theorem g_F_kindOf {r : Int32} {M' : Mem} (C : GC p s m args meth c b_F_kindOf 2 (some (FieldType.int)) "NoneWords$Facts" TB D vwCl (tysW cI cZ cC) A Z) {x1 : Int32} {M : Mem} (hf : f_F_kindOf x1 M = some (r, M')) : GW p l e rm_F_kindOf s m args below meth c (MQ below (QW D vwCl (tysW cI cZ cC) A (some (.int r)) (wc ad cI cZ cC M')) args s 0 0 A) D vwCl A 2 0 0 (wc ad cI cZ cC M) 0 [(0, .ref (ad 1)), (1, .int x1)] [] := by
  unfold f_F_kindOf at hf
  refine gw_aload_n C 0 d_F_kindOf_0 rfl rfl ?_
  refine gw_iload_n C 1 d_F_kindOf_1 rfl rfl ?_
  obtain ⟨r2, M2, hc2, hf⟩ := ob_some hf
  refine gw_callVr (rest := []) C 1 wcg_1 clg_0 (c_F_hasNode C.2.2.2.2.2.2.2.2.2.2 hc2) (cwV 1 C.2.2.2.2.1 (gTB_V tw_285 mv_F_hasNode) rfl rfl rfl pd_F_hasNode ⟨Nat.le_of_ble_eq_true rfl, Nat.le_of_ble_eq_true rfl⟩) rfl rfl (by decide) d_F_kindOf_2 ⟨Nat.le_of_ble_eq_true rfl, Nat.le_of_ble_eq_true rfl⟩ ?_
  refine gw_if_eq (tgt := 17) C d_F_kindOf_5 (by decide) (fun c => ?_) (fun c => ?_)
  · have hf := (if_pos c).symm.trans hf
    refine gw_iconst (v := (-1)) C d_F_kindOf_17 (by decide) ?_
    exact gw_ireti C d_F_kindOf_18 (wc ad cI cZ cC) hf
  · have hf := (if_neg c).symm.trans hf
    refine gw_aload_n C 0 d_F_kindOf_8 rfl rfl ?_
    refine gw_get C in_F 1 wcg_1 clg_0 2 (by decide) tw_94 rfl rfl d_F_kindOf_9 ?_
    refine gw_iload_n C 1 d_F_kindOf_12 rfl rfl ?_
    obtain ⟨hb13, hf⟩ := gd_some hf
    refine gw_iald C 3 0 wcg_3 rfl hb13 d_F_kindOf_13 ?_
    refine gw_goto (tgt := 18) C d_F_kindOf_14 (by decide) ?_
    exact gw_ireti C d_F_kindOf_18 (wc ad cI cZ cC) hf
theorem c_F_kindOf (hZ : gw_ZOK Z) {x1 : Int32} {M : Mem} {r : Int32} {M' : Mem} (hf : f_F_kindOf x1 M = some (r, M')) : CW l y_F_kindOf ws_F_kindOf rm_F_kindOf D vwCl (tysW cI cZ cC) Z [.ref (ad 1), .int x1] (wc ad cI cZ cC M) (some (.int r)) (wc ad cI cZ cC M') 0 0 :=
  CW.ofG hZ (by decide) rfl (Nat.le_of_ble_eq_true rfl) (fun _ _ _ _ _ _ _ _ C _ => g_F_kindOf C hf)
abbrev b_F_isJoin : ByteArray := prog_2_method_7_code
def y_F_isJoin : MethodName := ⟨"NoneWords$Facts", "isJoin", "(I)Z"⟩
abbrev ws_F_isJoin : List Cond := Cond.code y_F_isJoin b_F_isJoin 2 (some (FieldType.boolean)) :: TB
set_option maxRecDepth 100000 in
theorem tc_F_isJoin : Cond.code y_F_isJoin b_F_isJoin 2 (some (FieldType.boolean)) ∈ TB := inTB 360 rfl rfl
theorem mv_F_isJoin : Cond.instanceMethod y_F_isJoin ∈ TB ∧ Cond.selects "NoneWords$Facts" y_F_isJoin y_F_isJoin ∈ TB ∧ Cond.initialized "NoneWords$Facts" ∈ TB ∧ Cond.code y_F_isJoin b_F_isJoin 2 (some (FieldType.boolean)) ∈ TB := ⟨inTB 358 (by decide +kernel) (by decide +kernel), inTB 359 (by decide +kernel) (by decide +kernel), inTB 65 (by decide +kernel) (by decide +kernel), tc_F_isJoin⟩
theorem pd_F_isJoin : y_F_isJoin.cls = "NoneWords$Facts" ∧ y_F_isJoin.cls ≠ "java/lang/invoke/MethodHandle" ∧ y_F_isJoin.cls ≠ "java/lang/invoke/VarHandle" ∧ (parseMethodDescriptor y_F_isJoin.desc).map (fun d => d.parameters.length) = some 1 := by decide +kernel
theorem d_F_isJoin_0 : decode b_F_isJoin 0 = .ok (.aload_n 0, 1) := by decide +kernel
theorem d_F_isJoin_1 : decode b_F_isJoin 1 = .ok (.iload_n 1, 1) := by decide +kernel
theorem d_F_isJoin_2 : decode b_F_isJoin 2 = .ok (.invokevirtual 52, 3) := by decide +kernel
theorem d_F_isJoin_5 : decode b_F_isJoin 5 = .ok (.ifCond .eq 17, 3) := by decide +kernel
theorem d_F_isJoin_8 : decode b_F_isJoin 8 = .ok (.aload_n 0, 1) := by decide +kernel
theorem d_F_isJoin_9 : decode b_F_isJoin 9 = .ok (.getfield 19, 3) := by decide +kernel
theorem d_F_isJoin_12 : decode b_F_isJoin 12 = .ok (.iload_n 1, 1) := by decide +kernel
theorem d_F_isJoin_13 : decode b_F_isJoin 13 = .ok (.iaload, 1) := by decide +kernel
theorem d_F_isJoin_14 : decode b_F_isJoin 14 = .ok (.iconst 4, 1) := by decide +kernel
theorem d_F_isJoin_15 : decode b_F_isJoin 15 = .ok (.if_icmp .ne 7, 3) := by decide +kernel
theorem d_F_isJoin_18 : decode b_F_isJoin 18 = .ok (.iconst 1, 1) := by decide +kernel
theorem d_F_isJoin_19 : decode b_F_isJoin 19 = .ok (.goto 4, 3) := by decide +kernel
theorem d_F_isJoin_22 : decode b_F_isJoin 22 = .ok (.iconst 0, 1) := by decide +kernel
theorem d_F_isJoin_23 : decode b_F_isJoin 23 = .ok (.ireturn, 1) := by decide +kernel
abbrev rm_F_isJoin : Room := { frames := 1, cells := 0, slots := 0, locals := 21 }
def f_F_isJoin (x1 : Int32) (M : Mem) : Option (Int32 × Mem) :=
  ob (f_F_hasNode x1 M) fun r2 M2 => if r2 = 0 then some (0, M2) else gd (inb x1 120) (if (M2 3 x1.toNatClampNeg) = 4 then some (1, M2) else some (0, M2))
set_option maxRecDepth 100000 in
theorem g_F_isJoin {r : Int32} {M' : Mem} (C : GC p s m args meth c b_F_isJoin 2 (some (FieldType.boolean)) "NoneWords$Facts" TB D vwCl (tysW cI cZ cC) A Z) {x1 : Int32} {M : Mem} (hf : f_F_isJoin x1 M = some (r, M')) : GW p l e rm_F_isJoin s m args below meth c (MQ below (QW D vwCl (tysW cI cZ cC) A (some (.int r)) (wc ad cI cZ cC M')) args s 0 0 A) D vwCl A 2 0 0 (wc ad cI cZ cC M) 0 [(0, .ref (ad 1)), (1, .int x1)] [] := by
  unfold f_F_isJoin at hf
  refine gw_aload_n C 0 d_F_isJoin_0 rfl rfl ?_
  refine gw_iload_n C 1 d_F_isJoin_1 rfl rfl ?_
  obtain ⟨r2, M2, hc2, hf⟩ := ob_some hf
  refine gw_callVr (rest := []) C 1 wcg_1 clg_0 (c_F_hasNode C.2.2.2.2.2.2.2.2.2.2 hc2) (cwV 1 C.2.2.2.2.1 (gTB_V tw_285 mv_F_hasNode) rfl rfl rfl pd_F_hasNode ⟨Nat.le_of_ble_eq_true rfl, Nat.le_of_ble_eq_true rfl⟩) rfl rfl (by decide) d_F_isJoin_2 ⟨Nat.le_of_ble_eq_true rfl, Nat.le_of_ble_eq_true rfl⟩ ?_
  refine gw_if_eq (tgt := 22) C d_F_isJoin_5 (by decide) (fun c => ?_) (fun c => ?_)
  · have hf := (if_pos c).symm.trans hf
    refine gw_iconst (v := 0) C d_F_isJoin_22 (by decide) ?_
    exact gw_zreti C d_F_isJoin_23 (wc ad cI cZ cC) (by decide) hf
  · have hf := (if_neg c).symm.trans hf
    refine gw_aload_n C 0 d_F_isJoin_8 rfl rfl ?_
    refine gw_get C in_F 1 wcg_1 clg_0 2 (by decide) tw_94 rfl rfl d_F_isJoin_9 ?_
    refine gw_iload_n C 1 d_F_isJoin_12 rfl rfl ?_
    obtain ⟨hb13, hf⟩ := gd_some hf
    refine gw_iald C 3 0 wcg_3 rfl hb13 d_F_isJoin_13 ?_
    refine gw_iconst (v := 4) C d_F_isJoin_14 (by decide) ?_
    refine gw_icmp_ne (tgt := 22) C d_F_isJoin_15 (by decide) (fun c => ?_) (fun c => ?_)
    · have hf := (if_neg c).symm.trans hf
      refine gw_iconst (v := 0) C d_F_isJoin_22 (by decide) ?_
      exact gw_zreti C d_F_isJoin_23 (wc ad cI cZ cC) (by decide) hf
    · have hf := (if_pos c).symm.trans hf
      refine gw_iconst (v := 1) C d_F_isJoin_18 (by decide) ?_
      refine gw_goto (tgt := 23) C d_F_isJoin_19 (by decide) ?_
      exact gw_zreti C d_F_isJoin_23 (wc ad cI cZ cC) (by decide) hf
theorem c_F_isJoin (hZ : gw_ZOK Z) {x1 : Int32} {M : Mem} {r : Int32} {M' : Mem} (hf : f_F_isJoin x1 M = some (r, M')) : CW l y_F_isJoin ws_F_isJoin rm_F_isJoin D vwCl (tysW cI cZ cC) Z [.ref (ad 1), .int x1] (wc ad cI cZ cC M) (some (.int r)) (wc ad cI cZ cC M') 0 0 :=
  CW.ofG hZ (by decide) rfl (Nat.le_of_ble_eq_true rfl) (fun _ _ _ _ _ _ _ _ C _ => g_F_isJoin C hf)
abbrev b_F_isLeaf : ByteArray := prog_2_method_8_code
def y_F_isLeaf : MethodName := ⟨"NoneWords$Facts", "isLeaf", "(I)Z"⟩
abbrev ws_F_isLeaf : List Cond := Cond.code y_F_isLeaf b_F_isLeaf 2 (some (FieldType.boolean)) :: TB
set_option maxRecDepth 100000 in
theorem tc_F_isLeaf : Cond.code y_F_isLeaf b_F_isLeaf 2 (some (FieldType.boolean)) ∈ TB := inTB 397 rfl rfl
theorem mv_F_isLeaf : Cond.instanceMethod y_F_isLeaf ∈ TB ∧ Cond.selects "NoneWords$Facts" y_F_isLeaf y_F_isLeaf ∈ TB ∧ Cond.initialized "NoneWords$Facts" ∈ TB ∧ Cond.code y_F_isLeaf b_F_isLeaf 2 (some (FieldType.boolean)) ∈ TB := ⟨inTB 395 (by decide +kernel) (by decide +kernel), inTB 396 (by decide +kernel) (by decide +kernel), inTB 65 (by decide +kernel) (by decide +kernel), tc_F_isLeaf⟩
theorem pd_F_isLeaf : y_F_isLeaf.cls = "NoneWords$Facts" ∧ y_F_isLeaf.cls ≠ "java/lang/invoke/MethodHandle" ∧ y_F_isLeaf.cls ≠ "java/lang/invoke/VarHandle" ∧ (parseMethodDescriptor y_F_isLeaf.desc).map (fun d => d.parameters.length) = some 1 := by decide +kernel
theorem d_F_isLeaf_0 : decode b_F_isLeaf 0 = .ok (.aload_n 0, 1) := by decide +kernel
theorem d_F_isLeaf_1 : decode b_F_isLeaf 1 = .ok (.iload_n 1, 1) := by decide +kernel
theorem d_F_isLeaf_2 : decode b_F_isLeaf 2 = .ok (.invokevirtual 52, 3) := by decide +kernel
theorem d_F_isLeaf_5 : decode b_F_isLeaf 5 = .ok (.ifCond .eq 17, 3) := by decide +kernel
theorem d_F_isLeaf_8 : decode b_F_isLeaf 8 = .ok (.aload_n 0, 1) := by decide +kernel
theorem d_F_isLeaf_9 : decode b_F_isLeaf 9 = .ok (.getfield 19, 3) := by decide +kernel
theorem d_F_isLeaf_12 : decode b_F_isLeaf 12 = .ok (.iload_n 1, 1) := by decide +kernel
theorem d_F_isLeaf_13 : decode b_F_isLeaf 13 = .ok (.iaload, 1) := by decide +kernel
theorem d_F_isLeaf_14 : decode b_F_isLeaf 14 = .ok (.iconst 4, 1) := by decide +kernel
theorem d_F_isLeaf_15 : decode b_F_isLeaf 15 = .ok (.if_icmp .eq 7, 3) := by decide +kernel
theorem d_F_isLeaf_18 : decode b_F_isLeaf 18 = .ok (.iconst 1, 1) := by decide +kernel
theorem d_F_isLeaf_19 : decode b_F_isLeaf 19 = .ok (.goto 4, 3) := by decide +kernel
theorem d_F_isLeaf_22 : decode b_F_isLeaf 22 = .ok (.iconst 0, 1) := by decide +kernel
theorem d_F_isLeaf_23 : decode b_F_isLeaf 23 = .ok (.ireturn, 1) := by decide +kernel
abbrev rm_F_isLeaf : Room := { frames := 1, cells := 0, slots := 0, locals := 21 }
def f_F_isLeaf (x1 : Int32) (M : Mem) : Option (Int32 × Mem) :=
  ob (f_F_hasNode x1 M) fun r2 M2 => if r2 = 0 then some (0, M2) else gd (inb x1 120) (if (M2 3 x1.toNatClampNeg) = 4 then some (0, M2) else some (1, M2))
set_option maxRecDepth 100000 in
theorem g_F_isLeaf {r : Int32} {M' : Mem} (C : GC p s m args meth c b_F_isLeaf 2 (some (FieldType.boolean)) "NoneWords$Facts" TB D vwCl (tysW cI cZ cC) A Z) {x1 : Int32} {M : Mem} (hf : f_F_isLeaf x1 M = some (r, M')) : GW p l e rm_F_isLeaf s m args below meth c (MQ below (QW D vwCl (tysW cI cZ cC) A (some (.int r)) (wc ad cI cZ cC M')) args s 0 0 A) D vwCl A 2 0 0 (wc ad cI cZ cC M) 0 [(0, .ref (ad 1)), (1, .int x1)] [] := by
  unfold f_F_isLeaf at hf
  refine gw_aload_n C 0 d_F_isLeaf_0 rfl rfl ?_
  refine gw_iload_n C 1 d_F_isLeaf_1 rfl rfl ?_
  obtain ⟨r2, M2, hc2, hf⟩ := ob_some hf
  refine gw_callVr (rest := []) C 1 wcg_1 clg_0 (c_F_hasNode C.2.2.2.2.2.2.2.2.2.2 hc2) (cwV 1 C.2.2.2.2.1 (gTB_V tw_285 mv_F_hasNode) rfl rfl rfl pd_F_hasNode ⟨Nat.le_of_ble_eq_true rfl, Nat.le_of_ble_eq_true rfl⟩) rfl rfl (by decide) d_F_isLeaf_2 ⟨Nat.le_of_ble_eq_true rfl, Nat.le_of_ble_eq_true rfl⟩ ?_
  refine gw_if_eq (tgt := 22) C d_F_isLeaf_5 (by decide) (fun c => ?_) (fun c => ?_)
  · have hf := (if_pos c).symm.trans hf
    refine gw_iconst (v := 0) C d_F_isLeaf_22 (by decide) ?_
    exact gw_zreti C d_F_isLeaf_23 (wc ad cI cZ cC) (by decide) hf
  · have hf := (if_neg c).symm.trans hf
    refine gw_aload_n C 0 d_F_isLeaf_8 rfl rfl ?_
    refine gw_get C in_F 1 wcg_1 clg_0 2 (by decide) tw_94 rfl rfl d_F_isLeaf_9 ?_
    refine gw_iload_n C 1 d_F_isLeaf_12 rfl rfl ?_
    obtain ⟨hb13, hf⟩ := gd_some hf
    refine gw_iald C 3 0 wcg_3 rfl hb13 d_F_isLeaf_13 ?_
    refine gw_iconst (v := 4) C d_F_isLeaf_14 (by decide) ?_
    refine gw_icmp_eq (tgt := 22) C d_F_isLeaf_15 (by decide) (fun c => ?_) (fun c => ?_)
    · have hf := (if_pos c).symm.trans hf
      refine gw_iconst (v := 0) C d_F_isLeaf_22 (by decide) ?_
      exact gw_zreti C d_F_isLeaf_23 (wc ad cI cZ cC) (by decide) hf
    · have hf := (if_neg c).symm.trans hf
      refine gw_iconst (v := 1) C d_F_isLeaf_18 (by decide) ?_
      refine gw_goto (tgt := 23) C d_F_isLeaf_19 (by decide) ?_
      exact gw_zreti C d_F_isLeaf_23 (wc ad cI cZ cC) (by decide) hf
theorem c_F_isLeaf (hZ : gw_ZOK Z) {x1 : Int32} {M : Mem} {r : Int32} {M' : Mem} (hf : f_F_isLeaf x1 M = some (r, M')) : CW l y_F_isLeaf ws_F_isLeaf rm_F_isLeaf D vwCl (tysW cI cZ cC) Z [.ref (ad 1), .int x1] (wc ad cI cZ cC M) (some (.int r)) (wc ad cI cZ cC M') 0 0 :=
  CW.ofG hZ (by decide) rfl (Nat.le_of_ble_eq_true rfl) (fun _ _ _ _ _ _ _ _ C _ => g_F_isLeaf C hf)
abbrev b_F_toldName : ByteArray := prog_2_method_9_code
def y_F_toldName : MethodName := ⟨"NoneWords$Facts", "toldName", "(I)I"⟩
abbrev ws_F_toldName : List Cond := Cond.code y_F_toldName b_F_toldName 2 (some (FieldType.int)) :: TB
set_option maxRecDepth 100000 in
theorem tc_F_toldName : Cond.code y_F_toldName b_F_toldName 2 (some (FieldType.int)) ∈ TB := inTB 549 rfl rfl
theorem mv_F_toldName : Cond.instanceMethod y_F_toldName ∈ TB ∧ Cond.selects "NoneWords$Facts" y_F_toldName y_F_toldName ∈ TB ∧ Cond.initialized "NoneWords$Facts" ∈ TB ∧ Cond.code y_F_toldName b_F_toldName 2 (some (FieldType.int)) ∈ TB := ⟨inTB 547 (by decide +kernel) (by decide +kernel), inTB 548 (by decide +kernel) (by decide +kernel), inTB 65 (by decide +kernel) (by decide +kernel), tc_F_toldName⟩
theorem pd_F_toldName : y_F_toldName.cls = "NoneWords$Facts" ∧ y_F_toldName.cls ≠ "java/lang/invoke/MethodHandle" ∧ y_F_toldName.cls ≠ "java/lang/invoke/VarHandle" ∧ (parseMethodDescriptor y_F_toldName.desc).map (fun d => d.parameters.length) = some 1 := by decide +kernel
theorem d_F_toldName_0 : decode b_F_toldName 0 = .ok (.aload_n 0, 1) := by decide +kernel
theorem d_F_toldName_1 : decode b_F_toldName 1 = .ok (.iload_n 1, 1) := by decide +kernel
theorem d_F_toldName_2 : decode b_F_toldName 2 = .ok (.invokevirtual 52, 3) := by decide +kernel
theorem d_F_toldName_5 : decode b_F_toldName 5 = .ok (.ifCond .eq 12, 3) := by decide +kernel
theorem d_F_toldName_8 : decode b_F_toldName 8 = .ok (.aload_n 0, 1) := by decide +kernel
theorem d_F_toldName_9 : decode b_F_toldName 9 = .ok (.getfield 25, 3) := by decide +kernel
theorem d_F_toldName_12 : decode b_F_toldName 12 = .ok (.iload_n 1, 1) := by decide +kernel
theorem d_F_toldName_13 : decode b_F_toldName 13 = .ok (.iaload, 1) := by decide +kernel
theorem d_F_toldName_14 : decode b_F_toldName 14 = .ok (.goto 4, 3) := by decide +kernel
theorem d_F_toldName_17 : decode b_F_toldName 17 = .ok (.iconst (-1), 1) := by decide +kernel
theorem d_F_toldName_18 : decode b_F_toldName 18 = .ok (.ireturn, 1) := by decide +kernel
abbrev rm_F_toldName : Room := { frames := 1, cells := 0, slots := 0, locals := 21 }
def f_F_toldName (x1 : Int32) (M : Mem) : Option (Int32 × Mem) :=
  ob (f_F_hasNode x1 M) fun r2 M2 => if r2 = 0 then some ((-1), M2) else gd (inb x1 120) (some (M2 5 x1.toNatClampNeg, M2))
set_option maxRecDepth 100000 in
theorem g_F_toldName {r : Int32} {M' : Mem} (C : GC p s m args meth c b_F_toldName 2 (some (FieldType.int)) "NoneWords$Facts" TB D vwCl (tysW cI cZ cC) A Z) {x1 : Int32} {M : Mem} (hf : f_F_toldName x1 M = some (r, M')) : GW p l e rm_F_toldName s m args below meth c (MQ below (QW D vwCl (tysW cI cZ cC) A (some (.int r)) (wc ad cI cZ cC M')) args s 0 0 A) D vwCl A 2 0 0 (wc ad cI cZ cC M) 0 [(0, .ref (ad 1)), (1, .int x1)] [] := by
  unfold f_F_toldName at hf
  refine gw_aload_n C 0 d_F_toldName_0 rfl rfl ?_
  refine gw_iload_n C 1 d_F_toldName_1 rfl rfl ?_
  obtain ⟨r2, M2, hc2, hf⟩ := ob_some hf
  refine gw_callVr (rest := []) C 1 wcg_1 clg_0 (c_F_hasNode C.2.2.2.2.2.2.2.2.2.2 hc2) (cwV 1 C.2.2.2.2.1 (gTB_V tw_285 mv_F_hasNode) rfl rfl rfl pd_F_hasNode ⟨Nat.le_of_ble_eq_true rfl, Nat.le_of_ble_eq_true rfl⟩) rfl rfl (by decide) d_F_toldName_2 ⟨Nat.le_of_ble_eq_true rfl, Nat.le_of_ble_eq_true rfl⟩ ?_
  refine gw_if_eq (tgt := 17) C d_F_toldName_5 (by decide) (fun c => ?_) (fun c => ?_)
  · have hf := (if_pos c).symm.trans hf
    refine gw_iconst (v := (-1)) C d_F_toldName_17 (by decide) ?_
    exact gw_ireti C d_F_toldName_18 (wc ad cI cZ cC) hf
  · have hf := (if_neg c).symm.trans hf
    refine gw_aload_n C 0 d_F_toldName_8 rfl rfl ?_
    refine gw_get C in_F 1 wcg_1 clg_0 4 (by decide) tw_96 rfl rfl d_F_toldName_9 ?_
    refine gw_iload_n C 1 d_F_toldName_12 rfl rfl ?_
    obtain ⟨hb13, hf⟩ := gd_some hf
    refine gw_iald C 5 0 wcg_5 rfl hb13 d_F_toldName_13 ?_
    refine gw_goto (tgt := 18) C d_F_toldName_14 (by decide) ?_
    exact gw_ireti C d_F_toldName_18 (wc ad cI cZ cC) hf
theorem c_F_toldName (hZ : gw_ZOK Z) {x1 : Int32} {M : Mem} {r : Int32} {M' : Mem} (hf : f_F_toldName x1 M = some (r, M')) : CW l y_F_toldName ws_F_toldName rm_F_toldName D vwCl (tysW cI cZ cC) Z [.ref (ad 1), .int x1] (wc ad cI cZ cC M) (some (.int r)) (wc ad cI cZ cC M') 0 0 :=
  CW.ofG hZ (by decide) rfl (Nat.le_of_ble_eq_true rfl) (fun _ _ _ _ _ _ _ _ C _ => g_F_toldName C hf)
abbrev b_F_toldSet : ByteArray := prog_2_method_10_code
def y_F_toldSet : MethodName := ⟨"NoneWords$Facts", "toldSet", "(I)I"⟩
abbrev ws_F_toldSet : List Cond := Cond.code y_F_toldSet b_F_toldSet 2 (some (FieldType.int)) :: TB
set_option maxRecDepth 100000 in
theorem tc_F_toldSet : Cond.code y_F_toldSet b_F_toldSet 2 (some (FieldType.int)) ∈ TB := inTB 553 rfl rfl
theorem mv_F_toldSet : Cond.instanceMethod y_F_toldSet ∈ TB ∧ Cond.selects "NoneWords$Facts" y_F_toldSet y_F_toldSet ∈ TB ∧ Cond.initialized "NoneWords$Facts" ∈ TB ∧ Cond.code y_F_toldSet b_F_toldSet 2 (some (FieldType.int)) ∈ TB := ⟨inTB 551 (by decide +kernel) (by decide +kernel), inTB 552 (by decide +kernel) (by decide +kernel), inTB 65 (by decide +kernel) (by decide +kernel), tc_F_toldSet⟩
theorem pd_F_toldSet : y_F_toldSet.cls = "NoneWords$Facts" ∧ y_F_toldSet.cls ≠ "java/lang/invoke/MethodHandle" ∧ y_F_toldSet.cls ≠ "java/lang/invoke/VarHandle" ∧ (parseMethodDescriptor y_F_toldSet.desc).map (fun d => d.parameters.length) = some 1 := by decide +kernel
theorem d_F_toldSet_0 : decode b_F_toldSet 0 = .ok (.aload_n 0, 1) := by decide +kernel
theorem d_F_toldSet_1 : decode b_F_toldSet 1 = .ok (.iload_n 1, 1) := by decide +kernel
theorem d_F_toldSet_2 : decode b_F_toldSet 2 = .ok (.invokevirtual 52, 3) := by decide +kernel
theorem d_F_toldSet_5 : decode b_F_toldSet 5 = .ok (.ifCond .eq 12, 3) := by decide +kernel
theorem d_F_toldSet_8 : decode b_F_toldSet 8 = .ok (.aload_n 0, 1) := by decide +kernel
theorem d_F_toldSet_9 : decode b_F_toldSet 9 = .ok (.getfield 28, 3) := by decide +kernel
theorem d_F_toldSet_12 : decode b_F_toldSet 12 = .ok (.iload_n 1, 1) := by decide +kernel
theorem d_F_toldSet_13 : decode b_F_toldSet 13 = .ok (.iaload, 1) := by decide +kernel
theorem d_F_toldSet_14 : decode b_F_toldSet 14 = .ok (.goto 4, 3) := by decide +kernel
theorem d_F_toldSet_17 : decode b_F_toldSet 17 = .ok (.iconst 0, 1) := by decide +kernel
theorem d_F_toldSet_18 : decode b_F_toldSet 18 = .ok (.ireturn, 1) := by decide +kernel
abbrev rm_F_toldSet : Room := { frames := 1, cells := 0, slots := 0, locals := 21 }
def f_F_toldSet (x1 : Int32) (M : Mem) : Option (Int32 × Mem) :=
  ob (f_F_hasNode x1 M) fun r2 M2 => if r2 = 0 then some (0, M2) else gd (inb x1 120) (some (M2 6 x1.toNatClampNeg, M2))
set_option maxRecDepth 100000 in
theorem g_F_toldSet {r : Int32} {M' : Mem} (C : GC p s m args meth c b_F_toldSet 2 (some (FieldType.int)) "NoneWords$Facts" TB D vwCl (tysW cI cZ cC) A Z) {x1 : Int32} {M : Mem} (hf : f_F_toldSet x1 M = some (r, M')) : GW p l e rm_F_toldSet s m args below meth c (MQ below (QW D vwCl (tysW cI cZ cC) A (some (.int r)) (wc ad cI cZ cC M')) args s 0 0 A) D vwCl A 2 0 0 (wc ad cI cZ cC M) 0 [(0, .ref (ad 1)), (1, .int x1)] [] := by
  unfold f_F_toldSet at hf
  refine gw_aload_n C 0 d_F_toldSet_0 rfl rfl ?_
  refine gw_iload_n C 1 d_F_toldSet_1 rfl rfl ?_
  obtain ⟨r2, M2, hc2, hf⟩ := ob_some hf
  refine gw_callVr (rest := []) C 1 wcg_1 clg_0 (c_F_hasNode C.2.2.2.2.2.2.2.2.2.2 hc2) (cwV 1 C.2.2.2.2.1 (gTB_V tw_285 mv_F_hasNode) rfl rfl rfl pd_F_hasNode ⟨Nat.le_of_ble_eq_true rfl, Nat.le_of_ble_eq_true rfl⟩) rfl rfl (by decide) d_F_toldSet_2 ⟨Nat.le_of_ble_eq_true rfl, Nat.le_of_ble_eq_true rfl⟩ ?_
  refine gw_if_eq (tgt := 17) C d_F_toldSet_5 (by decide) (fun c => ?_) (fun c => ?_)
  · have hf := (if_pos c).symm.trans hf
    refine gw_iconst (v := 0) C d_F_toldSet_17 (by decide) ?_
    exact gw_ireti C d_F_toldSet_18 (wc ad cI cZ cC) hf
  · have hf := (if_neg c).symm.trans hf
    refine gw_aload_n C 0 d_F_toldSet_8 rfl rfl ?_
    refine gw_get C in_F 1 wcg_1 clg_0 5 (by decide) tw_97 rfl rfl d_F_toldSet_9 ?_
    refine gw_iload_n C 1 d_F_toldSet_12 rfl rfl ?_
    obtain ⟨hb13, hf⟩ := gd_some hf
    refine gw_iald C 6 0 wcg_6 rfl hb13 d_F_toldSet_13 ?_
    refine gw_goto (tgt := 18) C d_F_toldSet_14 (by decide) ?_
    exact gw_ireti C d_F_toldSet_18 (wc ad cI cZ cC) hf
theorem c_F_toldSet (hZ : gw_ZOK Z) {x1 : Int32} {M : Mem} {r : Int32} {M' : Mem} (hf : f_F_toldSet x1 M = some (r, M')) : CW l y_F_toldSet ws_F_toldSet rm_F_toldSet D vwCl (tysW cI cZ cC) Z [.ref (ad 1), .int x1] (wc ad cI cZ cC M) (some (.int r)) (wc ad cI cZ cC M') 0 0 :=
  CW.ofG hZ (by decide) rfl (Nat.le_of_ble_eq_true rfl) (fun _ _ _ _ _ _ _ _ C _ => g_F_toldSet C hf)
abbrev b_F_toldOther : ByteArray := prog_2_method_11_code
def y_F_toldOther : MethodName := ⟨"NoneWords$Facts", "toldOther", "(I)I"⟩
abbrev ws_F_toldOther : List Cond := Cond.code y_F_toldOther b_F_toldOther 2 (some (FieldType.int)) :: TB
set_option maxRecDepth 100000 in
theorem tc_F_toldOther : Cond.code y_F_toldOther b_F_toldOther 2 (some (FieldType.int)) ∈ TB := inTB 563 rfl rfl
theorem mv_F_toldOther : Cond.instanceMethod y_F_toldOther ∈ TB ∧ Cond.selects "NoneWords$Facts" y_F_toldOther y_F_toldOther ∈ TB ∧ Cond.initialized "NoneWords$Facts" ∈ TB ∧ Cond.code y_F_toldOther b_F_toldOther 2 (some (FieldType.int)) ∈ TB := ⟨inTB 561 (by decide +kernel) (by decide +kernel), inTB 562 (by decide +kernel) (by decide +kernel), inTB 65 (by decide +kernel) (by decide +kernel), tc_F_toldOther⟩
theorem pd_F_toldOther : y_F_toldOther.cls = "NoneWords$Facts" ∧ y_F_toldOther.cls ≠ "java/lang/invoke/MethodHandle" ∧ y_F_toldOther.cls ≠ "java/lang/invoke/VarHandle" ∧ (parseMethodDescriptor y_F_toldOther.desc).map (fun d => d.parameters.length) = some 1 := by decide +kernel
theorem d_F_toldOther_0 : decode b_F_toldOther 0 = .ok (.aload_n 0, 1) := by decide +kernel
theorem d_F_toldOther_1 : decode b_F_toldOther 1 = .ok (.iload_n 1, 1) := by decide +kernel
theorem d_F_toldOther_2 : decode b_F_toldOther 2 = .ok (.invokevirtual 52, 3) := by decide +kernel
theorem d_F_toldOther_5 : decode b_F_toldOther 5 = .ok (.ifCond .eq 12, 3) := by decide +kernel
theorem d_F_toldOther_8 : decode b_F_toldOther 8 = .ok (.aload_n 0, 1) := by decide +kernel
theorem d_F_toldOther_9 : decode b_F_toldOther 9 = .ok (.getfield 31, 3) := by decide +kernel
theorem d_F_toldOther_12 : decode b_F_toldOther 12 = .ok (.iload_n 1, 1) := by decide +kernel
theorem d_F_toldOther_13 : decode b_F_toldOther 13 = .ok (.iaload, 1) := by decide +kernel
theorem d_F_toldOther_14 : decode b_F_toldOther 14 = .ok (.goto 4, 3) := by decide +kernel
theorem d_F_toldOther_17 : decode b_F_toldOther 17 = .ok (.iconst (-1), 1) := by decide +kernel
theorem d_F_toldOther_18 : decode b_F_toldOther 18 = .ok (.ireturn, 1) := by decide +kernel
abbrev rm_F_toldOther : Room := { frames := 1, cells := 0, slots := 0, locals := 21 }
def f_F_toldOther (x1 : Int32) (M : Mem) : Option (Int32 × Mem) :=
  ob (f_F_hasNode x1 M) fun r2 M2 => if r2 = 0 then some ((-1), M2) else gd (inb x1 120) (some (M2 7 x1.toNatClampNeg, M2))
set_option maxRecDepth 100000 in
theorem g_F_toldOther {r : Int32} {M' : Mem} (C : GC p s m args meth c b_F_toldOther 2 (some (FieldType.int)) "NoneWords$Facts" TB D vwCl (tysW cI cZ cC) A Z) {x1 : Int32} {M : Mem} (hf : f_F_toldOther x1 M = some (r, M')) : GW p l e rm_F_toldOther s m args below meth c (MQ below (QW D vwCl (tysW cI cZ cC) A (some (.int r)) (wc ad cI cZ cC M')) args s 0 0 A) D vwCl A 2 0 0 (wc ad cI cZ cC M) 0 [(0, .ref (ad 1)), (1, .int x1)] [] := by
  unfold f_F_toldOther at hf
  refine gw_aload_n C 0 d_F_toldOther_0 rfl rfl ?_
  refine gw_iload_n C 1 d_F_toldOther_1 rfl rfl ?_
  obtain ⟨r2, M2, hc2, hf⟩ := ob_some hf
  refine gw_callVr (rest := []) C 1 wcg_1 clg_0 (c_F_hasNode C.2.2.2.2.2.2.2.2.2.2 hc2) (cwV 1 C.2.2.2.2.1 (gTB_V tw_285 mv_F_hasNode) rfl rfl rfl pd_F_hasNode ⟨Nat.le_of_ble_eq_true rfl, Nat.le_of_ble_eq_true rfl⟩) rfl rfl (by decide) d_F_toldOther_2 ⟨Nat.le_of_ble_eq_true rfl, Nat.le_of_ble_eq_true rfl⟩ ?_
  refine gw_if_eq (tgt := 17) C d_F_toldOther_5 (by decide) (fun c => ?_) (fun c => ?_)
  · have hf := (if_pos c).symm.trans hf
    refine gw_iconst (v := (-1)) C d_F_toldOther_17 (by decide) ?_
    exact gw_ireti C d_F_toldOther_18 (wc ad cI cZ cC) hf
  · have hf := (if_neg c).symm.trans hf
    refine gw_aload_n C 0 d_F_toldOther_8 rfl rfl ?_
    refine gw_get C in_F 1 wcg_1 clg_0 6 (by decide) tw_98 rfl rfl d_F_toldOther_9 ?_
    refine gw_iload_n C 1 d_F_toldOther_12 rfl rfl ?_
    obtain ⟨hb13, hf⟩ := gd_some hf
    refine gw_iald C 7 0 wcg_7 rfl hb13 d_F_toldOther_13 ?_
    refine gw_goto (tgt := 18) C d_F_toldOther_14 (by decide) ?_
    exact gw_ireti C d_F_toldOther_18 (wc ad cI cZ cC) hf
theorem c_F_toldOther (hZ : gw_ZOK Z) {x1 : Int32} {M : Mem} {r : Int32} {M' : Mem} (hf : f_F_toldOther x1 M = some (r, M')) : CW l y_F_toldOther ws_F_toldOther rm_F_toldOther D vwCl (tysW cI cZ cC) Z [.ref (ad 1), .int x1] (wc ad cI cZ cC M) (some (.int r)) (wc ad cI cZ cC M') 0 0 :=
  CW.ofG hZ (by decide) rfl (Nat.le_of_ble_eq_true rfl) (fun _ _ _ _ _ _ _ _ C _ => g_F_toldOther C hf)
abbrev b_F_toldOtherSet : ByteArray := prog_2_method_12_code
def y_F_toldOtherSet : MethodName := ⟨"NoneWords$Facts", "toldOtherSet", "(I)I"⟩
abbrev ws_F_toldOtherSet : List Cond := Cond.code y_F_toldOtherSet b_F_toldOtherSet 2 (some (FieldType.int)) :: TB
set_option maxRecDepth 100000 in
theorem tc_F_toldOtherSet : Cond.code y_F_toldOtherSet b_F_toldOtherSet 2 (some (FieldType.int)) ∈ TB := inTB 567 rfl rfl
theorem mv_F_toldOtherSet : Cond.instanceMethod y_F_toldOtherSet ∈ TB ∧ Cond.selects "NoneWords$Facts" y_F_toldOtherSet y_F_toldOtherSet ∈ TB ∧ Cond.initialized "NoneWords$Facts" ∈ TB ∧ Cond.code y_F_toldOtherSet b_F_toldOtherSet 2 (some (FieldType.int)) ∈ TB := ⟨inTB 565 (by decide +kernel) (by decide +kernel), inTB 566 (by decide +kernel) (by decide +kernel), inTB 65 (by decide +kernel) (by decide +kernel), tc_F_toldOtherSet⟩
theorem pd_F_toldOtherSet : y_F_toldOtherSet.cls = "NoneWords$Facts" ∧ y_F_toldOtherSet.cls ≠ "java/lang/invoke/MethodHandle" ∧ y_F_toldOtherSet.cls ≠ "java/lang/invoke/VarHandle" ∧ (parseMethodDescriptor y_F_toldOtherSet.desc).map (fun d => d.parameters.length) = some 1 := by decide +kernel
theorem d_F_toldOtherSet_0 : decode b_F_toldOtherSet 0 = .ok (.aload_n 0, 1) := by decide +kernel
theorem d_F_toldOtherSet_1 : decode b_F_toldOtherSet 1 = .ok (.iload_n 1, 1) := by decide +kernel
theorem d_F_toldOtherSet_2 : decode b_F_toldOtherSet 2 = .ok (.invokevirtual 52, 3) := by decide +kernel
theorem d_F_toldOtherSet_5 : decode b_F_toldOtherSet 5 = .ok (.ifCond .eq 12, 3) := by decide +kernel
theorem d_F_toldOtherSet_8 : decode b_F_toldOtherSet 8 = .ok (.aload_n 0, 1) := by decide +kernel
theorem d_F_toldOtherSet_9 : decode b_F_toldOtherSet 9 = .ok (.getfield 34, 3) := by decide +kernel
theorem d_F_toldOtherSet_12 : decode b_F_toldOtherSet 12 = .ok (.iload_n 1, 1) := by decide +kernel
theorem d_F_toldOtherSet_13 : decode b_F_toldOtherSet 13 = .ok (.iaload, 1) := by decide +kernel
theorem d_F_toldOtherSet_14 : decode b_F_toldOtherSet 14 = .ok (.goto 4, 3) := by decide +kernel
theorem d_F_toldOtherSet_17 : decode b_F_toldOtherSet 17 = .ok (.iconst 0, 1) := by decide +kernel
theorem d_F_toldOtherSet_18 : decode b_F_toldOtherSet 18 = .ok (.ireturn, 1) := by decide +kernel
abbrev rm_F_toldOtherSet : Room := { frames := 1, cells := 0, slots := 0, locals := 21 }
def f_F_toldOtherSet (x1 : Int32) (M : Mem) : Option (Int32 × Mem) :=
  ob (f_F_hasNode x1 M) fun r2 M2 => if r2 = 0 then some (0, M2) else gd (inb x1 120) (some (M2 8 x1.toNatClampNeg, M2))
set_option maxRecDepth 100000 in
theorem g_F_toldOtherSet {r : Int32} {M' : Mem} (C : GC p s m args meth c b_F_toldOtherSet 2 (some (FieldType.int)) "NoneWords$Facts" TB D vwCl (tysW cI cZ cC) A Z) {x1 : Int32} {M : Mem} (hf : f_F_toldOtherSet x1 M = some (r, M')) : GW p l e rm_F_toldOtherSet s m args below meth c (MQ below (QW D vwCl (tysW cI cZ cC) A (some (.int r)) (wc ad cI cZ cC M')) args s 0 0 A) D vwCl A 2 0 0 (wc ad cI cZ cC M) 0 [(0, .ref (ad 1)), (1, .int x1)] [] := by
  unfold f_F_toldOtherSet at hf
  refine gw_aload_n C 0 d_F_toldOtherSet_0 rfl rfl ?_
  refine gw_iload_n C 1 d_F_toldOtherSet_1 rfl rfl ?_
  obtain ⟨r2, M2, hc2, hf⟩ := ob_some hf
  refine gw_callVr (rest := []) C 1 wcg_1 clg_0 (c_F_hasNode C.2.2.2.2.2.2.2.2.2.2 hc2) (cwV 1 C.2.2.2.2.1 (gTB_V tw_285 mv_F_hasNode) rfl rfl rfl pd_F_hasNode ⟨Nat.le_of_ble_eq_true rfl, Nat.le_of_ble_eq_true rfl⟩) rfl rfl (by decide) d_F_toldOtherSet_2 ⟨Nat.le_of_ble_eq_true rfl, Nat.le_of_ble_eq_true rfl⟩ ?_
  refine gw_if_eq (tgt := 17) C d_F_toldOtherSet_5 (by decide) (fun c => ?_) (fun c => ?_)
  · have hf := (if_pos c).symm.trans hf
    refine gw_iconst (v := 0) C d_F_toldOtherSet_17 (by decide) ?_
    exact gw_ireti C d_F_toldOtherSet_18 (wc ad cI cZ cC) hf
  · have hf := (if_neg c).symm.trans hf
    refine gw_aload_n C 0 d_F_toldOtherSet_8 rfl rfl ?_
    refine gw_get C in_F 1 wcg_1 clg_0 7 (by decide) tw_99 rfl rfl d_F_toldOtherSet_9 ?_
    refine gw_iload_n C 1 d_F_toldOtherSet_12 rfl rfl ?_
    obtain ⟨hb13, hf⟩ := gd_some hf
    refine gw_iald C 8 0 wcg_8 rfl hb13 d_F_toldOtherSet_13 ?_
    refine gw_goto (tgt := 18) C d_F_toldOtherSet_14 (by decide) ?_
    exact gw_ireti C d_F_toldOtherSet_18 (wc ad cI cZ cC) hf
theorem c_F_toldOtherSet (hZ : gw_ZOK Z) {x1 : Int32} {M : Mem} {r : Int32} {M' : Mem} (hf : f_F_toldOtherSet x1 M = some (r, M')) : CW l y_F_toldOtherSet ws_F_toldOtherSet rm_F_toldOtherSet D vwCl (tysW cI cZ cC) Z [.ref (ad 1), .int x1] (wc ad cI cZ cC M) (some (.int r)) (wc ad cI cZ cC M') 0 0 :=
  CW.ofG hZ (by decide) rfl (Nat.le_of_ble_eq_true rfl) (fun _ _ _ _ _ _ _ _ C _ => g_F_toldOtherSet C hf)
abbrev b_F_leftPart : ByteArray := prog_2_method_13_code
def y_F_leftPart : MethodName := ⟨"NoneWords$Facts", "leftPart", "(I)I"⟩
abbrev ws_F_leftPart : List Cond := Cond.code y_F_leftPart b_F_leftPart 2 (some (FieldType.int)) :: TB
set_option maxRecDepth 100000 in
theorem tc_F_leftPart : Cond.code y_F_leftPart b_F_leftPart 2 (some (FieldType.int)) ∈ TB := inTB 339 rfl rfl
theorem mv_F_leftPart : Cond.instanceMethod y_F_leftPart ∈ TB ∧ Cond.selects "NoneWords$Facts" y_F_leftPart y_F_leftPart ∈ TB ∧ Cond.initialized "NoneWords$Facts" ∈ TB ∧ Cond.code y_F_leftPart b_F_leftPart 2 (some (FieldType.int)) ∈ TB := ⟨inTB 337 (by decide +kernel) (by decide +kernel), inTB 338 (by decide +kernel) (by decide +kernel), inTB 65 (by decide +kernel) (by decide +kernel), tc_F_leftPart⟩
theorem pd_F_leftPart : y_F_leftPart.cls = "NoneWords$Facts" ∧ y_F_leftPart.cls ≠ "java/lang/invoke/MethodHandle" ∧ y_F_leftPart.cls ≠ "java/lang/invoke/VarHandle" ∧ (parseMethodDescriptor y_F_leftPart.desc).map (fun d => d.parameters.length) = some 1 := by decide +kernel
theorem d_F_leftPart_0 : decode b_F_leftPart 0 = .ok (.aload_n 0, 1) := by decide +kernel
theorem d_F_leftPart_1 : decode b_F_leftPart 1 = .ok (.iload_n 1, 1) := by decide +kernel
theorem d_F_leftPart_2 : decode b_F_leftPart 2 = .ok (.invokevirtual 52, 3) := by decide +kernel
theorem d_F_leftPart_5 : decode b_F_leftPart 5 = .ok (.ifCond .eq 12, 3) := by decide +kernel
theorem d_F_leftPart_8 : decode b_F_leftPart 8 = .ok (.aload_n 0, 1) := by decide +kernel
theorem d_F_leftPart_9 : decode b_F_leftPart 9 = .ok (.getfield 37, 3) := by decide +kernel
theorem d_F_leftPart_12 : decode b_F_leftPart 12 = .ok (.iload_n 1, 1) := by decide +kernel
theorem d_F_leftPart_13 : decode b_F_leftPart 13 = .ok (.iaload, 1) := by decide +kernel
theorem d_F_leftPart_14 : decode b_F_leftPart 14 = .ok (.goto 4, 3) := by decide +kernel
theorem d_F_leftPart_17 : decode b_F_leftPart 17 = .ok (.iconst (-1), 1) := by decide +kernel
theorem d_F_leftPart_18 : decode b_F_leftPart 18 = .ok (.ireturn, 1) := by decide +kernel
abbrev rm_F_leftPart : Room := { frames := 1, cells := 0, slots := 0, locals := 21 }
def f_F_leftPart (x1 : Int32) (M : Mem) : Option (Int32 × Mem) :=
  ob (f_F_hasNode x1 M) fun r2 M2 => if r2 = 0 then some ((-1), M2) else gd (inb x1 120) (some (M2 9 x1.toNatClampNeg, M2))
set_option maxRecDepth 100000 in
theorem g_F_leftPart {r : Int32} {M' : Mem} (C : GC p s m args meth c b_F_leftPart 2 (some (FieldType.int)) "NoneWords$Facts" TB D vwCl (tysW cI cZ cC) A Z) {x1 : Int32} {M : Mem} (hf : f_F_leftPart x1 M = some (r, M')) : GW p l e rm_F_leftPart s m args below meth c (MQ below (QW D vwCl (tysW cI cZ cC) A (some (.int r)) (wc ad cI cZ cC M')) args s 0 0 A) D vwCl A 2 0 0 (wc ad cI cZ cC M) 0 [(0, .ref (ad 1)), (1, .int x1)] [] := by
  unfold f_F_leftPart at hf
  refine gw_aload_n C 0 d_F_leftPart_0 rfl rfl ?_
  refine gw_iload_n C 1 d_F_leftPart_1 rfl rfl ?_
  obtain ⟨r2, M2, hc2, hf⟩ := ob_some hf
  refine gw_callVr (rest := []) C 1 wcg_1 clg_0 (c_F_hasNode C.2.2.2.2.2.2.2.2.2.2 hc2) (cwV 1 C.2.2.2.2.1 (gTB_V tw_285 mv_F_hasNode) rfl rfl rfl pd_F_hasNode ⟨Nat.le_of_ble_eq_true rfl, Nat.le_of_ble_eq_true rfl⟩) rfl rfl (by decide) d_F_leftPart_2 ⟨Nat.le_of_ble_eq_true rfl, Nat.le_of_ble_eq_true rfl⟩ ?_
  refine gw_if_eq (tgt := 17) C d_F_leftPart_5 (by decide) (fun c => ?_) (fun c => ?_)
  · have hf := (if_pos c).symm.trans hf
    refine gw_iconst (v := (-1)) C d_F_leftPart_17 (by decide) ?_
    exact gw_ireti C d_F_leftPart_18 (wc ad cI cZ cC) hf
  · have hf := (if_neg c).symm.trans hf
    refine gw_aload_n C 0 d_F_leftPart_8 rfl rfl ?_
    refine gw_get C in_F 1 wcg_1 clg_0 8 (by decide) tw_100 rfl rfl d_F_leftPart_9 ?_
    refine gw_iload_n C 1 d_F_leftPart_12 rfl rfl ?_
    obtain ⟨hb13, hf⟩ := gd_some hf
    refine gw_iald C 9 0 wcg_9 rfl hb13 d_F_leftPart_13 ?_
    refine gw_goto (tgt := 18) C d_F_leftPart_14 (by decide) ?_
    exact gw_ireti C d_F_leftPart_18 (wc ad cI cZ cC) hf
theorem c_F_leftPart (hZ : gw_ZOK Z) {x1 : Int32} {M : Mem} {r : Int32} {M' : Mem} (hf : f_F_leftPart x1 M = some (r, M')) : CW l y_F_leftPart ws_F_leftPart rm_F_leftPart D vwCl (tysW cI cZ cC) Z [.ref (ad 1), .int x1] (wc ad cI cZ cC M) (some (.int r)) (wc ad cI cZ cC M') 0 0 :=
  CW.ofG hZ (by decide) rfl (Nat.le_of_ble_eq_true rfl) (fun _ _ _ _ _ _ _ _ C _ => g_F_leftPart C hf)
end FACTS
end
