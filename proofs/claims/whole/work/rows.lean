section
-- ===== PART A: goes FIRST, ahead of the names: the tables' words, and 'selects' of the private methods out of them =====
/-- a private method of a class that the tables say can be made, by its rows of tables_1 -/
def lw_okq (q : MethodName × Nat) : Prop := (q.1.cls ≠ "java/lang/invoke/MethodHandle" ∧ q.1.cls ≠ "java/lang/invoke/VarHandle") ∧ Cond.instantiable q.1.cls q.2 ∈ tables_1 ∧ Cond.privateMethod q.1 ∈ tables_1 ∧ Cond.instanceMethod q.1 ∈ tables_1
theorem lw_p0 : lw_okq (⟨"NoneWords$Facts", "addNode", "(II)I"⟩, 11) := ⟨⟨by decide +kernel, by decide +kernel⟩, List.mem_of_getElem? (i := 21) (by decide +kernel), List.mem_of_getElem? (i := 207) (by decide +kernel), List.mem_of_getElem? (i := 208) (by decide +kernel)⟩
theorem lw_p1 : lw_okq (⟨"NoneWords$Writer", "countUses", "(I)V"⟩, 15) := ⟨⟨by decide +kernel, by decide +kernel⟩, List.mem_of_getElem? (i := 65) (by decide +kernel), List.mem_of_getElem? (i := 270) (by decide +kernel), List.mem_of_getElem? (i := 271) (by decide +kernel)⟩
theorem lw_p2 : lw_okq (⟨"NoneWords$Writer", "countUse", "(I)V"⟩, 15) := ⟨⟨by decide +kernel, by decide +kernel⟩, List.mem_of_getElem? (i := 65) (by decide +kernel), List.mem_of_getElem? (i := 278) (by decide +kernel), List.mem_of_getElem? (i := 279) (by decide +kernel)⟩
theorem lw_p3 : lw_okq (⟨"NoneWords$Writer", "await", "(IIII)V"⟩, 15) := ⟨⟨by decide +kernel, by decide +kernel⟩, List.mem_of_getElem? (i := 65) (by decide +kernel), List.mem_of_getElem? (i := 287) (by decide +kernel), List.mem_of_getElem? (i := 288) (by decide +kernel)⟩
theorem lw_p4 : lw_okq (⟨"NoneWords$Writer", "open", "(I)V"⟩, 15) := ⟨⟨by decide +kernel, by decide +kernel⟩, List.mem_of_getElem? (i := 65) (by decide +kernel), List.mem_of_getElem? (i := 291) (by decide +kernel), List.mem_of_getElem? (i := 292) (by decide +kernel)⟩
theorem lw_p5 : lw_okq (⟨"NoneWords$Writer", "say", "(IIII)V"⟩, 15) := ⟨⟨by decide +kernel, by decide +kernel⟩, List.mem_of_getElem? (i := 65) (by decide +kernel), List.mem_of_getElem? (i := 299) (by decide +kernel), List.mem_of_getElem? (i := 300) (by decide +kernel)⟩
theorem lw_p6 : lw_okq (⟨"NoneWords$Writer", "openOfJoins", "(III)V"⟩, 15) := ⟨⟨by decide +kernel, by decide +kernel⟩, List.mem_of_getElem? (i := 65) (by decide +kernel), List.mem_of_getElem? (i := 303) (by decide +kernel), List.mem_of_getElem? (i := 304) (by decide +kernel)⟩
theorem lw_p7 : lw_okq (⟨"NoneWords$Writer", "hasNumber", "(I)Z"⟩, 15) := ⟨⟨by decide +kernel, by decide +kernel⟩, List.mem_of_getElem? (i := 65) (by decide +kernel), List.mem_of_getElem? (i := 307) (by decide +kernel), List.mem_of_getElem? (i := 308) (by decide +kernel)⟩
theorem lw_p8 : lw_okq (⟨"NoneWords$Writer", "close", "(IIII)V"⟩, 15) := ⟨⟨by decide +kernel, by decide +kernel⟩, List.mem_of_getElem? (i := 65) (by decide +kernel), List.mem_of_getElem? (i := 315) (by decide +kernel), List.mem_of_getElem? (i := 316) (by decide +kernel)⟩
theorem lw_p9 : lw_okq (⟨"NoneWords$Writer", "isShared", "(I)Z"⟩, 15) := ⟨⟨by decide +kernel, by decide +kernel⟩, List.mem_of_getElem? (i := 65) (by decide +kernel), List.mem_of_getElem? (i := 319) (by decide +kernel), List.mem_of_getElem? (i := 320) (by decide +kernel)⟩
theorem lw_p10 : lw_okq (⟨"NoneWords$Writer", "giveNumber", "(I)V"⟩, 15) := ⟨⟨by decide +kernel, by decide +kernel⟩, List.mem_of_getElem? (i := 65) (by decide +kernel), List.mem_of_getElem? (i := 323) (by decide +kernel), List.mem_of_getElem? (i := 324) (by decide +kernel)⟩
theorem lw_p11 : lw_okq (⟨"NoneWords$Writer", "openOfLeafAndJoin", "(III)V"⟩, 15) := ⟨⟨by decide +kernel, by decide +kernel⟩, List.mem_of_getElem? (i := 65) (by decide +kernel), List.mem_of_getElem? (i := 337) (by decide +kernel), List.mem_of_getElem? (i := 338) (by decide +kernel)⟩
theorem lw_p12 : lw_okq (⟨"NoneWords$Writer", "goOn", "(III)V"⟩, 15) := ⟨⟨by decide +kernel, by decide +kernel⟩, List.mem_of_getElem? (i := 65) (by decide +kernel), List.mem_of_getElem? (i := 350) (by decide +kernel), List.mem_of_getElem? (i := 351) (by decide +kernel)⟩
theorem lw_p13 : lw_okq (⟨"NoneWords$Speech", "put", "(Ljava/lang/String;)V"⟩, 5) := ⟨⟨by decide +kernel, by decide +kernel⟩, List.mem_of_getElem? (i := 117) (by decide +kernel), List.mem_of_getElem? (i := 386) (by decide +kernel), List.mem_of_getElem? (i := 387) (by decide +kernel)⟩
theorem lw_p14 : lw_okq (⟨"NoneWords$Speech", "put", "(C)V"⟩, 5) := ⟨⟨by decide +kernel, by decide +kernel⟩, List.mem_of_getElem? (i := 117) (by decide +kernel), List.mem_of_getElem? (i := 438) (by decide +kernel), List.mem_of_getElem? (i := 439) (by decide +kernel)⟩
theorem lw_p15 : lw_okq (⟨"NoneWords$Speech", "tellNode", "(I)V"⟩, 5) := ⟨⟨by decide +kernel, by decide +kernel⟩, List.mem_of_getElem? (i := 117) (by decide +kernel), List.mem_of_getElem? (i := 442) (by decide +kernel), List.mem_of_getElem? (i := 443) (by decide +kernel)⟩
def lw_privs_1 : List (MethodName × Nat) := [(⟨"NoneWords$Facts", "addNode", "(II)I"⟩, 11), (⟨"NoneWords$Writer", "countUses", "(I)V"⟩, 15), (⟨"NoneWords$Writer", "countUse", "(I)V"⟩, 15), (⟨"NoneWords$Writer", "await", "(IIII)V"⟩, 15), (⟨"NoneWords$Writer", "open", "(I)V"⟩, 15), (⟨"NoneWords$Writer", "say", "(IIII)V"⟩, 15), (⟨"NoneWords$Writer", "openOfJoins", "(III)V"⟩, 15), (⟨"NoneWords$Writer", "hasNumber", "(I)Z"⟩, 15), (⟨"NoneWords$Writer", "close", "(IIII)V"⟩, 15), (⟨"NoneWords$Writer", "isShared", "(I)Z"⟩, 15), (⟨"NoneWords$Writer", "giveNumber", "(I)V"⟩, 15), (⟨"NoneWords$Writer", "openOfLeafAndJoin", "(III)V"⟩, 15), (⟨"NoneWords$Writer", "goOn", "(III)V"⟩, 15), (⟨"NoneWords$Speech", "put", "(Ljava/lang/String;)V"⟩, 5), (⟨"NoneWords$Speech", "put", "(C)V"⟩, 5), (⟨"NoneWords$Speech", "tellNode", "(I)V"⟩, 5)]
theorem lw_r1 : ∀ q ∈ lw_privs_1, lw_okq q := List.forall_mem_cons.mpr ⟨lw_p0, List.forall_mem_cons.mpr ⟨lw_p1, List.forall_mem_cons.mpr ⟨lw_p2, List.forall_mem_cons.mpr ⟨lw_p3, List.forall_mem_cons.mpr ⟨lw_p4, List.forall_mem_cons.mpr ⟨lw_p5, List.forall_mem_cons.mpr ⟨lw_p6, List.forall_mem_cons.mpr ⟨lw_p7, List.forall_mem_cons.mpr ⟨lw_p8, List.forall_mem_cons.mpr ⟨lw_p9, List.forall_mem_cons.mpr ⟨lw_p10, List.forall_mem_cons.mpr ⟨lw_p11, List.forall_mem_cons.mpr ⟨lw_p12, List.forall_mem_cons.mpr ⟨lw_p13, List.forall_mem_cons.mpr ⟨lw_p14, List.forall_mem_cons.mpr ⟨lw_p15, fun _ h => absurd h List.not_mem_nil⟩⟩⟩⟩⟩⟩⟩⟩⟩⟩⟩⟩⟩⟩⟩⟩
theorem lw_p16 : lw_okq (⟨"NoneWords$Speech", "tellJoin", "(I)V"⟩, 5) := ⟨⟨by decide +kernel, by decide +kernel⟩, List.mem_of_getElem? (i := 117) (by decide +kernel), List.mem_of_getElem? (i := 447) (by decide +kernel), List.mem_of_getElem? (i := 448) (by decide +kernel)⟩
theorem lw_p17 : lw_okq (⟨"NoneWords$Speech", "tellTerms", "(IZLjava/lang/String;)V"⟩, 5) := ⟨⟨by decide +kernel, by decide +kernel⟩, List.mem_of_getElem? (i := 117) (by decide +kernel), List.mem_of_getElem? (i := 454) (by decide +kernel), List.mem_of_getElem? (i := 455) (by decide +kernel)⟩
theorem lw_p18 : lw_okq (⟨"NoneWords$Speech", "tellSet", "(II)V"⟩, 5) := ⟨⟨by decide +kernel, by decide +kernel⟩, List.mem_of_getElem? (i := 117) (by decide +kernel), List.mem_of_getElem? (i := 464) (by decide +kernel), List.mem_of_getElem? (i := 465) (by decide +kernel)⟩
theorem lw_p19 : lw_okq (⟨"NoneWords$Speech", "tellLeaf", "(I)V"⟩, 5) := ⟨⟨by decide +kernel, by decide +kernel⟩, List.mem_of_getElem? (i := 117) (by decide +kernel), List.mem_of_getElem? (i := 480) (by decide +kernel), List.mem_of_getElem? (i := 481) (by decide +kernel)⟩
theorem lw_p20 : lw_okq (⟨"NoneWords$Speech", "tellNumber", "(I)V"⟩, 5) := ⟨⟨by decide +kernel, by decide +kernel⟩, List.mem_of_getElem? (i := 117) (by decide +kernel), List.mem_of_getElem? (i := 508) (by decide +kernel), List.mem_of_getElem? (i := 509) (by decide +kernel)⟩
theorem lw_p21 : lw_okq (⟨"NoneWords$Search", "allOptions", "()I"⟩, 5) := ⟨⟨by decide +kernel, by decide +kernel⟩, List.mem_of_getElem? (i := 140) (by decide +kernel), List.mem_of_getElem? (i := 554) (by decide +kernel), List.mem_of_getElem? (i := 555) (by decide +kernel)⟩
theorem lw_p22 : lw_okq (⟨"NoneWords$Search", "bar", "(I)I"⟩, 5) := ⟨⟨by decide +kernel, by decide +kernel⟩, List.mem_of_getElem? (i := 140) (by decide +kernel), List.mem_of_getElem? (i := 565) (by decide +kernel), List.mem_of_getElem? (i := 566) (by decide +kernel)⟩
theorem lw_p23 : lw_okq (⟨"NoneWords$Search", "takeAllBack", "()V"⟩, 5) := ⟨⟨by decide +kernel, by decide +kernel⟩, List.mem_of_getElem? (i := 140) (by decide +kernel), List.mem_of_getElem? (i := 588) (by decide +kernel), List.mem_of_getElem? (i := 589) (by decide +kernel)⟩
theorem lw_p24 : lw_okq (⟨"NoneWords$Search", "findsWorldWithout", "(I)Z"⟩, 5) := ⟨⟨by decide +kernel, by decide +kernel⟩, List.mem_of_getElem? (i := 140) (by decide +kernel), List.mem_of_getElem? (i := 608) (by decide +kernel), List.mem_of_getElem? (i := 609) (by decide +kernel)⟩
theorem lw_p25 : lw_okq (⟨"NoneWordsModel", "isName", "(I)Z"⟩, 28) := ⟨⟨by decide +kernel, by decide +kernel⟩, List.mem_of_getElem? (i := 612) (by decide +kernel), List.mem_of_getElem? (i := 712) (by decide +kernel), List.mem_of_getElem? (i := 713) (by decide +kernel)⟩
theorem lw_p26 : lw_okq (⟨"NoneWordsModel", "clear", "()V"⟩, 28) := ⟨⟨by decide +kernel, by decide +kernel⟩, List.mem_of_getElem? (i := 612) (by decide +kernel), List.mem_of_getElem? (i := 716) (by decide +kernel), List.mem_of_getElem? (i := 717) (by decide +kernel)⟩
theorem lw_p27 : lw_okq (⟨"NoneWordsModel", "there", "(II)I"⟩, 28) := ⟨⟨by decide +kernel, by decide +kernel⟩, List.mem_of_getElem? (i := 612) (by decide +kernel), List.mem_of_getElem? (i := 723) (by decide +kernel), List.mem_of_getElem? (i := 724) (by decide +kernel)⟩
theorem lw_p28 : lw_okq (⟨"NoneWordsModel", "make", "(IIZ)V"⟩, 28) := ⟨⟨by decide +kernel, by decide +kernel⟩, List.mem_of_getElem? (i := 612) (by decide +kernel), List.mem_of_getElem? (i := 727) (by decide +kernel), List.mem_of_getElem? (i := 728) (by decide +kernel)⟩
theorem lw_p29 : lw_okq (⟨"NoneWordsModel", "tell", "(IIIZ)V"⟩, 28) := ⟨⟨by decide +kernel, by decide +kernel⟩, List.mem_of_getElem? (i := 612) (by decide +kernel), List.mem_of_getElem? (i := 731) (by decide +kernel), List.mem_of_getElem? (i := 732) (by decide +kernel)⟩
theorem lw_p30 : lw_okq (⟨"NoneWordsModel", "keep", "(II)V"⟩, 28) := ⟨⟨by decide +kernel, by decide +kernel⟩, List.mem_of_getElem? (i := 612) (by decide +kernel), List.mem_of_getElem? (i := 735) (by decide +kernel), List.mem_of_getElem? (i := 736) (by decide +kernel)⟩
theorem lw_p31 : lw_okq (⟨"NoneWordsModel", "isSaid", "(III)Z"⟩, 28) := ⟨⟨by decide +kernel, by decide +kernel⟩, List.mem_of_getElem? (i := 612) (by decide +kernel), List.mem_of_getElem? (i := 739) (by decide +kernel), List.mem_of_getElem? (i := 740) (by decide +kernel)⟩
def lw_privs_2 : List (MethodName × Nat) := [(⟨"NoneWords$Speech", "tellJoin", "(I)V"⟩, 5), (⟨"NoneWords$Speech", "tellTerms", "(IZLjava/lang/String;)V"⟩, 5), (⟨"NoneWords$Speech", "tellSet", "(II)V"⟩, 5), (⟨"NoneWords$Speech", "tellLeaf", "(I)V"⟩, 5), (⟨"NoneWords$Speech", "tellNumber", "(I)V"⟩, 5), (⟨"NoneWords$Search", "allOptions", "()I"⟩, 5), (⟨"NoneWords$Search", "bar", "(I)I"⟩, 5), (⟨"NoneWords$Search", "takeAllBack", "()V"⟩, 5), (⟨"NoneWords$Search", "findsWorldWithout", "(I)Z"⟩, 5), (⟨"NoneWordsModel", "isName", "(I)Z"⟩, 28), (⟨"NoneWordsModel", "clear", "()V"⟩, 28), (⟨"NoneWordsModel", "there", "(II)I"⟩, 28), (⟨"NoneWordsModel", "make", "(IIZ)V"⟩, 28), (⟨"NoneWordsModel", "tell", "(IIIZ)V"⟩, 28), (⟨"NoneWordsModel", "keep", "(II)V"⟩, 28), (⟨"NoneWordsModel", "isSaid", "(III)Z"⟩, 28)]
theorem lw_r2 : ∀ q ∈ lw_privs_2, lw_okq q := List.forall_mem_cons.mpr ⟨lw_p16, List.forall_mem_cons.mpr ⟨lw_p17, List.forall_mem_cons.mpr ⟨lw_p18, List.forall_mem_cons.mpr ⟨lw_p19, List.forall_mem_cons.mpr ⟨lw_p20, List.forall_mem_cons.mpr ⟨lw_p21, List.forall_mem_cons.mpr ⟨lw_p22, List.forall_mem_cons.mpr ⟨lw_p23, List.forall_mem_cons.mpr ⟨lw_p24, List.forall_mem_cons.mpr ⟨lw_p25, List.forall_mem_cons.mpr ⟨lw_p26, List.forall_mem_cons.mpr ⟨lw_p27, List.forall_mem_cons.mpr ⟨lw_p28, List.forall_mem_cons.mpr ⟨lw_p29, List.forall_mem_cons.mpr ⟨lw_p30, List.forall_mem_cons.mpr ⟨lw_p31, fun _ h => absurd h List.not_mem_nil⟩⟩⟩⟩⟩⟩⟩⟩⟩⟩⟩⟩⟩⟩⟩⟩
theorem lw_p32 : lw_okq (⟨"NoneWordsModel", "isNode", "(I)Z"⟩, 28) := ⟨⟨by decide +kernel, by decide +kernel⟩, List.mem_of_getElem? (i := 612) (by decide +kernel), List.mem_of_getElem? (i := 747) (by decide +kernel), List.mem_of_getElem? (i := 748) (by decide +kernel)⟩
theorem lw_p33 : lw_okq (⟨"NoneWordsModel", "count", "(I)I"⟩, 28) := ⟨⟨by decide +kernel, by decide +kernel⟩, List.mem_of_getElem? (i := 612) (by decide +kernel), List.mem_of_getElem? (i := 755) (by decide +kernel), List.mem_of_getElem? (i := 756) (by decide +kernel)⟩
theorem lw_p34 : lw_okq (⟨"NoneWordsModel", "setOf", "(II)I"⟩, 28) := ⟨⟨by decide +kernel, by decide +kernel⟩, List.mem_of_getElem? (i := 612) (by decide +kernel), List.mem_of_getElem? (i := 763) (by decide +kernel), List.mem_of_getElem? (i := 764) (by decide +kernel)⟩
theorem lw_p35 : lw_okq (⟨"NoneWordsModel", "isWanted", "(II)Z"⟩, 28) := ⟨⟨by decide +kernel, by decide +kernel⟩, List.mem_of_getElem? (i := 612) (by decide +kernel), List.mem_of_getElem? (i := 767) (by decide +kernel), List.mem_of_getElem? (i := 768) (by decide +kernel)⟩
theorem lw_p36 : lw_okq (⟨"NoneWordsModel", "countUses", "(I)V"⟩, 28) := ⟨⟨by decide +kernel, by decide +kernel⟩, List.mem_of_getElem? (i := 612) (by decide +kernel), List.mem_of_getElem? (i := 775) (by decide +kernel), List.mem_of_getElem? (i := 776) (by decide +kernel)⟩
theorem lw_p37 : lw_okq (⟨"NoneWordsModel", "push", "(I)V"⟩, 28) := ⟨⟨by decide +kernel, by decide +kernel⟩, List.mem_of_getElem? (i := 612) (by decide +kernel), List.mem_of_getElem? (i := 779) (by decide +kernel), List.mem_of_getElem? (i := 780) (by decide +kernel)⟩
theorem lw_p38 : lw_okq (⟨"NoneWordsModel", "go", "()V"⟩, 28) := ⟨⟨by decide +kernel, by decide +kernel⟩, List.mem_of_getElem? (i := 612) (by decide +kernel), List.mem_of_getElem? (i := 783) (by decide +kernel), List.mem_of_getElem? (i := 784) (by decide +kernel)⟩
theorem lw_p39 : lw_okq (⟨"NoneWordsModel", "startTwo", "(III)V"⟩, 28) := ⟨⟨by decide +kernel, by decide +kernel⟩, List.mem_of_getElem? (i := 612) (by decide +kernel), List.mem_of_getElem? (i := 787) (by decide +kernel), List.mem_of_getElem? (i := 788) (by decide +kernel)⟩
theorem lw_p40 : lw_okq (⟨"NoneWordsModel", "endWith", "(ZIII)V"⟩, 28) := ⟨⟨by decide +kernel, by decide +kernel⟩, List.mem_of_getElem? (i := 612) (by decide +kernel), List.mem_of_getElem? (i := 791) (by decide +kernel), List.mem_of_getElem? (i := 792) (by decide +kernel)⟩
theorem lw_p41 : lw_okq (⟨"NoneWordsModel", "because", "(ZIII)V"⟩, 28) := ⟨⟨by decide +kernel, by decide +kernel⟩, List.mem_of_getElem? (i := 612) (by decide +kernel), List.mem_of_getElem? (i := 795) (by decide +kernel), List.mem_of_getElem? (i := 796) (by decide +kernel)⟩
theorem lw_p42 : lw_okq (⟨"NoneWordsModel", "begin", "()V"⟩, 28) := ⟨⟨by decide +kernel, by decide +kernel⟩, List.mem_of_getElem? (i := 612) (by decide +kernel), List.mem_of_getElem? (i := 799) (by decide +kernel), List.mem_of_getElem? (i := 800) (by decide +kernel)⟩
theorem lw_p43 : lw_okq (⟨"NoneWordsModel", "say", "(J)V"⟩, 28) := ⟨⟨by decide +kernel, by decide +kernel⟩, List.mem_of_getElem? (i := 612) (by decide +kernel), List.mem_of_getElem? (i := 804) (by decide +kernel), List.mem_of_getElem? (i := 805) (by decide +kernel)⟩
theorem lw_p44 : lw_okq (⟨"NoneWordsModel", "put", "(I)V"⟩, 28) := ⟨⟨by decide +kernel, by decide +kernel⟩, List.mem_of_getElem? (i := 612) (by decide +kernel), List.mem_of_getElem? (i := 809) (by decide +kernel), List.mem_of_getElem? (i := 810) (by decide +kernel)⟩
theorem lw_p45 : lw_okq (⟨"NoneWordsModel", "told", "(I)V"⟩, 28) := ⟨⟨by decide +kernel, by decide +kernel⟩, List.mem_of_getElem? (i := 612) (by decide +kernel), List.mem_of_getElem? (i := 815) (by decide +kernel), List.mem_of_getElem? (i := 816) (by decide +kernel)⟩
theorem lw_p46 : lw_okq (⟨"NoneWordsModel", "joinWords", "(I)V"⟩, 28) := ⟨⟨by decide +kernel, by decide +kernel⟩, List.mem_of_getElem? (i := 612) (by decide +kernel), List.mem_of_getElem? (i := 819) (by decide +kernel), List.mem_of_getElem? (i := 820) (by decide +kernel)⟩
theorem lw_p47 : lw_okq (⟨"NoneWordsModel", "counted", "(IZ)I"⟩, 28) := ⟨⟨by decide +kernel, by decide +kernel⟩, List.mem_of_getElem? (i := 612) (by decide +kernel), List.mem_of_getElem? (i := 823) (by decide +kernel), List.mem_of_getElem? (i := 824) (by decide +kernel)⟩
def lw_privs_3 : List (MethodName × Nat) := [(⟨"NoneWordsModel", "isNode", "(I)Z"⟩, 28), (⟨"NoneWordsModel", "count", "(I)I"⟩, 28), (⟨"NoneWordsModel", "setOf", "(II)I"⟩, 28), (⟨"NoneWordsModel", "isWanted", "(II)Z"⟩, 28), (⟨"NoneWordsModel", "countUses", "(I)V"⟩, 28), (⟨"NoneWordsModel", "push", "(I)V"⟩, 28), (⟨"NoneWordsModel", "go", "()V"⟩, 28), (⟨"NoneWordsModel", "startTwo", "(III)V"⟩, 28), (⟨"NoneWordsModel", "endWith", "(ZIII)V"⟩, 28), (⟨"NoneWordsModel", "because", "(ZIII)V"⟩, 28), (⟨"NoneWordsModel", "begin", "()V"⟩, 28), (⟨"NoneWordsModel", "say", "(J)V"⟩, 28), (⟨"NoneWordsModel", "put", "(I)V"⟩, 28), (⟨"NoneWordsModel", "told", "(I)V"⟩, 28), (⟨"NoneWordsModel", "joinWords", "(I)V"⟩, 28), (⟨"NoneWordsModel", "counted", "(IZ)I"⟩, 28)]
theorem lw_r3 : ∀ q ∈ lw_privs_3, lw_okq q := List.forall_mem_cons.mpr ⟨lw_p32, List.forall_mem_cons.mpr ⟨lw_p33, List.forall_mem_cons.mpr ⟨lw_p34, List.forall_mem_cons.mpr ⟨lw_p35, List.forall_mem_cons.mpr ⟨lw_p36, List.forall_mem_cons.mpr ⟨lw_p37, List.forall_mem_cons.mpr ⟨lw_p38, List.forall_mem_cons.mpr ⟨lw_p39, List.forall_mem_cons.mpr ⟨lw_p40, List.forall_mem_cons.mpr ⟨lw_p41, List.forall_mem_cons.mpr ⟨lw_p42, List.forall_mem_cons.mpr ⟨lw_p43, List.forall_mem_cons.mpr ⟨lw_p44, List.forall_mem_cons.mpr ⟨lw_p45, List.forall_mem_cons.mpr ⟨lw_p46, List.forall_mem_cons.mpr ⟨lw_p47, fun _ h => absurd h List.not_mem_nil⟩⟩⟩⟩⟩⟩⟩⟩⟩⟩⟩⟩⟩⟩⟩⟩
theorem lw_p48 : lw_okq (⟨"NoneWordsModel", "row", "(IZ)I"⟩, 28) := ⟨⟨by decide +kernel, by decide +kernel⟩, List.mem_of_getElem? (i := 612) (by decide +kernel), List.mem_of_getElem? (i := 829) (by decide +kernel), List.mem_of_getElem? (i := 830) (by decide +kernel)⟩
theorem lw_p49 : lw_okq (⟨"NoneWordsModel", "words", "(II)V"⟩, 28) := ⟨⟨by decide +kernel, by decide +kernel⟩, List.mem_of_getElem? (i := 612) (by decide +kernel), List.mem_of_getElem? (i := 835) (by decide +kernel), List.mem_of_getElem? (i := 836) (by decide +kernel)⟩
theorem lw_p50 : lw_okq (⟨"NoneWordsModel", "leafWords", "(I)V"⟩, 28) := ⟨⟨by decide +kernel, by decide +kernel⟩, List.mem_of_getElem? (i := 612) (by decide +kernel), List.mem_of_getElem? (i := 846) (by decide +kernel), List.mem_of_getElem? (i := 847) (by decide +kernel)⟩
theorem lw_p51 : lw_okq (⟨"NoneWordsModel", "end", "(I)V"⟩, 28) := ⟨⟨by decide +kernel, by decide +kernel⟩, List.mem_of_getElem? (i := 612) (by decide +kernel), List.mem_of_getElem? (i := 857) (by decide +kernel), List.mem_of_getElem? (i := 858) (by decide +kernel)⟩
theorem lw_p52 : lw_okq (⟨"NoneWordsModel", "give", "(I)V"⟩, 28) := ⟨⟨by decide +kernel, by decide +kernel⟩, List.mem_of_getElem? (i := 612) (by decide +kernel), List.mem_of_getElem? (i := 861) (by decide +kernel), List.mem_of_getElem? (i := 862) (by decide +kernel)⟩
theorem lw_p53 : lw_okq (⟨"NoneWordsModel", "later", "(III)V"⟩, 28) := ⟨⟨by decide +kernel, by decide +kernel⟩, List.mem_of_getElem? (i := 612) (by decide +kernel), List.mem_of_getElem? (i := 865) (by decide +kernel), List.mem_of_getElem? (i := 866) (by decide +kernel)⟩
theorem lw_p54 : lw_okq (⟨"NoneWordsModel", "isSimple", "(I)Z"⟩, 28) := ⟨⟨by decide +kernel, by decide +kernel⟩, List.mem_of_getElem? (i := 612) (by decide +kernel), List.mem_of_getElem? (i := 869) (by decide +kernel), List.mem_of_getElem? (i := 870) (by decide +kernel)⟩
theorem lw_p55 : lw_okq (⟨"NoneWordsModel", "startOne", "(III)V"⟩, 28) := ⟨⟨by decide +kernel, by decide +kernel⟩, List.mem_of_getElem? (i := 612) (by decide +kernel), List.mem_of_getElem? (i := 873) (by decide +kernel), List.mem_of_getElem? (i := 874) (by decide +kernel)⟩
theorem lw_p56 : lw_okq (⟨"NoneWordsModel", "goOn", "(III)V"⟩, 28) := ⟨⟨by decide +kernel, by decide +kernel⟩, List.mem_of_getElem? (i := 612) (by decide +kernel), List.mem_of_getElem? (i := 877) (by decide +kernel), List.mem_of_getElem? (i := 878) (by decide +kernel)⟩
theorem lw_p57 : lw_okq (⟨"NoneWordsModel", "thus", "(I)V"⟩, 28) := ⟨⟨by decide +kernel, by decide +kernel⟩, List.mem_of_getElem? (i := 612) (by decide +kernel), List.mem_of_getElem? (i := 881) (by decide +kernel), List.mem_of_getElem? (i := 882) (by decide +kernel)⟩
theorem lw_p58 : lw_okq (⟨"NoneWordsModel", "isSentence", "(I)Z"⟩, 28) := ⟨⟨by decide +kernel, by decide +kernel⟩, List.mem_of_getElem? (i := 612) (by decide +kernel), List.mem_of_getElem? (i := 890) (by decide +kernel), List.mem_of_getElem? (i := 891) (by decide +kernel)⟩
theorem lw_p59 : lw_okq (⟨"NoneWordsModel", "none", "()V"⟩, 28) := ⟨⟨by decide +kernel, by decide +kernel⟩, List.mem_of_getElem? (i := 612) (by decide +kernel), List.mem_of_getElem? (i := 910) (by decide +kernel), List.mem_of_getElem? (i := 911) (by decide +kernel)⟩
theorem lw_p60 : lw_okq (⟨"NoneWordsModel", "can", "(I)Z"⟩, 28) := ⟨⟨by decide +kernel, by decide +kernel⟩, List.mem_of_getElem? (i := 612) (by decide +kernel), List.mem_of_getElem? (i := 914) (by decide +kernel), List.mem_of_getElem? (i := 915) (by decide +kernel)⟩
theorem lw_p61 : lw_okq (⟨"NoneWordsModel", "isKept", "(I)Z"⟩, 28) := ⟨⟨by decide +kernel, by decide +kernel⟩, List.mem_of_getElem? (i := 612) (by decide +kernel), List.mem_of_getElem? (i := 918) (by decide +kernel), List.mem_of_getElem? (i := 919) (by decide +kernel)⟩
theorem lw_p62 : lw_okq (⟨"NoneWordsModel", "advance", "()Z"⟩, 28) := ⟨⟨by decide +kernel, by decide +kernel⟩, List.mem_of_getElem? (i := 612) (by decide +kernel), List.mem_of_getElem? (i := 922) (by decide +kernel), List.mem_of_getElem? (i := 923) (by decide +kernel)⟩
def lw_privs_4 : List (MethodName × Nat) := [(⟨"NoneWordsModel", "row", "(IZ)I"⟩, 28), (⟨"NoneWordsModel", "words", "(II)V"⟩, 28), (⟨"NoneWordsModel", "leafWords", "(I)V"⟩, 28), (⟨"NoneWordsModel", "end", "(I)V"⟩, 28), (⟨"NoneWordsModel", "give", "(I)V"⟩, 28), (⟨"NoneWordsModel", "later", "(III)V"⟩, 28), (⟨"NoneWordsModel", "isSimple", "(I)Z"⟩, 28), (⟨"NoneWordsModel", "startOne", "(III)V"⟩, 28), (⟨"NoneWordsModel", "goOn", "(III)V"⟩, 28), (⟨"NoneWordsModel", "thus", "(I)V"⟩, 28), (⟨"NoneWordsModel", "isSentence", "(I)Z"⟩, 28), (⟨"NoneWordsModel", "none", "()V"⟩, 28), (⟨"NoneWordsModel", "can", "(I)Z"⟩, 28), (⟨"NoneWordsModel", "isKept", "(I)Z"⟩, 28), (⟨"NoneWordsModel", "advance", "()Z"⟩, 28)]
theorem lw_r4 : ∀ q ∈ lw_privs_4, lw_okq q := List.forall_mem_cons.mpr ⟨lw_p48, List.forall_mem_cons.mpr ⟨lw_p49, List.forall_mem_cons.mpr ⟨lw_p50, List.forall_mem_cons.mpr ⟨lw_p51, List.forall_mem_cons.mpr ⟨lw_p52, List.forall_mem_cons.mpr ⟨lw_p53, List.forall_mem_cons.mpr ⟨lw_p54, List.forall_mem_cons.mpr ⟨lw_p55, List.forall_mem_cons.mpr ⟨lw_p56, List.forall_mem_cons.mpr ⟨lw_p57, List.forall_mem_cons.mpr ⟨lw_p58, List.forall_mem_cons.mpr ⟨lw_p59, List.forall_mem_cons.mpr ⟨lw_p60, List.forall_mem_cons.mpr ⟨lw_p61, List.forall_mem_cons.mpr ⟨lw_p62, fun _ h => absurd h List.not_mem_nil⟩⟩⟩⟩⟩⟩⟩⟩⟩⟩⟩⟩⟩⟩⟩
def lw_privs : List (MethodName × Nat) := lw_privs_1 ++ (lw_privs_2 ++ (lw_privs_3 ++ (lw_privs_4)))
def lw_tbl : List Cond := k2_sels lw_privs ++ tables_1
theorem lw_privs_ok : ∀ q ∈ lw_privs, lw_okq q := by
  show ∀ q ∈ lw_privs_1 ++ (lw_privs_2 ++ (lw_privs_3 ++ (lw_privs_4))), lw_okq q
  exact List.forall_mem_append.mpr ⟨lw_r1, List.forall_mem_append.mpr ⟨lw_r2, List.forall_mem_append.mpr ⟨lw_r3, lw_r4⟩⟩⟩
end
section
/-! names: the words of the tables that last, the classes, the methods -/
def TB : List Cond := lw_tbl.filter goodWord
theorem inTB {w : Cond} (i : Nat) (h : lw_tbl[i]? = some w) (hg : goodWord w = true) : w ∈ TB := List.mem_filter.mpr ⟨List.mem_of_getElem? h, hg⟩
theorem TB_good : GoodIn TB TB := fun w h => ⟨h, good_of_word (List.mem_filter.mp h).2⟩
theorem TB_of {args : Array Value} {s : State} (h : ∀ w ∈ lw_tbl, w.before args s = true) : ∀ w ∈ TB, w.before args s = true := fun w hw => h w (List.mem_filter.mp hw).1
theorem gTB_c {y : MethodName} {b : ByteArray} {n : Nat} {r : Option FieldType} (h : Cond.code y b n r ∈ TB) : GoodIn TB (Cond.code y b n r :: TB) := fun w hw => (List.mem_cons.mp hw).elim (fun e => e ▸ TB_good _ h) (TB_good w)
theorem gTB_V {own : String} {idx : Nat} {C : String} {y : MethodName} {b : ByteArray} {n : Nat} {r : Option FieldType} (h1 : Cond.methodLink own idx y ∈ TB) (h : Cond.instanceMethod y ∈ TB ∧ Cond.selects C y y ∈ TB ∧ Cond.initialized C ∈ TB ∧ Cond.code y b n r ∈ TB) : GoodIn TB (wsV own idx C y (Cond.code y b n r :: TB)) := by
  intro w hw
  rcases List.mem_append.mp hw with hw | hw
  · simp only [List.mem_cons, List.not_mem_nil, or_false] at hw
    rcases hw with rfl | rfl | rfl | rfl
    · exact TB_good _ h1
    · exact TB_good _ h.1
    · exact TB_good _ h.2.1
    · exact TB_good _ h.2.2.1
  · exact gTB_c h.2.2.2 w hw
theorem gTB_S {own : String} {idx : Nat} {y : MethodName} {b : ByteArray} {n : Nat} {r : Option FieldType} (h1 : Cond.methodLink own idx y ∈ TB) (h : Cond.static y ∈ TB ∧ Cond.initialized own ∈ TB ∧ Cond.code y b n r ∈ TB) : GoodIn TB (wsS own idx y (Cond.code y b n r :: TB)) := by
  intro w hw
  rcases List.mem_append.mp hw with hw | hw
  · simp only [List.mem_cons, List.not_mem_nil, or_false] at hw
    rcases hw with rfl | rfl | rfl
    · exact TB_good _ h1
    · exact TB_good _ h.1
    · exact TB_good _ h.2.1
  · exact gTB_c h.2.2 w hw
def T_F : u_T := fun k => match k with
  | 0 => ("NoneWords$Facts", "versions", "[I", true)
  | 1 => ("NoneWords$Facts", "names", "I", false)
  | 2 => ("NoneWords$Facts", "kinds", "[I", true)
  | 3 => ("NoneWords$Facts", "truths", "[I", true)
  | 4 => ("NoneWords$Facts", "toldNames", "[I", true)
  | 5 => ("NoneWords$Facts", "toldSets", "[I", true)
  | 6 => ("NoneWords$Facts", "toldOthers", "[I", true)
  | 7 => ("NoneWords$Facts", "toldOtherSets", "[I", true)
  | 8 => ("NoneWords$Facts", "leftParts", "[I", true)
  | 9 => ("NoneWords$Facts", "rightParts", "[I", true)
  | _ => ("NoneWords$Facts", "nodes", "I", false)
def ty_F : Nat → FieldType := fun k => match k with
  | 0 => .array .int
  | 1 => .int
  | 2 => .array .int
  | 3 => .array .int
  | 4 => .array .int
  | 5 => .array .int
  | 6 => .array .int
  | 7 => .array .int
  | 8 => .array .int
  | 9 => .array .int
  | _ => .int
theorem nm_F : ∀ a, a < 11 → ∀ b, b < 11 → a ≠ b → (T_F a).2.1 ≠ (T_F b).2.1 := by decide +kernel
theorem tk_F : ∀ k, k < 11 → parseFieldDescriptor (T_F k).2.2.1 = some (ty_F k) := by decide +kernel
theorem in_F : ∀ z ∈ u_ws "NoneWords$Facts" T_F 11, z ∈ TB := by decide +kernel
def T_S : u_T := fun k => match k with
  | 0 => ("NoneWords$Search", "facts", "LNoneWords$Facts;", true)
  | 1 => ("NoneWords$Search", "leftOut", "[Z", true)
  | 2 => ("NoneWords$Search", "bars", "[I", true)
  | 3 => ("NoneWords$Search", "stayed", "[I", true)
  | _ => ("NoneWords$Search", "stays", "I", false)
def ty_S : Nat → FieldType := fun k => match k with
  | 0 => .object "NoneWords$Facts"
  | 1 => .array .boolean
  | 2 => .array .int
  | 3 => .array .int
  | _ => .int
theorem nm_S : ∀ a, a < 5 → ∀ b, b < 5 → a ≠ b → (T_S a).2.1 ≠ (T_S b).2.1 := by decide +kernel
theorem tk_S : ∀ k, k < 5 → parseFieldDescriptor (T_S k).2.2.1 = some (ty_S k) := by decide +kernel
theorem in_S : ∀ z ∈ u_ws "NoneWords$Search" T_S 5, z ∈ TB := by decide +kernel
def T_P : u_T := fun k => match k with
  | 0 => ("NoneWords$Speech", "facts", "LNoneWords$Facts;", true)
  | 1 => ("NoneWords$Speech", "writer", "LNoneWords$Writer;", true)
  | 2 => ("NoneWords$Speech", "signs", "[C", true)
  | 3 => ("NoneWords$Speech", "length", "I", false)
  | _ => ("NoneWords$Speech", "shown", "I", false)
def ty_P : Nat → FieldType := fun k => match k with
  | 0 => .object "NoneWords$Facts"
  | 1 => .object "NoneWords$Writer"
  | 2 => .array .char
  | 3 => .int
  | _ => .int
theorem nm_P : ∀ a, a < 5 → ∀ b, b < 5 → a ≠ b → (T_P a).2.1 ≠ (T_P b).2.1 := by decide +kernel
theorem tk_P : ∀ k, k < 5 → parseFieldDescriptor (T_P k).2.2.1 = some (ty_P k) := by decide +kernel
theorem in_P : ∀ z ∈ u_ws "NoneWords$Speech" T_P 5, z ∈ TB := by decide +kernel
def T_W : u_T := fun k => match k with
  | 0 => ("NoneWords$Writer", "facts", "LNoneWords$Facts;", true)
  | 1 => ("NoneWords$Writer", "uses", "[I", true)
  | 2 => ("NoneWords$Writer", "nodeNumbers", "[I", true)
  | 3 => ("NoneWords$Writer", "numbers", "I", false)
  | 4 => ("NoneWords$Writer", "openings", "[I", true)
  | 5 => ("NoneWords$Writer", "firstCauses", "[I", true)
  | 6 => ("NoneWords$Writer", "secondCauses", "[I", true)
  | 7 => ("NoneWords$Writer", "conclusions", "[I", true)
  | 8 => ("NoneWords$Writer", "sentenceNumbers", "[I", true)
  | 9 => ("NoneWords$Writer", "sentences", "I", false)
  | 10 => ("NoneWords$Writer", "steps", "[I", true)
  | 11 => ("NoneWords$Writer", "stepNodes", "[I", true)
  | 12 => ("NoneWords$Writer", "stepFirsts", "[I", true)
  | 13 => ("NoneWords$Writer", "stepSeconds", "[I", true)
  | _ => ("NoneWords$Writer", "waiting", "I", false)
def ty_W : Nat → FieldType := fun k => match k with
  | 0 => .object "NoneWords$Facts"
  | 1 => .array .int
  | 2 => .array .int
  | 3 => .int
  | 4 => .array .int
  | 5 => .array .int
  | 6 => .array .int
  | 7 => .array .int
  | 8 => .array .int
  | 9 => .int
  | 10 => .array .int
  | 11 => .array .int
  | 12 => .array .int
  | 13 => .array .int
  | _ => .int
theorem nm_W : ∀ a, a < 15 → ∀ b, b < 15 → a ≠ b → (T_W a).2.1 ≠ (T_W b).2.1 := by decide +kernel
theorem tk_W : ∀ k, k < 15 → parseFieldDescriptor (T_W k).2.2.1 = some (ty_W k) := by decide +kernel
theorem in_W : ∀ z ∈ u_ws "NoneWords$Writer" T_W 15, z ∈ TB := by decide +kernel
def T_N : u_T := fun k => match k with
  | 0 => ("NoneWords", "facts", "LNoneWords$Facts;", true)
  | 1 => ("NoneWords", "writer", "LNoneWords$Writer;", true)
  | 2 => ("NoneWords", "speech", "LNoneWords$Speech;", true)
  | _ => ("NoneWords", "search", "LNoneWords$Search;", true)
def ty_N : Nat → FieldType := fun k => match k with
  | 0 => .object "NoneWords$Facts"
  | 1 => .object "NoneWords$Writer"
  | 2 => .object "NoneWords$Speech"
  | _ => .object "NoneWords$Search"
theorem nm_N : ∀ a, a < 4 → ∀ b, b < 4 → a ≠ b → (T_N a).2.1 ≠ (T_N b).2.1 := by decide +kernel
theorem tk_N : ∀ k, k < 4 → parseFieldDescriptor (T_N k).2.2.1 = some (ty_N k) := by decide +kernel
theorem in_N : ∀ z ∈ u_ws "NoneWords" T_N 4, z ∈ TB := by decide +kernel
def T_K : u_T := fun k => match k with
  | 0 => ("NoneWordsModel", "code", "I", false)
  | 1 => ("NoneWordsModel", "versions", "[I", true)
  | 2 => ("NoneWordsModel", "names", "I", false)
  | 3 => ("NoneWordsModel", "nodes", "I", false)
  | 4 => ("NoneWordsModel", "kind", "[I", true)
  | 5 => ("NoneWordsModel", "one", "[I", true)
  | 6 => ("NoneWordsModel", "oneSet", "[I", true)
  | 7 => ("NoneWordsModel", "two", "[I", true)
  | 8 => ("NoneWordsModel", "twoSet", "[I", true)
  | 9 => ("NoneWordsModel", "has", "[Z", true)
  | 10 => ("NoneWordsModel", "says", "[Z", true)
  | 11 => ("NoneWordsModel", "out", "[I", true)
  | 12 => ("NoneWordsModel", "begins", "[I", true)
  | 13 => ("NoneWordsModel", "lines", "[I", true)
  | 14 => ("NoneWordsModel", "number", "[I", true)
  | 15 => ("NoneWordsModel", "used", "[I", true)
  | 16 => ("NoneWordsModel", "size", "I", false)
  | 17 => ("NoneWordsModel", "sentences", "I", false)
  | 18 => ("NoneWordsModel", "numbers", "I", false)
  | 19 => ("NoneWordsModel", "in", "[Z", true)
  | 20 => ("NoneWordsModel", "pile", "[I", true)
  | 21 => ("NoneWordsModel", "steps", "[I", true)
  | 22 => ("NoneWordsModel", "kept", "[I", true)
  | 23 => ("NoneWordsModel", "piled", "I", false)
  | 24 => ("NoneWordsModel", "world", "[I", true)
  | 25 => ("NoneWordsModel", "away", "[Z", true)
  | 26 => ("NoneWordsModel", "stay", "[I", true)
  | _ => ("NoneWordsModel", "stays", "I", false)
def ty_K : Nat → FieldType := fun k => match k with
  | 0 => .int
  | 1 => .array .int
  | 2 => .int
  | 3 => .int
  | 4 => .array .int
  | 5 => .array .int
  | 6 => .array .int
  | 7 => .array .int
  | 8 => .array .int
  | 9 => .array .boolean
  | 10 => .array .boolean
  | 11 => .array .int
  | 12 => .array .int
  | 13 => .array .int
  | 14 => .array .int
  | 15 => .array .int
  | 16 => .int
  | 17 => .int
  | 18 => .int
  | 19 => .array .boolean
  | 20 => .array .int
  | 21 => .array .int
  | 22 => .array .int
  | 23 => .int
  | 24 => .array .int
  | 25 => .array .boolean
  | 26 => .array .int
  | _ => .int
theorem nm_K : ∀ a, a < 28 → ∀ b, b < 28 → a ≠ b → (T_K a).2.1 ≠ (T_K b).2.1 := by decide +kernel
theorem tk_K : ∀ k, k < 28 → parseFieldDescriptor (T_K k).2.2.1 = some (ty_K k) := by decide +kernel
theorem in_K : ∀ z ∈ u_ws "NoneWordsModel" T_K 28, z ∈ TB := by decide +kernel
abbrev vwCl : List vw_C := [("NoneWords$Facts", T_F, 11), ("NoneWords$Search", T_S, 5), ("NoneWords$Speech", T_P, 5), ("NoneWords$Writer", T_W, 15), ("NoneWords", T_N, 4), ("NoneWordsModel", T_K, 28)]
theorem clg_0 : vwCl[0]? = some ("NoneWords$Facts", T_F, 11) := rfl
theorem clg_1 : vwCl[1]? = some ("NoneWords$Search", T_S, 5) := rfl
theorem clg_2 : vwCl[2]? = some ("NoneWords$Speech", T_P, 5) := rfl
theorem clg_3 : vwCl[3]? = some ("NoneWords$Writer", T_W, 15) := rfl
theorem clg_4 : vwCl[4]? = some ("NoneWords", T_N, 4) := rfl
theorem clg_5 : vwCl[5]? = some ("NoneWordsModel", T_K, 28) := rfl
end
section
/-! GW: the machine at a frame, whatever the heap is that holds the world w and whatever the locals are that hold lv -/
abbrev Mem : Type := Nat → Nat → Int32
/-- a cell's number at a place is written -/
def ms (M : Mem) (q i : Nat) (x : Int32) : Mem := fun q2 => if q2 = q then upd (M q) i x else M q2
/-- what a method takes as given of cells outside its world (texts): it lasts -/
abbrev gw_Z : Type := (Nat → Prop) → State → Heap → Prop
def gw_ZOK (Z : gw_Z) : Prop := (∀ (A B : Nat → Prop) (u U : State) (H H1 : Heap), u.WarmedH U.vm → (∀ q, B q → A q) → (∀ a : Nat, a < H.size → ¬ A a → H1[a]? = H[a]?) → Z A u H → Z B U H1) ∧ ∀ (A : Nat → Prop) (u U : State) (H : Heap), U.vm = u.vm → Z A u H → Z A U H
def gw_Z0 : gw_Z := fun _ _ _ => True
theorem gw_Z0_ok : gw_ZOK gw_Z0 := ⟨fun _ _ _ _ _ _ _ _ _ _ => trivial, fun _ _ _ _ _ _ => trivial⟩
def GC (p : Program) (s : State) (m : MethodId) (args : Array Value) (meth : Method) (c : Code) (cc : ByteArray) (nL : Nat) (ret : Option FieldType) (own : String) (Ts : List Cond) (D : va_G) (cl : List vw_C) (tys : List (ClassId × FieldType)) (A : Nat → Prop) (Z : gw_Z) : Prop :=
  p.tables.exec = Jvm.exec ∧ c.code = cc ∧ c.maxLocals = nL ∧ s.vm.findClass own = some m.cls ∧ (∀ w ∈ Ts, w.before args s = true) ∧ va_K D cl tys s ∧ meth.locks = false ∧ meth.sig.returnType = ret ∧ (∀ q : Nat, s.heap.size ≤ q → A q) ∧ Z A s s.heap ∧ gw_ZOK Z
def GW (p : Program) (l : Launch) (e : Env) (R : Room) (s : State) (m : MethodId) (args : Array Value) (below : List Frame) (meth : Method) (c : Code) (Q : State → Prop) (D : va_G) (cl : List vw_C) (A : Nat → Prop) (nL cells slots : Nat) (w : va_W) (pc : Nat) (lv : List (Nat × Value)) (st : List Value) : Prop :=
  ∀ (H : Heap) (locs : List Loc) (ls : Array Slot), va_P D cl w H → va_D A w → va_S A s.heap H locs → lv_has ls nL lv → W p l e R s m args below meth c H locs cells slots Q (F0 m pc ls st)
/-- a method's end: its answer, the world behind it, and nothing else changed -/
def QW (D : va_G) (cl : List vw_C) (tys : List (ClassId × FieldType)) (A : Nat → Prop) (oc : Option Value) (wf : va_W) : Array Value → State → Outcome → State → Prop := fun _ st o t =>
  o = .returned oc ∧ va_P D cl wf t.heap ∧ va_K D cl tys t ∧ va_D A wf ∧ va_F A st t
/-- a contract over a world -/
def CW (l : Launch) (y : MethodName) (ws : List Cond) (rm : Room) (D : va_G) (cl : List vw_C) (tys : List (ClassId × FieldType)) (Z : gw_Z) (av : List Value) (w : va_W) (oc : Option Value) (wf : va_W) (mc ms : Nat) : Prop :=
  ∀ sz : Nat, Met l y ws rm (va_Pc av (fun U => U.heap.size = sz ∧ va_P D cl w U.heap ∧ va_K D cl tys U ∧ va_D (fun _ => True) w ∧ Z (va_A w sz) U U.heap)) (QW D cl tys (va_A w sz) oc wf) mc ms (va_A w sz)
section GWS
variable {p : Program} {l : Launch} {e : Env} {R : Room} {s : State} {m : MethodId} {args : Array Value} {below : List Frame} {meth : Method} {c : Code} {Q : State → Prop} {D : va_G} {cl : List vw_C} {tys : List (ClassId × FieldType)} {A : Nat → Prop} {nL cells slots : Nat} {w : va_W} {pc : Nat} {lv lv' : List (Nat × Value)} {st : List Value} {cc : ByteArray} {ret : Option FieldType} {own : String} {Ts : List Cond} {Z : gw_Z}
theorem gw_iconst (C : GC p s m args meth c cc nL ret own Ts D cl tys A Z) {n : Int} {v : Int32} (hd : decode cc pc = .ok (.iconst n, 1)) (hv : Int32.ofInt n = v) (k : GW p l e R s m args below meth c Q D cl A nL cells slots w (pc + 1) lv (.int v :: st)) : GW p l e R s m args below meth c Q D cl A nL cells slots w pc lv st :=
  fun H locs ls hP hD hS hl => lv_iconst C.1 C.2.1 hd hv (k H locs ls hP hD hS hl)
theorem gw_bipush (C : GC p s m args meth c cc nL ret own Ts D cl tys A Z) {n : Int} {v : Int32} (hd : decode cc pc = .ok (.bipush n, 2)) (hv : (Int8.ofInt n).toInt32 = v) (k : GW p l e R s m args below meth c Q D cl A nL cells slots w (pc + 2) lv (.int v :: st)) : GW p l e R s m args below meth c Q D cl A nL cells slots w pc lv st :=
  fun H locs ls hP hD hS hl => lv_bipush C.1 C.2.1 hd hv (k H locs ls hP hD hS hl)
theorem gw_sipush (C : GC p s m args meth c cc nL ret own Ts D cl tys A Z) {n : Int} {v : Int32} (hd : decode cc pc = .ok (.sipush n, 3)) (hv : (Int16.ofInt n).toInt32 = v) (k : GW p l e R s m args below meth c Q D cl A nL cells slots w (pc + 3) lv (.int v :: st)) : GW p l e R s m args below meth c Q D cl A nL cells slots w pc lv st :=
  fun H locs ls hP hD hS hl => lv_sipush C.1 C.2.1 hd hv (k H locs ls hP hD hS hl)
theorem gw_ldc (C : GC p s m args meth c cc nL ret own Ts D cl tys A Z) {index : Nat} {v : Int32} (hd : decode cc pc = .ok (.ldc index, 2)) (hc : Cond.constant own index v ∈ Ts) (k : GW p l e R s m args below meth c Q D cl A nL cells slots w (pc + 2) lv (.int v :: st)) : GW p l e R s m args below meth c Q D cl A nL cells slots w pc lv st :=
  fun H locs ls hP hD hS hl => lv_ldc C.1 C.2.1 C.2.2.2.1 (C.2.2.2.2.1 _ hc) hd (k H locs ls hP hD hS hl)
theorem gw_iload_n (C : GC p s m args meth c cc nL ret own Ts D cl tys A Z) {f : Fin 4} {i : Nat} {x : Int32} (j : Nat) (hd : decode cc pc = .ok (.iload_n f, 1)) (hi : (f : Nat) = i) (hj : lv[j]? = some (i, .int x)) (k : GW p l e R s m args below meth c Q D cl A nL cells slots w (pc + 1) lv (.int x :: st)) : GW p l e R s m args below meth c Q D cl A nL cells slots w pc lv st :=
  fun H locs ls hP hD hS hl => lv_iload_n C.1 C.2.1 hd hi (lv_at hl j hj) (k H locs ls hP hD hS hl)
theorem gw_iload (C : GC p s m args meth c cc nL ret own Ts D cl tys A Z) {i : Nat} {x : Int32} (j : Nat) (hd : decode cc pc = .ok (.iload i, 2)) (hj : lv[j]? = some (i, .int x)) (k : GW p l e R s m args below meth c Q D cl A nL cells slots w (pc + 2) lv (.int x :: st)) : GW p l e R s m args below meth c Q D cl A nL cells slots w pc lv st :=
  fun H locs ls hP hD hS hl => lv_iload C.1 C.2.1 hd (lv_at hl j hj) (k H locs ls hP hD hS hl)
theorem gw_aload_n (C : GC p s m args meth c cc nL ret own Ts D cl tys A Z) {f : Fin 4} {i x : Nat} (j : Nat) (hd : decode cc pc = .ok (.aload_n f, 1)) (hi : (f : Nat) = i) (hj : lv[j]? = some (i, .ref x)) (k : GW p l e R s m args below meth c Q D cl A nL cells slots w (pc + 1) lv (.ref x :: st)) : GW p l e R s m args below meth c Q D cl A nL cells slots w pc lv st :=
  fun H locs ls hP hD hS hl => lv_aload_n C.1 C.2.1 hd hi (lv_at hl j hj) (k H locs ls hP hD hS hl)
theorem gw_aload (C : GC p s m args meth c cc nL ret own Ts D cl tys A Z) {i x : Nat} (j : Nat) (hd : decode cc pc = .ok (.aload i, 2)) (hj : lv[j]? = some (i, .ref x)) (k : GW p l e R s m args below meth c Q D cl A nL cells slots w (pc + 2) lv (.ref x :: st)) : GW p l e R s m args below meth c Q D cl A nL cells slots w pc lv st :=
  fun H locs ls hP hD hS hl => lv_aload C.1 C.2.1 hd (lv_at hl j hj) (k H locs ls hP hD hS hl)
/-- the locals behind a store of one slot -/
def gw_sto (lv : List (Nat × Value)) (i : Nat) (v : Value) : List (Nat × Value) := (i, v) :: lv.filter (fun q => !(q.1 == i) && !(q.1 + 1 == i && q.2.category == 2))
theorem gw_istore_n (C : GC p s m args meth c cc nL ret own Ts D cl tys A Z) {f : Fin 4} {i : Nat} {x : Int32} (hd : decode cc pc = .ok (.istore_n f, 1)) (hi : (f : Nat) = i) (hn : i < nL) (hl' : gw_sto lv i (.int x) = lv') (k : GW p l e R s m args below meth c Q D cl A nL cells slots w (pc + 1) lv' st) : GW p l e R s m args below meth c Q D cl A nL cells slots w pc lv (.int x :: st) :=
  fun H locs _ hP hD hS hl => lv_istore_n C.1 C.2.1 hd hi hl hn hl' (fun ls hl => k H locs ls hP hD hS hl)
theorem gw_istore (C : GC p s m args meth c cc nL ret own Ts D cl tys A Z) {i : Nat} {x : Int32} (hd : decode cc pc = .ok (.istore i, 2)) (hn : i < nL) (hl' : gw_sto lv i (.int x) = lv') (k : GW p l e R s m args below meth c Q D cl A nL cells slots w (pc + 2) lv' st) : GW p l e R s m args below meth c Q D cl A nL cells slots w pc lv (.int x :: st) :=
  fun H locs _ hP hD hS hl => lv_istore C.1 C.2.1 hd hl hn hl' (fun ls hl => k H locs ls hP hD hS hl)
theorem gw_astore_n (C : GC p s m args meth c cc nL ret own Ts D cl tys A Z) {f : Fin 4} {i x : Nat} (hd : decode cc pc = .ok (.astore_n f, 1)) (hi : (f : Nat) = i) (hn : i < nL) (hl' : gw_sto lv i (.ref x) = lv') (k : GW p l e R s m args below meth c Q D cl A nL cells slots w (pc + 1) lv' st) : GW p l e R s m args below meth c Q D cl A nL cells slots w pc lv (.ref x :: st) :=
  fun H locs _ hP hD hS hl => lv_astore_n C.1 C.2.1 hd hi hl hn hl' (fun ls hl => k H locs ls hP hD hS hl)
theorem gw_astore (C : GC p s m args meth c cc nL ret own Ts D cl tys A Z) {i x : Nat} (hd : decode cc pc = .ok (.astore i, 2)) (hn : i < nL) (hl' : gw_sto lv i (.ref x) = lv') (k : GW p l e R s m args below meth c Q D cl A nL cells slots w (pc + 2) lv' st) : GW p l e R s m args below meth c Q D cl A nL cells slots w pc lv (.ref x :: st) :=
  fun H locs _ hP hD hS hl => lv_astore C.1 C.2.1 hd hl hn hl' (fun ls hl => k H locs ls hP hD hS hl)
theorem gw_iinc (C : GC p s m args meth c cc nL ret own Ts D cl tys A Z) {i : Nat} {n : Int} {x v : Int32} (j : Nat) (hd : decode cc pc = .ok (.iinc i n, 3)) (hj : lv[j]? = some (i, .int x)) (hv : x + Int32.ofInt n = v) (hn : i < nL) (hl' : gw_sto lv i (.int v) = lv') (k : GW p l e R s m args below meth c Q D cl A nL cells slots w (pc + 3) lv' st) : GW p l e R s m args below meth c Q D cl A nL cells slots w pc lv st :=
  fun H locs _ hP hD hS hl => lv_iinc C.1 C.2.1 hd hl hj hv hn hl' (fun ls hl => k H locs ls hP hD hS hl)
/-- fewer listed locals, in another order -/
theorem gw_sub (ks : List Nat) (hl' : lv_pick lv ks = lv') (k : GW p l e R s m args below meth c Q D cl A nL cells slots w pc lv' st) : GW p l e R s m args below meth c Q D cl A nL cells slots w pc lv st :=
  fun H locs ls hP hD hS hl => k H locs ls hP hD hS (lv_sub hl ks hl')
theorem gw_iadd (C : GC p s m args meth c cc nL ret own Ts D cl tys A Z) {x y : Int32} (hd : decode cc pc = .ok (.iadd, 1)) (k : GW p l e R s m args below meth c Q D cl A nL cells slots w (pc + 1) lv (.int (x + y) :: st)) : GW p l e R s m args below meth c Q D cl A nL cells slots w pc lv (.int y :: .int x :: st) :=
  fun H locs ls hP hD hS hl => lv_iadd C.1 C.2.1 hd (k H locs ls hP hD hS hl)
theorem gw_isub (C : GC p s m args meth c cc nL ret own Ts D cl tys A Z) {x y : Int32} (hd : decode cc pc = .ok (.isub, 1)) (k : GW p l e R s m args below meth c Q D cl A nL cells slots w (pc + 1) lv (.int (x - y) :: st)) : GW p l e R s m args below meth c Q D cl A nL cells slots w pc lv (.int y :: .int x :: st) :=
  fun H locs ls hP hD hS hl => lv_isub C.1 C.2.1 hd (k H locs ls hP hD hS hl)
theorem gw_imul (C : GC p s m args meth c cc nL ret own Ts D cl tys A Z) {x y : Int32} (hd : decode cc pc = .ok (.imul, 1)) (k : GW p l e R s m args below meth c Q D cl A nL cells slots w (pc + 1) lv (.int (x * y) :: st)) : GW p l e R s m args below meth c Q D cl A nL cells slots w pc lv (.int y :: .int x :: st) :=
  fun H locs ls hP hD hS hl => lv_imul C.1 C.2.1 hd (k H locs ls hP hD hS hl)
theorem gw_iand (C : GC p s m args meth c cc nL ret own Ts D cl tys A Z) {x y : Int32} (hd : decode cc pc = .ok (.iand, 1)) (k : GW p l e R s m args below meth c Q D cl A nL cells slots w (pc + 1) lv (.int (x &&& y) :: st)) : GW p l e R s m args below meth c Q D cl A nL cells slots w pc lv (.int y :: .int x :: st) :=
  fun H locs ls hP hD hS hl => lv_iand C.1 C.2.1 hd (k H locs ls hP hD hS hl)
theorem gw_ior (C : GC p s m args meth c cc nL ret own Ts D cl tys A Z) {x y : Int32} (hd : decode cc pc = .ok (.ior, 1)) (k : GW p l e R s m args below meth c Q D cl A nL cells slots w (pc + 1) lv (.int (x ||| y) :: st)) : GW p l e R s m args below meth c Q D cl A nL cells slots w pc lv (.int y :: .int x :: st) :=
  fun H locs ls hP hD hS hl => lv_ior C.1 C.2.1 hd (k H locs ls hP hD hS hl)
theorem gw_ixor (C : GC p s m args meth c cc nL ret own Ts D cl tys A Z) {x y : Int32} (hd : decode cc pc = .ok (.ixor, 1)) (k : GW p l e R s m args below meth c Q D cl A nL cells slots w (pc + 1) lv (.int (x ^^^ y) :: st)) : GW p l e R s m args below meth c Q D cl A nL cells slots w pc lv (.int y :: .int x :: st) :=
  fun H locs ls hP hD hS hl => lv_ixor C.1 C.2.1 hd (k H locs ls hP hD hS hl)
theorem gw_ishl (C : GC p s m args meth c cc nL ret own Ts D cl tys A Z) {x y : Int32} (hd : decode cc pc = .ok (.ishl, 1)) (k : GW p l e R s m args below meth c Q D cl A nL cells slots w (pc + 1) lv (.int (x <<< (y &&& 31)) :: st)) : GW p l e R s m args below meth c Q D cl A nL cells slots w pc lv (.int y :: .int x :: st) :=
  fun H locs ls hP hD hS hl => lv_ishl C.1 C.2.1 hd (k H locs ls hP hD hS hl)
theorem gw_ishr (C : GC p s m args meth c cc nL ret own Ts D cl tys A Z) {x y : Int32} (hd : decode cc pc = .ok (.ishr, 1)) (k : GW p l e R s m args below meth c Q D cl A nL cells slots w (pc + 1) lv (.int (x >>> (y &&& 31)) :: st)) : GW p l e R s m args below meth c Q D cl A nL cells slots w pc lv (.int y :: .int x :: st) :=
  fun H locs ls hP hD hS hl => lv_ishr C.1 C.2.1 hd (k H locs ls hP hD hS hl)
theorem gw_idiv (C : GC p s m args meth c cc nL ret own Ts D cl tys A Z) {x y : Int32} (hd : decode cc pc = .ok (.idiv, 1)) (hne : ¬ y = 0) (k : GW p l e R s m args below meth c Q D cl A nL cells slots w (pc + 1) lv (.int (x / y) :: st)) : GW p l e R s m args below meth c Q D cl A nL cells slots w pc lv (.int y :: .int x :: st) :=
  fun H locs ls hP hD hS hl => lv_idiv C.1 C.2.1 hd hne (k H locs ls hP hD hS hl)
theorem gw_irem (C : GC p s m args meth c cc nL ret own Ts D cl tys A Z) {x y : Int32} (hd : decode cc pc = .ok (.irem, 1)) (hne : ¬ y = 0) (k : GW p l e R s m args below meth c Q D cl A nL cells slots w (pc + 1) lv (.int (x - x / y * y) :: st)) : GW p l e R s m args below meth c Q D cl A nL cells slots w pc lv (.int y :: .int x :: st) :=
  fun H locs ls hP hD hS hl => lv_irem C.1 C.2.1 hd hne (k H locs ls hP hD hS hl)
theorem gw_ineg (C : GC p s m args meth c cc nL ret own Ts D cl tys A Z) {x : Int32} (hd : decode cc pc = .ok (.ineg, 1)) (k : GW p l e R s m args below meth c Q D cl A nL cells slots w (pc + 1) lv (.int (-x) :: st)) : GW p l e R s m args below meth c Q D cl A nL cells slots w pc lv (.int x :: st) :=
  fun H locs ls hP hD hS hl => lv_ineg C.1 C.2.1 hd (k H locs ls hP hD hS hl)
theorem gw_iushr (C : GC p s m args meth c cc nL ret own Ts D cl tys A Z) {x y : Int32} (hd : decode cc pc = .ok (.iushr, 1)) (k : GW p l e R s m args below meth c Q D cl A nL cells slots w (pc + 1) lv (.int (x.toUInt32 >>> (y.toUInt32 &&& Int32.toUInt32 31)).toInt32 :: st)) : GW p l e R s m args below meth c Q D cl A nL cells slots w pc lv (.int y :: .int x :: st) :=
  fun H locs ls hP hD hS hl => lv_iushr C.1 C.2.1 hd rfl (k H locs ls hP hD hS hl)
theorem gw_i2c (C : GC p s m args meth c cc nL ret own Ts D cl tys A Z) {x : Int32} (hd : decode cc pc = .ok (.i2c, 1)) (k : GW p l e R s m args below meth c Q D cl A nL cells slots w (pc + 1) lv (.int (x.toUInt32 % 65536).toInt32 :: st)) : GW p l e R s m args below meth c Q D cl A nL cells slots w pc lv (.int x :: st) :=
  fun H locs ls hP hD hS hl => lv_i2c C.1 C.2.1 hd rfl (k H locs ls hP hD hS hl)
theorem gw_i2b (C : GC p s m args meth c cc nL ret own Ts D cl tys A Z) {x : Int32} (hd : decode cc pc = .ok (.i2b, 1)) (k : GW p l e R s m args below meth c Q D cl A nL cells slots w (pc + 1) lv (.int x.toInt8.toInt32 :: st)) : GW p l e R s m args below meth c Q D cl A nL cells slots w pc lv (.int x :: st) :=
  fun H locs ls hP hD hS hl => lv_i2b C.1 C.2.1 hd rfl (k H locs ls hP hD hS hl)
theorem gw_dup (C : GC p s m args meth c cc nL ret own Ts D cl tys A Z) {va : Value} (hd : decode cc pc = .ok (.dup, 1)) (hva : va.category = 1) (k : GW p l e R s m args below meth c Q D cl A nL cells slots w (pc + 1) lv (va :: va :: st)) : GW p l e R s m args below meth c Q D cl A nL cells slots w pc lv (va :: st) :=
  fun H locs ls hP hD hS hl => lv_dup C.1 C.2.1 hd hva (k H locs ls hP hD hS hl)
theorem gw_pop (C : GC p s m args meth c cc nL ret own Ts D cl tys A Z) {va : Value} (hd : decode cc pc = .ok (.pop, 1)) (hva : va.category = 1) (k : GW p l e R s m args below meth c Q D cl A nL cells slots w (pc + 1) lv st) : GW p l e R s m args below meth c Q D cl A nL cells slots w pc lv (va :: st) :=
  fun H locs ls hP hD hS hl => lv_pop C.1 C.2.1 hd hva (k H locs ls hP hD hS hl)
theorem gw_dup_x1 (C : GC p s m args meth c cc nL ret own Ts D cl tys A Z) {va vb : Value} (hd : decode cc pc = .ok (.dup_x1, 1)) (hva : va.category = 1) (hvb : vb.category = 1) (k : GW p l e R s m args below meth c Q D cl A nL cells slots w (pc + 1) lv (va :: vb :: va :: st)) : GW p l e R s m args below meth c Q D cl A nL cells slots w pc lv (va :: vb :: st) :=
  fun H locs ls hP hD hS hl => lv_dup_x1 C.1 C.2.1 hd hva hvb (k H locs ls hP hD hS hl)
theorem gw_dup_x2 (C : GC p s m args meth c cc nL ret own Ts D cl tys A Z) {va vb vd : Value} (hd : decode cc pc = .ok (.dup_x2, 1)) (hva : va.category = 1) (hvb : vb.category = 1) (hvd : vd.category = 1) (k : GW p l e R s m args below meth c Q D cl A nL cells slots w (pc + 1) lv (va :: vb :: vd :: va :: st)) : GW p l e R s m args below meth c Q D cl A nL cells slots w pc lv (va :: vb :: vd :: st) :=
  fun H locs ls hP hD hS hl => lv_dup_x2 C.1 C.2.1 hd hva hvb hvd (k H locs ls hP hD hS hl)
theorem gw_dup2 (C : GC p s m args meth c cc nL ret own Ts D cl tys A Z) {va vb : Value} (hd : decode cc pc = .ok (.dup2, 1)) (hva : va.category = 1) (hvb : vb.category = 1) (k : GW p l e R s m args below meth c Q D cl A nL cells slots w (pc + 1) lv (va :: vb :: va :: vb :: st)) : GW p l e R s m args below meth c Q D cl A nL cells slots w pc lv (va :: vb :: st) :=
  fun H locs ls hP hD hS hl => lv_dup2_11 C.1 C.2.1 hd hva hvb (k H locs ls hP hD hS hl)
theorem gw_if_eq (C : GC p s m args meth c cc nL ret own Ts D cl tys A Z) {x : Int32} {off : Int} {tgt : Nat} (hd : decode cc pc = .ok (.ifCond .eq off, 3)) (ht : (pc : Int) + off = (tgt : Int)) (kt : x = 0 → GW p l e R s m args below meth c Q D cl A nL cells slots w tgt lv st) (kf : ¬ (x = 0) → GW p l e R s m args below meth c Q D cl A nL cells slots w (pc + 3) lv st) : GW p l e R s m args below meth c Q D cl A nL cells slots w pc lv (.int x :: st) :=
  fun H locs ls hP hD hS hl => lv_if_eq C.1 C.2.1 hd ht (fun h => kt h H locs ls hP hD hS hl) (fun h => kf h H locs ls hP hD hS hl)
theorem gw_icmp_eq (C : GC p s m args meth c cc nL ret own Ts D cl tys A Z) {x y : Int32} {off : Int} {tgt : Nat} (hd : decode cc pc = .ok (.if_icmp .eq off, 3)) (ht : (pc : Int) + off = (tgt : Int)) (kt : x = y → GW p l e R s m args below meth c Q D cl A nL cells slots w tgt lv st) (kf : ¬ (x = y) → GW p l e R s m args below meth c Q D cl A nL cells slots w (pc + 3) lv st) : GW p l e R s m args below meth c Q D cl A nL cells slots w pc lv (.int y :: .int x :: st) :=
  fun H locs ls hP hD hS hl => lv_icmp_eq C.1 C.2.1 hd ht (fun h => kt h H locs ls hP hD hS hl) (fun h => kf h H locs ls hP hD hS hl)
theorem gw_if_ne (C : GC p s m args meth c cc nL ret own Ts D cl tys A Z) {x : Int32} {off : Int} {tgt : Nat} (hd : decode cc pc = .ok (.ifCond .ne off, 3)) (ht : (pc : Int) + off = (tgt : Int)) (kt : ¬ x = 0 → GW p l e R s m args below meth c Q D cl A nL cells slots w tgt lv st) (kf : x = 0 → GW p l e R s m args below meth c Q D cl A nL cells slots w (pc + 3) lv st) : GW p l e R s m args below meth c Q D cl A nL cells slots w pc lv (.int x :: st) :=
  fun H locs ls hP hD hS hl => lv_if_ne C.1 C.2.1 hd ht (fun h => kt h H locs ls hP hD hS hl) (fun h => kf h H locs ls hP hD hS hl)
theorem gw_icmp_ne (C : GC p s m args meth c cc nL ret own Ts D cl tys A Z) {x y : Int32} {off : Int} {tgt : Nat} (hd : decode cc pc = .ok (.if_icmp .ne off, 3)) (ht : (pc : Int) + off = (tgt : Int)) (kt : ¬ x = y → GW p l e R s m args below meth c Q D cl A nL cells slots w tgt lv st) (kf : x = y → GW p l e R s m args below meth c Q D cl A nL cells slots w (pc + 3) lv st) : GW p l e R s m args below meth c Q D cl A nL cells slots w pc lv (.int y :: .int x :: st) :=
  fun H locs ls hP hD hS hl => lv_icmp_ne C.1 C.2.1 hd ht (fun h => kt h H locs ls hP hD hS hl) (fun h => kf h H locs ls hP hD hS hl)
theorem gw_if_lt (C : GC p s m args meth c cc nL ret own Ts D cl tys A Z) {x : Int32} {off : Int} {tgt : Nat} (hd : decode cc pc = .ok (.ifCond .lt off, 3)) (ht : (pc : Int) + off = (tgt : Int)) (kt : x < 0 → GW p l e R s m args below meth c Q D cl A nL cells slots w tgt lv st) (kf : ¬ (x < 0) → GW p l e R s m args below meth c Q D cl A nL cells slots w (pc + 3) lv st) : GW p l e R s m args below meth c Q D cl A nL cells slots w pc lv (.int x :: st) :=
  fun H locs ls hP hD hS hl => lv_if_lt C.1 C.2.1 hd ht (fun h => kt h H locs ls hP hD hS hl) (fun h => kf h H locs ls hP hD hS hl)
theorem gw_icmp_lt (C : GC p s m args meth c cc nL ret own Ts D cl tys A Z) {x y : Int32} {off : Int} {tgt : Nat} (hd : decode cc pc = .ok (.if_icmp .lt off, 3)) (ht : (pc : Int) + off = (tgt : Int)) (kt : x < y → GW p l e R s m args below meth c Q D cl A nL cells slots w tgt lv st) (kf : ¬ (x < y) → GW p l e R s m args below meth c Q D cl A nL cells slots w (pc + 3) lv st) : GW p l e R s m args below meth c Q D cl A nL cells slots w pc lv (.int y :: .int x :: st) :=
  fun H locs ls hP hD hS hl => lv_icmp_lt C.1 C.2.1 hd ht (fun h => kt h H locs ls hP hD hS hl) (fun h => kf h H locs ls hP hD hS hl)
theorem gw_if_ge (C : GC p s m args meth c cc nL ret own Ts D cl tys A Z) {x : Int32} {off : Int} {tgt : Nat} (hd : decode cc pc = .ok (.ifCond .ge off, 3)) (ht : (pc : Int) + off = (tgt : Int)) (kt : 0 ≤ x → GW p l e R s m args below meth c Q D cl A nL cells slots w tgt lv st) (kf : ¬ (0 ≤ x) → GW p l e R s m args below meth c Q D cl A nL cells slots w (pc + 3) lv st) : GW p l e R s m args below meth c Q D cl A nL cells slots w pc lv (.int x :: st) :=
  fun H locs ls hP hD hS hl => lv_if_ge C.1 C.2.1 hd ht (fun h => kt h H locs ls hP hD hS hl) (fun h => kf h H locs ls hP hD hS hl)
theorem gw_icmp_ge (C : GC p s m args meth c cc nL ret own Ts D cl tys A Z) {x y : Int32} {off : Int} {tgt : Nat} (hd : decode cc pc = .ok (.if_icmp .ge off, 3)) (ht : (pc : Int) + off = (tgt : Int)) (kt : y ≤ x → GW p l e R s m args below meth c Q D cl A nL cells slots w tgt lv st) (kf : ¬ (y ≤ x) → GW p l e R s m args below meth c Q D cl A nL cells slots w (pc + 3) lv st) : GW p l e R s m args below meth c Q D cl A nL cells slots w pc lv (.int y :: .int x :: st) :=
  fun H locs ls hP hD hS hl => lv_icmp_ge C.1 C.2.1 hd ht (fun h => kt h H locs ls hP hD hS hl) (fun h => kf h H locs ls hP hD hS hl)
theorem gw_if_gt (C : GC p s m args meth c cc nL ret own Ts D cl tys A Z) {x : Int32} {off : Int} {tgt : Nat} (hd : decode cc pc = .ok (.ifCond .gt off, 3)) (ht : (pc : Int) + off = (tgt : Int)) (kt : 0 < x → GW p l e R s m args below meth c Q D cl A nL cells slots w tgt lv st) (kf : ¬ (0 < x) → GW p l e R s m args below meth c Q D cl A nL cells slots w (pc + 3) lv st) : GW p l e R s m args below meth c Q D cl A nL cells slots w pc lv (.int x :: st) :=
  fun H locs ls hP hD hS hl => lv_if_gt C.1 C.2.1 hd ht (fun h => kt h H locs ls hP hD hS hl) (fun h => kf h H locs ls hP hD hS hl)
theorem gw_icmp_gt (C : GC p s m args meth c cc nL ret own Ts D cl tys A Z) {x y : Int32} {off : Int} {tgt : Nat} (hd : decode cc pc = .ok (.if_icmp .gt off, 3)) (ht : (pc : Int) + off = (tgt : Int)) (kt : y < x → GW p l e R s m args below meth c Q D cl A nL cells slots w tgt lv st) (kf : ¬ (y < x) → GW p l e R s m args below meth c Q D cl A nL cells slots w (pc + 3) lv st) : GW p l e R s m args below meth c Q D cl A nL cells slots w pc lv (.int y :: .int x :: st) :=
  fun H locs ls hP hD hS hl => lv_icmp_gt C.1 C.2.1 hd ht (fun h => kt h H locs ls hP hD hS hl) (fun h => kf h H locs ls hP hD hS hl)
theorem gw_if_le (C : GC p s m args meth c cc nL ret own Ts D cl tys A Z) {x : Int32} {off : Int} {tgt : Nat} (hd : decode cc pc = .ok (.ifCond .le off, 3)) (ht : (pc : Int) + off = (tgt : Int)) (kt : x ≤ 0 → GW p l e R s m args below meth c Q D cl A nL cells slots w tgt lv st) (kf : ¬ (x ≤ 0) → GW p l e R s m args below meth c Q D cl A nL cells slots w (pc + 3) lv st) : GW p l e R s m args below meth c Q D cl A nL cells slots w pc lv (.int x :: st) :=
  fun H locs ls hP hD hS hl => lv_if_le C.1 C.2.1 hd ht (fun h => kt h H locs ls hP hD hS hl) (fun h => kf h H locs ls hP hD hS hl)
theorem gw_icmp_le (C : GC p s m args meth c cc nL ret own Ts D cl tys A Z) {x y : Int32} {off : Int} {tgt : Nat} (hd : decode cc pc = .ok (.if_icmp .le off, 3)) (ht : (pc : Int) + off = (tgt : Int)) (kt : x ≤ y → GW p l e R s m args below meth c Q D cl A nL cells slots w tgt lv st) (kf : ¬ (x ≤ y) → GW p l e R s m args below meth c Q D cl A nL cells slots w (pc + 3) lv st) : GW p l e R s m args below meth c Q D cl A nL cells slots w pc lv (.int y :: .int x :: st) :=
  fun H locs ls hP hD hS hl => lv_icmp_le C.1 C.2.1 hd ht (fun h => kt h H locs ls hP hD hS hl) (fun h => kf h H locs ls hP hD hS hl)
theorem gw_goto (C : GC p s m args meth c cc nL ret own Ts D cl tys A Z) {off : Int} {tgt : Nat} (hd : decode cc pc = .ok (.goto off, 3)) (ht : (pc : Int) + off = (tgt : Int)) (k : GW p l e R s m args below meth c Q D cl A nL cells slots w tgt lv st) : GW p l e R s m args below meth c Q D cl A nL cells slots w pc lv st :=
  fun H locs ls hP hD hS hl => lv_goto C.1 C.2.1 hd ht (k H locs ls hP hD hS hl)
theorem gw_lookup (C : GC p s m args meth c cc nL ret own Ts D cl tys A Z) {dflt : Int} {ps : Array (Int × Int)} {len : Nat} {x : Int32} {off : Int} {tgt : Nat} (hd : decode cc pc = .ok (.lookupswitch dflt ps, len)) (hp : (ps.toList.zip (ps.toList.drop 1)).all (fun (a, next) => a.1 < next.1) = true) (ho : Op.lookupswitch.offset ps.toList dflt x.toInt = off) (ht : (pc : Int) + off = (tgt : Int)) (k : GW p l e R s m args below meth c Q D cl A nL cells slots w tgt lv st) : GW p l e R s m args below meth c Q D cl A nL cells slots w pc lv (.int x :: st) :=
  fun H locs ls hP hD hS hl => lv_lookup C.1 C.2.1 hd hp ho ht (k H locs ls hP hD hS hl)
theorem gw_tableOut (C : GC p s m args meth c cc nL ret own Ts D cl tys A Z) {dflt lo hi : Int} {offs : Array Int} {len : Nat} {x : Int32} {tgt : Nat} (hd : decode cc pc = .ok (.tableswitch dflt lo hi offs, len)) (h : x.toInt < lo ∨ hi < x.toInt) (ht : (pc : Int) + dflt = (tgt : Int)) (k : GW p l e R s m args below meth c Q D cl A nL cells slots w tgt lv st) : GW p l e R s m args below meth c Q D cl A nL cells slots w pc lv (.int x :: st) :=
  fun H locs ls hP hD hS hl => lv_tableOut C.1 C.2.1 hd h ht (k H locs ls hP hD hS hl)
theorem gw_tableIn (C : GC p s m args meth c cc nL ret own Ts D cl tys A Z) {dflt lo hi : Int} {offs : Array Int} {len : Nat} {x : Int32} {off : Int} {tgt : Nat} (v : Int32) (hv : x = v) (hd : decode cc pc = .ok (.tableswitch dflt lo hi offs, len)) (h1 : ¬ v.toInt < lo) (h2 : ¬ hi < v.toInt) (ho : offs[(v.toInt - lo).toNat]? = some off) (ht : (pc : Int) + off = (tgt : Int)) (k : GW p l e R s m args below meth c Q D cl A nL cells slots w tgt lv st) : GW p l e R s m args below meth c Q D cl A nL cells slots w pc lv (.int x :: st) := by
  subst hv
  exact fun H locs ls hP hD hS hl => lv_tableIn C.1 C.2.1 hd h1 h2 ho ht (k H locs ls hP hD hS hl)
theorem gw_get (C : GC p s m args meth c cc nL ret own Ts D cl tys A Z) {ref C' : String} {T : u_T} {N ci index a : Nat} (hin : ∀ z ∈ u_ws C' T N, z ∈ Ts) (q0 : Nat) {fs : List Value} (he : w[q0]? = some (a, .inr (ci, fs))) (hc : cl[ci]? = some (C', T, N)) (j : Nat) (hj : j < N) (hlink : Cond.fieldLink own index ref (T j).2.1 (T j).2.2.1 ∈ Ts) (hsame : (T j).1 = ref) {v : Value} (hv : fs[j]? = some v) (hd : decode cc pc = .ok (.getfield index, 3)) (k : GW p l e R s m args below meth c Q D cl A nL cells slots w (pc + 3) lv (v :: st)) : GW p l e R s m args below meth c Q D cl A nL cells slots w pc lv (.ref a :: st) :=
  fun H locs ls hP hD hS hl => va_get C.1 C.2.1 C.2.2.2.2.1 hin C.2.2.2.1 C.2.2.2.2.2.1 hP q0 he hc j hj (C.2.2.2.2.1 _ hlink) (fun x h => by rw [← hsame]; exact h) hv hd (k H locs ls hP hD hS hl)
theorem gw_put (C : GC p s m args meth c cc nL ret own Ts D cl tys A Z) {ref C' : String} {T : u_T} {N ci index a : Nat} (hin : ∀ z ∈ u_ws C' T N, z ∈ Ts) (ty0 : Nat → FieldType) (hty : ∀ k, k < N → parseFieldDescriptor (T k).2.2.1 = some (ty0 k)) (hnm : ∀ a, a < N → ∀ b, b < N → a ≠ b → (T a).2.1 ≠ (T b).2.1) (q0 : Nat) {fs : List Value} (he : w[q0]? = some (a, .inr (ci, fs))) (hc : cl[ci]? = some (C', T, N)) (j : Nat) (hj : j < N) (hlink : Cond.fieldLink own index ref (T j).2.1 (T j).2.2.1 ∈ Ts) (hsame : (T j).1 = ref) (hfin : (T j).2.2.2 = false) {v : Value} (hn : narrow (ty0 j) v = v) (hfit : fits (ty0 j) v = true) (hlen : j < fs.length) (hd : decode cc pc = .ok (.putfield index, 3)) {w' : va_W} (hw : w.set q0 (a, .inr (ci, fs.set j v)) = w') (k : GW p l e R s m args below meth c Q D cl A nL cells slots w' (pc + 3) lv st) : GW p l e R s m args below meth c Q D cl A nL cells slots w pc lv (v :: .ref a :: st) :=
  fun H locs ls hP hD hS hl => va_put C.1 C.2.1 C.2.2.2.2.1 hin ty0 hty hnm C.2.2.2.1 C.2.2.2.2.2.1 hP hD hS q0 he hc j hj (C.2.2.2.2.1 _ hlink) (fun x h => by rw [← hsame]; exact h) hfin (hty j hj) hn hfit hlen hd (fun H1 locs1 hP1 hD1 hS1 => k H1 locs1 ls (hw ▸ hP1) (hw ▸ hD1) hS1 hl)
theorem gw_putF (C : GC p s m args meth c cc nL ret own Ts D cl tys A Z) (hin2 : meth.name = "<init>") {C' : String} {T : u_T} {N ci index a : Nat} (hin : ∀ z ∈ u_ws C' T N, z ∈ Ts) (ty0 : Nat → FieldType) (hty : ∀ k, k < N → parseFieldDescriptor (T k).2.2.1 = some (ty0 k)) (hnm : ∀ a, a < N → ∀ b, b < N → a ≠ b → (T a).2.1 ≠ (T b).2.1) (q0 : Nat) {fs : List Value} (he : w[q0]? = some (a, .inr (ci, fs))) (hc : cl[ci]? = some (C', T, N)) (j : Nat) (hj : j < N) (hlink : Cond.fieldLink own index own (T j).2.1 (T j).2.2.1 ∈ Ts) (hsame : (T j).1 = own) (hfin : (T j).2.2.2 = true) {v : Value} (hn : narrow (ty0 j) v = v) (hfit : fits (ty0 j) v = true) (hlen : j < fs.length) (hd : decode cc pc = .ok (.putfield index, 3)) {w' : va_W} (hw : w.set q0 (a, .inr (ci, fs.set j v)) = w') (k : GW p l e R s m args below meth c Q D cl A nL cells slots w' (pc + 3) lv st) : GW p l e R s m args below meth c Q D cl A nL cells slots w pc lv (v :: .ref a :: st) :=
  fun H locs ls hP hD hS hl => va_putF C.1 C.2.1 C.2.2.2.2.1 hin ty0 hty hnm C.2.2.2.1 C.2.2.2.2.2.1 hP hD hS q0 he hc j hj (C.2.2.2.2.1 _ hlink) (fun x h => by rw [← hsame]; exact h) hfin hin2 hsame (hty j hj) hn hfit hlen hd (fun H1 locs1 hP1 hD1 hS1 => k H1 locs1 ls (hw ▸ hP1) (hw ▸ hD1) hS1 hl)
theorem gw_iald (C : GC p s m args meth c cc nL ret own Ts D cl tys A Z) (q0 t0 : Nat) {cA : ClassId} {n a : Nat} {f : Nat → Int32} (ha : w[q0]? = some (a, .inl (cA, n, .inl f))) (ht : tys[t0]? = some (cA, .int)) {i : Int32} (hin : vp_in i n) (hd : decode cc pc = .ok (.iaload, 1)) (k : GW p l e R s m args below meth c Q D cl A nL cells slots w (pc + 1) lv (.int (f i.toNatClampNeg) :: st)) : GW p l e R s m args below meth c Q D cl A nL cells slots w pc lv (.int i :: .ref a :: st) :=
  fun H locs ls hP hD hS hl => va_iald C.1 C.2.1 C.2.2.2.2.2.1 hP q0 t0 ha ht hin hd (k H locs ls hP hD hS hl)
theorem gw_zald (C : GC p s m args meth c cc nL ret own Ts D cl tys A Z) (q0 t0 : Nat) {cA : ClassId} {n a : Nat} {f : Nat → Int32} (ha : w[q0]? = some (a, .inl (cA, n, .inl f))) (ht : tys[t0]? = some (cA, .boolean)) {i : Int32} (hin : vp_in i n) (hd : decode cc pc = .ok (.baload, 1)) (k : GW p l e R s m args below meth c Q D cl A nL cells slots w (pc + 1) lv (.int (f i.toNatClampNeg) :: st)) : GW p l e R s m args below meth c Q D cl A nL cells slots w pc lv (.int i :: .ref a :: st) :=
  fun H locs ls hP hD hS hl => va_zald C.1 C.2.1 C.2.2.2.2.2.1 hP q0 t0 ha ht hin hd (k H locs ls hP hD hS hl)
theorem gw_bald (C : GC p s m args meth c cc nL ret own Ts D cl tys A Z) (q0 t0 : Nat) {cA : ClassId} {n a : Nat} {f : Nat → Int32} (ha : w[q0]? = some (a, .inl (cA, n, .inl f))) (ht : tys[t0]? = some (cA, .byte)) {i : Int32} (hin : vp_in i n) (hd : decode cc pc = .ok (.baload, 1)) (k : GW p l e R s m args below meth c Q D cl A nL cells slots w (pc + 1) lv (.int (f i.toNatClampNeg) :: st)) : GW p l e R s m args below meth c Q D cl A nL cells slots w pc lv (.int i :: .ref a :: st) :=
  fun H locs ls hP hD hS hl => va_bald C.1 C.2.1 C.2.2.2.2.2.1 hP q0 t0 ha ht hin hd (k H locs ls hP hD hS hl)
theorem gw_cald (C : GC p s m args meth c cc nL ret own Ts D cl tys A Z) (q0 t0 : Nat) {cA : ClassId} {n a : Nat} {f : Nat → Int32} (ha : w[q0]? = some (a, .inl (cA, n, .inl f))) (ht : tys[t0]? = some (cA, .char)) {i : Int32} (hin : vp_in i n) (hd : decode cc pc = .ok (.caload, 1)) (k : GW p l e R s m args below meth c Q D cl A nL cells slots w (pc + 1) lv (.int (f i.toNatClampNeg) :: st)) : GW p l e R s m args below meth c Q D cl A nL cells slots w pc lv (.int i :: .ref a :: st) :=
  fun H locs ls hP hD hS hl => va_cald C.1 C.2.1 C.2.2.2.2.2.1 hP q0 t0 ha ht hin hd (k H locs ls hP hD hS hl)
theorem gw_iast (C : GC p s m args meth c cc nL ret own Ts D cl tys A Z) (q0 t0 : Nat) {cA : ClassId} {n a : Nat} {f : Nat → Int32} (ha : w[q0]? = some (a, .inl (cA, n, .inl f))) (ht : tys[t0]? = some (cA, .int)) {i x : Int32} (hin : vp_in i n) (hd : decode cc pc = .ok (.iastore, 1)) {w' : va_W} (hw : w.set q0 (a, .inl (cA, n, .inl (upd f i.toNatClampNeg x))) = w') (k : GW p l e R s m args below meth c Q D cl A nL cells slots w' (pc + 1) lv st) : GW p l e R s m args below meth c Q D cl A nL cells slots w pc lv (.int x :: .int i :: .ref a :: st) :=
  fun H locs ls hP hD hS hl => va_iast C.1 C.2.1 C.2.2.2.2.2.1 hP hD hS q0 t0 ha ht hin hd (fun H1 locs1 hP1 hD1 hS1 => k H1 locs1 ls (hw ▸ hP1) (hw ▸ hD1) hS1 hl)
theorem gw_zast (C : GC p s m args meth c cc nL ret own Ts D cl tys A Z) (q0 t0 : Nat) {cA : ClassId} {n a : Nat} {f : Nat → Int32} (ha : w[q0]? = some (a, .inl (cA, n, .inl f))) (ht : tys[t0]? = some (cA, .boolean)) {i x : Int32} (hin : vp_in i n) (hd : decode cc pc = .ok (.bastore, 1)) {w' : va_W} (hw : w.set q0 (a, .inl (cA, n, .inl (upd f i.toNatClampNeg (vp_nar .boolean x)))) = w') (k : GW p l e R s m args below meth c Q D cl A nL cells slots w' (pc + 1) lv st) : GW p l e R s m args below meth c Q D cl A nL cells slots w pc lv (.int x :: .int i :: .ref a :: st) :=
  fun H locs ls hP hD hS hl => va_zast C.1 C.2.1 C.2.2.2.2.2.1 hP hD hS q0 t0 ha ht hin hd (fun H1 locs1 hP1 hD1 hS1 => k H1 locs1 ls (hw ▸ hP1) (hw ▸ hD1) hS1 hl)
theorem gw_bast (C : GC p s m args meth c cc nL ret own Ts D cl tys A Z) (q0 t0 : Nat) {cA : ClassId} {n a : Nat} {f : Nat → Int32} (ha : w[q0]? = some (a, .inl (cA, n, .inl f))) (ht : tys[t0]? = some (cA, .byte)) {i x : Int32} (hin : vp_in i n) (hd : decode cc pc = .ok (.bastore, 1)) {w' : va_W} (hw : w.set q0 (a, .inl (cA, n, .inl (upd f i.toNatClampNeg (vp_nar .byte x)))) = w') (k : GW p l e R s m args below meth c Q D cl A nL cells slots w' (pc + 1) lv st) : GW p l e R s m args below meth c Q D cl A nL cells slots w pc lv (.int x :: .int i :: .ref a :: st) :=
  fun H locs ls hP hD hS hl => va_bast C.1 C.2.1 C.2.2.2.2.2.1 hP hD hS q0 t0 ha ht hin hd (fun H1 locs1 hP1 hD1 hS1 => k H1 locs1 ls (hw ▸ hP1) (hw ▸ hD1) hS1 hl)
theorem gw_cast (C : GC p s m args meth c cc nL ret own Ts D cl tys A Z) (q0 t0 : Nat) {cA : ClassId} {n a : Nat} {f : Nat → Int32} (ha : w[q0]? = some (a, .inl (cA, n, .inl f))) (ht : tys[t0]? = some (cA, .char)) {i x : Int32} (hin : vp_in i n) (hd : decode cc pc = .ok (.castore, 1)) {w' : va_W} (hw : w.set q0 (a, .inl (cA, n, .inl (upd f i.toNatClampNeg (vp_nar .char x)))) = w') (k : GW p l e R s m args below meth c Q D cl A nL cells slots w' (pc + 1) lv st) : GW p l e R s m args below meth c Q D cl A nL cells slots w pc lv (.int x :: .int i :: .ref a :: st) :=
  fun H locs ls hP hD hS hl => va_cast C.1 C.2.1 C.2.2.2.2.2.1 hP hD hS q0 t0 ha ht hin hd (fun H1 locs1 hP1 hD1 hS1 => k H1 locs1 ls (hw ▸ hP1) (hw ▸ hD1) hS1 hl)
theorem gw_alen (C : GC p s m args meth c cc nL ret own Ts D cl tys A Z) (q0 t0 : Nat) {cA : ClassId} {a : Nat} {x : vp_A} (ha : w[q0]? = some (a, .inl (cA, x))) {ty : FieldType} (ht : tys[t0]? = some (cA, ty)) {v : Int32} (hv : Int32.ofNat x.1 = v) (hd : decode cc pc = .ok (.arraylength, 1)) (k : GW p l e R s m args below meth c Q D cl A nL cells slots w (pc + 1) lv (.int v :: st)) : GW p l e R s m args below meth c Q D cl A nL cells slots w pc lv (.ref a :: st) :=
  fun H locs ls hP hD hS hl => va_alen C.1 C.2.1 C.2.2.2.2.2.1 hP q0 t0 ha ht hv hd (k H locs ls hP hD hS hl)
theorem gw_iret (C : GC p s m args meth c cc nL (some .int) own Ts D cl tys A Z) {v : Int32} (hd : decode cc pc = .ok (.ireturn, 1)) : GW p l e R s m args below meth c (MQ below (QW D cl tys A (some (.int v)) w) args s cells slots A) D cl A nL cells slots w pc lv [.int v] :=
  fun _ _ _ hP hD hS _ => W.iret C.1 C.2.1 C.2.2.2.2.2.2.2.1 (fun t ht hW => ⟨rfl, by rw [ht]; exact hP, va_K.moved hW.alike C.2.2.2.2.2.1, hD, hS.F ht⟩) hS.2.2 hd C.2.2.2.2.2.2.1
theorem gw_zret {ty : FieldType} (C : GC p s m args meth c cc nL (some ty) own Ts D cl tys A Z) {v : Int32} (hn : narrow ty (.int v) = .int v) (hd : decode cc pc = .ok (.ireturn, 1)) : GW p l e R s m args below meth c (MQ below (QW D cl tys A (some (.int v)) w) args s cells slots A) D cl A nL cells slots w pc lv [.int v] :=
  fun _ _ _ hP hD hS _ => W.zret C.1 C.2.1 C.2.2.2.2.2.2.2.1 hn (fun t ht hW => ⟨rfl, by rw [ht]; exact hP, va_K.moved hW.alike C.2.2.2.2.2.1, hD, hS.F ht⟩) hS.2.2 hd C.2.2.2.2.2.2.1
theorem gw_vret (C : GC p s m args meth c cc nL none own Ts D cl tys A Z) (hd : decode cc pc = .ok (.return_, 1)) : GW p l e R s m args below meth c (MQ below (QW D cl tys A none w) args s cells slots A) D cl A nL cells slots w pc lv [] :=
  fun _ _ _ hP hD hS _ => W.vret C.1 C.2.1 C.2.2.2.2.2.2.2.1 (fun t ht hW => ⟨rfl, by rw [ht]; exact hP, va_K.moved hW.alike C.2.2.2.2.2.1, hD, hS.F ht⟩) hS.2.2 hd C.2.2.2.2.2.2.1
theorem gw_widen {k n : Nat} (h1 : cells ≤ k) (h2 : slots ≤ n) (kk : GW p l e R s m args below meth c Q D cl A nL k n w pc lv st) : GW p l e R s m args below meth c Q D cl A nL cells slots w pc lv st :=
  fun H locs ls hP hD hS hl => W.widen h1 h2 (kk H locs ls hP hD hS hl)
/-- a call's run, over the whole world -/
theorem gw_call {st0 rest : List Value} {a : Array Value} {oc : Option Value} {w' : va_W} {mc ms2 : Nat}
    (hA : ∀ q : Nat, s.heap.size ≤ q → A q)
    (hr : ∀ (H : Heap) (locs : List Loc) (ls : Array Slot), va_P D cl w H → va_D A w → va_S A s.heap H locs → lv_has ls nL lv → va_Run p l e R s m args below meth c H locs cells slots mc ms2 (F0 m pc ls st0) rest (QW D cl tys (va_A w H.size) oc w' a) (va_A w H.size))
    (k : GW p l e R s m args below meth c Q D cl A nL (cells + mc) (slots + ms2) w' (pc + 3) lv (oc.toList ++ rest)) : GW p l e R s m args below meth c Q D cl A nL cells slots w pc lv st0 := by
  intro H locs ls hP hD hS hl T hT X
  obtain ⟨v, st₀, t, T', L, h0, X', hL, e1, e2, ⟨ho, hP1, hK1, hD1, hz, hkp⟩, st⟩ := hr H locs ls hP hD hS hl T hT X
  cases ho
  rw [h0] at hz hkp
  have hF : ∀ q, va_A w H.size q → A q := by
    intro q h
    rcases h with ⟨j, x, h⟩ | h
    · exact hD.2 j (q, x) h
    · exact hA q (Nat.le_trans hS.1 h)
  have hS1 : va_S A s.heap T'.heap (locs ++ L) := ⟨Nat.le_trans hS.1 (by rw [e1]; exact hz), fun q h1 h2 => by rw [e1, hkp q (Nat.lt_of_lt_of_le h1 hS.1) (fun z => h2 (hF q z))]; exact hS.2.1 q h1 h2, fun q hq => by
    rcases List.mem_append.mp hq with h | h
    · exact hS.2.2 q h
    · exact hF _ (hL q h)⟩
  obtain ⟨t2, a1, b1⟩ := k T'.heap (locs ++ L) ls (by rw [e1]; exact hP1) (hD1.weaken (fun _ q _ h => hF q.1 h)) hS1 hl T' rfl X'
  exact ⟨t2, st t2 a1, b1⟩
theorem gw_pre (hZ : gw_ZOK Z) {av : List Value} {sz : Nat} : FrameBlind (va_Pc av (fun U => U.heap.size = sz ∧ va_P D cl w U.heap ∧ va_K D cl tys U ∧ va_D (fun _ => True) w ∧ Z (va_A w sz) U U.heap)) := fun a U g mk q => by
  obtain ⟨q0, q1, qP, qK, qD, qZ⟩ := q
  exact ⟨q0, q1, qP, va_K.moved (u := U) (U := U.calling g mk a) (Vm.Alike.refl U.vm) qK, qD, hZ.2 _ U (U.calling g mk a) _ rfl qZ⟩
theorem gw_sub_A (hA : ∀ q : Nat, s.heap.size ≤ q → A q) {H : Heap} {locs : List Loc} (hD : va_D A w) (hS : va_S A s.heap H locs) : ∀ q, va_A w H.size q → A q := by
  intro q h
  rcases h with ⟨j, x, h⟩ | h
  · exact hD.2 j (q, x) h
  · exact hA q (Nat.le_trans hS.1 h)
theorem gw_at {av : List Value} (C : GC p s m args meth c cc nL ret own Ts D cl tys A Z) {H : Heap} {locs : List Loc} (hP : va_P D cl w H) (hD : va_D A w) (hS : va_S A s.heap H locs) : ∀ U : State, U.heap = H → s.WarmedH U.vm → va_Pc av (fun U => U.heap.size = H.size ∧ va_P D cl w U.heap ∧ va_K D cl tys U ∧ va_D (fun _ => True) w ∧ Z (va_A w H.size) U U.heap) av.toArray U :=
  fun U hU hW => ⟨rfl, by rw [hU], by rw [hU]; exact hP, va_K.moved hW.alike C.2.2.2.2.2.1, hD.weaken (fun _ _ _ _ => trivial), C.2.2.2.2.2.2.2.2.2.2.1 A (va_A w H.size) s U s.heap U.heap hW (gw_sub_A C.2.2.2.2.2.2.2.2.1 hD hS) (by rw [hU]; exact hS.2.1) C.2.2.2.2.2.2.2.2.2.1⟩
variable {y : MethodName} {bytes : ByteArray} {maxL mc ms2 n index : Nat} {retc : Option FieldType} {ws : List Cond} {rm : Room} {As rest : List Value} {oc : Option Value} {w' : va_W} {C' : String}
theorem gw_callV (C : GC p s m args meth c cc nL ret own Ts D cl tys A Z) (q0 : Nat) {ci b : Nat} {fs : List Value} {T : u_T} {N : Nat} (he : w[q0]? = some (b, .inr (ci, fs))) (hc : cl[ci]? = some (C', T, N)) (hM : CW l y ws rm D cl tys Z (.ref b :: As) w oc w' mc ms2) (cw : CallW R s args own C' index y bytes maxL retc ws rm mc ms2 n)
    (hn : As.length = n) (hst : st = As.reverse ++ .ref b :: rest) (hroom : (rest.map fun v => v.category).sum ≤ 8) (hd : decode cc pc = .ok (.invokevirtual index, 3)) (hf : cells + mc ≤ R.cells ∧ slots + ms2 ≤ R.slots)
    (k : GW p l e R s m args below meth c Q D cl A nL (cells + mc) (slots + ms2) w' (pc + 3) lv (oc.toList ++ rest)) : GW p l e R s m args below meth c Q D cl A nL cells slots w pc lv st :=
  gw_call C.2.2.2.2.2.2.2.2.1 (fun H locs ls hP hD hS hl => va_runV ⟨C.1, C.2.1, C.2.2.1, C.2.2.2.1, C.2.2.2.2.1⟩ (hM H.size) cw ⟨gw_pre C.2.2.2.2.2.2.2.2.2.2, va_recv C.2.2.2.2.2.1 hP hc he, gw_at C hP hD hS⟩ rfl hn hl.1 hst (lv_room hroom) hd hf) k
theorem gw_callS (C : GC p s m args meth c cc nL ret own Ts D cl tys A Z) (hM : CW l y ws rm D cl tys Z As w oc w' mc ms2) (cw : CallB R s args own index y bytes maxL retc ws rm mc ms2 n ∧ (Cond.static y).before args s = true)
    (hn : As.length = n) (hst : st = As.reverse ++ rest) (hroom : (rest.map fun v => v.category).sum ≤ 8) (hd : decode cc pc = .ok (.invokestatic index, 3)) (hf : cells + mc ≤ R.cells ∧ slots + ms2 ≤ R.slots)
    (k : GW p l e R s m args below meth c Q D cl A nL (cells + mc) (slots + ms2) w' (pc + 3) lv (oc.toList ++ rest)) : GW p l e R s m args below meth c Q D cl A nL cells slots w pc lv st :=
  gw_call C.2.2.2.2.2.2.2.2.1 (fun H locs ls hP hD hS hl => va_runS ⟨C.1, C.2.1, C.2.2.1, C.2.2.2.1, C.2.2.2.2.1⟩ (hM H.size) cw ⟨gw_pre C.2.2.2.2.2.2.2.2.2.2, gw_at C hP hD hS⟩ rfl hn hl.1 hst (lv_room hroom) hd hf) k
theorem gw_callI (C : GC p s m args meth c cc nL ret own Ts D cl tys A Z) {b : Nat} (hM : CW l y ws rm D cl tys Z (.ref b :: As) w oc w' mc ms2) (cw : CallB R s args own index y bytes maxL none ws rm mc ms2 n ∧ y.name = "<init>" ∧ (Cond.instanceMethod y).before args s = true)
    (hn : As.length = n) (hst : st = As.reverse ++ .ref b :: rest) (hroom : (rest.map fun v => v.category).sum ≤ 8) (hd : decode cc pc = .ok (.invokespecial index, 3)) (hf : cells + mc ≤ R.cells ∧ slots + ms2 ≤ R.slots)
    (k : GW p l e R s m args below meth c Q D cl A nL (cells + mc) (slots + ms2) w' (pc + 3) lv (oc.toList ++ rest)) : GW p l e R s m args below meth c Q D cl A nL cells slots w pc lv st :=
  gw_call C.2.2.2.2.2.2.2.2.1 (fun H locs ls hP hD hS hl => va_runI ⟨C.1, C.2.1, C.2.2.1, C.2.2.2.1, C.2.2.2.2.1⟩ (hM H.size) cw ⟨gw_pre C.2.2.2.2.2.2.2.2.2.2, gw_at C hP hD hS⟩ rfl hn hl.1 hst (lv_room hroom) hd hf) k
end GWS
/-- a contract out of a walk from the entry -/
theorem CW.ofG {l : Launch} {y : MethodName} {ws ws' : List Cond} {rm : Room} {D : va_G} {cl : List vw_C} {tys : List (ClassId × FieldType)} {av : List Value} {w wf : va_W} {oc : Option Value} {mc ms : Nat} {cc : ByteArray} {nL : Nat} {ret : Option FieldType} {Z : gw_Z} (hZ : gw_ZOK Z)
    (hy : plainName y.cls = true) (hw : ws = Cond.code y cc nL ret :: ws') (hlen : (lg_sl av).length ≤ nL)
    (body : ∀ (p : Program) (e : Env) (s : State) (m : MethodId) (below : List Frame) (meth : Method) (c : Code) (A : Nat → Prop), GC p s m av.toArray meth c cc nL ret y.cls ws' D cl tys A Z → meth.name = y.name → GW p l e rm s m av.toArray below meth c (MQ below (QW D cl tys A oc wf) av.toArray s mc ms A) D cl A nL 0 0 w 0 (lv_args 0 av) []) : CW l y ws rm D cl tys Z av w oc wf mc ms := by
  intro sz
  refine Met.ofW (cc := cc) (maxL := nL) (ret := ret) hy hw ?_
  intro p e s m args below meth c s₁ B hml hv
  obtain ⟨rfl, hsz, hP, hK, hD0, hz⟩ := hv
  subst hsz
  have hts := atoms_spec (ws := ws) B.pre
  have hown : s.vm.findClass y.cls = some m.cls := findClass_of_methodNamed B.named
  have hl := lv_entry av (n := nL) hlen
  rw [lg_entry_eq]
  exact body p e s m below meth c (va_A w s.heap.size) ⟨B.exec, B.bytes, hml, hown, fun z h => hts z (by rw [hw]; exact List.mem_cons_of_mem _ h), hK, B.notSynchronized, B.returns, fun q h => Or.inr h, hz, hZ⟩ (name_of_methodNamed B.named B.method).1 s.heap [] _ hP hD0.self va_S.rf hl
/-! what a walk's function is made of -/
def inb (i : Int32) (n : Nat) : Bool := decide (¬ (i < 0 ∨ n ≤ i.toNatClampNeg))
def gd {α : Type} (b : Bool) (o : Option α) : Option α := if b = true then o else none
def ob {α β : Type} (o : Option (α × Mem)) (k : α → Mem → Option β) : Option β := match o with
  | some (r, M) => k r M
  | none => none
def om {β : Type} (o : Option Mem) (k : Mem → Option β) : Option β := match o with
  | some M => k M
  | none => none
theorem gd_some {α : Type} {i : Int32} {n : Nat} {o : Option α} {b : α} (h : gd (inb i n) o = some b) : vp_in i n ∧ o = some b := by
  unfold gd at h
  split at h
  · next hc =>
    have h0 : ¬ (i < 0 ∨ n ≤ i.toNatClampNeg) := of_decide_eq_true hc
    exact ⟨h0, h⟩
  · cases h
theorem gd_ne {α : Type} {i : Int32} {o : Option α} {b : α} (h : gd (decide (¬ i = 0)) o = some b) : (¬ i = 0) ∧ o = some b := by
  unfold gd at h
  split at h
  · next hc => exact ⟨of_decide_eq_true hc, h⟩
  · cases h
theorem ob_some {α β : Type} {o : Option (α × Mem)} {k : α → Mem → Option β} {b : β} (h : ob o k = some b) : ∃ (r : α) (M : Mem), o = some (r, M) ∧ k r M = some b := by
  cases o with
  | none => cases h
  | some q => exact ⟨q.1, q.2, rfl, h⟩
theorem om_some {β : Type} {o : Option Mem} {k : Mem → Option β} {b : β} (h : om o k = some b) : ∃ (M : Mem), o = some M ∧ k M = some b := by
  cases o with
  | none => cases h
  | some q => exact ⟨q, rfl, h⟩
section GWR
variable {p : Program} {l : Launch} {e : Env} {R : Room} {s : State} {m : MethodId} {args : Array Value} {below : List Frame} {meth : Method} {c : Code} {Q : State → Prop} {D : va_G} {cl : List vw_C} {tys : List (ClassId × FieldType)} {A : Nat → Prop} {nL cells slots : Nat} {w : va_W} {pc : Nat} {lv lv' : List (Nat × Value)} {st : List Value} {cc : ByteArray} {ret : Option FieldType} {own : String} {Ts : List Cond} {Z : gw_Z}
theorem gw_ireti (C : GC p s m args meth c cc nL (some .int) own Ts D cl tys A Z) {v r : Int32} {M M' : Mem} (hd : decode cc pc = .ok (.ireturn, 1)) (wd : Mem → va_W) (hf : some (v, M) = some (r, M')) : GW p l e R s m args below meth c (MQ below (QW D cl tys A (some (.int r)) (wd M')) args s cells slots A) D cl A nL cells slots (wd M) pc lv [.int v] := by
  cases hf
  exact gw_iret C hd
theorem gw_zreti {ty : FieldType} (C : GC p s m args meth c cc nL (some ty) own Ts D cl tys A Z) {v r : Int32} {M M' : Mem} (hd : decode cc pc = .ok (.ireturn, 1)) (wd : Mem → va_W) (hn : narrow ty (.int v) = .int v) (hf : some (v, M) = some (r, M')) : GW p l e R s m args below meth c (MQ below (QW D cl tys A (some (.int r)) (wd M')) args s cells slots A) D cl A nL cells slots (wd M) pc lv [.int v] := by
  cases hf
  exact gw_zret C hn hd
theorem gw_vreti (C : GC p s m args meth c cc nL none own Ts D cl tys A Z) {M M' : Mem} (hd : decode cc pc = .ok (.return_, 1)) (wd : Mem → va_W) (hf : some M = some M') : GW p l e R s m args below meth c (MQ below (QW D cl tys A none (wd M')) args s cells slots A) D cl A nL cells slots (wd M) pc lv [] := by
  cases hf
  exact gw_vret C hd
variable {y : MethodName} {bytes : ByteArray} {maxL n index : Nat} {retc : Option FieldType} {ws : List Cond} {rm : Room} {As rest : List Value} {v : Value} {w' : va_W} {C' : String}
theorem gw_callVr (C : GC p s m args meth c cc nL ret own Ts D cl tys A Z) (q0 : Nat) {ci b : Nat} {fs : List Value} {T : u_T} {N : Nat} (he : w[q0]? = some (b, .inr (ci, fs))) (hc : cl[ci]? = some (C', T, N)) (hM : CW l y ws rm D cl tys Z (.ref b :: As) w (some v) w' 0 0) (cw : CallW R s args own C' index y bytes maxL retc ws rm 0 0 n)
    (hn : As.length = n) (hst : st = As.reverse ++ .ref b :: rest) (hroom : (rest.map fun v => v.category).sum ≤ 8) (hd : decode cc pc = .ok (.invokevirtual index, 3)) (hf : cells ≤ R.cells ∧ slots ≤ R.slots)
    (k : GW p l e R s m args below meth c Q D cl A nL cells slots w' (pc + 3) lv (v :: rest)) : GW p l e R s m args below meth c Q D cl A nL cells slots w pc lv st := gw_callV C q0 he hc hM cw hn hst hroom hd hf k
theorem gw_callVv (C : GC p s m args meth c cc nL ret own Ts D cl tys A Z) (q0 : Nat) {ci b : Nat} {fs : List Value} {T : u_T} {N : Nat} (he : w[q0]? = some (b, .inr (ci, fs))) (hc : cl[ci]? = some (C', T, N)) (hM : CW l y ws rm D cl tys Z (.ref b :: As) w none w' 0 0) (cw : CallW R s args own C' index y bytes maxL retc ws rm 0 0 n)
    (hn : As.length = n) (hst : st = As.reverse ++ .ref b :: rest) (hroom : (rest.map fun v => v.category).sum ≤ 8) (hd : decode cc pc = .ok (.invokevirtual index, 3)) (hf : cells ≤ R.cells ∧ slots ≤ R.slots)
    (k : GW p l e R s m args below meth c Q D cl A nL cells slots w' (pc + 3) lv rest) : GW p l e R s m args below meth c Q D cl A nL cells slots w pc lv st := gw_callV C q0 he hc hM cw hn hst hroom hd hf k
theorem gw_callSr (C : GC p s m args meth c cc nL ret own Ts D cl tys A Z) (hM : CW l y ws rm D cl tys Z As w (some v) w' 0 0) (cw : CallB R s args own index y bytes maxL retc ws rm 0 0 n ∧ (Cond.static y).before args s = true)
    (hn : As.length = n) (hst : st = As.reverse ++ rest) (hroom : (rest.map fun v => v.category).sum ≤ 8) (hd : decode cc pc = .ok (.invokestatic index, 3)) (hf : cells ≤ R.cells ∧ slots ≤ R.slots)
    (k : GW p l e R s m args below meth c Q D cl A nL cells slots w' (pc + 3) lv (v :: rest)) : GW p l e R s m args below meth c Q D cl A nL cells slots w pc lv st := gw_callS C hM cw hn hst hroom hd hf k
theorem gw_callSv (C : GC p s m args meth c cc nL ret own Ts D cl tys A Z) (hM : CW l y ws rm D cl tys Z As w none w' 0 0) (cw : CallB R s args own index y bytes maxL retc ws rm 0 0 n ∧ (Cond.static y).before args s = true)
    (hn : As.length = n) (hst : st = As.reverse ++ rest) (hroom : (rest.map fun v => v.category).sum ≤ 8) (hd : decode cc pc = .ok (.invokestatic index, 3)) (hf : cells ≤ R.cells ∧ slots ≤ R.slots)
    (k : GW p l e R s m args below meth c Q D cl A nL cells slots w' (pc + 3) lv rest) : GW p l e R s m args below meth c Q D cl A nL cells slots w pc lv st := gw_callS C hM cw hn hst hroom hd hf k
end GWR
section GWN
variable {p : Program} {l : Launch} {e : Env} {R : Room} {s : State} {m : MethodId} {args : Array Value} {below : List Frame} {meth : Method} {c : Code} {H : Heap} {locs : List Loc} {Q : State → Prop} {D : va_G} {cl : List vw_C} {tys : List (ClassId × FieldType)} {A : Nat → Prop} {nL cells slots : Nat} {w : va_W} {pc : Nat} {lv lv' : List (Nat × Value)} {st : List Value} {cc : ByteArray} {ret : Option FieldType} {own : String} {Ts : List Cond} {Z : gw_Z}
/-- an answer that is narrowed on its way out -/
theorem gw_Wzret {Qc : Array Value → State → Outcome → State → Prop} {free : Addr → Prop} {v v' : Int32} {ty : FieldType} (hexec : p.tables.exec = Jvm.exec) (hb : c.code = cc) (hr : meth.sig.returnType = some ty) (hn : narrow ty (.int v) = .int v')
    (hq : ∀ t : State, t.heap = H → s.WarmedH t.vm → Qc args s (.returned (some (.int v'))) t) (hf : ∀ q ∈ locs, free q.base)
    {ls : Array Slot} (hdg : decode cc pc = .ok (.ireturn, 1)) (hlocks : meth.locks = false) : W p l e R s m args below meth c H locs cells slots (MQ below Qc args s cells slots free) (F0 m pc ls [.int v]) := by
  intro T hT X
  have hlocks : meth.locks = false := hlocks
  obtain ⟨fs, hret, hrun, hended, hW, hframe⟩ := X.leave (v := some (.int v')) (fun h => by rw [hr] at h; cases h)
  have hmeth' : T.vm.method? m = some meth := X.method'
  refine ⟨T.setFrames fs, ?_, .returned (some (.int v')), hrun, hended, hq _ hT hW, locs, ⟨⟨_, rfl⟩, hW, hframe⟩, hf⟩
  jvm_step X.here [X.here.top, hexec, hb, hdg, hmeth', hr, hn]
  (try refine ⟨rfl, ?_⟩); (try refine ⟨rfl, ?_⟩)
  first | (intro acts; rw [hret _ acts rfl rfl rfl]) | rw [hret _ _ rfl rfl rfl]
  exact Steps.refl _
theorem gw_zretn {ty : FieldType} (C : GC p s m args meth c cc nL (some ty) own Ts D cl tys A Z) {v r : Int32} {M M' : Mem} (hd : decode cc pc = .ok (.ireturn, 1)) (wd : Mem → va_W) (hn : narrow ty (.int v) = .int (vp_nar ty v)) (hf : some (vp_nar ty v, M) = some (r, M')) : GW p l e R s m args below meth c (MQ below (QW D cl tys A (some (.int r)) (wd M')) args s cells slots A) D cl A nL cells slots (wd M) pc lv [.int v] := by
  cases hf
  exact fun _ _ _ hP hD hS _ => gw_Wzret C.1 C.2.1 C.2.2.2.2.2.2.2.1 hn (fun t ht hW => ⟨rfl, by rw [ht]; exact hP, va_K.moved hW.alike C.2.2.2.2.2.1, hD, hS.F ht⟩) hS.2.2 hd C.2.2.2.2.2.2.1
end GWN
theorem nar_b (v : Int32) : narrow .boolean (.int v) = .int (vp_nar .boolean v) := rfl
theorem nar_c (v : Int32) : narrow .char (.int v) = .int (vp_nar .char v) := rfl
theorem nar_y (v : Int32) : narrow .byte (.int v) = .int (vp_nar .byte v) := rfl
end
section
abbrev b_A_fill : ByteArray := prog_11_method_103_code
def y_A_fill : MethodName := ⟨"java/util/Arrays", "fill", "([II)V"⟩
abbrev ws_A_fill : List Cond := Cond.code y_A_fill b_A_fill 4 (none) :: TB
set_option maxRecDepth 100000 in
theorem tc_A_fill : Cond.code y_A_fill b_A_fill 4 (none) ∈ TB := inTB 91 rfl rfl
theorem mv_A_fill : Cond.static y_A_fill ∈ TB ∧ Cond.initialized "java/util/Arrays" ∈ TB ∧ Cond.code y_A_fill b_A_fill 4 (none) ∈ TB := ⟨inTB 90 (by decide +kernel) (by decide +kernel), inTB 66 (by decide +kernel) (by decide +kernel), tc_A_fill⟩
theorem pd_A_fill : y_A_fill.cls = "java/util/Arrays" ∧ y_A_fill.cls ≠ "java/lang/invoke/MethodHandle" ∧ y_A_fill.cls ≠ "java/lang/invoke/VarHandle" ∧ (parseMethodDescriptor y_A_fill.desc).map (fun d => d.parameters.length) = some 2 := by decide +kernel
theorem d_A_fill_0 : decode b_A_fill 0 = .ok (.iconst 0, 1) := by decide +kernel
theorem d_A_fill_1 : decode b_A_fill 1 = .ok (.istore_n 2, 1) := by decide +kernel
theorem d_A_fill_2 : decode b_A_fill 2 = .ok (.aload_n 0, 1) := by decide +kernel
theorem d_A_fill_3 : decode b_A_fill 3 = .ok (.arraylength, 1) := by decide +kernel
theorem d_A_fill_4 : decode b_A_fill 4 = .ok (.istore_n 3, 1) := by decide +kernel
theorem d_A_fill_5 : decode b_A_fill 5 = .ok (.iload_n 2, 1) := by decide +kernel
theorem d_A_fill_6 : decode b_A_fill 6 = .ok (.iload_n 3, 1) := by decide +kernel
theorem d_A_fill_7 : decode b_A_fill 7 = .ok (.if_icmp .ge 13, 3) := by decide +kernel
theorem d_A_fill_10 : decode b_A_fill 10 = .ok (.aload_n 0, 1) := by decide +kernel
theorem d_A_fill_11 : decode b_A_fill 11 = .ok (.iload_n 2, 1) := by decide +kernel
theorem d_A_fill_12 : decode b_A_fill 12 = .ok (.iload_n 1, 1) := by decide +kernel
theorem d_A_fill_13 : decode b_A_fill 13 = .ok (.iastore, 1) := by decide +kernel
theorem d_A_fill_14 : decode b_A_fill 14 = .ok (.iinc 2 1, 3) := by decide +kernel
theorem d_A_fill_17 : decode b_A_fill 17 = .ok (.goto (-12), 3) := by decide +kernel
theorem d_A_fill_20 : decode b_A_fill 20 = .ok (.return_, 1) := by decide +kernel
abbrev rm_A_fill : Room := { frames := 0, cells := 0, slots := 0, locals := 0 }
/-! Arrays.fill over any world -/
def mf (M : Mem) (q n : Nat) (x : Int32) : Mem := fun q2 => if q2 = q then (fun j => if j < n then x else M q j) else M q2
section FILL
variable {l : Launch} {D : va_G} {cl : List vw_C} {tys : List (ClassId × FieldType)} {Z : gw_Z}
set_option maxRecDepth 100000 in
theorem g_A_fill_5 {p : Program} {e : Env} {s : State} {m : MethodId} {args : Array Value} {below : List Frame} {meth : Method} {c : Code} {A : Nat → Prop} {a q n t0 : Nat} {cA : ClassId} {x : Int32}
    (C : GC p s m args meth c b_A_fill 4 none "java/util/Arrays" TB D cl tys A Z) (ht : tys[t0]? = some (cA, .int)) (hn : n < 2 ^ 31) (f0 : Nat → Int32) :
    ∀ (k i : Nat) (f : Nat → Int32) (w : va_W), i + k = n → (∀ j, f j = if j < i then x else f0 j) → w[q]? = some (a, .inl (cA, n, .inl f)) → GW p l e rm_A_fill s m args below meth c (MQ below (QW D cl tys A none (w.set q (a, .inl (cA, n, .inl (fun j => if j < n then x else f0 j))))) args s 0 0 A) D cl A 4 0 0 w 5 [(0, .ref a), (1, .int x), (2, .int (nI i)), (3, .int (nI n))] [] := by
  intro k
  induction k with
  | zero =>
    intro i f w hi hf hw
    have hin : i = n := by omega
    subst hin
    refine gw_iload_n C 2 d_A_fill_5 rfl rfl ?_
    refine gw_iload_n C 3 d_A_fill_6 rfl rfl ?_
    refine gw_icmp_ge (tgt := 20) C d_A_fill_7 (by decide) (fun _ => ?_) (fun c => absurd (nI_le (Nat.le_refl i) hn) c)
    have e1 : w.set q (a, .inl (cA, i, .inl (fun j => if j < i then x else f0 j))) = w := by
      have : f = fun j => if j < i then x else f0 j := funext hf
      rw [← this]
      apply List.ext_getElem?
      intro j
      by_cases hj : j = q
      · subst hj
        rw [List.getElem?_set_self (List.getElem?_eq_some_iff.mp hw).1, hw]
      · rw [List.getElem?_set_ne (Ne.symm hj)]
    rw [e1]
    exact gw_vret C d_A_fill_20
  | succ k ih =>
    intro i f w hi hf hw
    refine gw_iload_n C 2 d_A_fill_5 rfl rfl ?_
    refine gw_iload_n C 3 d_A_fill_6 rfl rfl ?_
    refine gw_icmp_ge (tgt := 20) C d_A_fill_7 (by decide) (fun c => absurd c (nI_ge (by omega) hn)) (fun _ => ?_)
    refine gw_aload_n C 0 d_A_fill_10 rfl rfl ?_
    refine gw_iload_n C 2 d_A_fill_11 rfl rfl ?_
    refine gw_iload_n C 1 d_A_fill_12 rfl rfl ?_
    refine gw_iast C q t0 hw ht (vp_in_nI (by omega) hn) d_A_fill_13 rfl ?_
    refine gw_iinc (v := nI (i + 1)) (lv' := [(2, .int (nI (i + 1))), (0, .ref a), (1, .int x), (3, .int (nI n))]) C 2 d_A_fill_14 rfl (nI_1 i) (by decide) rfl ?_
    refine gw_goto (tgt := 5) C d_A_fill_17 (by decide) ?_
    refine gw_sub [1, 2, 0, 3] rfl ?_
    have hl := (List.getElem?_eq_some_iff.mp hw).1
    have h := ih (i + 1) (upd f (nI i).toNatClampNeg x) (w.set q (a, .inl (cA, n, .inl (upd f (nI i).toNatClampNeg x)))) (by omega) (fun j => by
      rw [nI_clamp (by omega)]
      unfold upd
      by_cases hj : j = i
      · subst hj; simp
      · rw [if_neg hj, hf j]
        by_cases h2 : j < i
        · rw [if_pos h2, if_pos (by omega)]
        · rw [if_neg h2, if_neg (by omega)]) (by rw [List.getElem?_set_self hl])
    rw [List.set_set] at h
    exact h
theorem c_A_fill (hZ : gw_ZOK Z) {w w' : va_W} {a n : Nat} {cA : ClassId} {f : Nat → Int32} {x : Int32} (q t0 : Nat) (hw : w[q]? = some (a, .inl (cA, n, .inl f))) (ht : tys[t0]? = some (cA, .int)) (hn : n < 2 ^ 31) (hw' : w.set q (a, .inl (cA, n, .inl (fun j => if j < n then x else f j))) = w') :
    CW l y_A_fill ws_A_fill rm_A_fill D cl tys Z [.ref a, .int x] w none w' 0 0 := by
  subst hw'
  refine CW.ofG hZ (by decide) rfl (Nat.le_of_ble_eq_true rfl) (fun p e s m below meth c A C _ => ?_)
  refine gw_iconst (v := 0) C d_A_fill_0 (by decide) ?_
  refine gw_istore_n (lv' := [(2, .int 0), (0, .ref a), (1, .int x)]) C d_A_fill_1 rfl (by decide) rfl ?_
  refine gw_aload_n C 1 d_A_fill_2 rfl rfl ?_
  refine gw_alen C q t0 hw ht rfl d_A_fill_3 ?_
  refine gw_istore_n (lv' := [(3, .int (nI n)), (2, .int 0), (0, .ref a), (1, .int x)]) C d_A_fill_4 rfl (by decide) rfl ?_
  refine gw_sub (lv' := [(0, .ref a), (1, .int x), (2, .int (nI 0)), (3, .int (nI n))]) [2, 3, 1, 0] rfl ?_
  exact g_A_fill_5 C ht hn f n 0 f w (by omega) (fun j => by simp) hw
end FILL
theorem gTB_vS {own : String} {idx : Nat} {y : MethodName} {b : ByteArray} {n : Nat} {r : Option FieldType} {C : String} (hC : y.cls = C) (h1 : Cond.methodLink own idx y ∈ TB) (h : Cond.static y ∈ TB ∧ Cond.initialized C ∈ TB ∧ Cond.code y b n r ∈ TB) : GoodIn TB (va_wsS own idx y (Cond.code y b n r :: TB)) := by
  subst hC
  intro w hw
  rcases List.mem_append.mp hw with hw | hw
  · simp only [List.mem_cons, List.not_mem_nil, or_false] at hw
    rcases hw with rfl | rfl | rfl
    · exact TB_good _ h1
    · exact TB_good _ h.1
    · exact TB_good _ h.2.1
  · exact gTB_c h.2.2 w hw
end
section
abbrev tysW (cI cZ cC : ClassId) : List (ClassId × FieldType) := [(cI, .int), (cZ, .boolean), (cC, .char)]
def wc (ad : Nat → Nat) (cI cZ cC : ClassId) (M : Mem) : va_W := [(ad 0, .inr (4, [.ref (ad 1), .ref (ad 11), .ref (ad 23), .ref (ad 25)])),
  (ad 1, .inr (0, [.ref (ad 2), .int (M 1 1), .ref (ad 3), .ref (ad 4), .ref (ad 5), .ref (ad 6), .ref (ad 7), .ref (ad 8), .ref (ad 9), .ref (ad 10), .int (M 1 10)])),
  (ad 2, .inl (cI, 5, .inl (M 2))),
  (ad 3, .inl (cI, 120, .inl (M 3))),
  (ad 4, .inl (cI, 120, .inl (M 4))),
  (ad 5, .inl (cI, 120, .inl (M 5))),
  (ad 6, .inl (cI, 120, .inl (M 6))),
  (ad 7, .inl (cI, 120, .inl (M 7))),
  (ad 8, .inl (cI, 120, .inl (M 8))),
  (ad 9, .inl (cI, 120, .inl (M 9))),
  (ad 10, .inl (cI, 120, .inl (M 10))),
  (ad 11, .inr (3, [.ref (ad 1), .ref (ad 12), .ref (ad 13), .int (M 11 3), .ref (ad 14), .ref (ad 15), .ref (ad 16), .ref (ad 17), .ref (ad 18), .int (M 11 9), .ref (ad 19), .ref (ad 20), .ref (ad 21), .ref (ad 22), .int (M 11 14)])),
  (ad 12, .inl (cI, 120, .inl (M 12))),
  (ad 13, .inl (cI, 120, .inl (M 13))),
  (ad 14, .inl (cI, 120, .inl (M 14))),
  (ad 15, .inl (cI, 120, .inl (M 15))),
  (ad 16, .inl (cI, 120, .inl (M 16))),
  (ad 17, .inl (cI, 120, .inl (M 17))),
  (ad 18, .inl (cI, 120, .inl (M 18))),
  (ad 19, .inl (cI, 121, .inl (M 19))),
  (ad 20, .inl (cI, 121, .inl (M 20))),
  (ad 21, .inl (cI, 121, .inl (M 21))),
  (ad 22, .inl (cI, 121, .inl (M 22))),
  (ad 23, .inr (2, [.ref (ad 1), .ref (ad 11), .ref (ad 24), .int (M 23 3), .int (M 23 4)])),
  (ad 24, .inl (cC, 256, .inl (M 24))),
  (ad 25, .inr (1, [.ref (ad 1), .ref (ad 26), .ref (ad 27), .ref (ad 28), .int (M 25 4)])),
  (ad 26, .inl (cZ, 120, .inl (M 26))),
  (ad 27, .inl (cI, 25, .inl (M 27))),
  (ad 28, .inl (cI, 120, .inl (M 28)))]
theorem wcg_0 {ad : Nat → Nat} {cI cZ cC : ClassId} {M : Mem} : (wc ad cI cZ cC M)[0]? = some (ad 0, .inr (4, [.ref (ad 1), .ref (ad 11), .ref (ad 23), .ref (ad 25)])) := rfl
theorem wcg_1 {ad : Nat → Nat} {cI cZ cC : ClassId} {M : Mem} : (wc ad cI cZ cC M)[1]? = some (ad 1, .inr (0, [.ref (ad 2), .int (M 1 1), .ref (ad 3), .ref (ad 4), .ref (ad 5), .ref (ad 6), .ref (ad 7), .ref (ad 8), .ref (ad 9), .ref (ad 10), .int (M 1 10)])) := rfl
theorem wcf_1_1 {ad : Nat → Nat} {cI cZ cC : ClassId} {M : Mem} {x : Int32} : (wc ad cI cZ cC M).set 1 (ad 1, .inr (0, ([.ref (ad 2), .int (M 1 1), .ref (ad 3), .ref (ad 4), .ref (ad 5), .ref (ad 6), .ref (ad 7), .ref (ad 8), .ref (ad 9), .ref (ad 10), .int (M 1 10)] : List Value).set 1 (.int x))) = wc ad cI cZ cC (ms M 1 1 x) := rfl
theorem wcf_1_10 {ad : Nat → Nat} {cI cZ cC : ClassId} {M : Mem} {x : Int32} : (wc ad cI cZ cC M).set 1 (ad 1, .inr (0, ([.ref (ad 2), .int (M 1 1), .ref (ad 3), .ref (ad 4), .ref (ad 5), .ref (ad 6), .ref (ad 7), .ref (ad 8), .ref (ad 9), .ref (ad 10), .int (M 1 10)] : List Value).set 10 (.int x))) = wc ad cI cZ cC (ms M 1 10 x) := rfl
theorem wcg_2 {ad : Nat → Nat} {cI cZ cC : ClassId} {M : Mem} : (wc ad cI cZ cC M)[2]? = some (ad 2, .inl (cI, 5, .inl (M 2))) := rfl
theorem wca_2 {ad : Nat → Nat} {cI cZ cC : ClassId} {M : Mem} {i : Nat} {x : Int32} : (wc ad cI cZ cC M).set 2 (ad 2, .inl (cI, 5, .inl (upd (M 2) i x))) = wc ad cI cZ cC (ms M 2 i x) := rfl
theorem wcz_2 {ad : Nat → Nat} {cI cZ cC : ClassId} {M : Mem} {x : Int32} : (wc ad cI cZ cC M).set 2 (ad 2, .inl (cI, 5, .inl (fun j => if j < 5 then x else M 2 j))) = wc ad cI cZ cC (mf M 2 5 x) := rfl
theorem wcg_3 {ad : Nat → Nat} {cI cZ cC : ClassId} {M : Mem} : (wc ad cI cZ cC M)[3]? = some (ad 3, .inl (cI, 120, .inl (M 3))) := rfl
theorem wca_3 {ad : Nat → Nat} {cI cZ cC : ClassId} {M : Mem} {i : Nat} {x : Int32} : (wc ad cI cZ cC M).set 3 (ad 3, .inl (cI, 120, .inl (upd (M 3) i x))) = wc ad cI cZ cC (ms M 3 i x) := rfl
theorem wcz_3 {ad : Nat → Nat} {cI cZ cC : ClassId} {M : Mem} {x : Int32} : (wc ad cI cZ cC M).set 3 (ad 3, .inl (cI, 120, .inl (fun j => if j < 120 then x else M 3 j))) = wc ad cI cZ cC (mf M 3 120 x) := rfl
theorem wcg_4 {ad : Nat → Nat} {cI cZ cC : ClassId} {M : Mem} : (wc ad cI cZ cC M)[4]? = some (ad 4, .inl (cI, 120, .inl (M 4))) := rfl
theorem wca_4 {ad : Nat → Nat} {cI cZ cC : ClassId} {M : Mem} {i : Nat} {x : Int32} : (wc ad cI cZ cC M).set 4 (ad 4, .inl (cI, 120, .inl (upd (M 4) i x))) = wc ad cI cZ cC (ms M 4 i x) := rfl
theorem wcz_4 {ad : Nat → Nat} {cI cZ cC : ClassId} {M : Mem} {x : Int32} : (wc ad cI cZ cC M).set 4 (ad 4, .inl (cI, 120, .inl (fun j => if j < 120 then x else M 4 j))) = wc ad cI cZ cC (mf M 4 120 x) := rfl
theorem wcg_5 {ad : Nat → Nat} {cI cZ cC : ClassId} {M : Mem} : (wc ad cI cZ cC M)[5]? = some (ad 5, .inl (cI, 120, .inl (M 5))) := rfl
theorem wca_5 {ad : Nat → Nat} {cI cZ cC : ClassId} {M : Mem} {i : Nat} {x : Int32} : (wc ad cI cZ cC M).set 5 (ad 5, .inl (cI, 120, .inl (upd (M 5) i x))) = wc ad cI cZ cC (ms M 5 i x) := rfl
theorem wcz_5 {ad : Nat → Nat} {cI cZ cC : ClassId} {M : Mem} {x : Int32} : (wc ad cI cZ cC M).set 5 (ad 5, .inl (cI, 120, .inl (fun j => if j < 120 then x else M 5 j))) = wc ad cI cZ cC (mf M 5 120 x) := rfl
theorem wcg_6 {ad : Nat → Nat} {cI cZ cC : ClassId} {M : Mem} : (wc ad cI cZ cC M)[6]? = some (ad 6, .inl (cI, 120, .inl (M 6))) := rfl
theorem wca_6 {ad : Nat → Nat} {cI cZ cC : ClassId} {M : Mem} {i : Nat} {x : Int32} : (wc ad cI cZ cC M).set 6 (ad 6, .inl (cI, 120, .inl (upd (M 6) i x))) = wc ad cI cZ cC (ms M 6 i x) := rfl
theorem wcz_6 {ad : Nat → Nat} {cI cZ cC : ClassId} {M : Mem} {x : Int32} : (wc ad cI cZ cC M).set 6 (ad 6, .inl (cI, 120, .inl (fun j => if j < 120 then x else M 6 j))) = wc ad cI cZ cC (mf M 6 120 x) := rfl
theorem wcg_7 {ad : Nat → Nat} {cI cZ cC : ClassId} {M : Mem} : (wc ad cI cZ cC M)[7]? = some (ad 7, .inl (cI, 120, .inl (M 7))) := rfl
theorem wca_7 {ad : Nat → Nat} {cI cZ cC : ClassId} {M : Mem} {i : Nat} {x : Int32} : (wc ad cI cZ cC M).set 7 (ad 7, .inl (cI, 120, .inl (upd (M 7) i x))) = wc ad cI cZ cC (ms M 7 i x) := rfl
theorem wcz_7 {ad : Nat → Nat} {cI cZ cC : ClassId} {M : Mem} {x : Int32} : (wc ad cI cZ cC M).set 7 (ad 7, .inl (cI, 120, .inl (fun j => if j < 120 then x else M 7 j))) = wc ad cI cZ cC (mf M 7 120 x) := rfl
theorem wcg_8 {ad : Nat → Nat} {cI cZ cC : ClassId} {M : Mem} : (wc ad cI cZ cC M)[8]? = some (ad 8, .inl (cI, 120, .inl (M 8))) := rfl
theorem wca_8 {ad : Nat → Nat} {cI cZ cC : ClassId} {M : Mem} {i : Nat} {x : Int32} : (wc ad cI cZ cC M).set 8 (ad 8, .inl (cI, 120, .inl (upd (M 8) i x))) = wc ad cI cZ cC (ms M 8 i x) := rfl
theorem wcz_8 {ad : Nat → Nat} {cI cZ cC : ClassId} {M : Mem} {x : Int32} : (wc ad cI cZ cC M).set 8 (ad 8, .inl (cI, 120, .inl (fun j => if j < 120 then x else M 8 j))) = wc ad cI cZ cC (mf M 8 120 x) := rfl
theorem wcg_9 {ad : Nat → Nat} {cI cZ cC : ClassId} {M : Mem} : (wc ad cI cZ cC M)[9]? = some (ad 9, .inl (cI, 120, .inl (M 9))) := rfl
theorem wca_9 {ad : Nat → Nat} {cI cZ cC : ClassId} {M : Mem} {i : Nat} {x : Int32} : (wc ad cI cZ cC M).set 9 (ad 9, .inl (cI, 120, .inl (upd (M 9) i x))) = wc ad cI cZ cC (ms M 9 i x) := rfl
theorem wcz_9 {ad : Nat → Nat} {cI cZ cC : ClassId} {M : Mem} {x : Int32} : (wc ad cI cZ cC M).set 9 (ad 9, .inl (cI, 120, .inl (fun j => if j < 120 then x else M 9 j))) = wc ad cI cZ cC (mf M 9 120 x) := rfl
theorem wcg_10 {ad : Nat → Nat} {cI cZ cC : ClassId} {M : Mem} : (wc ad cI cZ cC M)[10]? = some (ad 10, .inl (cI, 120, .inl (M 10))) := rfl
theorem wca_10 {ad : Nat → Nat} {cI cZ cC : ClassId} {M : Mem} {i : Nat} {x : Int32} : (wc ad cI cZ cC M).set 10 (ad 10, .inl (cI, 120, .inl (upd (M 10) i x))) = wc ad cI cZ cC (ms M 10 i x) := rfl
theorem wcz_10 {ad : Nat → Nat} {cI cZ cC : ClassId} {M : Mem} {x : Int32} : (wc ad cI cZ cC M).set 10 (ad 10, .inl (cI, 120, .inl (fun j => if j < 120 then x else M 10 j))) = wc ad cI cZ cC (mf M 10 120 x) := rfl
theorem wcg_11 {ad : Nat → Nat} {cI cZ cC : ClassId} {M : Mem} : (wc ad cI cZ cC M)[11]? = some (ad 11, .inr (3, [.ref (ad 1), .ref (ad 12), .ref (ad 13), .int (M 11 3), .ref (ad 14), .ref (ad 15), .ref (ad 16), .ref (ad 17), .ref (ad 18), .int (M 11 9), .ref (ad 19), .ref (ad 20), .ref (ad 21), .ref (ad 22), .int (M 11 14)])) := rfl
theorem wcf_11_3 {ad : Nat → Nat} {cI cZ cC : ClassId} {M : Mem} {x : Int32} : (wc ad cI cZ cC M).set 11 (ad 11, .inr (3, ([.ref (ad 1), .ref (ad 12), .ref (ad 13), .int (M 11 3), .ref (ad 14), .ref (ad 15), .ref (ad 16), .ref (ad 17), .ref (ad 18), .int (M 11 9), .ref (ad 19), .ref (ad 20), .ref (ad 21), .ref (ad 22), .int (M 11 14)] : List Value).set 3 (.int x))) = wc ad cI cZ cC (ms M 11 3 x) := rfl
theorem wcf_11_9 {ad : Nat → Nat} {cI cZ cC : ClassId} {M : Mem} {x : Int32} : (wc ad cI cZ cC M).set 11 (ad 11, .inr (3, ([.ref (ad 1), .ref (ad 12), .ref (ad 13), .int (M 11 3), .ref (ad 14), .ref (ad 15), .ref (ad 16), .ref (ad 17), .ref (ad 18), .int (M 11 9), .ref (ad 19), .ref (ad 20), .ref (ad 21), .ref (ad 22), .int (M 11 14)] : List Value).set 9 (.int x))) = wc ad cI cZ cC (ms M 11 9 x) := rfl
theorem wcf_11_14 {ad : Nat → Nat} {cI cZ cC : ClassId} {M : Mem} {x : Int32} : (wc ad cI cZ cC M).set 11 (ad 11, .inr (3, ([.ref (ad 1), .ref (ad 12), .ref (ad 13), .int (M 11 3), .ref (ad 14), .ref (ad 15), .ref (ad 16), .ref (ad 17), .ref (ad 18), .int (M 11 9), .ref (ad 19), .ref (ad 20), .ref (ad 21), .ref (ad 22), .int (M 11 14)] : List Value).set 14 (.int x))) = wc ad cI cZ cC (ms M 11 14 x) := rfl
theorem wcg_12 {ad : Nat → Nat} {cI cZ cC : ClassId} {M : Mem} : (wc ad cI cZ cC M)[12]? = some (ad 12, .inl (cI, 120, .inl (M 12))) := rfl
theorem wca_12 {ad : Nat → Nat} {cI cZ cC : ClassId} {M : Mem} {i : Nat} {x : Int32} : (wc ad cI cZ cC M).set 12 (ad 12, .inl (cI, 120, .inl (upd (M 12) i x))) = wc ad cI cZ cC (ms M 12 i x) := rfl
theorem wcz_12 {ad : Nat → Nat} {cI cZ cC : ClassId} {M : Mem} {x : Int32} : (wc ad cI cZ cC M).set 12 (ad 12, .inl (cI, 120, .inl (fun j => if j < 120 then x else M 12 j))) = wc ad cI cZ cC (mf M 12 120 x) := rfl
theorem wcg_13 {ad : Nat → Nat} {cI cZ cC : ClassId} {M : Mem} : (wc ad cI cZ cC M)[13]? = some (ad 13, .inl (cI, 120, .inl (M 13))) := rfl
theorem wca_13 {ad : Nat → Nat} {cI cZ cC : ClassId} {M : Mem} {i : Nat} {x : Int32} : (wc ad cI cZ cC M).set 13 (ad 13, .inl (cI, 120, .inl (upd (M 13) i x))) = wc ad cI cZ cC (ms M 13 i x) := rfl
theorem wcz_13 {ad : Nat → Nat} {cI cZ cC : ClassId} {M : Mem} {x : Int32} : (wc ad cI cZ cC M).set 13 (ad 13, .inl (cI, 120, .inl (fun j => if j < 120 then x else M 13 j))) = wc ad cI cZ cC (mf M 13 120 x) := rfl
theorem wcg_14 {ad : Nat → Nat} {cI cZ cC : ClassId} {M : Mem} : (wc ad cI cZ cC M)[14]? = some (ad 14, .inl (cI, 120, .inl (M 14))) := rfl
theorem wca_14 {ad : Nat → Nat} {cI cZ cC : ClassId} {M : Mem} {i : Nat} {x : Int32} : (wc ad cI cZ cC M).set 14 (ad 14, .inl (cI, 120, .inl (upd (M 14) i x))) = wc ad cI cZ cC (ms M 14 i x) := rfl
theorem wcz_14 {ad : Nat → Nat} {cI cZ cC : ClassId} {M : Mem} {x : Int32} : (wc ad cI cZ cC M).set 14 (ad 14, .inl (cI, 120, .inl (fun j => if j < 120 then x else M 14 j))) = wc ad cI cZ cC (mf M 14 120 x) := rfl
theorem wcg_15 {ad : Nat → Nat} {cI cZ cC : ClassId} {M : Mem} : (wc ad cI cZ cC M)[15]? = some (ad 15, .inl (cI, 120, .inl (M 15))) := rfl
theorem wca_15 {ad : Nat → Nat} {cI cZ cC : ClassId} {M : Mem} {i : Nat} {x : Int32} : (wc ad cI cZ cC M).set 15 (ad 15, .inl (cI, 120, .inl (upd (M 15) i x))) = wc ad cI cZ cC (ms M 15 i x) := rfl
theorem wcz_15 {ad : Nat → Nat} {cI cZ cC : ClassId} {M : Mem} {x : Int32} : (wc ad cI cZ cC M).set 15 (ad 15, .inl (cI, 120, .inl (fun j => if j < 120 then x else M 15 j))) = wc ad cI cZ cC (mf M 15 120 x) := rfl
theorem wcg_16 {ad : Nat → Nat} {cI cZ cC : ClassId} {M : Mem} : (wc ad cI cZ cC M)[16]? = some (ad 16, .inl (cI, 120, .inl (M 16))) := rfl
theorem wca_16 {ad : Nat → Nat} {cI cZ cC : ClassId} {M : Mem} {i : Nat} {x : Int32} : (wc ad cI cZ cC M).set 16 (ad 16, .inl (cI, 120, .inl (upd (M 16) i x))) = wc ad cI cZ cC (ms M 16 i x) := rfl
theorem wcz_16 {ad : Nat → Nat} {cI cZ cC : ClassId} {M : Mem} {x : Int32} : (wc ad cI cZ cC M).set 16 (ad 16, .inl (cI, 120, .inl (fun j => if j < 120 then x else M 16 j))) = wc ad cI cZ cC (mf M 16 120 x) := rfl
theorem wcg_17 {ad : Nat → Nat} {cI cZ cC : ClassId} {M : Mem} : (wc ad cI cZ cC M)[17]? = some (ad 17, .inl (cI, 120, .inl (M 17))) := rfl
theorem wca_17 {ad : Nat → Nat} {cI cZ cC : ClassId} {M : Mem} {i : Nat} {x : Int32} : (wc ad cI cZ cC M).set 17 (ad 17, .inl (cI, 120, .inl (upd (M 17) i x))) = wc ad cI cZ cC (ms M 17 i x) := rfl
theorem wcz_17 {ad : Nat → Nat} {cI cZ cC : ClassId} {M : Mem} {x : Int32} : (wc ad cI cZ cC M).set 17 (ad 17, .inl (cI, 120, .inl (fun j => if j < 120 then x else M 17 j))) = wc ad cI cZ cC (mf M 17 120 x) := rfl
theorem wcg_18 {ad : Nat → Nat} {cI cZ cC : ClassId} {M : Mem} : (wc ad cI cZ cC M)[18]? = some (ad 18, .inl (cI, 120, .inl (M 18))) := rfl
theorem wca_18 {ad : Nat → Nat} {cI cZ cC : ClassId} {M : Mem} {i : Nat} {x : Int32} : (wc ad cI cZ cC M).set 18 (ad 18, .inl (cI, 120, .inl (upd (M 18) i x))) = wc ad cI cZ cC (ms M 18 i x) := rfl
theorem wcz_18 {ad : Nat → Nat} {cI cZ cC : ClassId} {M : Mem} {x : Int32} : (wc ad cI cZ cC M).set 18 (ad 18, .inl (cI, 120, .inl (fun j => if j < 120 then x else M 18 j))) = wc ad cI cZ cC (mf M 18 120 x) := rfl
theorem wcg_19 {ad : Nat → Nat} {cI cZ cC : ClassId} {M : Mem} : (wc ad cI cZ cC M)[19]? = some (ad 19, .inl (cI, 121, .inl (M 19))) := rfl
theorem wca_19 {ad : Nat → Nat} {cI cZ cC : ClassId} {M : Mem} {i : Nat} {x : Int32} : (wc ad cI cZ cC M).set 19 (ad 19, .inl (cI, 121, .inl (upd (M 19) i x))) = wc ad cI cZ cC (ms M 19 i x) := rfl
theorem wcz_19 {ad : Nat → Nat} {cI cZ cC : ClassId} {M : Mem} {x : Int32} : (wc ad cI cZ cC M).set 19 (ad 19, .inl (cI, 121, .inl (fun j => if j < 121 then x else M 19 j))) = wc ad cI cZ cC (mf M 19 121 x) := rfl
theorem wcg_20 {ad : Nat → Nat} {cI cZ cC : ClassId} {M : Mem} : (wc ad cI cZ cC M)[20]? = some (ad 20, .inl (cI, 121, .inl (M 20))) := rfl
theorem wca_20 {ad : Nat → Nat} {cI cZ cC : ClassId} {M : Mem} {i : Nat} {x : Int32} : (wc ad cI cZ cC M).set 20 (ad 20, .inl (cI, 121, .inl (upd (M 20) i x))) = wc ad cI cZ cC (ms M 20 i x) := rfl
theorem wcz_20 {ad : Nat → Nat} {cI cZ cC : ClassId} {M : Mem} {x : Int32} : (wc ad cI cZ cC M).set 20 (ad 20, .inl (cI, 121, .inl (fun j => if j < 121 then x else M 20 j))) = wc ad cI cZ cC (mf M 20 121 x) := rfl
theorem wcg_21 {ad : Nat → Nat} {cI cZ cC : ClassId} {M : Mem} : (wc ad cI cZ cC M)[21]? = some (ad 21, .inl (cI, 121, .inl (M 21))) := rfl
theorem wca_21 {ad : Nat → Nat} {cI cZ cC : ClassId} {M : Mem} {i : Nat} {x : Int32} : (wc ad cI cZ cC M).set 21 (ad 21, .inl (cI, 121, .inl (upd (M 21) i x))) = wc ad cI cZ cC (ms M 21 i x) := rfl
theorem wcz_21 {ad : Nat → Nat} {cI cZ cC : ClassId} {M : Mem} {x : Int32} : (wc ad cI cZ cC M).set 21 (ad 21, .inl (cI, 121, .inl (fun j => if j < 121 then x else M 21 j))) = wc ad cI cZ cC (mf M 21 121 x) := rfl
theorem wcg_22 {ad : Nat → Nat} {cI cZ cC : ClassId} {M : Mem} : (wc ad cI cZ cC M)[22]? = some (ad 22, .inl (cI, 121, .inl (M 22))) := rfl
theorem wca_22 {ad : Nat → Nat} {cI cZ cC : ClassId} {M : Mem} {i : Nat} {x : Int32} : (wc ad cI cZ cC M).set 22 (ad 22, .inl (cI, 121, .inl (upd (M 22) i x))) = wc ad cI cZ cC (ms M 22 i x) := rfl
theorem wcz_22 {ad : Nat → Nat} {cI cZ cC : ClassId} {M : Mem} {x : Int32} : (wc ad cI cZ cC M).set 22 (ad 22, .inl (cI, 121, .inl (fun j => if j < 121 then x else M 22 j))) = wc ad cI cZ cC (mf M 22 121 x) := rfl
theorem wcg_23 {ad : Nat → Nat} {cI cZ cC : ClassId} {M : Mem} : (wc ad cI cZ cC M)[23]? = some (ad 23, .inr (2, [.ref (ad 1), .ref (ad 11), .ref (ad 24), .int (M 23 3), .int (M 23 4)])) := rfl
theorem wcf_23_3 {ad : Nat → Nat} {cI cZ cC : ClassId} {M : Mem} {x : Int32} : (wc ad cI cZ cC M).set 23 (ad 23, .inr (2, ([.ref (ad 1), .ref (ad 11), .ref (ad 24), .int (M 23 3), .int (M 23 4)] : List Value).set 3 (.int x))) = wc ad cI cZ cC (ms M 23 3 x) := rfl
theorem wcf_23_4 {ad : Nat → Nat} {cI cZ cC : ClassId} {M : Mem} {x : Int32} : (wc ad cI cZ cC M).set 23 (ad 23, .inr (2, ([.ref (ad 1), .ref (ad 11), .ref (ad 24), .int (M 23 3), .int (M 23 4)] : List Value).set 4 (.int x))) = wc ad cI cZ cC (ms M 23 4 x) := rfl
theorem wcg_24 {ad : Nat → Nat} {cI cZ cC : ClassId} {M : Mem} : (wc ad cI cZ cC M)[24]? = some (ad 24, .inl (cC, 256, .inl (M 24))) := rfl
theorem wca_24 {ad : Nat → Nat} {cI cZ cC : ClassId} {M : Mem} {i : Nat} {x : Int32} : (wc ad cI cZ cC M).set 24 (ad 24, .inl (cC, 256, .inl (upd (M 24) i x))) = wc ad cI cZ cC (ms M 24 i x) := rfl
theorem wcg_25 {ad : Nat → Nat} {cI cZ cC : ClassId} {M : Mem} : (wc ad cI cZ cC M)[25]? = some (ad 25, .inr (1, [.ref (ad 1), .ref (ad 26), .ref (ad 27), .ref (ad 28), .int (M 25 4)])) := rfl
theorem wcf_25_4 {ad : Nat → Nat} {cI cZ cC : ClassId} {M : Mem} {x : Int32} : (wc ad cI cZ cC M).set 25 (ad 25, .inr (1, ([.ref (ad 1), .ref (ad 26), .ref (ad 27), .ref (ad 28), .int (M 25 4)] : List Value).set 4 (.int x))) = wc ad cI cZ cC (ms M 25 4 x) := rfl
theorem wcg_26 {ad : Nat → Nat} {cI cZ cC : ClassId} {M : Mem} : (wc ad cI cZ cC M)[26]? = some (ad 26, .inl (cZ, 120, .inl (M 26))) := rfl
theorem wca_26 {ad : Nat → Nat} {cI cZ cC : ClassId} {M : Mem} {i : Nat} {x : Int32} : (wc ad cI cZ cC M).set 26 (ad 26, .inl (cZ, 120, .inl (upd (M 26) i x))) = wc ad cI cZ cC (ms M 26 i x) := rfl
theorem wcg_27 {ad : Nat → Nat} {cI cZ cC : ClassId} {M : Mem} : (wc ad cI cZ cC M)[27]? = some (ad 27, .inl (cI, 25, .inl (M 27))) := rfl
theorem wca_27 {ad : Nat → Nat} {cI cZ cC : ClassId} {M : Mem} {i : Nat} {x : Int32} : (wc ad cI cZ cC M).set 27 (ad 27, .inl (cI, 25, .inl (upd (M 27) i x))) = wc ad cI cZ cC (ms M 27 i x) := rfl
theorem wcz_27 {ad : Nat → Nat} {cI cZ cC : ClassId} {M : Mem} {x : Int32} : (wc ad cI cZ cC M).set 27 (ad 27, .inl (cI, 25, .inl (fun j => if j < 25 then x else M 27 j))) = wc ad cI cZ cC (mf M 27 25 x) := rfl
theorem wcg_28 {ad : Nat → Nat} {cI cZ cC : ClassId} {M : Mem} : (wc ad cI cZ cC M)[28]? = some (ad 28, .inl (cI, 120, .inl (M 28))) := rfl
theorem wca_28 {ad : Nat → Nat} {cI cZ cC : ClassId} {M : Mem} {i : Nat} {x : Int32} : (wc ad cI cZ cC M).set 28 (ad 28, .inl (cI, 120, .inl (upd (M 28) i x))) = wc ad cI cZ cC (ms M 28 i x) := rfl
theorem wcz_28 {ad : Nat → Nat} {cI cZ cC : ClassId} {M : Mem} {x : Int32} : (wc ad cI cZ cC M).set 28 (ad 28, .inl (cI, 120, .inl (fun j => if j < 120 then x else M 28 j))) = wc ad cI cZ cC (mf M 28 120 x) := rfl
theorem tw_93 : Cond.fieldLink "NoneWords$Facts" 15 "NoneWords$Facts" "names" "I" ∈ TB := inTB 93 (by decide +kernel) (by decide +kernel)
theorem tw_102 : Cond.fieldLink "NoneWords$Facts" 43 "NoneWords$Facts" "nodes" "I" ∈ TB := inTB 102 (by decide +kernel) (by decide +kernel)
theorem tw_285 : Cond.methodLink "NoneWords$Facts" 52 ⟨"NoneWords$Facts", "hasNode", "(I)Z"⟩ ∈ TB := inTB 285 (by decide +kernel) (by decide +kernel)
theorem tw_94 : Cond.fieldLink "NoneWords$Facts" 19 "NoneWords$Facts" "kinds" "[I" ∈ TB := inTB 94 (by decide +kernel) (by decide +kernel)
theorem tw_96 : Cond.fieldLink "NoneWords$Facts" 25 "NoneWords$Facts" "toldNames" "[I" ∈ TB := inTB 96 (by decide +kernel) (by decide +kernel)
theorem tw_97 : Cond.fieldLink "NoneWords$Facts" 28 "NoneWords$Facts" "toldSets" "[I" ∈ TB := inTB 97 (by decide +kernel) (by decide +kernel)
theorem tw_98 : Cond.fieldLink "NoneWords$Facts" 31 "NoneWords$Facts" "toldOthers" "[I" ∈ TB := inTB 98 (by decide +kernel) (by decide +kernel)
theorem tw_99 : Cond.fieldLink "NoneWords$Facts" 34 "NoneWords$Facts" "toldOtherSets" "[I" ∈ TB := inTB 99 (by decide +kernel) (by decide +kernel)
theorem tw_100 : Cond.fieldLink "NoneWords$Facts" 37 "NoneWords$Facts" "leftParts" "[I" ∈ TB := inTB 100 (by decide +kernel) (by decide +kernel)
theorem tw_101 : Cond.fieldLink "NoneWords$Facts" 40 "NoneWords$Facts" "rightParts" "[I" ∈ TB := inTB 101 (by decide +kernel) (by decide +kernel)
theorem tw_393 : Cond.methodLink "NoneWords$Facts" 56 ⟨"NoneWords$Facts", "leftPart", "(I)I"⟩ ∈ TB := inTB 393 (by decide +kernel) (by decide +kernel)
theorem tw_394 : Cond.methodLink "NoneWords$Facts" 60 ⟨"NoneWords$Facts", "isLeaf", "(I)Z"⟩ ∈ TB := inTB 394 (by decide +kernel) (by decide +kernel)
theorem tw_398 : Cond.methodLink "NoneWords$Facts" 63 ⟨"NoneWords$Facts", "rightPart", "(I)I"⟩ ∈ TB := inTB 398 (by decide +kernel) (by decide +kernel)
theorem tw_411 : Cond.methodLink "NoneWords$Facts" 66 ⟨"NoneWords$Facts", "isJoin", "(I)Z"⟩ ∈ TB := inTB 411 (by decide +kernel) (by decide +kernel)
theorem tw_92 : Cond.fieldLink "NoneWords$Facts" 11 "NoneWords$Facts" "versions" "[I" ∈ TB := inTB 92 (by decide +kernel) (by decide +kernel)
theorem tw_254 : Cond.methodLink "NoneWords$Facts" 69 ⟨"NoneWords$Facts", "hasName", "(I)Z"⟩ ∈ TB := inTB 254 (by decide +kernel) (by decide +kernel)
theorem tw_95 : Cond.fieldLink "NoneWords$Facts" 22 "NoneWords$Facts" "truths" "[I" ∈ TB := inTB 95 (by decide +kernel) (by decide +kernel)
theorem tw_265 : Cond.constant "NoneWords$Facts" 88 33554431 ∈ TB := inTB 265 (by decide +kernel) (by decide +kernel)
theorem tw_269 : Cond.methodLink "NoneWords$Facts" 82 ⟨"NoneWords$Facts", "addNode", "(II)I"⟩ ∈ TB := inTB 269 (by decide +kernel) (by decide +kernel)
theorem tw_258 : Cond.methodLink "NoneWords$Facts" 72 ⟨"NoneWords$Facts", "allVersions", "(I)I"⟩ ∈ TB := inTB 258 (by decide +kernel) (by decide +kernel)
theorem tw_266 : Cond.methodLink "NoneWords$Facts" 79 ⟨"NoneWords$Facts", "wantedIn", "(II)I"⟩ ∈ TB := inTB 266 (by decide +kernel) (by decide +kernel)
theorem tw_262 : Cond.methodLink "NoneWords$Facts" 75 ⟨"NoneWords$Facts", "notIn", "(II)I"⟩ ∈ TB := inTB 262 (by decide +kernel) (by decide +kernel)
theorem tw_289 : Cond.methodLink "NoneWords$Facts" 85 ⟨"NoneWords$Facts", "optionsOfTerm", "(II)I"⟩ ∈ TB := inTB 289 (by decide +kernel) (by decide +kernel)
theorem tw_302 : Cond.methodLink "NoneWords$Facts" 89 ⟨"NoneWords$Facts", "hasTermOf", "(IIZ)Z"⟩ ∈ TB := inTB 302 (by decide +kernel) (by decide +kernel)
section FACTS
variable {p : Program} {l : Launch} {e : Env} {s : State} {m : MethodId} {args : Array Value} {below : List Frame} {meth : Method} {c : Code} {D : va_G} {A : Nat → Prop} {Z : gw_Z} {ad : Nat → Nat} {cI cZ cC : ClassId}
abbrev b_F_countNames : ByteArray := prog_2_method_2_code
def y_F_countNames : MethodName := ⟨"NoneWords$Facts", "countNames", "()I"⟩
abbrev ws_F_countNames : List Cond := Cond.code y_F_countNames b_F_countNames 1 (some (FieldType.int)) :: TB
set_option maxRecDepth 100000 in
theorem tc_F_countNames : Cond.code y_F_countNames b_F_countNames 1 (some (FieldType.int)) ∈ TB := inTB 523 rfl rfl
theorem mv_F_countNames : Cond.instanceMethod y_F_countNames ∈ TB ∧ Cond.selects "NoneWords$Facts" y_F_countNames y_F_countNames ∈ TB ∧ Cond.initialized "NoneWords$Facts" ∈ TB ∧ Cond.code y_F_countNames b_F_countNames 1 (some (FieldType.int)) ∈ TB := ⟨inTB 521 (by decide +kernel) (by decide +kernel), inTB 522 (by decide +kernel) (by decide +kernel), inTB 65 (by decide +kernel) (by decide +kernel), tc_F_countNames⟩
theorem pd_F_countNames : y_F_countNames.cls = "NoneWords$Facts" ∧ y_F_countNames.cls ≠ "java/lang/invoke/MethodHandle" ∧ y_F_countNames.cls ≠ "java/lang/invoke/VarHandle" ∧ (parseMethodDescriptor y_F_countNames.desc).map (fun d => d.parameters.length) = some 0 := by decide +kernel
theorem d_F_countNames_0 : decode b_F_countNames 0 = .ok (.aload_n 0, 1) := by decide +kernel
theorem d_F_countNames_1 : decode b_F_countNames 1 = .ok (.getfield 15, 3) := by decide +kernel
theorem d_F_countNames_4 : decode b_F_countNames 4 = .ok (.ireturn, 1) := by decide +kernel
abbrev rm_F_countNames : Room := { frames := 0, cells := 0, slots := 0, locals := 0 }
def f_F_countNames (M : Mem) : Option (Int32 × Mem) :=
  some (M 1 1, M)
set_option maxRecDepth 100000 in
theorem g_F_countNames {r : Int32} {M' : Mem} (C : GC p s m args meth c b_F_countNames 1 (some (FieldType.int)) "NoneWords$Facts" TB D vwCl (tysW cI cZ cC) A Z) {M : Mem} (hf : f_F_countNames M = some (r, M')) : GW p l e rm_F_countNames s m args below meth c (MQ below (QW D vwCl (tysW cI cZ cC) A (some (.int r)) (wc ad cI cZ cC M')) args s 0 0 A) D vwCl A 1 0 0 (wc ad cI cZ cC M) 0 [(0, .ref (ad 1))] [] := by
  unfold f_F_countNames at hf
  refine gw_aload_n C 0 d_F_countNames_0 rfl rfl ?_
  refine gw_get C in_F 1 wcg_1 clg_0 1 (by decide) tw_93 rfl rfl d_F_countNames_1 ?_
  exact gw_ireti C d_F_countNames_4 (wc ad cI cZ cC) hf
theorem c_F_countNames (hZ : gw_ZOK Z) {M : Mem} {r : Int32} {M' : Mem} (hf : f_F_countNames M = some (r, M')) : CW l y_F_countNames ws_F_countNames rm_F_countNames D vwCl (tysW cI cZ cC) Z [.ref (ad 1)] (wc ad cI cZ cC M) (some (.int r)) (wc ad cI cZ cC M') 0 0 :=
  CW.ofG hZ (by decide) rfl (Nat.le_of_ble_eq_true rfl) (fun _ _ _ _ _ _ _ _ C _ => g_F_countNames C hf)
abbrev b_F_countNodes : ByteArray := prog_2_method_3_code
def y_F_countNodes : MethodName := ⟨"NoneWords$Facts", "countNodes", "()I"⟩
abbrev ws_F_countNodes : List Cond := Cond.code y_F_countNodes b_F_countNodes 1 (some (FieldType.int)) :: TB
set_option maxRecDepth 100000 in
theorem tc_F_countNodes : Cond.code y_F_countNodes b_F_countNodes 1 (some (FieldType.int)) ∈ TB := inTB 625 rfl rfl
theorem mv_F_countNodes : Cond.instanceMethod y_F_countNodes ∈ TB ∧ Cond.selects "NoneWords$Facts" y_F_countNodes y_F_countNodes ∈ TB ∧ Cond.initialized "NoneWords$Facts" ∈ TB ∧ Cond.code y_F_countNodes b_F_countNodes 1 (some (FieldType.int)) ∈ TB := ⟨inTB 623 (by decide +kernel) (by decide +kernel), inTB 624 (by decide +kernel) (by decide +kernel), inTB 65 (by decide +kernel) (by decide +kernel), tc_F_countNodes⟩
theorem pd_F_countNodes : y_F_countNodes.cls = "NoneWords$Facts" ∧ y_F_countNodes.cls ≠ "java/lang/invoke/MethodHandle" ∧ y_F_countNodes.cls ≠ "java/lang/invoke/VarHandle" ∧ (parseMethodDescriptor y_F_countNodes.desc).map (fun d => d.parameters.length) = some 0 := by decide +kernel
theorem d_F_countNodes_0 : decode b_F_countNodes 0 = .ok (.aload_n 0, 1) := by decide +kernel
theorem d_F_countNodes_1 : decode b_F_countNodes 1 = .ok (.getfield 43, 3) := by decide +kernel
theorem d_F_countNodes_4 : decode b_F_countNodes 4 = .ok (.ireturn, 1) := by decide +kernel
abbrev rm_F_countNodes : Room := { frames := 0, cells := 0, slots := 0, locals := 0 }
def f_F_countNodes (M : Mem) : Option (Int32 × Mem) :=
  some (M 1 10, M)
set_option maxRecDepth 100000 in
theorem g_F_countNodes {r : Int32} {M' : Mem} (C : GC p s m args meth c b_F_countNodes 1 (some (FieldType.int)) "NoneWords$Facts" TB D vwCl (tysW cI cZ cC) A Z) {M : Mem} (hf : f_F_countNodes M = some (r, M')) : GW p l e rm_F_countNodes s m args below meth c (MQ below (QW D vwCl (tysW cI cZ cC) A (some (.int r)) (wc ad cI cZ cC M')) args s 0 0 A) D vwCl A 1 0 0 (wc ad cI cZ cC M) 0 [(0, .ref (ad 1))] [] := by
  unfold f_F_countNodes at hf
  refine gw_aload_n C 0 d_F_countNodes_0 rfl rfl ?_
  refine gw_get C in_F 1 wcg_1 clg_0 10 (by decide) tw_102 rfl rfl d_F_countNodes_1 ?_
  exact gw_ireti C d_F_countNodes_4 (wc ad cI cZ cC) hf
theorem c_F_countNodes (hZ : gw_ZOK Z) {M : Mem} {r : Int32} {M' : Mem} (hf : f_F_countNodes M = some (r, M')) : CW l y_F_countNodes ws_F_countNodes rm_F_countNodes D vwCl (tysW cI cZ cC) Z [.ref (ad 1)] (wc ad cI cZ cC M) (some (.int r)) (wc ad cI cZ cC M') 0 0 :=
  CW.ofG hZ (by decide) rfl (Nat.le_of_ble_eq_true rfl) (fun _ _ _ _ _ _ _ _ C _ => g_F_countNodes C hf)
abbrev b_F_hasName : ByteArray := prog_2_method_4_code
def y_F_hasName : MethodName := ⟨"NoneWords$Facts", "hasName", "(I)Z"⟩
abbrev ws_F_hasName : List Cond := Cond.code y_F_hasName b_F_hasName 2 (some (FieldType.boolean)) :: TB
set_option maxRecDepth 100000 in
theorem tc_F_hasName : Cond.code y_F_hasName b_F_hasName 2 (some (FieldType.boolean)) ∈ TB := inTB 257 rfl rfl
theorem mv_F_hasName : Cond.instanceMethod y_F_hasName ∈ TB ∧ Cond.selects "NoneWords$Facts" y_F_hasName y_F_hasName ∈ TB ∧ Cond.initialized "NoneWords$Facts" ∈ TB ∧ Cond.code y_F_hasName b_F_hasName 2 (some (FieldType.boolean)) ∈ TB := ⟨inTB 255 (by decide +kernel) (by decide +kernel), inTB 256 (by decide +kernel) (by decide +kernel), inTB 65 (by decide +kernel) (by decide +kernel), tc_F_hasName⟩
theorem pd_F_hasName : y_F_hasName.cls = "NoneWords$Facts" ∧ y_F_hasName.cls ≠ "java/lang/invoke/MethodHandle" ∧ y_F_hasName.cls ≠ "java/lang/invoke/VarHandle" ∧ (parseMethodDescriptor y_F_hasName.desc).map (fun d => d.parameters.length) = some 1 := by decide +kernel
theorem d_F_hasName_0 : decode b_F_hasName 0 = .ok (.iload_n 1, 1) := by decide +kernel
theorem d_F_hasName_1 : decode b_F_hasName 1 = .ok (.ifCond .lt 15, 3) := by decide +kernel
theorem d_F_hasName_4 : decode b_F_hasName 4 = .ok (.iload_n 1, 1) := by decide +kernel
theorem d_F_hasName_5 : decode b_F_hasName 5 = .ok (.aload_n 0, 1) := by decide +kernel
theorem d_F_hasName_6 : decode b_F_hasName 6 = .ok (.getfield 15, 3) := by decide +kernel
theorem d_F_hasName_9 : decode b_F_hasName 9 = .ok (.if_icmp .ge 7, 3) := by decide +kernel
theorem d_F_hasName_12 : decode b_F_hasName 12 = .ok (.iconst 1, 1) := by decide +kernel
theorem d_F_hasName_13 : decode b_F_hasName 13 = .ok (.goto 4, 3) := by decide +kernel
theorem d_F_hasName_16 : decode b_F_hasName 16 = .ok (.iconst 0, 1) := by decide +kernel
theorem d_F_hasName_17 : decode b_F_hasName 17 = .ok (.ireturn, 1) := by decide +kernel
abbrev rm_F_hasName : Room := { frames := 0, cells := 0, slots := 0, locals := 0 }
def f_F_hasName (x1 : Int32) (M : Mem) : Option (Int32 × Mem) :=
  if x1 < 0 then some ((0 : Int32), M) else if (M 1 1) ≤ x1 then some ((0 : Int32), M) else some ((1 : Int32), M)
set_option maxRecDepth 100000 in
theorem g_F_hasName {r : Int32} {M' : Mem} (C : GC p s m args meth c b_F_hasName 2 (some (FieldType.boolean)) "NoneWords$Facts" TB D vwCl (tysW cI cZ cC) A Z) {x1 : Int32} {M : Mem} (hf : f_F_hasName x1 M = some (r, M')) : GW p l e rm_F_hasName s m args below meth c (MQ below (QW D vwCl (tysW cI cZ cC) A (some (.int r)) (wc ad cI cZ cC M')) args s 0 0 A) D vwCl A 2 0 0 (wc ad cI cZ cC M) 0 [(0, .ref (ad 1)), (1, .int x1)] [] := by
  unfold f_F_hasName at hf
  refine gw_iload_n C 1 d_F_hasName_0 rfl rfl ?_
  refine gw_if_lt (tgt := 16) C d_F_hasName_1 (by decide) (fun c => ?_) (fun c => ?_)
  · have hf := (if_pos c).symm.trans hf
    refine gw_iconst (v := (0 : Int32)) C d_F_hasName_16 (by decide) ?_
    exact gw_zreti C d_F_hasName_17 (wc ad cI cZ cC) (by decide) hf
  · have hf := (if_neg c).symm.trans hf
    refine gw_iload_n C 1 d_F_hasName_4 rfl rfl ?_
    refine gw_aload_n C 0 d_F_hasName_5 rfl rfl ?_
    refine gw_get C in_F 1 wcg_1 clg_0 1 (by decide) tw_93 rfl rfl d_F_hasName_6 ?_
    refine gw_icmp_ge (tgt := 16) C d_F_hasName_9 (by decide) (fun c => ?_) (fun c => ?_)
    · have hf := (if_pos c).symm.trans hf
      refine gw_iconst (v := (0 : Int32)) C d_F_hasName_16 (by decide) ?_
      exact gw_zreti C d_F_hasName_17 (wc ad cI cZ cC) (by decide) hf
    · have hf := (if_neg c).symm.trans hf
      refine gw_iconst (v := (1 : Int32)) C d_F_hasName_12 (by decide) ?_
      refine gw_goto (tgt := 17) C d_F_hasName_13 (by decide) ?_
      exact gw_zreti C d_F_hasName_17 (wc ad cI cZ cC) (by decide) hf
theorem c_F_hasName (hZ : gw_ZOK Z) {x1 : Int32} {M : Mem} {r : Int32} {M' : Mem} (hf : f_F_hasName x1 M = some (r, M')) : CW l y_F_hasName ws_F_hasName rm_F_hasName D vwCl (tysW cI cZ cC) Z [.ref (ad 1), .int x1] (wc ad cI cZ cC M) (some (.int r)) (wc ad cI cZ cC M') 0 0 :=
  CW.ofG hZ (by decide) rfl (Nat.le_of_ble_eq_true rfl) (fun _ _ _ _ _ _ _ _ C _ => g_F_hasName C hf)
abbrev b_F_hasNode : ByteArray := prog_2_method_5_code
def y_F_hasNode : MethodName := ⟨"NoneWords$Facts", "hasNode", "(I)Z"⟩
abbrev ws_F_hasNode : List Cond := Cond.code y_F_hasNode b_F_hasNode 2 (some (FieldType.boolean)) :: TB
set_option maxRecDepth 100000 in
theorem tc_F_hasNode : Cond.code y_F_hasNode b_F_hasNode 2 (some (FieldType.boolean)) ∈ TB := inTB 288 rfl rfl
theorem mv_F_hasNode : Cond.instanceMethod y_F_hasNode ∈ TB ∧ Cond.selects "NoneWords$Facts" y_F_hasNode y_F_hasNode ∈ TB ∧ Cond.initialized "NoneWords$Facts" ∈ TB ∧ Cond.code y_F_hasNode b_F_hasNode 2 (some (FieldType.boolean)) ∈ TB := ⟨inTB 286 (by decide +kernel) (by decide +kernel), inTB 287 (by decide +kernel) (by decide +kernel), inTB 65 (by decide +kernel) (by decide +kernel), tc_F_hasNode⟩
theorem pd_F_hasNode : y_F_hasNode.cls = "NoneWords$Facts" ∧ y_F_hasNode.cls ≠ "java/lang/invoke/MethodHandle" ∧ y_F_hasNode.cls ≠ "java/lang/invoke/VarHandle" ∧ (parseMethodDescriptor y_F_hasNode.desc).map (fun d => d.parameters.length) = some 1 := by decide +kernel
theorem d_F_hasNode_0 : decode b_F_hasNode 0 = .ok (.iload_n 1, 1) := by decide +kernel
theorem d_F_hasNode_1 : decode b_F_hasNode 1 = .ok (.ifCond .lt 15, 3) := by decide +kernel
theorem d_F_hasNode_4 : decode b_F_hasNode 4 = .ok (.iload_n 1, 1) := by decide +kernel
theorem d_F_hasNode_5 : decode b_F_hasNode 5 = .ok (.aload_n 0, 1) := by decide +kernel
theorem d_F_hasNode_6 : decode b_F_hasNode 6 = .ok (.getfield 43, 3) := by decide +kernel
theorem d_F_hasNode_9 : decode b_F_hasNode 9 = .ok (.if_icmp .ge 7, 3) := by decide +kernel
theorem d_F_hasNode_12 : decode b_F_hasNode 12 = .ok (.iconst 1, 1) := by decide +kernel
theorem d_F_hasNode_13 : decode b_F_hasNode 13 = .ok (.goto 4, 3) := by decide +kernel
theorem d_F_hasNode_16 : decode b_F_hasNode 16 = .ok (.iconst 0, 1) := by decide +kernel
theorem d_F_hasNode_17 : decode b_F_hasNode 17 = .ok (.ireturn, 1) := by decide +kernel
abbrev rm_F_hasNode : Room := { frames := 0, cells := 0, slots := 0, locals := 0 }
def f_F_hasNode (x1 : Int32) (M : Mem) : Option (Int32 × Mem) :=
  if x1 < 0 then some ((0 : Int32), M) else if (M 1 10) ≤ x1 then some ((0 : Int32), M) else some ((1 : Int32), M)
set_option maxRecDepth 100000 in
theorem g_F_hasNode {r : Int32} {M' : Mem} (C : GC p s m args meth c b_F_hasNode 2 (some (FieldType.boolean)) "NoneWords$Facts" TB D vwCl (tysW cI cZ cC) A Z) {x1 : Int32} {M : Mem} (hf : f_F_hasNode x1 M = some (r, M')) : GW p l e rm_F_hasNode s m args below meth c (MQ below (QW D vwCl (tysW cI cZ cC) A (some (.int r)) (wc ad cI cZ cC M')) args s 0 0 A) D vwCl A 2 0 0 (wc ad cI cZ cC M) 0 [(0, .ref (ad 1)), (1, .int x1)] [] := by
  unfold f_F_hasNode at hf
  refine gw_iload_n C 1 d_F_hasNode_0 rfl rfl ?_
  refine gw_if_lt (tgt := 16) C d_F_hasNode_1 (by decide) (fun c => ?_) (fun c => ?_)
  · have hf := (if_pos c).symm.trans hf
    refine gw_iconst (v := (0 : Int32)) C d_F_hasNode_16 (by decide) ?_
    exact gw_zreti C d_F_hasNode_17 (wc ad cI cZ cC) (by decide) hf
  · have hf := (if_neg c).symm.trans hf
    refine gw_iload_n C 1 d_F_hasNode_4 rfl rfl ?_
    refine gw_aload_n C 0 d_F_hasNode_5 rfl rfl ?_
    refine gw_get C in_F 1 wcg_1 clg_0 10 (by decide) tw_102 rfl rfl d_F_hasNode_6 ?_
    refine gw_icmp_ge (tgt := 16) C d_F_hasNode_9 (by decide) (fun c => ?_) (fun c => ?_)
    · have hf := (if_pos c).symm.trans hf
      refine gw_iconst (v := (0 : Int32)) C d_F_hasNode_16 (by decide) ?_
      exact gw_zreti C d_F_hasNode_17 (wc ad cI cZ cC) (by decide) hf
    · have hf := (if_neg c).symm.trans hf
      refine gw_iconst (v := (1 : Int32)) C d_F_hasNode_12 (by decide) ?_
      refine gw_goto (tgt := 17) C d_F_hasNode_13 (by decide) ?_
      exact gw_zreti C d_F_hasNode_17 (wc ad cI cZ cC) (by decide) hf
theorem c_F_hasNode (hZ : gw_ZOK Z) {x1 : Int32} {M : Mem} {r : Int32} {M' : Mem} (hf : f_F_hasNode x1 M = some (r, M')) : CW l y_F_hasNode ws_F_hasNode rm_F_hasNode D vwCl (tysW cI cZ cC) Z [.ref (ad 1), .int x1] (wc ad cI cZ cC M) (some (.int r)) (wc ad cI cZ cC M') 0 0 :=
  CW.ofG hZ (by decide) rfl (Nat.le_of_ble_eq_true rfl) (fun _ _ _ _ _ _ _ _ C _ => g_F_hasNode C hf)
abbrev b_F_kindOf : ByteArray := prog_2_method_6_code
def y_F_kindOf : MethodName := ⟨"NoneWords$Facts", "kindOf", "(I)I"⟩
abbrev ws_F_kindOf : List Cond := Cond.code y_F_kindOf b_F_kindOf 2 (some (FieldType.int)) :: TB
set_option maxRecDepth 100000 in
theorem tc_F_kindOf : Cond.code y_F_kindOf b_F_kindOf 2 (some (FieldType.int)) ∈ TB := inTB 557 rfl rfl
theorem mv_F_kindOf : Cond.instanceMethod y_F_kindOf ∈ TB ∧ Cond.selects "NoneWords$Facts" y_F_kindOf y_F_kindOf ∈ TB ∧ Cond.initialized "NoneWords$Facts" ∈ TB ∧ Cond.code y_F_kindOf b_F_kindOf 2 (some (FieldType.int)) ∈ TB := ⟨inTB 555 (by decide +kernel) (by decide +kernel), inTB 556 (by decide +kernel) (by decide +kernel), inTB 65 (by decide +kernel) (by decide +kernel), tc_F_kindOf⟩
theorem pd_F_kindOf : y_F_kindOf.cls = "NoneWords$Facts" ∧ y_F_kindOf.cls ≠ "java/lang/invoke/MethodHandle" ∧ y_F_kindOf.cls ≠ "java/lang/invoke/VarHandle" ∧ (parseMethodDescriptor y_F_kindOf.desc).map (fun d => d.parameters.length) = some 1 := by decide +kernel
theorem d_F_kindOf_0 : decode b_F_kindOf 0 = .ok (.aload_n 0, 1) := by decide +kernel
theorem d_F_kindOf_1 : decode b_F_kindOf 1 = .ok (.iload_n 1, 1) := by decide +kernel
theorem d_F_kindOf_2 : decode b_F_kindOf 2 = .ok (.invokevirtual 52, 3) := by decide +kernel
theorem d_F_kindOf_5 : decode b_F_kindOf 5 = .ok (.ifCond .eq 12, 3) := by decide +kernel
theorem d_F_kindOf_8 : decode b_F_kindOf 8 = .ok (.aload_n 0, 1) := by decide +kernel
theorem d_F_kindOf_9 : decode b_F_kindOf 9 = .ok (.getfield 19, 3) := by decide +kernel
theorem d_F_kindOf_12 : decode b_F_kindOf 12 = .ok (.iload_n 1, 1) := by decide +kernel
theorem d_F_kindOf_13 : decode b_F_kindOf 13 = .ok (.iaload, 1) := by decide +kernel
theorem d_F_kindOf_14 : decode b_F_kindOf 14 = .ok (.goto 4, 3) := by decide +kernel
theorem d_F_kindOf_17 : decode b_F_kindOf 17 = .ok (.iconst (-1), 1) := by decide +kernel
theorem d_F_kindOf_18 : decode b_F_kindOf 18 = .ok (.ireturn, 1) := by decide +kernel
abbrev rm_F_kindOf : Room := { frames := 1, cells := 0, slots := 0, locals := 21 }
def f_F_kindOf (x1 : Int32) (M : Mem) : Option (Int32 × Mem) :=
  ob (f_F_hasNode x1 M) fun r2 M2 => if r2 = 0 then some ((-1 : Int32), M2) else gd (inb x1 120) (some (M2 3 x1.toNatClampNeg, M2))
set_option maxRecDepth 100000 in
theorem g_F_kindOf {r : Int32} {M' : Mem} (C : GC p s m args meth c b_F_kindOf 2 (some (FieldType.int)) "NoneWords$Facts" TB D vwCl (tysW cI cZ cC) A Z) {x1 : Int32} {M : Mem} (hf : f_F_kindOf x1 M = some (r, M')) : GW p l e rm_F_kindOf s m args below meth c (MQ below (QW D vwCl (tysW cI cZ cC) A (some (.int r)) (wc ad cI cZ cC M')) args s 0 0 A) D vwCl A 2 0 0 (wc ad cI cZ cC M) 0 [(0, .ref (ad 1)), (1, .int x1)] [] := by
  unfold f_F_kindOf at hf
  refine gw_aload_n C 0 d_F_kindOf_0 rfl rfl ?_
  refine gw_iload_n C 1 d_F_kindOf_1 rfl rfl ?_
  obtain ⟨r2, M2, hc2, hf⟩ := ob_some hf
  refine gw_callVr (rest := []) C 1 wcg_1 clg_0 (c_F_hasNode C.2.2.2.2.2.2.2.2.2.2 hc2) (cwV 1 C.2.2.2.2.1 (gTB_V tw_285 mv_F_hasNode) rfl rfl rfl pd_F_hasNode ⟨Nat.le_of_ble_eq_true rfl, Nat.le_of_ble_eq_true rfl⟩) rfl rfl (Nat.le_of_ble_eq_true rfl) d_F_kindOf_2 ⟨Nat.le_of_ble_eq_true rfl, Nat.le_of_ble_eq_true rfl⟩ ?_
  refine gw_if_eq (tgt := 17) C d_F_kindOf_5 (by decide) (fun c => ?_) (fun c => ?_)
  · have hf := (if_pos c).symm.trans hf
    refine gw_iconst (v := (-1 : Int32)) C d_F_kindOf_17 (by decide) ?_
    exact gw_ireti C d_F_kindOf_18 (wc ad cI cZ cC) hf
  · have hf := (if_neg c).symm.trans hf
    refine gw_aload_n C 0 d_F_kindOf_8 rfl rfl ?_
    refine gw_get C in_F 1 wcg_1 clg_0 2 (by decide) tw_94 rfl rfl d_F_kindOf_9 ?_
    refine gw_iload_n C 1 d_F_kindOf_12 rfl rfl ?_
    obtain ⟨hb13, hf⟩ := gd_some hf
    refine gw_iald C 3 0 wcg_3 rfl hb13 d_F_kindOf_13 ?_
    refine gw_goto (tgt := 18) C d_F_kindOf_14 (by decide) ?_
    exact gw_ireti C d_F_kindOf_18 (wc ad cI cZ cC) hf
theorem c_F_kindOf (hZ : gw_ZOK Z) {x1 : Int32} {M : Mem} {r : Int32} {M' : Mem} (hf : f_F_kindOf x1 M = some (r, M')) : CW l y_F_kindOf ws_F_kindOf rm_F_kindOf D vwCl (tysW cI cZ cC) Z [.ref (ad 1), .int x1] (wc ad cI cZ cC M) (some (.int r)) (wc ad cI cZ cC M') 0 0 :=
  CW.ofG hZ (by decide) rfl (Nat.le_of_ble_eq_true rfl) (fun _ _ _ _ _ _ _ _ C _ => g_F_kindOf C hf)
abbrev b_F_isJoin : ByteArray := prog_2_method_7_code
def y_F_isJoin : MethodName := ⟨"NoneWords$Facts", "isJoin", "(I)Z"⟩
abbrev ws_F_isJoin : List Cond := Cond.code y_F_isJoin b_F_isJoin 2 (some (FieldType.boolean)) :: TB
set_option maxRecDepth 100000 in
theorem tc_F_isJoin : Cond.code y_F_isJoin b_F_isJoin 2 (some (FieldType.boolean)) ∈ TB := inTB 360 rfl rfl
theorem mv_F_isJoin : Cond.instanceMethod y_F_isJoin ∈ TB ∧ Cond.selects "NoneWords$Facts" y_F_isJoin y_F_isJoin ∈ TB ∧ Cond.initialized "NoneWords$Facts" ∈ TB ∧ Cond.code y_F_isJoin b_F_isJoin 2 (some (FieldType.boolean)) ∈ TB := ⟨inTB 358 (by decide +kernel) (by decide +kernel), inTB 359 (by decide +kernel) (by decide +kernel), inTB 65 (by decide +kernel) (by decide +kernel), tc_F_isJoin⟩
theorem pd_F_isJoin : y_F_isJoin.cls = "NoneWords$Facts" ∧ y_F_isJoin.cls ≠ "java/lang/invoke/MethodHandle" ∧ y_F_isJoin.cls ≠ "java/lang/invoke/VarHandle" ∧ (parseMethodDescriptor y_F_isJoin.desc).map (fun d => d.parameters.length) = some 1 := by decide +kernel
theorem d_F_isJoin_0 : decode b_F_isJoin 0 = .ok (.aload_n 0, 1) := by decide +kernel
theorem d_F_isJoin_1 : decode b_F_isJoin 1 = .ok (.iload_n 1, 1) := by decide +kernel
theorem d_F_isJoin_2 : decode b_F_isJoin 2 = .ok (.invokevirtual 52, 3) := by decide +kernel
theorem d_F_isJoin_5 : decode b_F_isJoin 5 = .ok (.ifCond .eq 17, 3) := by decide +kernel
theorem d_F_isJoin_8 : decode b_F_isJoin 8 = .ok (.aload_n 0, 1) := by decide +kernel
theorem d_F_isJoin_9 : decode b_F_isJoin 9 = .ok (.getfield 19, 3) := by decide +kernel
theorem d_F_isJoin_12 : decode b_F_isJoin 12 = .ok (.iload_n 1, 1) := by decide +kernel
theorem d_F_isJoin_13 : decode b_F_isJoin 13 = .ok (.iaload, 1) := by decide +kernel
theorem d_F_isJoin_14 : decode b_F_isJoin 14 = .ok (.iconst 4, 1) := by decide +kernel
theorem d_F_isJoin_15 : decode b_F_isJoin 15 = .ok (.if_icmp .ne 7, 3) := by decide +kernel
theorem d_F_isJoin_18 : decode b_F_isJoin 18 = .ok (.iconst 1, 1) := by decide +kernel
theorem d_F_isJoin_19 : decode b_F_isJoin 19 = .ok (.goto 4, 3) := by decide +kernel
theorem d_F_isJoin_22 : decode b_F_isJoin 22 = .ok (.iconst 0, 1) := by decide +kernel
theorem d_F_isJoin_23 : decode b_F_isJoin 23 = .ok (.ireturn, 1) := by decide +kernel
abbrev rm_F_isJoin : Room := { frames := 1, cells := 0, slots := 0, locals := 21 }
def f_F_isJoin (x1 : Int32) (M : Mem) : Option (Int32 × Mem) :=
  ob (f_F_hasNode x1 M) fun r2 M2 => if r2 = 0 then some ((0 : Int32), M2) else gd (inb x1 120) (if (M2 3 x1.toNatClampNeg) = (4 : Int32) then some ((1 : Int32), M2) else some ((0 : Int32), M2))
set_option maxRecDepth 100000 in
theorem g_F_isJoin {r : Int32} {M' : Mem} (C : GC p s m args meth c b_F_isJoin 2 (some (FieldType.boolean)) "NoneWords$Facts" TB D vwCl (tysW cI cZ cC) A Z) {x1 : Int32} {M : Mem} (hf : f_F_isJoin x1 M = some (r, M')) : GW p l e rm_F_isJoin s m args below meth c (MQ below (QW D vwCl (tysW cI cZ cC) A (some (.int r)) (wc ad cI cZ cC M')) args s 0 0 A) D vwCl A 2 0 0 (wc ad cI cZ cC M) 0 [(0, .ref (ad 1)), (1, .int x1)] [] := by
  unfold f_F_isJoin at hf
  refine gw_aload_n C 0 d_F_isJoin_0 rfl rfl ?_
  refine gw_iload_n C 1 d_F_isJoin_1 rfl rfl ?_
  obtain ⟨r2, M2, hc2, hf⟩ := ob_some hf
  refine gw_callVr (rest := []) C 1 wcg_1 clg_0 (c_F_hasNode C.2.2.2.2.2.2.2.2.2.2 hc2) (cwV 1 C.2.2.2.2.1 (gTB_V tw_285 mv_F_hasNode) rfl rfl rfl pd_F_hasNode ⟨Nat.le_of_ble_eq_true rfl, Nat.le_of_ble_eq_true rfl⟩) rfl rfl (Nat.le_of_ble_eq_true rfl) d_F_isJoin_2 ⟨Nat.le_of_ble_eq_true rfl, Nat.le_of_ble_eq_true rfl⟩ ?_
  refine gw_if_eq (tgt := 22) C d_F_isJoin_5 (by decide) (fun c => ?_) (fun c => ?_)
  · have hf := (if_pos c).symm.trans hf
    refine gw_iconst (v := (0 : Int32)) C d_F_isJoin_22 (by decide) ?_
    exact gw_zreti C d_F_isJoin_23 (wc ad cI cZ cC) (by decide) hf
  · have hf := (if_neg c).symm.trans hf
    refine gw_aload_n C 0 d_F_isJoin_8 rfl rfl ?_
    refine gw_get C in_F 1 wcg_1 clg_0 2 (by decide) tw_94 rfl rfl d_F_isJoin_9 ?_
    refine gw_iload_n C 1 d_F_isJoin_12 rfl rfl ?_
    obtain ⟨hb13, hf⟩ := gd_some hf
    refine gw_iald C 3 0 wcg_3 rfl hb13 d_F_isJoin_13 ?_
    refine gw_iconst (v := (4 : Int32)) C d_F_isJoin_14 (by decide) ?_
    refine gw_icmp_ne (tgt := 22) C d_F_isJoin_15 (by decide) (fun c => ?_) (fun c => ?_)
    · have hf := (if_neg c).symm.trans hf
      refine gw_iconst (v := (0 : Int32)) C d_F_isJoin_22 (by decide) ?_
      exact gw_zreti C d_F_isJoin_23 (wc ad cI cZ cC) (by decide) hf
    · have hf := (if_pos c).symm.trans hf
      refine gw_iconst (v := (1 : Int32)) C d_F_isJoin_18 (by decide) ?_
      refine gw_goto (tgt := 23) C d_F_isJoin_19 (by decide) ?_
      exact gw_zreti C d_F_isJoin_23 (wc ad cI cZ cC) (by decide) hf
theorem c_F_isJoin (hZ : gw_ZOK Z) {x1 : Int32} {M : Mem} {r : Int32} {M' : Mem} (hf : f_F_isJoin x1 M = some (r, M')) : CW l y_F_isJoin ws_F_isJoin rm_F_isJoin D vwCl (tysW cI cZ cC) Z [.ref (ad 1), .int x1] (wc ad cI cZ cC M) (some (.int r)) (wc ad cI cZ cC M') 0 0 :=
  CW.ofG hZ (by decide) rfl (Nat.le_of_ble_eq_true rfl) (fun _ _ _ _ _ _ _ _ C _ => g_F_isJoin C hf)
abbrev b_F_isLeaf : ByteArray := prog_2_method_8_code
def y_F_isLeaf : MethodName := ⟨"NoneWords$Facts", "isLeaf", "(I)Z"⟩
abbrev ws_F_isLeaf : List Cond := Cond.code y_F_isLeaf b_F_isLeaf 2 (some (FieldType.boolean)) :: TB
set_option maxRecDepth 100000 in
theorem tc_F_isLeaf : Cond.code y_F_isLeaf b_F_isLeaf 2 (some (FieldType.boolean)) ∈ TB := inTB 397 rfl rfl
theorem mv_F_isLeaf : Cond.instanceMethod y_F_isLeaf ∈ TB ∧ Cond.selects "NoneWords$Facts" y_F_isLeaf y_F_isLeaf ∈ TB ∧ Cond.initialized "NoneWords$Facts" ∈ TB ∧ Cond.code y_F_isLeaf b_F_isLeaf 2 (some (FieldType.boolean)) ∈ TB := ⟨inTB 395 (by decide +kernel) (by decide +kernel), inTB 396 (by decide +kernel) (by decide +kernel), inTB 65 (by decide +kernel) (by decide +kernel), tc_F_isLeaf⟩
theorem pd_F_isLeaf : y_F_isLeaf.cls = "NoneWords$Facts" ∧ y_F_isLeaf.cls ≠ "java/lang/invoke/MethodHandle" ∧ y_F_isLeaf.cls ≠ "java/lang/invoke/VarHandle" ∧ (parseMethodDescriptor y_F_isLeaf.desc).map (fun d => d.parameters.length) = some 1 := by decide +kernel
theorem d_F_isLeaf_0 : decode b_F_isLeaf 0 = .ok (.aload_n 0, 1) := by decide +kernel
theorem d_F_isLeaf_1 : decode b_F_isLeaf 1 = .ok (.iload_n 1, 1) := by decide +kernel
theorem d_F_isLeaf_2 : decode b_F_isLeaf 2 = .ok (.invokevirtual 52, 3) := by decide +kernel
theorem d_F_isLeaf_5 : decode b_F_isLeaf 5 = .ok (.ifCond .eq 17, 3) := by decide +kernel
theorem d_F_isLeaf_8 : decode b_F_isLeaf 8 = .ok (.aload_n 0, 1) := by decide +kernel
theorem d_F_isLeaf_9 : decode b_F_isLeaf 9 = .ok (.getfield 19, 3) := by decide +kernel
theorem d_F_isLeaf_12 : decode b_F_isLeaf 12 = .ok (.iload_n 1, 1) := by decide +kernel
theorem d_F_isLeaf_13 : decode b_F_isLeaf 13 = .ok (.iaload, 1) := by decide +kernel
theorem d_F_isLeaf_14 : decode b_F_isLeaf 14 = .ok (.iconst 4, 1) := by decide +kernel
theorem d_F_isLeaf_15 : decode b_F_isLeaf 15 = .ok (.if_icmp .eq 7, 3) := by decide +kernel
theorem d_F_isLeaf_18 : decode b_F_isLeaf 18 = .ok (.iconst 1, 1) := by decide +kernel
theorem d_F_isLeaf_19 : decode b_F_isLeaf 19 = .ok (.goto 4, 3) := by decide +kernel
theorem d_F_isLeaf_22 : decode b_F_isLeaf 22 = .ok (.iconst 0, 1) := by decide +kernel
theorem d_F_isLeaf_23 : decode b_F_isLeaf 23 = .ok (.ireturn, 1) := by decide +kernel
abbrev rm_F_isLeaf : Room := { frames := 1, cells := 0, slots := 0, locals := 21 }
def f_F_isLeaf (x1 : Int32) (M : Mem) : Option (Int32 × Mem) :=
  ob (f_F_hasNode x1 M) fun r2 M2 => if r2 = 0 then some ((0 : Int32), M2) else gd (inb x1 120) (if (M2 3 x1.toNatClampNeg) = (4 : Int32) then some ((0 : Int32), M2) else some ((1 : Int32), M2))
set_option maxRecDepth 100000 in
theorem g_F_isLeaf {r : Int32} {M' : Mem} (C : GC p s m args meth c b_F_isLeaf 2 (some (FieldType.boolean)) "NoneWords$Facts" TB D vwCl (tysW cI cZ cC) A Z) {x1 : Int32} {M : Mem} (hf : f_F_isLeaf x1 M = some (r, M')) : GW p l e rm_F_isLeaf s m args below meth c (MQ below (QW D vwCl (tysW cI cZ cC) A (some (.int r)) (wc ad cI cZ cC M')) args s 0 0 A) D vwCl A 2 0 0 (wc ad cI cZ cC M) 0 [(0, .ref (ad 1)), (1, .int x1)] [] := by
  unfold f_F_isLeaf at hf
  refine gw_aload_n C 0 d_F_isLeaf_0 rfl rfl ?_
  refine gw_iload_n C 1 d_F_isLeaf_1 rfl rfl ?_
  obtain ⟨r2, M2, hc2, hf⟩ := ob_some hf
  refine gw_callVr (rest := []) C 1 wcg_1 clg_0 (c_F_hasNode C.2.2.2.2.2.2.2.2.2.2 hc2) (cwV 1 C.2.2.2.2.1 (gTB_V tw_285 mv_F_hasNode) rfl rfl rfl pd_F_hasNode ⟨Nat.le_of_ble_eq_true rfl, Nat.le_of_ble_eq_true rfl⟩) rfl rfl (Nat.le_of_ble_eq_true rfl) d_F_isLeaf_2 ⟨Nat.le_of_ble_eq_true rfl, Nat.le_of_ble_eq_true rfl⟩ ?_
  refine gw_if_eq (tgt := 22) C d_F_isLeaf_5 (by decide) (fun c => ?_) (fun c => ?_)
  · have hf := (if_pos c).symm.trans hf
    refine gw_iconst (v := (0 : Int32)) C d_F_isLeaf_22 (by decide) ?_
    exact gw_zreti C d_F_isLeaf_23 (wc ad cI cZ cC) (by decide) hf
  · have hf := (if_neg c).symm.trans hf
    refine gw_aload_n C 0 d_F_isLeaf_8 rfl rfl ?_
    refine gw_get C in_F 1 wcg_1 clg_0 2 (by decide) tw_94 rfl rfl d_F_isLeaf_9 ?_
    refine gw_iload_n C 1 d_F_isLeaf_12 rfl rfl ?_
    obtain ⟨hb13, hf⟩ := gd_some hf
    refine gw_iald C 3 0 wcg_3 rfl hb13 d_F_isLeaf_13 ?_
    refine gw_iconst (v := (4 : Int32)) C d_F_isLeaf_14 (by decide) ?_
    refine gw_icmp_eq (tgt := 22) C d_F_isLeaf_15 (by decide) (fun c => ?_) (fun c => ?_)
    · have hf := (if_pos c).symm.trans hf
      refine gw_iconst (v := (0 : Int32)) C d_F_isLeaf_22 (by decide) ?_
      exact gw_zreti C d_F_isLeaf_23 (wc ad cI cZ cC) (by decide) hf
    · have hf := (if_neg c).symm.trans hf
      refine gw_iconst (v := (1 : Int32)) C d_F_isLeaf_18 (by decide) ?_
      refine gw_goto (tgt := 23) C d_F_isLeaf_19 (by decide) ?_
      exact gw_zreti C d_F_isLeaf_23 (wc ad cI cZ cC) (by decide) hf
theorem c_F_isLeaf (hZ : gw_ZOK Z) {x1 : Int32} {M : Mem} {r : Int32} {M' : Mem} (hf : f_F_isLeaf x1 M = some (r, M')) : CW l y_F_isLeaf ws_F_isLeaf rm_F_isLeaf D vwCl (tysW cI cZ cC) Z [.ref (ad 1), .int x1] (wc ad cI cZ cC M) (some (.int r)) (wc ad cI cZ cC M') 0 0 :=
  CW.ofG hZ (by decide) rfl (Nat.le_of_ble_eq_true rfl) (fun _ _ _ _ _ _ _ _ C _ => g_F_isLeaf C hf)
abbrev b_F_toldName : ByteArray := prog_2_method_9_code
def y_F_toldName : MethodName := ⟨"NoneWords$Facts", "toldName", "(I)I"⟩
abbrev ws_F_toldName : List Cond := Cond.code y_F_toldName b_F_toldName 2 (some (FieldType.int)) :: TB
set_option maxRecDepth 100000 in
theorem tc_F_toldName : Cond.code y_F_toldName b_F_toldName 2 (some (FieldType.int)) ∈ TB := inTB 549 rfl rfl
theorem mv_F_toldName : Cond.instanceMethod y_F_toldName ∈ TB ∧ Cond.selects "NoneWords$Facts" y_F_toldName y_F_toldName ∈ TB ∧ Cond.initialized "NoneWords$Facts" ∈ TB ∧ Cond.code y_F_toldName b_F_toldName 2 (some (FieldType.int)) ∈ TB := ⟨inTB 547 (by decide +kernel) (by decide +kernel), inTB 548 (by decide +kernel) (by decide +kernel), inTB 65 (by decide +kernel) (by decide +kernel), tc_F_toldName⟩
theorem pd_F_toldName : y_F_toldName.cls = "NoneWords$Facts" ∧ y_F_toldName.cls ≠ "java/lang/invoke/MethodHandle" ∧ y_F_toldName.cls ≠ "java/lang/invoke/VarHandle" ∧ (parseMethodDescriptor y_F_toldName.desc).map (fun d => d.parameters.length) = some 1 := by decide +kernel
theorem d_F_toldName_0 : decode b_F_toldName 0 = .ok (.aload_n 0, 1) := by decide +kernel
theorem d_F_toldName_1 : decode b_F_toldName 1 = .ok (.iload_n 1, 1) := by decide +kernel
theorem d_F_toldName_2 : decode b_F_toldName 2 = .ok (.invokevirtual 52, 3) := by decide +kernel
theorem d_F_toldName_5 : decode b_F_toldName 5 = .ok (.ifCond .eq 12, 3) := by decide +kernel
theorem d_F_toldName_8 : decode b_F_toldName 8 = .ok (.aload_n 0, 1) := by decide +kernel
theorem d_F_toldName_9 : decode b_F_toldName 9 = .ok (.getfield 25, 3) := by decide +kernel
theorem d_F_toldName_12 : decode b_F_toldName 12 = .ok (.iload_n 1, 1) := by decide +kernel
theorem d_F_toldName_13 : decode b_F_toldName 13 = .ok (.iaload, 1) := by decide +kernel
theorem d_F_toldName_14 : decode b_F_toldName 14 = .ok (.goto 4, 3) := by decide +kernel
theorem d_F_toldName_17 : decode b_F_toldName 17 = .ok (.iconst (-1), 1) := by decide +kernel
theorem d_F_toldName_18 : decode b_F_toldName 18 = .ok (.ireturn, 1) := by decide +kernel
abbrev rm_F_toldName : Room := { frames := 1, cells := 0, slots := 0, locals := 21 }
def f_F_toldName (x1 : Int32) (M : Mem) : Option (Int32 × Mem) :=
  ob (f_F_hasNode x1 M) fun r2 M2 => if r2 = 0 then some ((-1 : Int32), M2) else gd (inb x1 120) (some (M2 5 x1.toNatClampNeg, M2))
set_option maxRecDepth 100000 in
theorem g_F_toldName {r : Int32} {M' : Mem} (C : GC p s m args meth c b_F_toldName 2 (some (FieldType.int)) "NoneWords$Facts" TB D vwCl (tysW cI cZ cC) A Z) {x1 : Int32} {M : Mem} (hf : f_F_toldName x1 M = some (r, M')) : GW p l e rm_F_toldName s m args below meth c (MQ below (QW D vwCl (tysW cI cZ cC) A (some (.int r)) (wc ad cI cZ cC M')) args s 0 0 A) D vwCl A 2 0 0 (wc ad cI cZ cC M) 0 [(0, .ref (ad 1)), (1, .int x1)] [] := by
  unfold f_F_toldName at hf
  refine gw_aload_n C 0 d_F_toldName_0 rfl rfl ?_
  refine gw_iload_n C 1 d_F_toldName_1 rfl rfl ?_
  obtain ⟨r2, M2, hc2, hf⟩ := ob_some hf
  refine gw_callVr (rest := []) C 1 wcg_1 clg_0 (c_F_hasNode C.2.2.2.2.2.2.2.2.2.2 hc2) (cwV 1 C.2.2.2.2.1 (gTB_V tw_285 mv_F_hasNode) rfl rfl rfl pd_F_hasNode ⟨Nat.le_of_ble_eq_true rfl, Nat.le_of_ble_eq_true rfl⟩) rfl rfl (Nat.le_of_ble_eq_true rfl) d_F_toldName_2 ⟨Nat.le_of_ble_eq_true rfl, Nat.le_of_ble_eq_true rfl⟩ ?_
  refine gw_if_eq (tgt := 17) C d_F_toldName_5 (by decide) (fun c => ?_) (fun c => ?_)
  · have hf := (if_pos c).symm.trans hf
    refine gw_iconst (v := (-1 : Int32)) C d_F_toldName_17 (by decide) ?_
    exact gw_ireti C d_F_toldName_18 (wc ad cI cZ cC) hf
  · have hf := (if_neg c).symm.trans hf
    refine gw_aload_n C 0 d_F_toldName_8 rfl rfl ?_
    refine gw_get C in_F 1 wcg_1 clg_0 4 (by decide) tw_96 rfl rfl d_F_toldName_9 ?_
    refine gw_iload_n C 1 d_F_toldName_12 rfl rfl ?_
    obtain ⟨hb13, hf⟩ := gd_some hf
    refine gw_iald C 5 0 wcg_5 rfl hb13 d_F_toldName_13 ?_
    refine gw_goto (tgt := 18) C d_F_toldName_14 (by decide) ?_
    exact gw_ireti C d_F_toldName_18 (wc ad cI cZ cC) hf
theorem c_F_toldName (hZ : gw_ZOK Z) {x1 : Int32} {M : Mem} {r : Int32} {M' : Mem} (hf : f_F_toldName x1 M = some (r, M')) : CW l y_F_toldName ws_F_toldName rm_F_toldName D vwCl (tysW cI cZ cC) Z [.ref (ad 1), .int x1] (wc ad cI cZ cC M) (some (.int r)) (wc ad cI cZ cC M') 0 0 :=
  CW.ofG hZ (by decide) rfl (Nat.le_of_ble_eq_true rfl) (fun _ _ _ _ _ _ _ _ C _ => g_F_toldName C hf)
abbrev b_F_toldSet : ByteArray := prog_2_method_10_code
def y_F_toldSet : MethodName := ⟨"NoneWords$Facts", "toldSet", "(I)I"⟩
abbrev ws_F_toldSet : List Cond := Cond.code y_F_toldSet b_F_toldSet 2 (some (FieldType.int)) :: TB
set_option maxRecDepth 100000 in
theorem tc_F_toldSet : Cond.code y_F_toldSet b_F_toldSet 2 (some (FieldType.int)) ∈ TB := inTB 553 rfl rfl
theorem mv_F_toldSet : Cond.instanceMethod y_F_toldSet ∈ TB ∧ Cond.selects "NoneWords$Facts" y_F_toldSet y_F_toldSet ∈ TB ∧ Cond.initialized "NoneWords$Facts" ∈ TB ∧ Cond.code y_F_toldSet b_F_toldSet 2 (some (FieldType.int)) ∈ TB := ⟨inTB 551 (by decide +kernel) (by decide +kernel), inTB 552 (by decide +kernel) (by decide +kernel), inTB 65 (by decide +kernel) (by decide +kernel), tc_F_toldSet⟩
theorem pd_F_toldSet : y_F_toldSet.cls = "NoneWords$Facts" ∧ y_F_toldSet.cls ≠ "java/lang/invoke/MethodHandle" ∧ y_F_toldSet.cls ≠ "java/lang/invoke/VarHandle" ∧ (parseMethodDescriptor y_F_toldSet.desc).map (fun d => d.parameters.length) = some 1 := by decide +kernel
theorem d_F_toldSet_0 : decode b_F_toldSet 0 = .ok (.aload_n 0, 1) := by decide +kernel
theorem d_F_toldSet_1 : decode b_F_toldSet 1 = .ok (.iload_n 1, 1) := by decide +kernel
theorem d_F_toldSet_2 : decode b_F_toldSet 2 = .ok (.invokevirtual 52, 3) := by decide +kernel
theorem d_F_toldSet_5 : decode b_F_toldSet 5 = .ok (.ifCond .eq 12, 3) := by decide +kernel
theorem d_F_toldSet_8 : decode b_F_toldSet 8 = .ok (.aload_n 0, 1) := by decide +kernel
theorem d_F_toldSet_9 : decode b_F_toldSet 9 = .ok (.getfield 28, 3) := by decide +kernel
theorem d_F_toldSet_12 : decode b_F_toldSet 12 = .ok (.iload_n 1, 1) := by decide +kernel
theorem d_F_toldSet_13 : decode b_F_toldSet 13 = .ok (.iaload, 1) := by decide +kernel
theorem d_F_toldSet_14 : decode b_F_toldSet 14 = .ok (.goto 4, 3) := by decide +kernel
theorem d_F_toldSet_17 : decode b_F_toldSet 17 = .ok (.iconst 0, 1) := by decide +kernel
theorem d_F_toldSet_18 : decode b_F_toldSet 18 = .ok (.ireturn, 1) := by decide +kernel
abbrev rm_F_toldSet : Room := { frames := 1, cells := 0, slots := 0, locals := 21 }
def f_F_toldSet (x1 : Int32) (M : Mem) : Option (Int32 × Mem) :=
  ob (f_F_hasNode x1 M) fun r2 M2 => if r2 = 0 then some ((0 : Int32), M2) else gd (inb x1 120) (some (M2 6 x1.toNatClampNeg, M2))
set_option maxRecDepth 100000 in
theorem g_F_toldSet {r : Int32} {M' : Mem} (C : GC p s m args meth c b_F_toldSet 2 (some (FieldType.int)) "NoneWords$Facts" TB D vwCl (tysW cI cZ cC) A Z) {x1 : Int32} {M : Mem} (hf : f_F_toldSet x1 M = some (r, M')) : GW p l e rm_F_toldSet s m args below meth c (MQ below (QW D vwCl (tysW cI cZ cC) A (some (.int r)) (wc ad cI cZ cC M')) args s 0 0 A) D vwCl A 2 0 0 (wc ad cI cZ cC M) 0 [(0, .ref (ad 1)), (1, .int x1)] [] := by
  unfold f_F_toldSet at hf
  refine gw_aload_n C 0 d_F_toldSet_0 rfl rfl ?_
  refine gw_iload_n C 1 d_F_toldSet_1 rfl rfl ?_
  obtain ⟨r2, M2, hc2, hf⟩ := ob_some hf
  refine gw_callVr (rest := []) C 1 wcg_1 clg_0 (c_F_hasNode C.2.2.2.2.2.2.2.2.2.2 hc2) (cwV 1 C.2.2.2.2.1 (gTB_V tw_285 mv_F_hasNode) rfl rfl rfl pd_F_hasNode ⟨Nat.le_of_ble_eq_true rfl, Nat.le_of_ble_eq_true rfl⟩) rfl rfl (Nat.le_of_ble_eq_true rfl) d_F_toldSet_2 ⟨Nat.le_of_ble_eq_true rfl, Nat.le_of_ble_eq_true rfl⟩ ?_
  refine gw_if_eq (tgt := 17) C d_F_toldSet_5 (by decide) (fun c => ?_) (fun c => ?_)
  · have hf := (if_pos c).symm.trans hf
    refine gw_iconst (v := (0 : Int32)) C d_F_toldSet_17 (by decide) ?_
    exact gw_ireti C d_F_toldSet_18 (wc ad cI cZ cC) hf
  · have hf := (if_neg c).symm.trans hf
    refine gw_aload_n C 0 d_F_toldSet_8 rfl rfl ?_
    refine gw_get C in_F 1 wcg_1 clg_0 5 (by decide) tw_97 rfl rfl d_F_toldSet_9 ?_
    refine gw_iload_n C 1 d_F_toldSet_12 rfl rfl ?_
    obtain ⟨hb13, hf⟩ := gd_some hf
    refine gw_iald C 6 0 wcg_6 rfl hb13 d_F_toldSet_13 ?_
    refine gw_goto (tgt := 18) C d_F_toldSet_14 (by decide) ?_
    exact gw_ireti C d_F_toldSet_18 (wc ad cI cZ cC) hf
theorem c_F_toldSet (hZ : gw_ZOK Z) {x1 : Int32} {M : Mem} {r : Int32} {M' : Mem} (hf : f_F_toldSet x1 M = some (r, M')) : CW l y_F_toldSet ws_F_toldSet rm_F_toldSet D vwCl (tysW cI cZ cC) Z [.ref (ad 1), .int x1] (wc ad cI cZ cC M) (some (.int r)) (wc ad cI cZ cC M') 0 0 :=
  CW.ofG hZ (by decide) rfl (Nat.le_of_ble_eq_true rfl) (fun _ _ _ _ _ _ _ _ C _ => g_F_toldSet C hf)
abbrev b_F_toldOther : ByteArray := prog_2_method_11_code
def y_F_toldOther : MethodName := ⟨"NoneWords$Facts", "toldOther", "(I)I"⟩
abbrev ws_F_toldOther : List Cond := Cond.code y_F_toldOther b_F_toldOther 2 (some (FieldType.int)) :: TB
set_option maxRecDepth 100000 in
theorem tc_F_toldOther : Cond.code y_F_toldOther b_F_toldOther 2 (some (FieldType.int)) ∈ TB := inTB 563 rfl rfl
theorem mv_F_toldOther : Cond.instanceMethod y_F_toldOther ∈ TB ∧ Cond.selects "NoneWords$Facts" y_F_toldOther y_F_toldOther ∈ TB ∧ Cond.initialized "NoneWords$Facts" ∈ TB ∧ Cond.code y_F_toldOther b_F_toldOther 2 (some (FieldType.int)) ∈ TB := ⟨inTB 561 (by decide +kernel) (by decide +kernel), inTB 562 (by decide +kernel) (by decide +kernel), inTB 65 (by decide +kernel) (by decide +kernel), tc_F_toldOther⟩
theorem pd_F_toldOther : y_F_toldOther.cls = "NoneWords$Facts" ∧ y_F_toldOther.cls ≠ "java/lang/invoke/MethodHandle" ∧ y_F_toldOther.cls ≠ "java/lang/invoke/VarHandle" ∧ (parseMethodDescriptor y_F_toldOther.desc).map (fun d => d.parameters.length) = some 1 := by decide +kernel
theorem d_F_toldOther_0 : decode b_F_toldOther 0 = .ok (.aload_n 0, 1) := by decide +kernel
theorem d_F_toldOther_1 : decode b_F_toldOther 1 = .ok (.iload_n 1, 1) := by decide +kernel
theorem d_F_toldOther_2 : decode b_F_toldOther 2 = .ok (.invokevirtual 52, 3) := by decide +kernel
theorem d_F_toldOther_5 : decode b_F_toldOther 5 = .ok (.ifCond .eq 12, 3) := by decide +kernel
theorem d_F_toldOther_8 : decode b_F_toldOther 8 = .ok (.aload_n 0, 1) := by decide +kernel
theorem d_F_toldOther_9 : decode b_F_toldOther 9 = .ok (.getfield 31, 3) := by decide +kernel
theorem d_F_toldOther_12 : decode b_F_toldOther 12 = .ok (.iload_n 1, 1) := by decide +kernel
theorem d_F_toldOther_13 : decode b_F_toldOther 13 = .ok (.iaload, 1) := by decide +kernel
theorem d_F_toldOther_14 : decode b_F_toldOther 14 = .ok (.goto 4, 3) := by decide +kernel
theorem d_F_toldOther_17 : decode b_F_toldOther 17 = .ok (.iconst (-1), 1) := by decide +kernel
theorem d_F_toldOther_18 : decode b_F_toldOther 18 = .ok (.ireturn, 1) := by decide +kernel
abbrev rm_F_toldOther : Room := { frames := 1, cells := 0, slots := 0, locals := 21 }
def f_F_toldOther (x1 : Int32) (M : Mem) : Option (Int32 × Mem) :=
  ob (f_F_hasNode x1 M) fun r2 M2 => if r2 = 0 then some ((-1 : Int32), M2) else gd (inb x1 120) (some (M2 7 x1.toNatClampNeg, M2))
set_option maxRecDepth 100000 in
theorem g_F_toldOther {r : Int32} {M' : Mem} (C : GC p s m args meth c b_F_toldOther 2 (some (FieldType.int)) "NoneWords$Facts" TB D vwCl (tysW cI cZ cC) A Z) {x1 : Int32} {M : Mem} (hf : f_F_toldOther x1 M = some (r, M')) : GW p l e rm_F_toldOther s m args below meth c (MQ below (QW D vwCl (tysW cI cZ cC) A (some (.int r)) (wc ad cI cZ cC M')) args s 0 0 A) D vwCl A 2 0 0 (wc ad cI cZ cC M) 0 [(0, .ref (ad 1)), (1, .int x1)] [] := by
  unfold f_F_toldOther at hf
  refine gw_aload_n C 0 d_F_toldOther_0 rfl rfl ?_
  refine gw_iload_n C 1 d_F_toldOther_1 rfl rfl ?_
  obtain ⟨r2, M2, hc2, hf⟩ := ob_some hf
  refine gw_callVr (rest := []) C 1 wcg_1 clg_0 (c_F_hasNode C.2.2.2.2.2.2.2.2.2.2 hc2) (cwV 1 C.2.2.2.2.1 (gTB_V tw_285 mv_F_hasNode) rfl rfl rfl pd_F_hasNode ⟨Nat.le_of_ble_eq_true rfl, Nat.le_of_ble_eq_true rfl⟩) rfl rfl (Nat.le_of_ble_eq_true rfl) d_F_toldOther_2 ⟨Nat.le_of_ble_eq_true rfl, Nat.le_of_ble_eq_true rfl⟩ ?_
  refine gw_if_eq (tgt := 17) C d_F_toldOther_5 (by decide) (fun c => ?_) (fun c => ?_)
  · have hf := (if_pos c).symm.trans hf
    refine gw_iconst (v := (-1 : Int32)) C d_F_toldOther_17 (by decide) ?_
    exact gw_ireti C d_F_toldOther_18 (wc ad cI cZ cC) hf
  · have hf := (if_neg c).symm.trans hf
    refine gw_aload_n C 0 d_F_toldOther_8 rfl rfl ?_
    refine gw_get C in_F 1 wcg_1 clg_0 6 (by decide) tw_98 rfl rfl d_F_toldOther_9 ?_
    refine gw_iload_n C 1 d_F_toldOther_12 rfl rfl ?_
    obtain ⟨hb13, hf⟩ := gd_some hf
    refine gw_iald C 7 0 wcg_7 rfl hb13 d_F_toldOther_13 ?_
    refine gw_goto (tgt := 18) C d_F_toldOther_14 (by decide) ?_
    exact gw_ireti C d_F_toldOther_18 (wc ad cI cZ cC) hf
theorem c_F_toldOther (hZ : gw_ZOK Z) {x1 : Int32} {M : Mem} {r : Int32} {M' : Mem} (hf : f_F_toldOther x1 M = some (r, M')) : CW l y_F_toldOther ws_F_toldOther rm_F_toldOther D vwCl (tysW cI cZ cC) Z [.ref (ad 1), .int x1] (wc ad cI cZ cC M) (some (.int r)) (wc ad cI cZ cC M') 0 0 :=
  CW.ofG hZ (by decide) rfl (Nat.le_of_ble_eq_true rfl) (fun _ _ _ _ _ _ _ _ C _ => g_F_toldOther C hf)
abbrev b_F_toldOtherSet : ByteArray := prog_2_method_12_code
def y_F_toldOtherSet : MethodName := ⟨"NoneWords$Facts", "toldOtherSet", "(I)I"⟩
abbrev ws_F_toldOtherSet : List Cond := Cond.code y_F_toldOtherSet b_F_toldOtherSet 2 (some (FieldType.int)) :: TB
set_option maxRecDepth 100000 in
theorem tc_F_toldOtherSet : Cond.code y_F_toldOtherSet b_F_toldOtherSet 2 (some (FieldType.int)) ∈ TB := inTB 567 rfl rfl
theorem mv_F_toldOtherSet : Cond.instanceMethod y_F_toldOtherSet ∈ TB ∧ Cond.selects "NoneWords$Facts" y_F_toldOtherSet y_F_toldOtherSet ∈ TB ∧ Cond.initialized "NoneWords$Facts" ∈ TB ∧ Cond.code y_F_toldOtherSet b_F_toldOtherSet 2 (some (FieldType.int)) ∈ TB := ⟨inTB 565 (by decide +kernel) (by decide +kernel), inTB 566 (by decide +kernel) (by decide +kernel), inTB 65 (by decide +kernel) (by decide +kernel), tc_F_toldOtherSet⟩
theorem pd_F_toldOtherSet : y_F_toldOtherSet.cls = "NoneWords$Facts" ∧ y_F_toldOtherSet.cls ≠ "java/lang/invoke/MethodHandle" ∧ y_F_toldOtherSet.cls ≠ "java/lang/invoke/VarHandle" ∧ (parseMethodDescriptor y_F_toldOtherSet.desc).map (fun d => d.parameters.length) = some 1 := by decide +kernel
theorem d_F_toldOtherSet_0 : decode b_F_toldOtherSet 0 = .ok (.aload_n 0, 1) := by decide +kernel
theorem d_F_toldOtherSet_1 : decode b_F_toldOtherSet 1 = .ok (.iload_n 1, 1) := by decide +kernel
theorem d_F_toldOtherSet_2 : decode b_F_toldOtherSet 2 = .ok (.invokevirtual 52, 3) := by decide +kernel
theorem d_F_toldOtherSet_5 : decode b_F_toldOtherSet 5 = .ok (.ifCond .eq 12, 3) := by decide +kernel
theorem d_F_toldOtherSet_8 : decode b_F_toldOtherSet 8 = .ok (.aload_n 0, 1) := by decide +kernel
theorem d_F_toldOtherSet_9 : decode b_F_toldOtherSet 9 = .ok (.getfield 34, 3) := by decide +kernel
theorem d_F_toldOtherSet_12 : decode b_F_toldOtherSet 12 = .ok (.iload_n 1, 1) := by decide +kernel
theorem d_F_toldOtherSet_13 : decode b_F_toldOtherSet 13 = .ok (.iaload, 1) := by decide +kernel
theorem d_F_toldOtherSet_14 : decode b_F_toldOtherSet 14 = .ok (.goto 4, 3) := by decide +kernel
theorem d_F_toldOtherSet_17 : decode b_F_toldOtherSet 17 = .ok (.iconst 0, 1) := by decide +kernel
theorem d_F_toldOtherSet_18 : decode b_F_toldOtherSet 18 = .ok (.ireturn, 1) := by decide +kernel
abbrev rm_F_toldOtherSet : Room := { frames := 1, cells := 0, slots := 0, locals := 21 }
def f_F_toldOtherSet (x1 : Int32) (M : Mem) : Option (Int32 × Mem) :=
  ob (f_F_hasNode x1 M) fun r2 M2 => if r2 = 0 then some ((0 : Int32), M2) else gd (inb x1 120) (some (M2 8 x1.toNatClampNeg, M2))
set_option maxRecDepth 100000 in
theorem g_F_toldOtherSet {r : Int32} {M' : Mem} (C : GC p s m args meth c b_F_toldOtherSet 2 (some (FieldType.int)) "NoneWords$Facts" TB D vwCl (tysW cI cZ cC) A Z) {x1 : Int32} {M : Mem} (hf : f_F_toldOtherSet x1 M = some (r, M')) : GW p l e rm_F_toldOtherSet s m args below meth c (MQ below (QW D vwCl (tysW cI cZ cC) A (some (.int r)) (wc ad cI cZ cC M')) args s 0 0 A) D vwCl A 2 0 0 (wc ad cI cZ cC M) 0 [(0, .ref (ad 1)), (1, .int x1)] [] := by
  unfold f_F_toldOtherSet at hf
  refine gw_aload_n C 0 d_F_toldOtherSet_0 rfl rfl ?_
  refine gw_iload_n C 1 d_F_toldOtherSet_1 rfl rfl ?_
  obtain ⟨r2, M2, hc2, hf⟩ := ob_some hf
  refine gw_callVr (rest := []) C 1 wcg_1 clg_0 (c_F_hasNode C.2.2.2.2.2.2.2.2.2.2 hc2) (cwV 1 C.2.2.2.2.1 (gTB_V tw_285 mv_F_hasNode) rfl rfl rfl pd_F_hasNode ⟨Nat.le_of_ble_eq_true rfl, Nat.le_of_ble_eq_true rfl⟩) rfl rfl (Nat.le_of_ble_eq_true rfl) d_F_toldOtherSet_2 ⟨Nat.le_of_ble_eq_true rfl, Nat.le_of_ble_eq_true rfl⟩ ?_
  refine gw_if_eq (tgt := 17) C d_F_toldOtherSet_5 (by decide) (fun c => ?_) (fun c => ?_)
  · have hf := (if_pos c).symm.trans hf
    refine gw_iconst (v := (0 : Int32)) C d_F_toldOtherSet_17 (by decide) ?_
    exact gw_ireti C d_F_toldOtherSet_18 (wc ad cI cZ cC) hf
  · have hf := (if_neg c).symm.trans hf
    refine gw_aload_n C 0 d_F_toldOtherSet_8 rfl rfl ?_
    refine gw_get C in_F 1 wcg_1 clg_0 7 (by decide) tw_99 rfl rfl d_F_toldOtherSet_9 ?_
    refine gw_iload_n C 1 d_F_toldOtherSet_12 rfl rfl ?_
    obtain ⟨hb13, hf⟩ := gd_some hf
    refine gw_iald C 8 0 wcg_8 rfl hb13 d_F_toldOtherSet_13 ?_
    refine gw_goto (tgt := 18) C d_F_toldOtherSet_14 (by decide) ?_
    exact gw_ireti C d_F_toldOtherSet_18 (wc ad cI cZ cC) hf
theorem c_F_toldOtherSet (hZ : gw_ZOK Z) {x1 : Int32} {M : Mem} {r : Int32} {M' : Mem} (hf : f_F_toldOtherSet x1 M = some (r, M')) : CW l y_F_toldOtherSet ws_F_toldOtherSet rm_F_toldOtherSet D vwCl (tysW cI cZ cC) Z [.ref (ad 1), .int x1] (wc ad cI cZ cC M) (some (.int r)) (wc ad cI cZ cC M') 0 0 :=
  CW.ofG hZ (by decide) rfl (Nat.le_of_ble_eq_true rfl) (fun _ _ _ _ _ _ _ _ C _ => g_F_toldOtherSet C hf)
abbrev b_F_leftPart : ByteArray := prog_2_method_13_code
def y_F_leftPart : MethodName := ⟨"NoneWords$Facts", "leftPart", "(I)I"⟩
abbrev ws_F_leftPart : List Cond := Cond.code y_F_leftPart b_F_leftPart 2 (some (FieldType.int)) :: TB
set_option maxRecDepth 100000 in
theorem tc_F_leftPart : Cond.code y_F_leftPart b_F_leftPart 2 (some (FieldType.int)) ∈ TB := inTB 339 rfl rfl
theorem mv_F_leftPart : Cond.instanceMethod y_F_leftPart ∈ TB ∧ Cond.selects "NoneWords$Facts" y_F_leftPart y_F_leftPart ∈ TB ∧ Cond.initialized "NoneWords$Facts" ∈ TB ∧ Cond.code y_F_leftPart b_F_leftPart 2 (some (FieldType.int)) ∈ TB := ⟨inTB 337 (by decide +kernel) (by decide +kernel), inTB 338 (by decide +kernel) (by decide +kernel), inTB 65 (by decide +kernel) (by decide +kernel), tc_F_leftPart⟩
theorem pd_F_leftPart : y_F_leftPart.cls = "NoneWords$Facts" ∧ y_F_leftPart.cls ≠ "java/lang/invoke/MethodHandle" ∧ y_F_leftPart.cls ≠ "java/lang/invoke/VarHandle" ∧ (parseMethodDescriptor y_F_leftPart.desc).map (fun d => d.parameters.length) = some 1 := by decide +kernel
theorem d_F_leftPart_0 : decode b_F_leftPart 0 = .ok (.aload_n 0, 1) := by decide +kernel
theorem d_F_leftPart_1 : decode b_F_leftPart 1 = .ok (.iload_n 1, 1) := by decide +kernel
theorem d_F_leftPart_2 : decode b_F_leftPart 2 = .ok (.invokevirtual 52, 3) := by decide +kernel
theorem d_F_leftPart_5 : decode b_F_leftPart 5 = .ok (.ifCond .eq 12, 3) := by decide +kernel
theorem d_F_leftPart_8 : decode b_F_leftPart 8 = .ok (.aload_n 0, 1) := by decide +kernel
theorem d_F_leftPart_9 : decode b_F_leftPart 9 = .ok (.getfield 37, 3) := by decide +kernel
theorem d_F_leftPart_12 : decode b_F_leftPart 12 = .ok (.iload_n 1, 1) := by decide +kernel
theorem d_F_leftPart_13 : decode b_F_leftPart 13 = .ok (.iaload, 1) := by decide +kernel
theorem d_F_leftPart_14 : decode b_F_leftPart 14 = .ok (.goto 4, 3) := by decide +kernel
theorem d_F_leftPart_17 : decode b_F_leftPart 17 = .ok (.iconst (-1), 1) := by decide +kernel
theorem d_F_leftPart_18 : decode b_F_leftPart 18 = .ok (.ireturn, 1) := by decide +kernel
abbrev rm_F_leftPart : Room := { frames := 1, cells := 0, slots := 0, locals := 21 }
def f_F_leftPart (x1 : Int32) (M : Mem) : Option (Int32 × Mem) :=
  ob (f_F_hasNode x1 M) fun r2 M2 => if r2 = 0 then some ((-1 : Int32), M2) else gd (inb x1 120) (some (M2 9 x1.toNatClampNeg, M2))
set_option maxRecDepth 100000 in
theorem g_F_leftPart {r : Int32} {M' : Mem} (C : GC p s m args meth c b_F_leftPart 2 (some (FieldType.int)) "NoneWords$Facts" TB D vwCl (tysW cI cZ cC) A Z) {x1 : Int32} {M : Mem} (hf : f_F_leftPart x1 M = some (r, M')) : GW p l e rm_F_leftPart s m args below meth c (MQ below (QW D vwCl (tysW cI cZ cC) A (some (.int r)) (wc ad cI cZ cC M')) args s 0 0 A) D vwCl A 2 0 0 (wc ad cI cZ cC M) 0 [(0, .ref (ad 1)), (1, .int x1)] [] := by
  unfold f_F_leftPart at hf
  refine gw_aload_n C 0 d_F_leftPart_0 rfl rfl ?_
  refine gw_iload_n C 1 d_F_leftPart_1 rfl rfl ?_
  obtain ⟨r2, M2, hc2, hf⟩ := ob_some hf
  refine gw_callVr (rest := []) C 1 wcg_1 clg_0 (c_F_hasNode C.2.2.2.2.2.2.2.2.2.2 hc2) (cwV 1 C.2.2.2.2.1 (gTB_V tw_285 mv_F_hasNode) rfl rfl rfl pd_F_hasNode ⟨Nat.le_of_ble_eq_true rfl, Nat.le_of_ble_eq_true rfl⟩) rfl rfl (Nat.le_of_ble_eq_true rfl) d_F_leftPart_2 ⟨Nat.le_of_ble_eq_true rfl, Nat.le_of_ble_eq_true rfl⟩ ?_
  refine gw_if_eq (tgt := 17) C d_F_leftPart_5 (by decide) (fun c => ?_) (fun c => ?_)
  · have hf := (if_pos c).symm.trans hf
    refine gw_iconst (v := (-1 : Int32)) C d_F_leftPart_17 (by decide) ?_
    exact gw_ireti C d_F_leftPart_18 (wc ad cI cZ cC) hf
  · have hf := (if_neg c).symm.trans hf
    refine gw_aload_n C 0 d_F_leftPart_8 rfl rfl ?_
    refine gw_get C in_F 1 wcg_1 clg_0 8 (by decide) tw_100 rfl rfl d_F_leftPart_9 ?_
    refine gw_iload_n C 1 d_F_leftPart_12 rfl rfl ?_
    obtain ⟨hb13, hf⟩ := gd_some hf
    refine gw_iald C 9 0 wcg_9 rfl hb13 d_F_leftPart_13 ?_
    refine gw_goto (tgt := 18) C d_F_leftPart_14 (by decide) ?_
    exact gw_ireti C d_F_leftPart_18 (wc ad cI cZ cC) hf
theorem c_F_leftPart (hZ : gw_ZOK Z) {x1 : Int32} {M : Mem} {r : Int32} {M' : Mem} (hf : f_F_leftPart x1 M = some (r, M')) : CW l y_F_leftPart ws_F_leftPart rm_F_leftPart D vwCl (tysW cI cZ cC) Z [.ref (ad 1), .int x1] (wc ad cI cZ cC M) (some (.int r)) (wc ad cI cZ cC M') 0 0 :=
  CW.ofG hZ (by decide) rfl (Nat.le_of_ble_eq_true rfl) (fun _ _ _ _ _ _ _ _ C _ => g_F_leftPart C hf)
abbrev b_F_rightPart : ByteArray := prog_2_method_14_code
def y_F_rightPart : MethodName := ⟨"NoneWords$Facts", "rightPart", "(I)I"⟩
abbrev ws_F_rightPart : List Cond := Cond.code y_F_rightPart b_F_rightPart 2 (some (FieldType.int)) :: TB
set_option maxRecDepth 100000 in
theorem tc_F_rightPart : Cond.code y_F_rightPart b_F_rightPart 2 (some (FieldType.int)) ∈ TB := inTB 348 rfl rfl
theorem mv_F_rightPart : Cond.instanceMethod y_F_rightPart ∈ TB ∧ Cond.selects "NoneWords$Facts" y_F_rightPart y_F_rightPart ∈ TB ∧ Cond.initialized "NoneWords$Facts" ∈ TB ∧ Cond.code y_F_rightPart b_F_rightPart 2 (some (FieldType.int)) ∈ TB := ⟨inTB 346 (by decide +kernel) (by decide +kernel), inTB 347 (by decide +kernel) (by decide +kernel), inTB 65 (by decide +kernel) (by decide +kernel), tc_F_rightPart⟩
theorem pd_F_rightPart : y_F_rightPart.cls = "NoneWords$Facts" ∧ y_F_rightPart.cls ≠ "java/lang/invoke/MethodHandle" ∧ y_F_rightPart.cls ≠ "java/lang/invoke/VarHandle" ∧ (parseMethodDescriptor y_F_rightPart.desc).map (fun d => d.parameters.length) = some 1 := by decide +kernel
theorem d_F_rightPart_0 : decode b_F_rightPart 0 = .ok (.aload_n 0, 1) := by decide +kernel
theorem d_F_rightPart_1 : decode b_F_rightPart 1 = .ok (.iload_n 1, 1) := by decide +kernel
theorem d_F_rightPart_2 : decode b_F_rightPart 2 = .ok (.invokevirtual 52, 3) := by decide +kernel
theorem d_F_rightPart_5 : decode b_F_rightPart 5 = .ok (.ifCond .eq 12, 3) := by decide +kernel
theorem d_F_rightPart_8 : decode b_F_rightPart 8 = .ok (.aload_n 0, 1) := by decide +kernel
theorem d_F_rightPart_9 : decode b_F_rightPart 9 = .ok (.getfield 40, 3) := by decide +kernel
theorem d_F_rightPart_12 : decode b_F_rightPart 12 = .ok (.iload_n 1, 1) := by decide +kernel
theorem d_F_rightPart_13 : decode b_F_rightPart 13 = .ok (.iaload, 1) := by decide +kernel
theorem d_F_rightPart_14 : decode b_F_rightPart 14 = .ok (.goto 4, 3) := by decide +kernel
theorem d_F_rightPart_17 : decode b_F_rightPart 17 = .ok (.iconst (-1), 1) := by decide +kernel
theorem d_F_rightPart_18 : decode b_F_rightPart 18 = .ok (.ireturn, 1) := by decide +kernel
abbrev rm_F_rightPart : Room := { frames := 1, cells := 0, slots := 0, locals := 21 }
def f_F_rightPart (x1 : Int32) (M : Mem) : Option (Int32 × Mem) :=
  ob (f_F_hasNode x1 M) fun r2 M2 => if r2 = 0 then some ((-1 : Int32), M2) else gd (inb x1 120) (some (M2 10 x1.toNatClampNeg, M2))
set_option maxRecDepth 100000 in
theorem g_F_rightPart {r : Int32} {M' : Mem} (C : GC p s m args meth c b_F_rightPart 2 (some (FieldType.int)) "NoneWords$Facts" TB D vwCl (tysW cI cZ cC) A Z) {x1 : Int32} {M : Mem} (hf : f_F_rightPart x1 M = some (r, M')) : GW p l e rm_F_rightPart s m args below meth c (MQ below (QW D vwCl (tysW cI cZ cC) A (some (.int r)) (wc ad cI cZ cC M')) args s 0 0 A) D vwCl A 2 0 0 (wc ad cI cZ cC M) 0 [(0, .ref (ad 1)), (1, .int x1)] [] := by
  unfold f_F_rightPart at hf
  refine gw_aload_n C 0 d_F_rightPart_0 rfl rfl ?_
  refine gw_iload_n C 1 d_F_rightPart_1 rfl rfl ?_
  obtain ⟨r2, M2, hc2, hf⟩ := ob_some hf
  refine gw_callVr (rest := []) C 1 wcg_1 clg_0 (c_F_hasNode C.2.2.2.2.2.2.2.2.2.2 hc2) (cwV 1 C.2.2.2.2.1 (gTB_V tw_285 mv_F_hasNode) rfl rfl rfl pd_F_hasNode ⟨Nat.le_of_ble_eq_true rfl, Nat.le_of_ble_eq_true rfl⟩) rfl rfl (Nat.le_of_ble_eq_true rfl) d_F_rightPart_2 ⟨Nat.le_of_ble_eq_true rfl, Nat.le_of_ble_eq_true rfl⟩ ?_
  refine gw_if_eq (tgt := 17) C d_F_rightPart_5 (by decide) (fun c => ?_) (fun c => ?_)
  · have hf := (if_pos c).symm.trans hf
    refine gw_iconst (v := (-1 : Int32)) C d_F_rightPart_17 (by decide) ?_
    exact gw_ireti C d_F_rightPart_18 (wc ad cI cZ cC) hf
  · have hf := (if_neg c).symm.trans hf
    refine gw_aload_n C 0 d_F_rightPart_8 rfl rfl ?_
    refine gw_get C in_F 1 wcg_1 clg_0 9 (by decide) tw_101 rfl rfl d_F_rightPart_9 ?_
    refine gw_iload_n C 1 d_F_rightPart_12 rfl rfl ?_
    obtain ⟨hb13, hf⟩ := gd_some hf
    refine gw_iald C 10 0 wcg_10 rfl hb13 d_F_rightPart_13 ?_
    refine gw_goto (tgt := 18) C d_F_rightPart_14 (by decide) ?_
    exact gw_ireti C d_F_rightPart_18 (wc ad cI cZ cC) hf
theorem c_F_rightPart (hZ : gw_ZOK Z) {x1 : Int32} {M : Mem} {r : Int32} {M' : Mem} (hf : f_F_rightPart x1 M = some (r, M')) : CW l y_F_rightPart ws_F_rightPart rm_F_rightPart D vwCl (tysW cI cZ cC) Z [.ref (ad 1), .int x1] (wc ad cI cZ cC M) (some (.int r)) (wc ad cI cZ cC M') 0 0 :=
  CW.ofG hZ (by decide) rfl (Nat.le_of_ble_eq_true rfl) (fun _ _ _ _ _ _ _ _ C _ => g_F_rightPart C hf)
abbrev b_F_isSimple : ByteArray := prog_2_method_15_code
def y_F_isSimple : MethodName := ⟨"NoneWords$Facts", "isSimple", "(I)Z"⟩
abbrev ws_F_isSimple : List Cond := Cond.code y_F_isSimple b_F_isSimple 2 (some (FieldType.boolean)) :: TB
set_option maxRecDepth 100000 in
theorem tc_F_isSimple : Cond.code y_F_isSimple b_F_isSimple 2 (some (FieldType.boolean)) ∈ TB := inTB 392 rfl rfl
theorem mv_F_isSimple : Cond.instanceMethod y_F_isSimple ∈ TB ∧ Cond.selects "NoneWords$Facts" y_F_isSimple y_F_isSimple ∈ TB ∧ Cond.initialized "NoneWords$Facts" ∈ TB ∧ Cond.code y_F_isSimple b_F_isSimple 2 (some (FieldType.boolean)) ∈ TB := ⟨inTB 390 (by decide +kernel) (by decide +kernel), inTB 391 (by decide +kernel) (by decide +kernel), inTB 65 (by decide +kernel) (by decide +kernel), tc_F_isSimple⟩
theorem pd_F_isSimple : y_F_isSimple.cls = "NoneWords$Facts" ∧ y_F_isSimple.cls ≠ "java/lang/invoke/MethodHandle" ∧ y_F_isSimple.cls ≠ "java/lang/invoke/VarHandle" ∧ (parseMethodDescriptor y_F_isSimple.desc).map (fun d => d.parameters.length) = some 1 := by decide +kernel
theorem d_F_isSimple_0 : decode b_F_isSimple 0 = .ok (.aload_n 0, 1) := by decide +kernel
theorem d_F_isSimple_1 : decode b_F_isSimple 1 = .ok (.aload_n 0, 1) := by decide +kernel
theorem d_F_isSimple_2 : decode b_F_isSimple 2 = .ok (.iload_n 1, 1) := by decide +kernel
theorem d_F_isSimple_3 : decode b_F_isSimple 3 = .ok (.invokevirtual 56, 3) := by decide +kernel
theorem d_F_isSimple_6 : decode b_F_isSimple 6 = .ok (.invokevirtual 60, 3) := by decide +kernel
theorem d_F_isSimple_9 : decode b_F_isSimple 9 = .ok (.ifCond .eq 19, 3) := by decide +kernel
theorem d_F_isSimple_12 : decode b_F_isSimple 12 = .ok (.aload_n 0, 1) := by decide +kernel
theorem d_F_isSimple_13 : decode b_F_isSimple 13 = .ok (.aload_n 0, 1) := by decide +kernel
theorem d_F_isSimple_14 : decode b_F_isSimple 14 = .ok (.iload_n 1, 1) := by decide +kernel
theorem d_F_isSimple_15 : decode b_F_isSimple 15 = .ok (.invokevirtual 63, 3) := by decide +kernel
theorem d_F_isSimple_18 : decode b_F_isSimple 18 = .ok (.invokevirtual 60, 3) := by decide +kernel
theorem d_F_isSimple_21 : decode b_F_isSimple 21 = .ok (.ifCond .eq 7, 3) := by decide +kernel
theorem d_F_isSimple_24 : decode b_F_isSimple 24 = .ok (.iconst 1, 1) := by decide +kernel
theorem d_F_isSimple_25 : decode b_F_isSimple 25 = .ok (.goto 4, 3) := by decide +kernel
theorem d_F_isSimple_28 : decode b_F_isSimple 28 = .ok (.iconst 0, 1) := by decide +kernel
theorem d_F_isSimple_29 : decode b_F_isSimple 29 = .ok (.ireturn, 1) := by decide +kernel
abbrev rm_F_isSimple : Room := { frames := 2, cells := 0, slots := 0, locals := 42 }
def f_F_isSimple (x1 : Int32) (M : Mem) : Option (Int32 × Mem) :=
  ob (f_F_leftPart x1 M) fun r3 M3 => ob (f_F_isLeaf r3 M3) fun r6 M6 => if r6 = 0 then some ((0 : Int32), M6) else ob (f_F_rightPart x1 M6) fun r15 M15 => ob (f_F_isLeaf r15 M15) fun r18 M18 => if r18 = 0 then some ((0 : Int32), M18) else some ((1 : Int32), M18)
set_option maxRecDepth 100000 in
theorem g_F_isSimple {r : Int32} {M' : Mem} (C : GC p s m args meth c b_F_isSimple 2 (some (FieldType.boolean)) "NoneWords$Facts" TB D vwCl (tysW cI cZ cC) A Z) {x1 : Int32} {M : Mem} (hf : f_F_isSimple x1 M = some (r, M')) : GW p l e rm_F_isSimple s m args below meth c (MQ below (QW D vwCl (tysW cI cZ cC) A (some (.int r)) (wc ad cI cZ cC M')) args s 0 0 A) D vwCl A 2 0 0 (wc ad cI cZ cC M) 0 [(0, .ref (ad 1)), (1, .int x1)] [] := by
  unfold f_F_isSimple at hf
  refine gw_aload_n C 0 d_F_isSimple_0 rfl rfl ?_
  refine gw_aload_n C 0 d_F_isSimple_1 rfl rfl ?_
  refine gw_iload_n C 1 d_F_isSimple_2 rfl rfl ?_
  obtain ⟨r3, M3, hc3, hf⟩ := ob_some hf
  refine gw_callVr (rest := [.ref (ad 1)]) C 1 wcg_1 clg_0 (c_F_leftPart C.2.2.2.2.2.2.2.2.2.2 hc3) (cwV 1 C.2.2.2.2.1 (gTB_V tw_393 mv_F_leftPart) rfl rfl rfl pd_F_leftPart ⟨Nat.le_of_ble_eq_true rfl, Nat.le_of_ble_eq_true rfl⟩) rfl rfl (Nat.le_of_ble_eq_true rfl) d_F_isSimple_3 ⟨Nat.le_of_ble_eq_true rfl, Nat.le_of_ble_eq_true rfl⟩ ?_
  obtain ⟨r6, M6, hc6, hf⟩ := ob_some hf
  refine gw_callVr (rest := []) C 1 wcg_1 clg_0 (c_F_isLeaf C.2.2.2.2.2.2.2.2.2.2 hc6) (cwV 1 C.2.2.2.2.1 (gTB_V tw_394 mv_F_isLeaf) rfl rfl rfl pd_F_isLeaf ⟨Nat.le_of_ble_eq_true rfl, Nat.le_of_ble_eq_true rfl⟩) rfl rfl (Nat.le_of_ble_eq_true rfl) d_F_isSimple_6 ⟨Nat.le_of_ble_eq_true rfl, Nat.le_of_ble_eq_true rfl⟩ ?_
  refine gw_if_eq (tgt := 28) C d_F_isSimple_9 (by decide) (fun c => ?_) (fun c => ?_)
  · have hf := (if_pos c).symm.trans hf
    refine gw_iconst (v := (0 : Int32)) C d_F_isSimple_28 (by decide) ?_
    exact gw_zreti C d_F_isSimple_29 (wc ad cI cZ cC) (by decide) hf
  · have hf := (if_neg c).symm.trans hf
    refine gw_aload_n C 0 d_F_isSimple_12 rfl rfl ?_
    refine gw_aload_n C 0 d_F_isSimple_13 rfl rfl ?_
    refine gw_iload_n C 1 d_F_isSimple_14 rfl rfl ?_
    obtain ⟨r15, M15, hc15, hf⟩ := ob_some hf
    refine gw_callVr (rest := [.ref (ad 1)]) C 1 wcg_1 clg_0 (c_F_rightPart C.2.2.2.2.2.2.2.2.2.2 hc15) (cwV 1 C.2.2.2.2.1 (gTB_V tw_398 mv_F_rightPart) rfl rfl rfl pd_F_rightPart ⟨Nat.le_of_ble_eq_true rfl, Nat.le_of_ble_eq_true rfl⟩) rfl rfl (Nat.le_of_ble_eq_true rfl) d_F_isSimple_15 ⟨Nat.le_of_ble_eq_true rfl, Nat.le_of_ble_eq_true rfl⟩ ?_
    obtain ⟨r18, M18, hc18, hf⟩ := ob_some hf
    refine gw_callVr (rest := []) C 1 wcg_1 clg_0 (c_F_isLeaf C.2.2.2.2.2.2.2.2.2.2 hc18) (cwV 1 C.2.2.2.2.1 (gTB_V tw_394 mv_F_isLeaf) rfl rfl rfl pd_F_isLeaf ⟨Nat.le_of_ble_eq_true rfl, Nat.le_of_ble_eq_true rfl⟩) rfl rfl (Nat.le_of_ble_eq_true rfl) d_F_isSimple_18 ⟨Nat.le_of_ble_eq_true rfl, Nat.le_of_ble_eq_true rfl⟩ ?_
    refine gw_if_eq (tgt := 28) C d_F_isSimple_21 (by decide) (fun c => ?_) (fun c => ?_)
    · have hf := (if_pos c).symm.trans hf
      refine gw_iconst (v := (0 : Int32)) C d_F_isSimple_28 (by decide) ?_
      exact gw_zreti C d_F_isSimple_29 (wc ad cI cZ cC) (by decide) hf
    · have hf := (if_neg c).symm.trans hf
      refine gw_iconst (v := (1 : Int32)) C d_F_isSimple_24 (by decide) ?_
      refine gw_goto (tgt := 29) C d_F_isSimple_25 (by decide) ?_
      exact gw_zreti C d_F_isSimple_29 (wc ad cI cZ cC) (by decide) hf
theorem c_F_isSimple (hZ : gw_ZOK Z) {x1 : Int32} {M : Mem} {r : Int32} {M' : Mem} (hf : f_F_isSimple x1 M = some (r, M')) : CW l y_F_isSimple ws_F_isSimple rm_F_isSimple D vwCl (tysW cI cZ cC) Z [.ref (ad 1), .int x1] (wc ad cI cZ cC M) (some (.int r)) (wc ad cI cZ cC M') 0 0 :=
  CW.ofG hZ (by decide) rfl (Nat.le_of_ble_eq_true rfl) (fun _ _ _ _ _ _ _ _ C _ => g_F_isSimple C hf)
abbrev b_F_leafPart : ByteArray := prog_2_method_16_code
def y_F_leafPart : MethodName := ⟨"NoneWords$Facts", "leafPart", "(I)I"⟩
abbrev ws_F_leafPart : List Cond := Cond.code y_F_leafPart b_F_leafPart 4 (some (FieldType.int)) :: TB
set_option maxRecDepth 100000 in
theorem tc_F_leafPart : Cond.code y_F_leafPart b_F_leafPart 4 (some (FieldType.int)) ∈ TB := inTB 406 rfl rfl
theorem mv_F_leafPart : Cond.instanceMethod y_F_leafPart ∈ TB ∧ Cond.selects "NoneWords$Facts" y_F_leafPart y_F_leafPart ∈ TB ∧ Cond.initialized "NoneWords$Facts" ∈ TB ∧ Cond.code y_F_leafPart b_F_leafPart 4 (some (FieldType.int)) ∈ TB := ⟨inTB 404 (by decide +kernel) (by decide +kernel), inTB 405 (by decide +kernel) (by decide +kernel), inTB 65 (by decide +kernel) (by decide +kernel), tc_F_leafPart⟩
theorem pd_F_leafPart : y_F_leafPart.cls = "NoneWords$Facts" ∧ y_F_leafPart.cls ≠ "java/lang/invoke/MethodHandle" ∧ y_F_leafPart.cls ≠ "java/lang/invoke/VarHandle" ∧ (parseMethodDescriptor y_F_leafPart.desc).map (fun d => d.parameters.length) = some 1 := by decide +kernel
theorem d_F_leafPart_0 : decode b_F_leafPart 0 = .ok (.aload_n 0, 1) := by decide +kernel
theorem d_F_leafPart_1 : decode b_F_leafPart 1 = .ok (.iload_n 1, 1) := by decide +kernel
theorem d_F_leafPart_2 : decode b_F_leafPart 2 = .ok (.invokevirtual 56, 3) := by decide +kernel
theorem d_F_leafPart_5 : decode b_F_leafPart 5 = .ok (.istore_n 2, 1) := by decide +kernel
theorem d_F_leafPart_6 : decode b_F_leafPart 6 = .ok (.aload_n 0, 1) := by decide +kernel
theorem d_F_leafPart_7 : decode b_F_leafPart 7 = .ok (.iload_n 1, 1) := by decide +kernel
theorem d_F_leafPart_8 : decode b_F_leafPart 8 = .ok (.invokevirtual 63, 3) := by decide +kernel
theorem d_F_leafPart_11 : decode b_F_leafPart 11 = .ok (.istore_n 3, 1) := by decide +kernel
theorem d_F_leafPart_12 : decode b_F_leafPart 12 = .ok (.aload_n 0, 1) := by decide +kernel
theorem d_F_leafPart_13 : decode b_F_leafPart 13 = .ok (.iload_n 2, 1) := by decide +kernel
theorem d_F_leafPart_14 : decode b_F_leafPart 14 = .ok (.invokevirtual 60, 3) := by decide +kernel
theorem d_F_leafPart_17 : decode b_F_leafPart 17 = .ok (.ifCond .eq 7, 3) := by decide +kernel
theorem d_F_leafPart_20 : decode b_F_leafPart 20 = .ok (.iload_n 2, 1) := by decide +kernel
theorem d_F_leafPart_21 : decode b_F_leafPart 21 = .ok (.goto 16, 3) := by decide +kernel
theorem d_F_leafPart_24 : decode b_F_leafPart 24 = .ok (.aload_n 0, 1) := by decide +kernel
theorem d_F_leafPart_25 : decode b_F_leafPart 25 = .ok (.iload_n 3, 1) := by decide +kernel
theorem d_F_leafPart_26 : decode b_F_leafPart 26 = .ok (.invokevirtual 60, 3) := by decide +kernel
theorem d_F_leafPart_29 : decode b_F_leafPart 29 = .ok (.ifCond .eq 7, 3) := by decide +kernel
theorem d_F_leafPart_32 : decode b_F_leafPart 32 = .ok (.iload_n 3, 1) := by decide +kernel
theorem d_F_leafPart_33 : decode b_F_leafPart 33 = .ok (.goto 4, 3) := by decide +kernel
theorem d_F_leafPart_36 : decode b_F_leafPart 36 = .ok (.iconst (-1), 1) := by decide +kernel
theorem d_F_leafPart_37 : decode b_F_leafPart 37 = .ok (.ireturn, 1) := by decide +kernel
abbrev rm_F_leafPart : Room := { frames := 2, cells := 0, slots := 0, locals := 42 }
def f_F_leafPart (x1 : Int32) (M : Mem) : Option (Int32 × Mem) :=
  ob (f_F_leftPart x1 M) fun r2 M2 => ob (f_F_rightPart x1 M2) fun r8 M8 => ob (f_F_isLeaf r2 M8) fun r14 M14 => if r14 = 0 then ob (f_F_isLeaf r8 M14) fun r26 M26 => if r26 = 0 then some ((-1 : Int32), M26) else some (r8, M26) else some (r2, M14)
set_option maxRecDepth 100000 in
theorem g_F_leafPart {r : Int32} {M' : Mem} (C : GC p s m args meth c b_F_leafPart 4 (some (FieldType.int)) "NoneWords$Facts" TB D vwCl (tysW cI cZ cC) A Z) {x1 : Int32} {M : Mem} (hf : f_F_leafPart x1 M = some (r, M')) : GW p l e rm_F_leafPart s m args below meth c (MQ below (QW D vwCl (tysW cI cZ cC) A (some (.int r)) (wc ad cI cZ cC M')) args s 0 0 A) D vwCl A 4 0 0 (wc ad cI cZ cC M) 0 [(0, .ref (ad 1)), (1, .int x1)] [] := by
  unfold f_F_leafPart at hf
  refine gw_aload_n C 0 d_F_leafPart_0 rfl rfl ?_
  refine gw_iload_n C 1 d_F_leafPart_1 rfl rfl ?_
  obtain ⟨r2, M2, hc2, hf⟩ := ob_some hf
  refine gw_callVr (rest := []) C 1 wcg_1 clg_0 (c_F_leftPart C.2.2.2.2.2.2.2.2.2.2 hc2) (cwV 1 C.2.2.2.2.1 (gTB_V tw_393 mv_F_leftPart) rfl rfl rfl pd_F_leftPart ⟨Nat.le_of_ble_eq_true rfl, Nat.le_of_ble_eq_true rfl⟩) rfl rfl (Nat.le_of_ble_eq_true rfl) d_F_leafPart_2 ⟨Nat.le_of_ble_eq_true rfl, Nat.le_of_ble_eq_true rfl⟩ ?_
  refine gw_istore_n (lv' := [(2, .int r2), (0, .ref (ad 1)), (1, .int x1)]) C d_F_leafPart_5 rfl (by decide) rfl ?_
  refine gw_aload_n C 1 d_F_leafPart_6 rfl rfl ?_
  refine gw_iload_n C 2 d_F_leafPart_7 rfl rfl ?_
  obtain ⟨r8, M8, hc8, hf⟩ := ob_some hf
  refine gw_callVr (rest := []) C 1 wcg_1 clg_0 (c_F_rightPart C.2.2.2.2.2.2.2.2.2.2 hc8) (cwV 1 C.2.2.2.2.1 (gTB_V tw_398 mv_F_rightPart) rfl rfl rfl pd_F_rightPart ⟨Nat.le_of_ble_eq_true rfl, Nat.le_of_ble_eq_true rfl⟩) rfl rfl (Nat.le_of_ble_eq_true rfl) d_F_leafPart_8 ⟨Nat.le_of_ble_eq_true rfl, Nat.le_of_ble_eq_true rfl⟩ ?_
  refine gw_istore_n (lv' := [(3, .int r8), (2, .int r2), (0, .ref (ad 1)), (1, .int x1)]) C d_F_leafPart_11 rfl (by decide) rfl ?_
  refine gw_aload_n C 2 d_F_leafPart_12 rfl rfl ?_
  refine gw_iload_n C 1 d_F_leafPart_13 rfl rfl ?_
  obtain ⟨r14, M14, hc14, hf⟩ := ob_some hf
  refine gw_callVr (rest := []) C 1 wcg_1 clg_0 (c_F_isLeaf C.2.2.2.2.2.2.2.2.2.2 hc14) (cwV 1 C.2.2.2.2.1 (gTB_V tw_394 mv_F_isLeaf) rfl rfl rfl pd_F_isLeaf ⟨Nat.le_of_ble_eq_true rfl, Nat.le_of_ble_eq_true rfl⟩) rfl rfl (Nat.le_of_ble_eq_true rfl) d_F_leafPart_14 ⟨Nat.le_of_ble_eq_true rfl, Nat.le_of_ble_eq_true rfl⟩ ?_
  refine gw_if_eq (tgt := 24) C d_F_leafPart_17 (by decide) (fun c => ?_) (fun c => ?_)
  · have hf := (if_pos c).symm.trans hf
    refine gw_aload_n C 2 d_F_leafPart_24 rfl rfl ?_
    refine gw_iload_n C 0 d_F_leafPart_25 rfl rfl ?_
    obtain ⟨r26, M26, hc26, hf⟩ := ob_some hf
    refine gw_callVr (rest := []) C 1 wcg_1 clg_0 (c_F_isLeaf C.2.2.2.2.2.2.2.2.2.2 hc26) (cwV 1 C.2.2.2.2.1 (gTB_V tw_394 mv_F_isLeaf) rfl rfl rfl pd_F_isLeaf ⟨Nat.le_of_ble_eq_true rfl, Nat.le_of_ble_eq_true rfl⟩) rfl rfl (Nat.le_of_ble_eq_true rfl) d_F_leafPart_26 ⟨Nat.le_of_ble_eq_true rfl, Nat.le_of_ble_eq_true rfl⟩ ?_
    refine gw_if_eq (tgt := 36) C d_F_leafPart_29 (by decide) (fun c => ?_) (fun c => ?_)
    · have hf := (if_pos c).symm.trans hf
      refine gw_iconst (v := (-1 : Int32)) C d_F_leafPart_36 (by decide) ?_
      exact gw_ireti C d_F_leafPart_37 (wc ad cI cZ cC) hf
    · have hf := (if_neg c).symm.trans hf
      refine gw_iload_n C 0 d_F_leafPart_32 rfl rfl ?_
      refine gw_goto (tgt := 37) C d_F_leafPart_33 (by decide) ?_
      exact gw_ireti C d_F_leafPart_37 (wc ad cI cZ cC) hf
  · have hf := (if_neg c).symm.trans hf
    refine gw_iload_n C 1 d_F_leafPart_20 rfl rfl ?_
    refine gw_goto (tgt := 37) C d_F_leafPart_21 (by decide) ?_
    exact gw_ireti C d_F_leafPart_37 (wc ad cI cZ cC) hf
theorem c_F_leafPart (hZ : gw_ZOK Z) {x1 : Int32} {M : Mem} {r : Int32} {M' : Mem} (hf : f_F_leafPart x1 M = some (r, M')) : CW l y_F_leafPart ws_F_leafPart rm_F_leafPart D vwCl (tysW cI cZ cC) Z [.ref (ad 1), .int x1] (wc ad cI cZ cC M) (some (.int r)) (wc ad cI cZ cC M') 0 0 :=
  CW.ofG hZ (by decide) rfl (Nat.le_of_ble_eq_true rfl) (fun _ _ _ _ _ _ _ _ C _ => g_F_leafPart C hf)
abbrev b_F_joinPart : ByteArray := prog_2_method_17_code
def y_F_joinPart : MethodName := ⟨"NoneWords$Facts", "joinPart", "(I)I"⟩
abbrev ws_F_joinPart : List Cond := Cond.code y_F_joinPart b_F_joinPart 4 (some (FieldType.int)) :: TB
set_option maxRecDepth 100000 in
theorem tc_F_joinPart : Cond.code y_F_joinPart b_F_joinPart 4 (some (FieldType.int)) ∈ TB := inTB 410 rfl rfl
theorem mv_F_joinPart : Cond.instanceMethod y_F_joinPart ∈ TB ∧ Cond.selects "NoneWords$Facts" y_F_joinPart y_F_joinPart ∈ TB ∧ Cond.initialized "NoneWords$Facts" ∈ TB ∧ Cond.code y_F_joinPart b_F_joinPart 4 (some (FieldType.int)) ∈ TB := ⟨inTB 408 (by decide +kernel) (by decide +kernel), inTB 409 (by decide +kernel) (by decide +kernel), inTB 65 (by decide +kernel) (by decide +kernel), tc_F_joinPart⟩
theorem pd_F_joinPart : y_F_joinPart.cls = "NoneWords$Facts" ∧ y_F_joinPart.cls ≠ "java/lang/invoke/MethodHandle" ∧ y_F_joinPart.cls ≠ "java/lang/invoke/VarHandle" ∧ (parseMethodDescriptor y_F_joinPart.desc).map (fun d => d.parameters.length) = some 1 := by decide +kernel
theorem d_F_joinPart_0 : decode b_F_joinPart 0 = .ok (.aload_n 0, 1) := by decide +kernel
theorem d_F_joinPart_1 : decode b_F_joinPart 1 = .ok (.iload_n 1, 1) := by decide +kernel
theorem d_F_joinPart_2 : decode b_F_joinPart 2 = .ok (.invokevirtual 56, 3) := by decide +kernel
theorem d_F_joinPart_5 : decode b_F_joinPart 5 = .ok (.istore_n 2, 1) := by decide +kernel
theorem d_F_joinPart_6 : decode b_F_joinPart 6 = .ok (.aload_n 0, 1) := by decide +kernel
theorem d_F_joinPart_7 : decode b_F_joinPart 7 = .ok (.iload_n 1, 1) := by decide +kernel
theorem d_F_joinPart_8 : decode b_F_joinPart 8 = .ok (.invokevirtual 63, 3) := by decide +kernel
theorem d_F_joinPart_11 : decode b_F_joinPart 11 = .ok (.istore_n 3, 1) := by decide +kernel
theorem d_F_joinPart_12 : decode b_F_joinPart 12 = .ok (.aload_n 0, 1) := by decide +kernel
theorem d_F_joinPart_13 : decode b_F_joinPart 13 = .ok (.iload_n 2, 1) := by decide +kernel
theorem d_F_joinPart_14 : decode b_F_joinPart 14 = .ok (.invokevirtual 66, 3) := by decide +kernel
theorem d_F_joinPart_17 : decode b_F_joinPart 17 = .ok (.ifCond .eq 7, 3) := by decide +kernel
theorem d_F_joinPart_20 : decode b_F_joinPart 20 = .ok (.iload_n 2, 1) := by decide +kernel
theorem d_F_joinPart_21 : decode b_F_joinPart 21 = .ok (.goto 16, 3) := by decide +kernel
theorem d_F_joinPart_24 : decode b_F_joinPart 24 = .ok (.aload_n 0, 1) := by decide +kernel
theorem d_F_joinPart_25 : decode b_F_joinPart 25 = .ok (.iload_n 3, 1) := by decide +kernel
theorem d_F_joinPart_26 : decode b_F_joinPart 26 = .ok (.invokevirtual 66, 3) := by decide +kernel
theorem d_F_joinPart_29 : decode b_F_joinPart 29 = .ok (.ifCond .eq 7, 3) := by decide +kernel
theorem d_F_joinPart_32 : decode b_F_joinPart 32 = .ok (.iload_n 3, 1) := by decide +kernel
theorem d_F_joinPart_33 : decode b_F_joinPart 33 = .ok (.goto 4, 3) := by decide +kernel
theorem d_F_joinPart_36 : decode b_F_joinPart 36 = .ok (.iconst (-1), 1) := by decide +kernel
theorem d_F_joinPart_37 : decode b_F_joinPart 37 = .ok (.ireturn, 1) := by decide +kernel
abbrev rm_F_joinPart : Room := { frames := 2, cells := 0, slots := 0, locals := 42 }
def f_F_joinPart (x1 : Int32) (M : Mem) : Option (Int32 × Mem) :=
  ob (f_F_leftPart x1 M) fun r2 M2 => ob (f_F_rightPart x1 M2) fun r8 M8 => ob (f_F_isJoin r2 M8) fun r14 M14 => if r14 = 0 then ob (f_F_isJoin r8 M14) fun r26 M26 => if r26 = 0 then some ((-1 : Int32), M26) else some (r8, M26) else some (r2, M14)
set_option maxRecDepth 100000 in
theorem g_F_joinPart {r : Int32} {M' : Mem} (C : GC p s m args meth c b_F_joinPart 4 (some (FieldType.int)) "NoneWords$Facts" TB D vwCl (tysW cI cZ cC) A Z) {x1 : Int32} {M : Mem} (hf : f_F_joinPart x1 M = some (r, M')) : GW p l e rm_F_joinPart s m args below meth c (MQ below (QW D vwCl (tysW cI cZ cC) A (some (.int r)) (wc ad cI cZ cC M')) args s 0 0 A) D vwCl A 4 0 0 (wc ad cI cZ cC M) 0 [(0, .ref (ad 1)), (1, .int x1)] [] := by
  unfold f_F_joinPart at hf
  refine gw_aload_n C 0 d_F_joinPart_0 rfl rfl ?_
  refine gw_iload_n C 1 d_F_joinPart_1 rfl rfl ?_
  obtain ⟨r2, M2, hc2, hf⟩ := ob_some hf
  refine gw_callVr (rest := []) C 1 wcg_1 clg_0 (c_F_leftPart C.2.2.2.2.2.2.2.2.2.2 hc2) (cwV 1 C.2.2.2.2.1 (gTB_V tw_393 mv_F_leftPart) rfl rfl rfl pd_F_leftPart ⟨Nat.le_of_ble_eq_true rfl, Nat.le_of_ble_eq_true rfl⟩) rfl rfl (Nat.le_of_ble_eq_true rfl) d_F_joinPart_2 ⟨Nat.le_of_ble_eq_true rfl, Nat.le_of_ble_eq_true rfl⟩ ?_
  refine gw_istore_n (lv' := [(2, .int r2), (0, .ref (ad 1)), (1, .int x1)]) C d_F_joinPart_5 rfl (by decide) rfl ?_
  refine gw_aload_n C 1 d_F_joinPart_6 rfl rfl ?_
  refine gw_iload_n C 2 d_F_joinPart_7 rfl rfl ?_
  obtain ⟨r8, M8, hc8, hf⟩ := ob_some hf
  refine gw_callVr (rest := []) C 1 wcg_1 clg_0 (c_F_rightPart C.2.2.2.2.2.2.2.2.2.2 hc8) (cwV 1 C.2.2.2.2.1 (gTB_V tw_398 mv_F_rightPart) rfl rfl rfl pd_F_rightPart ⟨Nat.le_of_ble_eq_true rfl, Nat.le_of_ble_eq_true rfl⟩) rfl rfl (Nat.le_of_ble_eq_true rfl) d_F_joinPart_8 ⟨Nat.le_of_ble_eq_true rfl, Nat.le_of_ble_eq_true rfl⟩ ?_
  refine gw_istore_n (lv' := [(3, .int r8), (2, .int r2), (0, .ref (ad 1)), (1, .int x1)]) C d_F_joinPart_11 rfl (by decide) rfl ?_
  refine gw_aload_n C 2 d_F_joinPart_12 rfl rfl ?_
  refine gw_iload_n C 1 d_F_joinPart_13 rfl rfl ?_
  obtain ⟨r14, M14, hc14, hf⟩ := ob_some hf
  refine gw_callVr (rest := []) C 1 wcg_1 clg_0 (c_F_isJoin C.2.2.2.2.2.2.2.2.2.2 hc14) (cwV 1 C.2.2.2.2.1 (gTB_V tw_411 mv_F_isJoin) rfl rfl rfl pd_F_isJoin ⟨Nat.le_of_ble_eq_true rfl, Nat.le_of_ble_eq_true rfl⟩) rfl rfl (Nat.le_of_ble_eq_true rfl) d_F_joinPart_14 ⟨Nat.le_of_ble_eq_true rfl, Nat.le_of_ble_eq_true rfl⟩ ?_
  refine gw_if_eq (tgt := 24) C d_F_joinPart_17 (by decide) (fun c => ?_) (fun c => ?_)
  · have hf := (if_pos c).symm.trans hf
    refine gw_aload_n C 2 d_F_joinPart_24 rfl rfl ?_
    refine gw_iload_n C 0 d_F_joinPart_25 rfl rfl ?_
    obtain ⟨r26, M26, hc26, hf⟩ := ob_some hf
    refine gw_callVr (rest := []) C 1 wcg_1 clg_0 (c_F_isJoin C.2.2.2.2.2.2.2.2.2.2 hc26) (cwV 1 C.2.2.2.2.1 (gTB_V tw_411 mv_F_isJoin) rfl rfl rfl pd_F_isJoin ⟨Nat.le_of_ble_eq_true rfl, Nat.le_of_ble_eq_true rfl⟩) rfl rfl (Nat.le_of_ble_eq_true rfl) d_F_joinPart_26 ⟨Nat.le_of_ble_eq_true rfl, Nat.le_of_ble_eq_true rfl⟩ ?_
    refine gw_if_eq (tgt := 36) C d_F_joinPart_29 (by decide) (fun c => ?_) (fun c => ?_)
    · have hf := (if_pos c).symm.trans hf
      refine gw_iconst (v := (-1 : Int32)) C d_F_joinPart_36 (by decide) ?_
      exact gw_ireti C d_F_joinPart_37 (wc ad cI cZ cC) hf
    · have hf := (if_neg c).symm.trans hf
      refine gw_iload_n C 0 d_F_joinPart_32 rfl rfl ?_
      refine gw_goto (tgt := 37) C d_F_joinPart_33 (by decide) ?_
      exact gw_ireti C d_F_joinPart_37 (wc ad cI cZ cC) hf
  · have hf := (if_neg c).symm.trans hf
    refine gw_iload_n C 1 d_F_joinPart_20 rfl rfl ?_
    refine gw_goto (tgt := 37) C d_F_joinPart_21 (by decide) ?_
    exact gw_ireti C d_F_joinPart_37 (wc ad cI cZ cC) hf
theorem c_F_joinPart (hZ : gw_ZOK Z) {x1 : Int32} {M : Mem} {r : Int32} {M' : Mem} (hf : f_F_joinPart x1 M = some (r, M')) : CW l y_F_joinPart ws_F_joinPart rm_F_joinPart D vwCl (tysW cI cZ cC) Z [.ref (ad 1), .int x1] (wc ad cI cZ cC M) (some (.int r)) (wc ad cI cZ cC M') 0 0 :=
  CW.ofG hZ (by decide) rfl (Nat.le_of_ble_eq_true rfl) (fun _ _ _ _ _ _ _ _ C _ => g_F_joinPart C hf)
abbrev b_F_addName : ByteArray := prog_2_method_18_code
def y_F_addName : MethodName := ⟨"NoneWords$Facts", "addName", "(I)I"⟩
abbrev ws_F_addName : List Cond := Cond.code y_F_addName b_F_addName 2 (some (FieldType.int)) :: TB
set_option maxRecDepth 100000 in
theorem tc_F_addName : Cond.code y_F_addName b_F_addName 2 (some (FieldType.int)) ∈ TB := inTB 245 rfl rfl
theorem mv_F_addName : Cond.instanceMethod y_F_addName ∈ TB ∧ Cond.selects "NoneWords$Facts" y_F_addName y_F_addName ∈ TB ∧ Cond.initialized "NoneWords$Facts" ∈ TB ∧ Cond.code y_F_addName b_F_addName 2 (some (FieldType.int)) ∈ TB := ⟨inTB 243 (by decide +kernel) (by decide +kernel), inTB 244 (by decide +kernel) (by decide +kernel), inTB 65 (by decide +kernel) (by decide +kernel), tc_F_addName⟩
theorem pd_F_addName : y_F_addName.cls = "NoneWords$Facts" ∧ y_F_addName.cls ≠ "java/lang/invoke/MethodHandle" ∧ y_F_addName.cls ≠ "java/lang/invoke/VarHandle" ∧ (parseMethodDescriptor y_F_addName.desc).map (fun d => d.parameters.length) = some 1 := by decide +kernel
theorem d_F_addName_0 : decode b_F_addName 0 = .ok (.aload_n 0, 1) := by decide +kernel
theorem d_F_addName_1 : decode b_F_addName 1 = .ok (.getfield 15, 3) := by decide +kernel
theorem d_F_addName_4 : decode b_F_addName 4 = .ok (.iconst 5, 1) := by decide +kernel
theorem d_F_addName_5 : decode b_F_addName 5 = .ok (.if_icmp .ge 12, 3) := by decide +kernel
theorem d_F_addName_8 : decode b_F_addName 8 = .ok (.iload_n 1, 1) := by decide +kernel
theorem d_F_addName_9 : decode b_F_addName 9 = .ok (.ifCond .lt 8, 3) := by decide +kernel
theorem d_F_addName_12 : decode b_F_addName 12 = .ok (.iload_n 1, 1) := by decide +kernel
theorem d_F_addName_13 : decode b_F_addName 13 = .ok (.iconst 4, 1) := by decide +kernel
theorem d_F_addName_14 : decode b_F_addName 14 = .ok (.if_icmp .le 5, 3) := by decide +kernel
theorem d_F_addName_17 : decode b_F_addName 17 = .ok (.iconst (-1), 1) := by decide +kernel
theorem d_F_addName_18 : decode b_F_addName 18 = .ok (.ireturn, 1) := by decide +kernel
theorem d_F_addName_19 : decode b_F_addName 19 = .ok (.aload_n 0, 1) := by decide +kernel
theorem d_F_addName_20 : decode b_F_addName 20 = .ok (.getfield 11, 3) := by decide +kernel
theorem d_F_addName_23 : decode b_F_addName 23 = .ok (.aload_n 0, 1) := by decide +kernel
theorem d_F_addName_24 : decode b_F_addName 24 = .ok (.getfield 15, 3) := by decide +kernel
theorem d_F_addName_27 : decode b_F_addName 27 = .ok (.iload_n 1, 1) := by decide +kernel
theorem d_F_addName_28 : decode b_F_addName 28 = .ok (.iastore, 1) := by decide +kernel
theorem d_F_addName_29 : decode b_F_addName 29 = .ok (.aload_n 0, 1) := by decide +kernel
theorem d_F_addName_30 : decode b_F_addName 30 = .ok (.dup, 1) := by decide +kernel
theorem d_F_addName_31 : decode b_F_addName 31 = .ok (.getfield 15, 3) := by decide +kernel
theorem d_F_addName_34 : decode b_F_addName 34 = .ok (.iconst 1, 1) := by decide +kernel
theorem d_F_addName_35 : decode b_F_addName 35 = .ok (.iadd, 1) := by decide +kernel
theorem d_F_addName_36 : decode b_F_addName 36 = .ok (.putfield 15, 3) := by decide +kernel
theorem d_F_addName_39 : decode b_F_addName 39 = .ok (.aload_n 0, 1) := by decide +kernel
theorem d_F_addName_40 : decode b_F_addName 40 = .ok (.getfield 15, 3) := by decide +kernel
theorem d_F_addName_43 : decode b_F_addName 43 = .ok (.iconst 1, 1) := by decide +kernel
theorem d_F_addName_44 : decode b_F_addName 44 = .ok (.isub, 1) := by decide +kernel
theorem d_F_addName_45 : decode b_F_addName 45 = .ok (.ireturn, 1) := by decide +kernel
abbrev rm_F_addName : Room := { frames := 0, cells := 0, slots := 0, locals := 0 }
def f_F_addName (x1 : Int32) (M : Mem) : Option (Int32 × Mem) :=
  if (5 : Int32) ≤ (M 1 1) then some ((-1 : Int32), M) else if x1 < 0 then some ((-1 : Int32), M) else if x1 ≤ (4 : Int32) then gd (inb (M 1 1) 5) (some (((ms (ms M 2 (M 1 1).toNatClampNeg x1) 1 1 (((ms M 2 (M 1 1).toNatClampNeg x1) 1 1) + (1 : Int32))) 1 1) - (1 : Int32), ms (ms M 2 (M 1 1).toNatClampNeg x1) 1 1 (((ms M 2 (M 1 1).toNatClampNeg x1) 1 1) + (1 : Int32)))) else some ((-1 : Int32), M)
set_option maxRecDepth 100000 in
theorem g_F_addName {r : Int32} {M' : Mem} (C : GC p s m args meth c b_F_addName 2 (some (FieldType.int)) "NoneWords$Facts" TB D vwCl (tysW cI cZ cC) A Z) {x1 : Int32} {M : Mem} (hf : f_F_addName x1 M = some (r, M')) : GW p l e rm_F_addName s m args below meth c (MQ below (QW D vwCl (tysW cI cZ cC) A (some (.int r)) (wc ad cI cZ cC M')) args s 0 0 A) D vwCl A 2 0 0 (wc ad cI cZ cC M) 0 [(0, .ref (ad 1)), (1, .int x1)] [] := by
  unfold f_F_addName at hf
  refine gw_aload_n C 0 d_F_addName_0 rfl rfl ?_
  refine gw_get C in_F 1 wcg_1 clg_0 1 (by decide) tw_93 rfl rfl d_F_addName_1 ?_
  refine gw_iconst (v := (5 : Int32)) C d_F_addName_4 (by decide) ?_
  refine gw_icmp_ge (tgt := 17) C d_F_addName_5 (by decide) (fun c => ?_) (fun c => ?_)
  · have hf := (if_pos c).symm.trans hf
    refine gw_iconst (v := (-1 : Int32)) C d_F_addName_17 (by decide) ?_
    exact gw_ireti C d_F_addName_18 (wc ad cI cZ cC) hf
  · have hf := (if_neg c).symm.trans hf
    refine gw_iload_n C 1 d_F_addName_8 rfl rfl ?_
    refine gw_if_lt (tgt := 17) C d_F_addName_9 (by decide) (fun c => ?_) (fun c => ?_)
    · have hf := (if_pos c).symm.trans hf
      refine gw_iconst (v := (-1 : Int32)) C d_F_addName_17 (by decide) ?_
      exact gw_ireti C d_F_addName_18 (wc ad cI cZ cC) hf
    · have hf := (if_neg c).symm.trans hf
      refine gw_iload_n C 1 d_F_addName_12 rfl rfl ?_
      refine gw_iconst (v := (4 : Int32)) C d_F_addName_13 (by decide) ?_
      refine gw_icmp_le (tgt := 19) C d_F_addName_14 (by decide) (fun c => ?_) (fun c => ?_)
      · have hf := (if_pos c).symm.trans hf
        refine gw_aload_n C 0 d_F_addName_19 rfl rfl ?_
        refine gw_get C in_F 1 wcg_1 clg_0 0 (by decide) tw_92 rfl rfl d_F_addName_20 ?_
        refine gw_aload_n C 0 d_F_addName_23 rfl rfl ?_
        refine gw_get C in_F 1 wcg_1 clg_0 1 (by decide) tw_93 rfl rfl d_F_addName_24 ?_
        refine gw_iload_n C 1 d_F_addName_27 rfl rfl ?_
        obtain ⟨hb28, hf⟩ := gd_some hf
        refine gw_iast C 2 0 wcg_2 rfl hb28 d_F_addName_28 wca_2 ?_
        refine gw_aload_n C 0 d_F_addName_29 rfl rfl ?_
        refine gw_dup C d_F_addName_30 rfl ?_
        refine gw_get C in_F 1 wcg_1 clg_0 1 (by decide) tw_93 rfl rfl d_F_addName_31 ?_
        refine gw_iconst (v := (1 : Int32)) C d_F_addName_34 (by decide) ?_
        refine gw_iadd C d_F_addName_35 ?_
        refine gw_put C in_F ty_F tk_F nm_F 1 wcg_1 clg_0 1 (by decide) tw_93 rfl rfl rfl rfl (Nat.le_of_ble_eq_true rfl) d_F_addName_36 wcf_1_1 ?_
        refine gw_aload_n C 0 d_F_addName_39 rfl rfl ?_
        refine gw_get C in_F 1 wcg_1 clg_0 1 (by decide) tw_93 rfl rfl d_F_addName_40 ?_
        refine gw_iconst (v := (1 : Int32)) C d_F_addName_43 (by decide) ?_
        refine gw_isub C d_F_addName_44 ?_
        exact gw_ireti C d_F_addName_45 (wc ad cI cZ cC) hf
      · have hf := (if_neg c).symm.trans hf
        refine gw_iconst (v := (-1 : Int32)) C d_F_addName_17 (by decide) ?_
        exact gw_ireti C d_F_addName_18 (wc ad cI cZ cC) hf
theorem c_F_addName (hZ : gw_ZOK Z) {x1 : Int32} {M : Mem} {r : Int32} {M' : Mem} (hf : f_F_addName x1 M = some (r, M')) : CW l y_F_addName ws_F_addName rm_F_addName D vwCl (tysW cI cZ cC) Z [.ref (ad 1), .int x1] (wc ad cI cZ cC M) (some (.int r)) (wc ad cI cZ cC M') 0 0 :=
  CW.ofG hZ (by decide) rfl (Nat.le_of_ble_eq_true rfl) (fun _ _ _ _ _ _ _ _ C _ => g_F_addName C hf)
abbrev b_F_allVersions : ByteArray := prog_2_method_19_code
def y_F_allVersions : MethodName := ⟨"NoneWords$Facts", "allVersions", "(I)I"⟩
abbrev ws_F_allVersions : List Cond := Cond.code y_F_allVersions b_F_allVersions 2 (some (FieldType.int)) :: TB
set_option maxRecDepth 100000 in
theorem tc_F_allVersions : Cond.code y_F_allVersions b_F_allVersions 2 (some (FieldType.int)) ∈ TB := inTB 261 rfl rfl
theorem mv_F_allVersions : Cond.instanceMethod y_F_allVersions ∈ TB ∧ Cond.selects "NoneWords$Facts" y_F_allVersions y_F_allVersions ∈ TB ∧ Cond.initialized "NoneWords$Facts" ∈ TB ∧ Cond.code y_F_allVersions b_F_allVersions 2 (some (FieldType.int)) ∈ TB := ⟨inTB 259 (by decide +kernel) (by decide +kernel), inTB 260 (by decide +kernel) (by decide +kernel), inTB 65 (by decide +kernel) (by decide +kernel), tc_F_allVersions⟩
theorem pd_F_allVersions : y_F_allVersions.cls = "NoneWords$Facts" ∧ y_F_allVersions.cls ≠ "java/lang/invoke/MethodHandle" ∧ y_F_allVersions.cls ≠ "java/lang/invoke/VarHandle" ∧ (parseMethodDescriptor y_F_allVersions.desc).map (fun d => d.parameters.length) = some 1 := by decide +kernel
theorem d_F_allVersions_0 : decode b_F_allVersions 0 = .ok (.aload_n 0, 1) := by decide +kernel
theorem d_F_allVersions_1 : decode b_F_allVersions 1 = .ok (.iload_n 1, 1) := by decide +kernel
theorem d_F_allVersions_2 : decode b_F_allVersions 2 = .ok (.invokevirtual 69, 3) := by decide +kernel
theorem d_F_allVersions_5 : decode b_F_allVersions 5 = .ok (.ifCond .eq 16, 3) := by decide +kernel
theorem d_F_allVersions_8 : decode b_F_allVersions 8 = .ok (.iconst 1, 1) := by decide +kernel
theorem d_F_allVersions_9 : decode b_F_allVersions 9 = .ok (.aload_n 0, 1) := by decide +kernel
theorem d_F_allVersions_10 : decode b_F_allVersions 10 = .ok (.getfield 11, 3) := by decide +kernel
theorem d_F_allVersions_13 : decode b_F_allVersions 13 = .ok (.iload_n 1, 1) := by decide +kernel
theorem d_F_allVersions_14 : decode b_F_allVersions 14 = .ok (.iaload, 1) := by decide +kernel
theorem d_F_allVersions_15 : decode b_F_allVersions 15 = .ok (.ishl, 1) := by decide +kernel
theorem d_F_allVersions_16 : decode b_F_allVersions 16 = .ok (.iconst 1, 1) := by decide +kernel
theorem d_F_allVersions_17 : decode b_F_allVersions 17 = .ok (.isub, 1) := by decide +kernel
theorem d_F_allVersions_18 : decode b_F_allVersions 18 = .ok (.goto 4, 3) := by decide +kernel
theorem d_F_allVersions_21 : decode b_F_allVersions 21 = .ok (.iconst 0, 1) := by decide +kernel
theorem d_F_allVersions_22 : decode b_F_allVersions 22 = .ok (.ireturn, 1) := by decide +kernel
abbrev rm_F_allVersions : Room := { frames := 1, cells := 0, slots := 0, locals := 21 }
def f_F_allVersions (x1 : Int32) (M : Mem) : Option (Int32 × Mem) :=
  ob (f_F_hasName x1 M) fun r2 M2 => if r2 = 0 then some ((0 : Int32), M2) else gd (inb x1 5) (some (((1 : Int32) <<< ((M2 2 x1.toNatClampNeg) &&& 31)) - (1 : Int32), M2))
set_option maxRecDepth 100000 in
theorem g_F_allVersions {r : Int32} {M' : Mem} (C : GC p s m args meth c b_F_allVersions 2 (some (FieldType.int)) "NoneWords$Facts" TB D vwCl (tysW cI cZ cC) A Z) {x1 : Int32} {M : Mem} (hf : f_F_allVersions x1 M = some (r, M')) : GW p l e rm_F_allVersions s m args below meth c (MQ below (QW D vwCl (tysW cI cZ cC) A (some (.int r)) (wc ad cI cZ cC M')) args s 0 0 A) D vwCl A 2 0 0 (wc ad cI cZ cC M) 0 [(0, .ref (ad 1)), (1, .int x1)] [] := by
  unfold f_F_allVersions at hf
  refine gw_aload_n C 0 d_F_allVersions_0 rfl rfl ?_
  refine gw_iload_n C 1 d_F_allVersions_1 rfl rfl ?_
  obtain ⟨r2, M2, hc2, hf⟩ := ob_some hf
  refine gw_callVr (rest := []) C 1 wcg_1 clg_0 (c_F_hasName C.2.2.2.2.2.2.2.2.2.2 hc2) (cwV 1 C.2.2.2.2.1 (gTB_V tw_254 mv_F_hasName) rfl rfl rfl pd_F_hasName ⟨Nat.le_of_ble_eq_true rfl, Nat.le_of_ble_eq_true rfl⟩) rfl rfl (Nat.le_of_ble_eq_true rfl) d_F_allVersions_2 ⟨Nat.le_of_ble_eq_true rfl, Nat.le_of_ble_eq_true rfl⟩ ?_
  refine gw_if_eq (tgt := 21) C d_F_allVersions_5 (by decide) (fun c => ?_) (fun c => ?_)
  · have hf := (if_pos c).symm.trans hf
    refine gw_iconst (v := (0 : Int32)) C d_F_allVersions_21 (by decide) ?_
    exact gw_ireti C d_F_allVersions_22 (wc ad cI cZ cC) hf
  · have hf := (if_neg c).symm.trans hf
    refine gw_iconst (v := (1 : Int32)) C d_F_allVersions_8 (by decide) ?_
    refine gw_aload_n C 0 d_F_allVersions_9 rfl rfl ?_
    refine gw_get C in_F 1 wcg_1 clg_0 0 (by decide) tw_92 rfl rfl d_F_allVersions_10 ?_
    refine gw_iload_n C 1 d_F_allVersions_13 rfl rfl ?_
    obtain ⟨hb14, hf⟩ := gd_some hf
    refine gw_iald C 2 0 wcg_2 rfl hb14 d_F_allVersions_14 ?_
    refine gw_ishl C d_F_allVersions_15 ?_
    refine gw_iconst (v := (1 : Int32)) C d_F_allVersions_16 (by decide) ?_
    refine gw_isub C d_F_allVersions_17 ?_
    refine gw_goto (tgt := 22) C d_F_allVersions_18 (by decide) ?_
    exact gw_ireti C d_F_allVersions_22 (wc ad cI cZ cC) hf
theorem c_F_allVersions (hZ : gw_ZOK Z) {x1 : Int32} {M : Mem} {r : Int32} {M' : Mem} (hf : f_F_allVersions x1 M = some (r, M')) : CW l y_F_allVersions ws_F_allVersions rm_F_allVersions D vwCl (tysW cI cZ cC) Z [.ref (ad 1), .int x1] (wc ad cI cZ cC M) (some (.int r)) (wc ad cI cZ cC M') 0 0 :=
  CW.ofG hZ (by decide) rfl (Nat.le_of_ble_eq_true rfl) (fun _ _ _ _ _ _ _ _ C _ => g_F_allVersions C hf)
abbrev b_F_addNode : ByteArray := prog_2_method_23_code
def y_F_addNode : MethodName := ⟨"NoneWords$Facts", "addNode", "(II)I"⟩
abbrev ws_F_addNode : List Cond := Cond.code y_F_addNode b_F_addNode 3 (some (FieldType.int)) :: TB
set_option maxRecDepth 100000 in
theorem tc_F_addNode : Cond.code y_F_addNode b_F_addNode 3 (some (FieldType.int)) ∈ TB := inTB 272 rfl rfl
theorem mv_F_addNode : Cond.instanceMethod y_F_addNode ∈ TB ∧ Cond.selects "NoneWords$Facts" y_F_addNode y_F_addNode ∈ TB ∧ Cond.initialized "NoneWords$Facts" ∈ TB ∧ Cond.code y_F_addNode b_F_addNode 3 (some (FieldType.int)) ∈ TB := ⟨inTB 271 (by decide +kernel) (by decide +kernel), inTB 0 (by decide +kernel) (by decide +kernel), inTB 65 (by decide +kernel) (by decide +kernel), tc_F_addNode⟩
theorem pd_F_addNode : y_F_addNode.cls = "NoneWords$Facts" ∧ y_F_addNode.cls ≠ "java/lang/invoke/MethodHandle" ∧ y_F_addNode.cls ≠ "java/lang/invoke/VarHandle" ∧ (parseMethodDescriptor y_F_addNode.desc).map (fun d => d.parameters.length) = some 2 := by decide +kernel
theorem d_F_addNode_0 : decode b_F_addNode 0 = .ok (.aload_n 0, 1) := by decide +kernel
theorem d_F_addNode_1 : decode b_F_addNode 1 = .ok (.getfield 19, 3) := by decide +kernel
theorem d_F_addNode_4 : decode b_F_addNode 4 = .ok (.aload_n 0, 1) := by decide +kernel
theorem d_F_addNode_5 : decode b_F_addNode 5 = .ok (.getfield 43, 3) := by decide +kernel
theorem d_F_addNode_8 : decode b_F_addNode 8 = .ok (.iload_n 1, 1) := by decide +kernel
theorem d_F_addNode_9 : decode b_F_addNode 9 = .ok (.iastore, 1) := by decide +kernel
theorem d_F_addNode_10 : decode b_F_addNode 10 = .ok (.aload_n 0, 1) := by decide +kernel
theorem d_F_addNode_11 : decode b_F_addNode 11 = .ok (.getfield 22, 3) := by decide +kernel
theorem d_F_addNode_14 : decode b_F_addNode 14 = .ok (.aload_n 0, 1) := by decide +kernel
theorem d_F_addNode_15 : decode b_F_addNode 15 = .ok (.getfield 43, 3) := by decide +kernel
theorem d_F_addNode_18 : decode b_F_addNode 18 = .ok (.iload_n 2, 1) := by decide +kernel
theorem d_F_addNode_19 : decode b_F_addNode 19 = .ok (.iastore, 1) := by decide +kernel
theorem d_F_addNode_20 : decode b_F_addNode 20 = .ok (.aload_n 0, 1) := by decide +kernel
theorem d_F_addNode_21 : decode b_F_addNode 21 = .ok (.dup, 1) := by decide +kernel
theorem d_F_addNode_22 : decode b_F_addNode 22 = .ok (.getfield 43, 3) := by decide +kernel
theorem d_F_addNode_25 : decode b_F_addNode 25 = .ok (.iconst 1, 1) := by decide +kernel
theorem d_F_addNode_26 : decode b_F_addNode 26 = .ok (.iadd, 1) := by decide +kernel
theorem d_F_addNode_27 : decode b_F_addNode 27 = .ok (.putfield 43, 3) := by decide +kernel
theorem d_F_addNode_30 : decode b_F_addNode 30 = .ok (.aload_n 0, 1) := by decide +kernel
theorem d_F_addNode_31 : decode b_F_addNode 31 = .ok (.getfield 43, 3) := by decide +kernel
theorem d_F_addNode_34 : decode b_F_addNode 34 = .ok (.iconst 1, 1) := by decide +kernel
theorem d_F_addNode_35 : decode b_F_addNode 35 = .ok (.isub, 1) := by decide +kernel
theorem d_F_addNode_36 : decode b_F_addNode 36 = .ok (.ireturn, 1) := by decide +kernel
abbrev rm_F_addNode : Room := { frames := 0, cells := 0, slots := 0, locals := 0 }
def f_F_addNode (x1 : Int32) (x2 : Int32) (M : Mem) : Option (Int32 × Mem) :=
  gd (inb (M 1 10) 120) (gd (inb ((ms M 3 (M 1 10).toNatClampNeg x1) 1 10) 120) (some (((ms (ms (ms M 3 (M 1 10).toNatClampNeg x1) 4 ((ms M 3 (M 1 10).toNatClampNeg x1) 1 10).toNatClampNeg x2) 1 10 (((ms (ms M 3 (M 1 10).toNatClampNeg x1) 4 ((ms M 3 (M 1 10).toNatClampNeg x1) 1 10).toNatClampNeg x2) 1 10) + (1 : Int32))) 1 10) - (1 : Int32), ms (ms (ms M 3 (M 1 10).toNatClampNeg x1) 4 ((ms M 3 (M 1 10).toNatClampNeg x1) 1 10).toNatClampNeg x2) 1 10 (((ms (ms M 3 (M 1 10).toNatClampNeg x1) 4 ((ms M 3 (M 1 10).toNatClampNeg x1) 1 10).toNatClampNeg x2) 1 10) + (1 : Int32)))))
set_option maxRecDepth 100000 in
theorem g_F_addNode {r : Int32} {M' : Mem} (C : GC p s m args meth c b_F_addNode 3 (some (FieldType.int)) "NoneWords$Facts" TB D vwCl (tysW cI cZ cC) A Z) {x1 : Int32} {x2 : Int32} {M : Mem} (hf : f_F_addNode x1 x2 M = some (r, M')) : GW p l e rm_F_addNode s m args below meth c (MQ below (QW D vwCl (tysW cI cZ cC) A (some (.int r)) (wc ad cI cZ cC M')) args s 0 0 A) D vwCl A 3 0 0 (wc ad cI cZ cC M) 0 [(0, .ref (ad 1)), (1, .int x1), (2, .int x2)] [] := by
  unfold f_F_addNode at hf
  refine gw_aload_n C 0 d_F_addNode_0 rfl rfl ?_
  refine gw_get C in_F 1 wcg_1 clg_0 2 (by decide) tw_94 rfl rfl d_F_addNode_1 ?_
  refine gw_aload_n C 0 d_F_addNode_4 rfl rfl ?_
  refine gw_get C in_F 1 wcg_1 clg_0 10 (by decide) tw_102 rfl rfl d_F_addNode_5 ?_
  refine gw_iload_n C 1 d_F_addNode_8 rfl rfl ?_
  obtain ⟨hb9, hf⟩ := gd_some hf
  refine gw_iast C 3 0 wcg_3 rfl hb9 d_F_addNode_9 wca_3 ?_
  refine gw_aload_n C 0 d_F_addNode_10 rfl rfl ?_
  refine gw_get C in_F 1 wcg_1 clg_0 3 (by decide) tw_95 rfl rfl d_F_addNode_11 ?_
  refine gw_aload_n C 0 d_F_addNode_14 rfl rfl ?_
  refine gw_get C in_F 1 wcg_1 clg_0 10 (by decide) tw_102 rfl rfl d_F_addNode_15 ?_
  refine gw_iload_n C 2 d_F_addNode_18 rfl rfl ?_
  obtain ⟨hb19, hf⟩ := gd_some hf
  refine gw_iast C 4 0 wcg_4 rfl hb19 d_F_addNode_19 wca_4 ?_
  refine gw_aload_n C 0 d_F_addNode_20 rfl rfl ?_
  refine gw_dup C d_F_addNode_21 rfl ?_
  refine gw_get C in_F 1 wcg_1 clg_0 10 (by decide) tw_102 rfl rfl d_F_addNode_22 ?_
  refine gw_iconst (v := (1 : Int32)) C d_F_addNode_25 (by decide) ?_
  refine gw_iadd C d_F_addNode_26 ?_
  refine gw_put C in_F ty_F tk_F nm_F 1 wcg_1 clg_0 10 (by decide) tw_102 rfl rfl rfl rfl (Nat.le_of_ble_eq_true rfl) d_F_addNode_27 wcf_1_10 ?_
  refine gw_aload_n C 0 d_F_addNode_30 rfl rfl ?_
  refine gw_get C in_F 1 wcg_1 clg_0 10 (by decide) tw_102 rfl rfl d_F_addNode_31 ?_
  refine gw_iconst (v := (1 : Int32)) C d_F_addNode_34 (by decide) ?_
  refine gw_isub C d_F_addNode_35 ?_
  exact gw_ireti C d_F_addNode_36 (wc ad cI cZ cC) hf
theorem c_F_addNode (hZ : gw_ZOK Z) {x1 : Int32} {x2 : Int32} {M : Mem} {r : Int32} {M' : Mem} (hf : f_F_addNode x1 x2 M = some (r, M')) : CW l y_F_addNode ws_F_addNode rm_F_addNode D vwCl (tysW cI cZ cC) Z [.ref (ad 1), .int x1, .int x2] (wc ad cI cZ cC M) (some (.int r)) (wc ad cI cZ cC M') 0 0 :=
  CW.ofG hZ (by decide) rfl (Nat.le_of_ble_eq_true rfl) (fun _ _ _ _ _ _ _ _ C _ => g_F_addNode C hf)
abbrev b_F_wantedIn : ByteArray := prog_2_method_24_code
def y_F_wantedIn : MethodName := ⟨"NoneWords$Facts", "wantedIn", "(II)I"⟩
abbrev ws_F_wantedIn : List Cond := Cond.code y_F_wantedIn b_F_wantedIn 3 (some (FieldType.int)) :: TB
set_option maxRecDepth 100000 in
theorem tc_F_wantedIn : Cond.code y_F_wantedIn b_F_wantedIn 3 (some (FieldType.int)) ∈ TB := inTB 268 rfl rfl
theorem mv_F_wantedIn : Cond.static y_F_wantedIn ∈ TB ∧ Cond.initialized "NoneWords$Facts" ∈ TB ∧ Cond.code y_F_wantedIn b_F_wantedIn 3 (some (FieldType.int)) ∈ TB := ⟨inTB 267 (by decide +kernel) (by decide +kernel), inTB 65 (by decide +kernel) (by decide +kernel), tc_F_wantedIn⟩
theorem pd_F_wantedIn : y_F_wantedIn.cls = "NoneWords$Facts" ∧ y_F_wantedIn.cls ≠ "java/lang/invoke/MethodHandle" ∧ y_F_wantedIn.cls ≠ "java/lang/invoke/VarHandle" ∧ (parseMethodDescriptor y_F_wantedIn.desc).map (fun d => d.parameters.length) = some 2 := by decide +kernel
theorem d_F_wantedIn_0 : decode b_F_wantedIn 0 = .ok (.iconst 5, 1) := by decide +kernel
theorem d_F_wantedIn_1 : decode b_F_wantedIn 1 = .ok (.iload_n 0, 1) := by decide +kernel
theorem d_F_wantedIn_2 : decode b_F_wantedIn 2 = .ok (.imul, 1) := by decide +kernel
theorem d_F_wantedIn_3 : decode b_F_wantedIn 3 = .ok (.istore_n 2, 1) := by decide +kernel
theorem d_F_wantedIn_4 : decode b_F_wantedIn 4 = .ok (.ldc 88, 2) := by decide +kernel
theorem d_F_wantedIn_6 : decode b_F_wantedIn 6 = .ok (.bipush 31, 2) := by decide +kernel
theorem d_F_wantedIn_8 : decode b_F_wantedIn 8 = .ok (.iload_n 2, 1) := by decide +kernel
theorem d_F_wantedIn_9 : decode b_F_wantedIn 9 = .ok (.ishl, 1) := by decide +kernel
theorem d_F_wantedIn_10 : decode b_F_wantedIn 10 = .ok (.iconst (-1), 1) := by decide +kernel
theorem d_F_wantedIn_11 : decode b_F_wantedIn 11 = .ok (.ixor, 1) := by decide +kernel
theorem d_F_wantedIn_12 : decode b_F_wantedIn 12 = .ok (.iand, 1) := by decide +kernel
theorem d_F_wantedIn_13 : decode b_F_wantedIn 13 = .ok (.iload_n 1, 1) := by decide +kernel
theorem d_F_wantedIn_14 : decode b_F_wantedIn 14 = .ok (.iload_n 2, 1) := by decide +kernel
theorem d_F_wantedIn_15 : decode b_F_wantedIn 15 = .ok (.ishl, 1) := by decide +kernel
theorem d_F_wantedIn_16 : decode b_F_wantedIn 16 = .ok (.ior, 1) := by decide +kernel
theorem d_F_wantedIn_17 : decode b_F_wantedIn 17 = .ok (.ireturn, 1) := by decide +kernel
abbrev rm_F_wantedIn : Room := { frames := 0, cells := 0, slots := 0, locals := 0 }
def f_F_wantedIn (x0 : Int32) (x1 : Int32) (M : Mem) : Option (Int32 × Mem) :=
  some (((33554431 : Int32) &&& (((31 : Int32) <<< (((5 : Int32) * x0) &&& 31)) ^^^ (-1 : Int32))) ||| (x1 <<< (((5 : Int32) * x0) &&& 31)), M)
set_option maxRecDepth 100000 in
theorem g_F_wantedIn {r : Int32} {M' : Mem} (C : GC p s m args meth c b_F_wantedIn 3 (some (FieldType.int)) "NoneWords$Facts" TB D vwCl (tysW cI cZ cC) A Z) {x0 : Int32} {x1 : Int32} {M : Mem} (hf : f_F_wantedIn x0 x1 M = some (r, M')) : GW p l e rm_F_wantedIn s m args below meth c (MQ below (QW D vwCl (tysW cI cZ cC) A (some (.int r)) (wc ad cI cZ cC M')) args s 0 0 A) D vwCl A 3 0 0 (wc ad cI cZ cC M) 0 [(0, .int x0), (1, .int x1)] [] := by
  unfold f_F_wantedIn at hf
  refine gw_iconst (v := (5 : Int32)) C d_F_wantedIn_0 (by decide) ?_
  refine gw_iload_n C 0 d_F_wantedIn_1 rfl rfl ?_
  refine gw_imul C d_F_wantedIn_2 ?_
  refine gw_istore_n (lv' := [(2, .int ((5 : Int32) * x0)), (0, .int x0), (1, .int x1)]) C d_F_wantedIn_3 rfl (by decide) rfl ?_
  refine gw_ldc (v := (33554431 : Int32)) C d_F_wantedIn_4 tw_265 ?_
  refine gw_bipush (v := (31 : Int32)) C d_F_wantedIn_6 (by decide) ?_
  refine gw_iload_n C 0 d_F_wantedIn_8 rfl rfl ?_
  refine gw_ishl C d_F_wantedIn_9 ?_
  refine gw_iconst (v := (-1 : Int32)) C d_F_wantedIn_10 (by decide) ?_
  refine gw_ixor C d_F_wantedIn_11 ?_
  refine gw_iand C d_F_wantedIn_12 ?_
  refine gw_iload_n C 2 d_F_wantedIn_13 rfl rfl ?_
  refine gw_iload_n C 0 d_F_wantedIn_14 rfl rfl ?_
  refine gw_ishl C d_F_wantedIn_15 ?_
  refine gw_ior C d_F_wantedIn_16 ?_
  exact gw_ireti C d_F_wantedIn_17 (wc ad cI cZ cC) hf
theorem c_F_wantedIn (hZ : gw_ZOK Z) {x0 : Int32} {x1 : Int32} {M : Mem} {r : Int32} {M' : Mem} (hf : f_F_wantedIn x0 x1 M = some (r, M')) : CW l y_F_wantedIn ws_F_wantedIn rm_F_wantedIn D vwCl (tysW cI cZ cC) Z [.int x0, .int x1] (wc ad cI cZ cC M) (some (.int r)) (wc ad cI cZ cC M') 0 0 :=
  CW.ofG hZ (by decide) rfl (Nat.le_of_ble_eq_true rfl) (fun _ _ _ _ _ _ _ _ C _ => g_F_wantedIn C hf)
abbrev b_F_notIn : ByteArray := prog_2_method_25_code
def y_F_notIn : MethodName := ⟨"NoneWords$Facts", "notIn", "(II)I"⟩
abbrev ws_F_notIn : List Cond := Cond.code y_F_notIn b_F_notIn 2 (some (FieldType.int)) :: TB
set_option maxRecDepth 100000 in
theorem tc_F_notIn : Cond.code y_F_notIn b_F_notIn 2 (some (FieldType.int)) ∈ TB := inTB 264 rfl rfl
theorem mv_F_notIn : Cond.static y_F_notIn ∈ TB ∧ Cond.initialized "NoneWords$Facts" ∈ TB ∧ Cond.code y_F_notIn b_F_notIn 2 (some (FieldType.int)) ∈ TB := ⟨inTB 263 (by decide +kernel) (by decide +kernel), inTB 65 (by decide +kernel) (by decide +kernel), tc_F_notIn⟩
theorem pd_F_notIn : y_F_notIn.cls = "NoneWords$Facts" ∧ y_F_notIn.cls ≠ "java/lang/invoke/MethodHandle" ∧ y_F_notIn.cls ≠ "java/lang/invoke/VarHandle" ∧ (parseMethodDescriptor y_F_notIn.desc).map (fun d => d.parameters.length) = some 2 := by decide +kernel
theorem d_F_notIn_0 : decode b_F_notIn 0 = .ok (.ldc 88, 2) := by decide +kernel
theorem d_F_notIn_2 : decode b_F_notIn 2 = .ok (.iload_n 1, 1) := by decide +kernel
theorem d_F_notIn_3 : decode b_F_notIn 3 = .ok (.iconst 5, 1) := by decide +kernel
theorem d_F_notIn_4 : decode b_F_notIn 4 = .ok (.iload_n 0, 1) := by decide +kernel
theorem d_F_notIn_5 : decode b_F_notIn 5 = .ok (.imul, 1) := by decide +kernel
theorem d_F_notIn_6 : decode b_F_notIn 6 = .ok (.ishl, 1) := by decide +kernel
theorem d_F_notIn_7 : decode b_F_notIn 7 = .ok (.iconst (-1), 1) := by decide +kernel
theorem d_F_notIn_8 : decode b_F_notIn 8 = .ok (.ixor, 1) := by decide +kernel
theorem d_F_notIn_9 : decode b_F_notIn 9 = .ok (.iand, 1) := by decide +kernel
theorem d_F_notIn_10 : decode b_F_notIn 10 = .ok (.ireturn, 1) := by decide +kernel
abbrev rm_F_notIn : Room := { frames := 0, cells := 0, slots := 0, locals := 0 }
def f_F_notIn (x0 : Int32) (x1 : Int32) (M : Mem) : Option (Int32 × Mem) :=
  some ((33554431 : Int32) &&& ((x1 <<< (((5 : Int32) * x0) &&& 31)) ^^^ (-1 : Int32)), M)
set_option maxRecDepth 100000 in
theorem g_F_notIn {r : Int32} {M' : Mem} (C : GC p s m args meth c b_F_notIn 2 (some (FieldType.int)) "NoneWords$Facts" TB D vwCl (tysW cI cZ cC) A Z) {x0 : Int32} {x1 : Int32} {M : Mem} (hf : f_F_notIn x0 x1 M = some (r, M')) : GW p l e rm_F_notIn s m args below meth c (MQ below (QW D vwCl (tysW cI cZ cC) A (some (.int r)) (wc ad cI cZ cC M')) args s 0 0 A) D vwCl A 2 0 0 (wc ad cI cZ cC M) 0 [(0, .int x0), (1, .int x1)] [] := by
  unfold f_F_notIn at hf
  refine gw_ldc (v := (33554431 : Int32)) C d_F_notIn_0 tw_265 ?_
  refine gw_iload_n C 1 d_F_notIn_2 rfl rfl ?_
  refine gw_iconst (v := (5 : Int32)) C d_F_notIn_3 (by decide) ?_
  refine gw_iload_n C 0 d_F_notIn_4 rfl rfl ?_
  refine gw_imul C d_F_notIn_5 ?_
  refine gw_ishl C d_F_notIn_6 ?_
  refine gw_iconst (v := (-1 : Int32)) C d_F_notIn_7 (by decide) ?_
  refine gw_ixor C d_F_notIn_8 ?_
  refine gw_iand C d_F_notIn_9 ?_
  exact gw_ireti C d_F_notIn_10 (wc ad cI cZ cC) hf
theorem c_F_notIn (hZ : gw_ZOK Z) {x0 : Int32} {x1 : Int32} {M : Mem} {r : Int32} {M' : Mem} (hf : f_F_notIn x0 x1 M = some (r, M')) : CW l y_F_notIn ws_F_notIn rm_F_notIn D vwCl (tysW cI cZ cC) Z [.int x0, .int x1] (wc ad cI cZ cC M) (some (.int r)) (wc ad cI cZ cC M') 0 0 :=
  CW.ofG hZ (by decide) rfl (Nat.le_of_ble_eq_true rfl) (fun _ _ _ _ _ _ _ _ C _ => g_F_notIn C hf)
abbrev b_F_addLeaf : ByteArray := prog_2_method_20_code
def y_F_addLeaf : MethodName := ⟨"NoneWords$Facts", "addLeaf", "(III)I"⟩
abbrev ws_F_addLeaf : List Cond := Cond.code y_F_addLeaf b_F_addLeaf 5 (some (FieldType.int)) :: TB
set_option maxRecDepth 100000 in
theorem tc_F_addLeaf : Cond.code y_F_addLeaf b_F_addLeaf 5 (some (FieldType.int)) ∈ TB := inTB 253 rfl rfl
theorem mv_F_addLeaf : Cond.instanceMethod y_F_addLeaf ∈ TB ∧ Cond.selects "NoneWords$Facts" y_F_addLeaf y_F_addLeaf ∈ TB ∧ Cond.initialized "NoneWords$Facts" ∈ TB ∧ Cond.code y_F_addLeaf b_F_addLeaf 5 (some (FieldType.int)) ∈ TB := ⟨inTB 251 (by decide +kernel) (by decide +kernel), inTB 252 (by decide +kernel) (by decide +kernel), inTB 65 (by decide +kernel) (by decide +kernel), tc_F_addLeaf⟩
theorem pd_F_addLeaf : y_F_addLeaf.cls = "NoneWords$Facts" ∧ y_F_addLeaf.cls ≠ "java/lang/invoke/MethodHandle" ∧ y_F_addLeaf.cls ≠ "java/lang/invoke/VarHandle" ∧ (parseMethodDescriptor y_F_addLeaf.desc).map (fun d => d.parameters.length) = some 3 := by decide +kernel
theorem d_F_addLeaf_0 : decode b_F_addLeaf 0 = .ok (.aload_n 0, 1) := by decide +kernel
theorem d_F_addLeaf_1 : decode b_F_addLeaf 1 = .ok (.iload_n 2, 1) := by decide +kernel
theorem d_F_addLeaf_2 : decode b_F_addLeaf 2 = .ok (.invokevirtual 69, 3) := by decide +kernel
theorem d_F_addLeaf_5 : decode b_F_addLeaf 5 = .ok (.ifCond .eq 12, 3) := by decide +kernel
theorem d_F_addLeaf_8 : decode b_F_addLeaf 8 = .ok (.aload_n 0, 1) := by decide +kernel
theorem d_F_addLeaf_9 : decode b_F_addLeaf 9 = .ok (.getfield 43, 3) := by decide +kernel
theorem d_F_addLeaf_12 : decode b_F_addLeaf 12 = .ok (.bipush 120, 2) := by decide +kernel
theorem d_F_addLeaf_14 : decode b_F_addLeaf 14 = .ok (.if_icmp .lt 5, 3) := by decide +kernel
theorem d_F_addLeaf_17 : decode b_F_addLeaf 17 = .ok (.iconst (-1), 1) := by decide +kernel
theorem d_F_addLeaf_18 : decode b_F_addLeaf 18 = .ok (.ireturn, 1) := by decide +kernel
theorem d_F_addLeaf_19 : decode b_F_addLeaf 19 = .ok (.iload_n 3, 1) := by decide +kernel
theorem d_F_addLeaf_20 : decode b_F_addLeaf 20 = .ok (.aload_n 0, 1) := by decide +kernel
theorem d_F_addLeaf_21 : decode b_F_addLeaf 21 = .ok (.iload_n 2, 1) := by decide +kernel
theorem d_F_addLeaf_22 : decode b_F_addLeaf 22 = .ok (.invokevirtual 72, 3) := by decide +kernel
theorem d_F_addLeaf_25 : decode b_F_addLeaf 25 = .ok (.iand, 1) := by decide +kernel
theorem d_F_addLeaf_26 : decode b_F_addLeaf 26 = .ok (.istore 4, 2) := by decide +kernel
theorem d_F_addLeaf_28 : decode b_F_addLeaf 28 = .ok (.aload_n 0, 1) := by decide +kernel
theorem d_F_addLeaf_29 : decode b_F_addLeaf 29 = .ok (.getfield 25, 3) := by decide +kernel
theorem d_F_addLeaf_32 : decode b_F_addLeaf 32 = .ok (.aload_n 0, 1) := by decide +kernel
theorem d_F_addLeaf_33 : decode b_F_addLeaf 33 = .ok (.getfield 43, 3) := by decide +kernel
theorem d_F_addLeaf_36 : decode b_F_addLeaf 36 = .ok (.iload_n 2, 1) := by decide +kernel
theorem d_F_addLeaf_37 : decode b_F_addLeaf 37 = .ok (.iastore, 1) := by decide +kernel
theorem d_F_addLeaf_38 : decode b_F_addLeaf 38 = .ok (.aload_n 0, 1) := by decide +kernel
theorem d_F_addLeaf_39 : decode b_F_addLeaf 39 = .ok (.getfield 28, 3) := by decide +kernel
theorem d_F_addLeaf_42 : decode b_F_addLeaf 42 = .ok (.aload_n 0, 1) := by decide +kernel
theorem d_F_addLeaf_43 : decode b_F_addLeaf 43 = .ok (.getfield 43, 3) := by decide +kernel
theorem d_F_addLeaf_46 : decode b_F_addLeaf 46 = .ok (.iload 4, 2) := by decide +kernel
theorem d_F_addLeaf_48 : decode b_F_addLeaf 48 = .ok (.iastore, 1) := by decide +kernel
theorem d_F_addLeaf_49 : decode b_F_addLeaf 49 = .ok (.aload_n 0, 1) := by decide +kernel
theorem d_F_addLeaf_50 : decode b_F_addLeaf 50 = .ok (.iload_n 1, 1) := by decide +kernel
theorem d_F_addLeaf_51 : decode b_F_addLeaf 51 = .ok (.iload_n 1, 1) := by decide +kernel
theorem d_F_addLeaf_52 : decode b_F_addLeaf 52 = .ok (.ifCond .ne 12, 3) := by decide +kernel
theorem d_F_addLeaf_55 : decode b_F_addLeaf 55 = .ok (.iload_n 2, 1) := by decide +kernel
theorem d_F_addLeaf_56 : decode b_F_addLeaf 56 = .ok (.iload 4, 2) := by decide +kernel
theorem d_F_addLeaf_58 : decode b_F_addLeaf 58 = .ok (.invokestatic 75, 3) := by decide +kernel
theorem d_F_addLeaf_61 : decode b_F_addLeaf 61 = .ok (.goto 9, 3) := by decide +kernel
theorem d_F_addLeaf_64 : decode b_F_addLeaf 64 = .ok (.iload_n 2, 1) := by decide +kernel
theorem d_F_addLeaf_65 : decode b_F_addLeaf 65 = .ok (.iload 4, 2) := by decide +kernel
theorem d_F_addLeaf_67 : decode b_F_addLeaf 67 = .ok (.invokestatic 79, 3) := by decide +kernel
theorem d_F_addLeaf_70 : decode b_F_addLeaf 70 = .ok (.invokevirtual 82, 3) := by decide +kernel
theorem d_F_addLeaf_73 : decode b_F_addLeaf 73 = .ok (.ireturn, 1) := by decide +kernel
abbrev rm_F_addLeaf : Room := { frames := 2, cells := 0, slots := 0, locals := 42 }
def f_F_addLeaf_70 (y0 : Int32) (y1 : Int32) (M : Mem) : Option (Int32 × Mem) :=
  ob (f_F_addNode y1 y0 M) fun r70 M70 => some (r70, M70)
set_option maxRecDepth 100000 in
theorem g_F_addLeaf_70 {r : Int32} {M' : Mem} (C : GC p s m args meth c b_F_addLeaf 5 (some (FieldType.int)) "NoneWords$Facts" TB D vwCl (tysW cI cZ cC) A Z) {y0 : Int32} {y1 : Int32} {M : Mem} (hf : f_F_addLeaf_70 y0 y1 M = some (r, M')) : GW p l e rm_F_addLeaf s m args below meth c (MQ below (QW D vwCl (tysW cI cZ cC) A (some (.int r)) (wc ad cI cZ cC M')) args s 0 0 A) D vwCl A 5 0 0 (wc ad cI cZ cC M) 70 [] [.int y0, .int y1, .ref (ad 1)] := by
  unfold f_F_addLeaf_70 at hf
  obtain ⟨r70, M70, hc70, hf⟩ := ob_some hf
  refine gw_callVr (rest := []) C 1 wcg_1 clg_0 (c_F_addNode C.2.2.2.2.2.2.2.2.2.2 hc70) (cwV 2 C.2.2.2.2.1 (gTB_V tw_269 mv_F_addNode) rfl rfl rfl pd_F_addNode ⟨Nat.le_of_ble_eq_true rfl, Nat.le_of_ble_eq_true rfl⟩) rfl rfl (Nat.le_of_ble_eq_true rfl) d_F_addLeaf_70 ⟨Nat.le_of_ble_eq_true rfl, Nat.le_of_ble_eq_true rfl⟩ ?_
  exact gw_ireti C d_F_addLeaf_73 (wc ad cI cZ cC) hf
def f_F_addLeaf (x1 : Int32) (x2 : Int32) (x3 : Int32) (M : Mem) : Option (Int32 × Mem) :=
  ob (f_F_hasName x2 M) fun r2 M2 => if r2 = 0 then some ((-1 : Int32), M2) else if (M2 1 10) < (120 : Int32) then ob (f_F_allVersions x2 M2) fun r22 M22 => gd (inb (M22 1 10) 120) (gd (inb ((ms M22 5 (M22 1 10).toNatClampNeg x2) 1 10) 120) (if x1 = 0 then ob (f_F_notIn x2 (x3 &&& r22) (ms (ms M22 5 (M22 1 10).toNatClampNeg x2) 6 ((ms M22 5 (M22 1 10).toNatClampNeg x2) 1 10).toNatClampNeg (x3 &&& r22))) fun r58 M58 => f_F_addLeaf_70 r58 x1 M58 else ob (f_F_wantedIn x2 (x3 &&& r22) (ms (ms M22 5 (M22 1 10).toNatClampNeg x2) 6 ((ms M22 5 (M22 1 10).toNatClampNeg x2) 1 10).toNatClampNeg (x3 &&& r22))) fun r67 M67 => f_F_addLeaf_70 r67 x1 M67)) else some ((-1 : Int32), M2)
set_option maxRecDepth 100000 in
theorem g_F_addLeaf {r : Int32} {M' : Mem} (C : GC p s m args meth c b_F_addLeaf 5 (some (FieldType.int)) "NoneWords$Facts" TB D vwCl (tysW cI cZ cC) A Z) {x1 : Int32} {x2 : Int32} {x3 : Int32} {M : Mem} (hf : f_F_addLeaf x1 x2 x3 M = some (r, M')) : GW p l e rm_F_addLeaf s m args below meth c (MQ below (QW D vwCl (tysW cI cZ cC) A (some (.int r)) (wc ad cI cZ cC M')) args s 0 0 A) D vwCl A 5 0 0 (wc ad cI cZ cC M) 0 [(0, .ref (ad 1)), (1, .int x1), (2, .int x2), (3, .int x3)] [] := by
  unfold f_F_addLeaf at hf
  refine gw_aload_n C 0 d_F_addLeaf_0 rfl rfl ?_
  refine gw_iload_n C 2 d_F_addLeaf_1 rfl rfl ?_
  obtain ⟨r2, M2, hc2, hf⟩ := ob_some hf
  refine gw_callVr (rest := []) C 1 wcg_1 clg_0 (c_F_hasName C.2.2.2.2.2.2.2.2.2.2 hc2) (cwV 1 C.2.2.2.2.1 (gTB_V tw_254 mv_F_hasName) rfl rfl rfl pd_F_hasName ⟨Nat.le_of_ble_eq_true rfl, Nat.le_of_ble_eq_true rfl⟩) rfl rfl (Nat.le_of_ble_eq_true rfl) d_F_addLeaf_2 ⟨Nat.le_of_ble_eq_true rfl, Nat.le_of_ble_eq_true rfl⟩ ?_
  refine gw_if_eq (tgt := 17) C d_F_addLeaf_5 (by decide) (fun c => ?_) (fun c => ?_)
  · have hf := (if_pos c).symm.trans hf
    refine gw_iconst (v := (-1 : Int32)) C d_F_addLeaf_17 (by decide) ?_
    exact gw_ireti C d_F_addLeaf_18 (wc ad cI cZ cC) hf
  · have hf := (if_neg c).symm.trans hf
    refine gw_aload_n C 0 d_F_addLeaf_8 rfl rfl ?_
    refine gw_get C in_F 1 wcg_1 clg_0 10 (by decide) tw_102 rfl rfl d_F_addLeaf_9 ?_
    refine gw_bipush (v := (120 : Int32)) C d_F_addLeaf_12 (by decide) ?_
    refine gw_icmp_lt (tgt := 19) C d_F_addLeaf_14 (by decide) (fun c => ?_) (fun c => ?_)
    · have hf := (if_pos c).symm.trans hf
      refine gw_iload_n C 3 d_F_addLeaf_19 rfl rfl ?_
      refine gw_aload_n C 0 d_F_addLeaf_20 rfl rfl ?_
      refine gw_iload_n C 2 d_F_addLeaf_21 rfl rfl ?_
      obtain ⟨r22, M22, hc22, hf⟩ := ob_some hf
      refine gw_callVr (rest := [.int x3]) C 1 wcg_1 clg_0 (c_F_allVersions C.2.2.2.2.2.2.2.2.2.2 hc22) (cwV 1 C.2.2.2.2.1 (gTB_V tw_258 mv_F_allVersions) rfl rfl rfl pd_F_allVersions ⟨Nat.le_of_ble_eq_true rfl, Nat.le_of_ble_eq_true rfl⟩) rfl rfl (Nat.le_of_ble_eq_true rfl) d_F_addLeaf_22 ⟨Nat.le_of_ble_eq_true rfl, Nat.le_of_ble_eq_true rfl⟩ ?_
      refine gw_iand C d_F_addLeaf_25 ?_
      refine gw_istore (lv' := [(4, .int (x3 &&& r22)), (0, .ref (ad 1)), (1, .int x1), (2, .int x2), (3, .int x3)]) C d_F_addLeaf_26 (by decide) rfl ?_
      refine gw_aload_n C 1 d_F_addLeaf_28 rfl rfl ?_
      refine gw_get C in_F 1 wcg_1 clg_0 4 (by decide) tw_96 rfl rfl d_F_addLeaf_29 ?_
      refine gw_aload_n C 1 d_F_addLeaf_32 rfl rfl ?_
      refine gw_get C in_F 1 wcg_1 clg_0 10 (by decide) tw_102 rfl rfl d_F_addLeaf_33 ?_
      refine gw_iload_n C 3 d_F_addLeaf_36 rfl rfl ?_
      obtain ⟨hb37, hf⟩ := gd_some hf
      refine gw_iast C 5 0 wcg_5 rfl hb37 d_F_addLeaf_37 wca_5 ?_
      refine gw_aload_n C 1 d_F_addLeaf_38 rfl rfl ?_
      refine gw_get C in_F 1 wcg_1 clg_0 5 (by decide) tw_97 rfl rfl d_F_addLeaf_39 ?_
      refine gw_aload_n C 1 d_F_addLeaf_42 rfl rfl ?_
      refine gw_get C in_F 1 wcg_1 clg_0 10 (by decide) tw_102 rfl rfl d_F_addLeaf_43 ?_
      refine gw_iload C 0 d_F_addLeaf_46 rfl ?_
      obtain ⟨hb48, hf⟩ := gd_some hf
      refine gw_iast C 6 0 wcg_6 rfl hb48 d_F_addLeaf_48 wca_6 ?_
      refine gw_aload_n C 1 d_F_addLeaf_49 rfl rfl ?_
      refine gw_iload_n C 2 d_F_addLeaf_50 rfl rfl ?_
      refine gw_iload_n C 2 d_F_addLeaf_51 rfl rfl ?_
      refine gw_if_ne (tgt := 64) C d_F_addLeaf_52 (by decide) (fun c => ?_) (fun c => ?_)
      · have hf := (if_neg c).symm.trans hf
        refine gw_iload_n C 3 d_F_addLeaf_64 rfl rfl ?_
        refine gw_iload C 0 d_F_addLeaf_65 rfl ?_
        obtain ⟨r67, M67, hc67, hf⟩ := ob_some hf
        refine gw_callSr (rest := [.int x1, .ref (ad 1)]) C (c_F_wantedIn C.2.2.2.2.2.2.2.2.2.2 hc67) (cwS 2 C.2.2.2.2.1 (gTB_S tw_266 mv_F_wantedIn) rfl rfl rfl pd_F_wantedIn ⟨Nat.le_of_ble_eq_true rfl, Nat.le_of_ble_eq_true rfl⟩) rfl rfl (Nat.le_of_ble_eq_true rfl) d_F_addLeaf_67 ⟨Nat.le_of_ble_eq_true rfl, Nat.le_of_ble_eq_true rfl⟩ ?_
        exact gw_sub [] rfl (g_F_addLeaf_70 C hf)
      · have hf := (if_pos c).symm.trans hf
        refine gw_iload_n C 3 d_F_addLeaf_55 rfl rfl ?_
        refine gw_iload C 0 d_F_addLeaf_56 rfl ?_
        obtain ⟨r58, M58, hc58, hf⟩ := ob_some hf
        refine gw_callSr (rest := [.int x1, .ref (ad 1)]) C (c_F_notIn C.2.2.2.2.2.2.2.2.2.2 hc58) (cwS 2 C.2.2.2.2.1 (gTB_S tw_262 mv_F_notIn) rfl rfl rfl pd_F_notIn ⟨Nat.le_of_ble_eq_true rfl, Nat.le_of_ble_eq_true rfl⟩) rfl rfl (Nat.le_of_ble_eq_true rfl) d_F_addLeaf_58 ⟨Nat.le_of_ble_eq_true rfl, Nat.le_of_ble_eq_true rfl⟩ ?_
        refine gw_goto (tgt := 70) C d_F_addLeaf_61 (by decide) ?_
        exact gw_sub [] rfl (g_F_addLeaf_70 C hf)
    · have hf := (if_neg c).symm.trans hf
      refine gw_iconst (v := (-1 : Int32)) C d_F_addLeaf_17 (by decide) ?_
      exact gw_ireti C d_F_addLeaf_18 (wc ad cI cZ cC) hf
theorem c_F_addLeaf (hZ : gw_ZOK Z) {x1 : Int32} {x2 : Int32} {x3 : Int32} {M : Mem} {r : Int32} {M' : Mem} (hf : f_F_addLeaf x1 x2 x3 M = some (r, M')) : CW l y_F_addLeaf ws_F_addLeaf rm_F_addLeaf D vwCl (tysW cI cZ cC) Z [.ref (ad 1), .int x1, .int x2, .int x3] (wc ad cI cZ cC M) (some (.int r)) (wc ad cI cZ cC M') 0 0 :=
  CW.ofG hZ (by decide) rfl (Nat.le_of_ble_eq_true rfl) (fun _ _ _ _ _ _ _ _ C _ => g_F_addLeaf C hf)
abbrev b_F_addPairLeaf : ByteArray := prog_2_method_21_code
def y_F_addPairLeaf : MethodName := ⟨"NoneWords$Facts", "addPairLeaf", "(IIIII)I"⟩
abbrev ws_F_addPairLeaf : List Cond := Cond.code y_F_addPairLeaf b_F_addPairLeaf 9 (some (FieldType.int)) :: TB
set_option maxRecDepth 100000 in
theorem tc_F_addPairLeaf : Cond.code y_F_addPairLeaf b_F_addPairLeaf 9 (some (FieldType.int)) ∈ TB := inTB 276 rfl rfl
theorem mv_F_addPairLeaf : Cond.instanceMethod y_F_addPairLeaf ∈ TB ∧ Cond.selects "NoneWords$Facts" y_F_addPairLeaf y_F_addPairLeaf ∈ TB ∧ Cond.initialized "NoneWords$Facts" ∈ TB ∧ Cond.code y_F_addPairLeaf b_F_addPairLeaf 9 (some (FieldType.int)) ∈ TB := ⟨inTB 274 (by decide +kernel) (by decide +kernel), inTB 275 (by decide +kernel) (by decide +kernel), inTB 65 (by decide +kernel) (by decide +kernel), tc_F_addPairLeaf⟩
theorem pd_F_addPairLeaf : y_F_addPairLeaf.cls = "NoneWords$Facts" ∧ y_F_addPairLeaf.cls ≠ "java/lang/invoke/MethodHandle" ∧ y_F_addPairLeaf.cls ≠ "java/lang/invoke/VarHandle" ∧ (parseMethodDescriptor y_F_addPairLeaf.desc).map (fun d => d.parameters.length) = some 5 := by decide +kernel
theorem d_F_addPairLeaf_0 : decode b_F_addPairLeaf 0 = .ok (.aload_n 0, 1) := by decide +kernel
theorem d_F_addPairLeaf_1 : decode b_F_addPairLeaf 1 = .ok (.iload_n 2, 1) := by decide +kernel
theorem d_F_addPairLeaf_2 : decode b_F_addPairLeaf 2 = .ok (.invokevirtual 69, 3) := by decide +kernel
theorem d_F_addPairLeaf_5 : decode b_F_addPairLeaf 5 = .ok (.ifCond .eq 27, 3) := by decide +kernel
theorem d_F_addPairLeaf_8 : decode b_F_addPairLeaf 8 = .ok (.aload_n 0, 1) := by decide +kernel
theorem d_F_addPairLeaf_9 : decode b_F_addPairLeaf 9 = .ok (.iload 4, 2) := by decide +kernel
theorem d_F_addPairLeaf_11 : decode b_F_addPairLeaf 11 = .ok (.invokevirtual 69, 3) := by decide +kernel
theorem d_F_addPairLeaf_14 : decode b_F_addPairLeaf 14 = .ok (.ifCond .eq 18, 3) := by decide +kernel
theorem d_F_addPairLeaf_17 : decode b_F_addPairLeaf 17 = .ok (.iload_n 2, 1) := by decide +kernel
theorem d_F_addPairLeaf_18 : decode b_F_addPairLeaf 18 = .ok (.iload 4, 2) := by decide +kernel
theorem d_F_addPairLeaf_20 : decode b_F_addPairLeaf 20 = .ok (.if_icmp .eq 12, 3) := by decide +kernel
theorem d_F_addPairLeaf_23 : decode b_F_addPairLeaf 23 = .ok (.aload_n 0, 1) := by decide +kernel
theorem d_F_addPairLeaf_24 : decode b_F_addPairLeaf 24 = .ok (.getfield 43, 3) := by decide +kernel
theorem d_F_addPairLeaf_27 : decode b_F_addPairLeaf 27 = .ok (.bipush 120, 2) := by decide +kernel
theorem d_F_addPairLeaf_29 : decode b_F_addPairLeaf 29 = .ok (.if_icmp .lt 5, 3) := by decide +kernel
theorem d_F_addPairLeaf_32 : decode b_F_addPairLeaf 32 = .ok (.iconst (-1), 1) := by decide +kernel
theorem d_F_addPairLeaf_33 : decode b_F_addPairLeaf 33 = .ok (.ireturn, 1) := by decide +kernel
theorem d_F_addPairLeaf_34 : decode b_F_addPairLeaf 34 = .ok (.iload_n 3, 1) := by decide +kernel
theorem d_F_addPairLeaf_35 : decode b_F_addPairLeaf 35 = .ok (.aload_n 0, 1) := by decide +kernel
theorem d_F_addPairLeaf_36 : decode b_F_addPairLeaf 36 = .ok (.iload_n 2, 1) := by decide +kernel
theorem d_F_addPairLeaf_37 : decode b_F_addPairLeaf 37 = .ok (.invokevirtual 72, 3) := by decide +kernel
theorem d_F_addPairLeaf_40 : decode b_F_addPairLeaf 40 = .ok (.iand, 1) := by decide +kernel
theorem d_F_addPairLeaf_41 : decode b_F_addPairLeaf 41 = .ok (.istore 6, 2) := by decide +kernel
theorem d_F_addPairLeaf_43 : decode b_F_addPairLeaf 43 = .ok (.iload 5, 2) := by decide +kernel
theorem d_F_addPairLeaf_45 : decode b_F_addPairLeaf 45 = .ok (.aload_n 0, 1) := by decide +kernel
theorem d_F_addPairLeaf_46 : decode b_F_addPairLeaf 46 = .ok (.iload 4, 2) := by decide +kernel
theorem d_F_addPairLeaf_48 : decode b_F_addPairLeaf 48 = .ok (.invokevirtual 72, 3) := by decide +kernel
theorem d_F_addPairLeaf_51 : decode b_F_addPairLeaf 51 = .ok (.iand, 1) := by decide +kernel
theorem d_F_addPairLeaf_52 : decode b_F_addPairLeaf 52 = .ok (.istore 7, 2) := by decide +kernel
theorem d_F_addPairLeaf_54 : decode b_F_addPairLeaf 54 = .ok (.aload_n 0, 1) := by decide +kernel
theorem d_F_addPairLeaf_55 : decode b_F_addPairLeaf 55 = .ok (.getfield 25, 3) := by decide +kernel
theorem d_F_addPairLeaf_58 : decode b_F_addPairLeaf 58 = .ok (.aload_n 0, 1) := by decide +kernel
theorem d_F_addPairLeaf_59 : decode b_F_addPairLeaf 59 = .ok (.getfield 43, 3) := by decide +kernel
theorem d_F_addPairLeaf_62 : decode b_F_addPairLeaf 62 = .ok (.iload_n 2, 1) := by decide +kernel
theorem d_F_addPairLeaf_63 : decode b_F_addPairLeaf 63 = .ok (.iastore, 1) := by decide +kernel
theorem d_F_addPairLeaf_64 : decode b_F_addPairLeaf 64 = .ok (.aload_n 0, 1) := by decide +kernel
theorem d_F_addPairLeaf_65 : decode b_F_addPairLeaf 65 = .ok (.getfield 28, 3) := by decide +kernel
theorem d_F_addPairLeaf_68 : decode b_F_addPairLeaf 68 = .ok (.aload_n 0, 1) := by decide +kernel
theorem d_F_addPairLeaf_69 : decode b_F_addPairLeaf 69 = .ok (.getfield 43, 3) := by decide +kernel
theorem d_F_addPairLeaf_72 : decode b_F_addPairLeaf 72 = .ok (.iload 6, 2) := by decide +kernel
theorem d_F_addPairLeaf_74 : decode b_F_addPairLeaf 74 = .ok (.iastore, 1) := by decide +kernel
theorem d_F_addPairLeaf_75 : decode b_F_addPairLeaf 75 = .ok (.aload_n 0, 1) := by decide +kernel
theorem d_F_addPairLeaf_76 : decode b_F_addPairLeaf 76 = .ok (.getfield 31, 3) := by decide +kernel
theorem d_F_addPairLeaf_79 : decode b_F_addPairLeaf 79 = .ok (.aload_n 0, 1) := by decide +kernel
theorem d_F_addPairLeaf_80 : decode b_F_addPairLeaf 80 = .ok (.getfield 43, 3) := by decide +kernel
theorem d_F_addPairLeaf_83 : decode b_F_addPairLeaf 83 = .ok (.iload 4, 2) := by decide +kernel
theorem d_F_addPairLeaf_85 : decode b_F_addPairLeaf 85 = .ok (.iastore, 1) := by decide +kernel
theorem d_F_addPairLeaf_86 : decode b_F_addPairLeaf 86 = .ok (.aload_n 0, 1) := by decide +kernel
theorem d_F_addPairLeaf_87 : decode b_F_addPairLeaf 87 = .ok (.getfield 34, 3) := by decide +kernel
theorem d_F_addPairLeaf_90 : decode b_F_addPairLeaf 90 = .ok (.aload_n 0, 1) := by decide +kernel
theorem d_F_addPairLeaf_91 : decode b_F_addPairLeaf 91 = .ok (.getfield 43, 3) := by decide +kernel
theorem d_F_addPairLeaf_94 : decode b_F_addPairLeaf 94 = .ok (.iload 7, 2) := by decide +kernel
theorem d_F_addPairLeaf_96 : decode b_F_addPairLeaf 96 = .ok (.iastore, 1) := by decide +kernel
theorem d_F_addPairLeaf_97 : decode b_F_addPairLeaf 97 = .ok (.iload_n 1, 1) := by decide +kernel
theorem d_F_addPairLeaf_98 : decode b_F_addPairLeaf 98 = .ok (.iconst 1, 1) := by decide +kernel
theorem d_F_addPairLeaf_99 : decode b_F_addPairLeaf 99 = .ok (.if_icmp .ne 13, 3) := by decide +kernel
theorem d_F_addPairLeaf_102 : decode b_F_addPairLeaf 102 = .ok (.iload 4, 2) := by decide +kernel
theorem d_F_addPairLeaf_104 : decode b_F_addPairLeaf 104 = .ok (.iload 7, 2) := by decide +kernel
theorem d_F_addPairLeaf_106 : decode b_F_addPairLeaf 106 = .ok (.invokestatic 75, 3) := by decide +kernel
theorem d_F_addPairLeaf_109 : decode b_F_addPairLeaf 109 = .ok (.goto 10, 3) := by decide +kernel
theorem d_F_addPairLeaf_112 : decode b_F_addPairLeaf 112 = .ok (.iload 4, 2) := by decide +kernel
theorem d_F_addPairLeaf_114 : decode b_F_addPairLeaf 114 = .ok (.iload 7, 2) := by decide +kernel
theorem d_F_addPairLeaf_116 : decode b_F_addPairLeaf 116 = .ok (.invokestatic 79, 3) := by decide +kernel
theorem d_F_addPairLeaf_119 : decode b_F_addPairLeaf 119 = .ok (.istore 8, 2) := by decide +kernel
theorem d_F_addPairLeaf_121 : decode b_F_addPairLeaf 121 = .ok (.aload_n 0, 1) := by decide +kernel
theorem d_F_addPairLeaf_122 : decode b_F_addPairLeaf 122 = .ok (.iload_n 1, 1) := by decide +kernel
theorem d_F_addPairLeaf_123 : decode b_F_addPairLeaf 123 = .ok (.iload_n 2, 1) := by decide +kernel
theorem d_F_addPairLeaf_124 : decode b_F_addPairLeaf 124 = .ok (.iload 6, 2) := by decide +kernel
theorem d_F_addPairLeaf_126 : decode b_F_addPairLeaf 126 = .ok (.invokestatic 79, 3) := by decide +kernel
theorem d_F_addPairLeaf_129 : decode b_F_addPairLeaf 129 = .ok (.iload 8, 2) := by decide +kernel
theorem d_F_addPairLeaf_131 : decode b_F_addPairLeaf 131 = .ok (.iand, 1) := by decide +kernel
theorem d_F_addPairLeaf_132 : decode b_F_addPairLeaf 132 = .ok (.invokevirtual 82, 3) := by decide +kernel
theorem d_F_addPairLeaf_135 : decode b_F_addPairLeaf 135 = .ok (.ireturn, 1) := by decide +kernel
abbrev rm_F_addPairLeaf : Room := { frames := 2, cells := 0, slots := 0, locals := 42 }
def f_F_addPairLeaf_119 (x1 : Int32) (x2 : Int32) (x6 : Int32) (y0 : Int32) (M : Mem) : Option (Int32 × Mem) :=
  ob (f_F_wantedIn x2 x6 M) fun r126 M126 => ob (f_F_addNode x1 (r126 &&& y0) M126) fun r132 M132 => some (r132, M132)
set_option maxRecDepth 100000 in
theorem g_F_addPairLeaf_119 {r : Int32} {M' : Mem} (C : GC p s m args meth c b_F_addPairLeaf 9 (some (FieldType.int)) "NoneWords$Facts" TB D vwCl (tysW cI cZ cC) A Z) {x1 : Int32} {x2 : Int32} {x6 : Int32} {y0 : Int32} {M : Mem} (hf : f_F_addPairLeaf_119 x1 x2 x6 y0 M = some (r, M')) : GW p l e rm_F_addPairLeaf s m args below meth c (MQ below (QW D vwCl (tysW cI cZ cC) A (some (.int r)) (wc ad cI cZ cC M')) args s 0 0 A) D vwCl A 9 0 0 (wc ad cI cZ cC M) 119 [(0, .ref (ad 1)), (1, .int x1), (2, .int x2), (6, .int x6)] [.int y0] := by
  unfold f_F_addPairLeaf_119 at hf
  refine gw_istore (lv' := [(8, .int y0), (0, .ref (ad 1)), (1, .int x1), (2, .int x2), (6, .int x6)]) C d_F_addPairLeaf_119 (by decide) rfl ?_
  refine gw_aload_n C 1 d_F_addPairLeaf_121 rfl rfl ?_
  refine gw_iload_n C 2 d_F_addPairLeaf_122 rfl rfl ?_
  refine gw_iload_n C 3 d_F_addPairLeaf_123 rfl rfl ?_
  refine gw_iload C 4 d_F_addPairLeaf_124 rfl ?_
  obtain ⟨r126, M126, hc126, hf⟩ := ob_some hf
  refine gw_callSr (rest := [.int x1, .ref (ad 1)]) C (c_F_wantedIn C.2.2.2.2.2.2.2.2.2.2 hc126) (cwS 2 C.2.2.2.2.1 (gTB_S tw_266 mv_F_wantedIn) rfl rfl rfl pd_F_wantedIn ⟨Nat.le_of_ble_eq_true rfl, Nat.le_of_ble_eq_true rfl⟩) rfl rfl (Nat.le_of_ble_eq_true rfl) d_F_addPairLeaf_126 ⟨Nat.le_of_ble_eq_true rfl, Nat.le_of_ble_eq_true rfl⟩ ?_
  refine gw_iload C 0 d_F_addPairLeaf_129 rfl ?_
  refine gw_iand C d_F_addPairLeaf_131 ?_
  obtain ⟨r132, M132, hc132, hf⟩ := ob_some hf
  refine gw_callVr (rest := []) C 1 wcg_1 clg_0 (c_F_addNode C.2.2.2.2.2.2.2.2.2.2 hc132) (cwV 2 C.2.2.2.2.1 (gTB_V tw_269 mv_F_addNode) rfl rfl rfl pd_F_addNode ⟨Nat.le_of_ble_eq_true rfl, Nat.le_of_ble_eq_true rfl⟩) rfl rfl (Nat.le_of_ble_eq_true rfl) d_F_addPairLeaf_132 ⟨Nat.le_of_ble_eq_true rfl, Nat.le_of_ble_eq_true rfl⟩ ?_
  exact gw_ireti C d_F_addPairLeaf_135 (wc ad cI cZ cC) hf
def f_F_addPairLeaf (x1 : Int32) (x2 : Int32) (x3 : Int32) (x4 : Int32) (x5 : Int32) (M : Mem) : Option (Int32 × Mem) :=
  ob (f_F_hasName x2 M) fun r2 M2 => if r2 = 0 then some ((-1 : Int32), M2) else ob (f_F_hasName x4 M2) fun r11 M11 => if r11 = 0 then some ((-1 : Int32), M11) else if x2 = x4 then some ((-1 : Int32), M11) else if (M11 1 10) < (120 : Int32) then ob (f_F_allVersions x2 M11) fun r37 M37 => ob (f_F_allVersions x4 M37) fun r48 M48 => gd (inb (M48 1 10) 120) (gd (inb ((ms M48 5 (M48 1 10).toNatClampNeg x2) 1 10) 120) (gd (inb ((ms (ms M48 5 (M48 1 10).toNatClampNeg x2) 6 ((ms M48 5 (M48 1 10).toNatClampNeg x2) 1 10).toNatClampNeg (x3 &&& r37)) 1 10) 120) (gd (inb ((ms (ms (ms M48 5 (M48 1 10).toNatClampNeg x2) 6 ((ms M48 5 (M48 1 10).toNatClampNeg x2) 1 10).toNatClampNeg (x3 &&& r37)) 7 ((ms (ms M48 5 (M48 1 10).toNatClampNeg x2) 6 ((ms M48 5 (M48 1 10).toNatClampNeg x2) 1 10).toNatClampNeg (x3 &&& r37)) 1 10).toNatClampNeg x4) 1 10) 120) (if x1 = (1 : Int32) then ob (f_F_notIn x4 (x5 &&& r48) (ms (ms (ms (ms M48 5 (M48 1 10).toNatClampNeg x2) 6 ((ms M48 5 (M48 1 10).toNatClampNeg x2) 1 10).toNatClampNeg (x3 &&& r37)) 7 ((ms (ms M48 5 (M48 1 10).toNatClampNeg x2) 6 ((ms M48 5 (M48 1 10).toNatClampNeg x2) 1 10).toNatClampNeg (x3 &&& r37)) 1 10).toNatClampNeg x4) 8 ((ms (ms (ms M48 5 (M48 1 10).toNatClampNeg x2) 6 ((ms M48 5 (M48 1 10).toNatClampNeg x2) 1 10).toNatClampNeg (x3 &&& r37)) 7 ((ms (ms M48 5 (M48 1 10).toNatClampNeg x2) 6 ((ms M48 5 (M48 1 10).toNatClampNeg x2) 1 10).toNatClampNeg (x3 &&& r37)) 1 10).toNatClampNeg x4) 1 10).toNatClampNeg (x5 &&& r48))) fun r106 M106 => f_F_addPairLeaf_119 x1 x2 (x3 &&& r37) r106 M106 else ob (f_F_wantedIn x4 (x5 &&& r48) (ms (ms (ms (ms M48 5 (M48 1 10).toNatClampNeg x2) 6 ((ms M48 5 (M48 1 10).toNatClampNeg x2) 1 10).toNatClampNeg (x3 &&& r37)) 7 ((ms (ms M48 5 (M48 1 10).toNatClampNeg x2) 6 ((ms M48 5 (M48 1 10).toNatClampNeg x2) 1 10).toNatClampNeg (x3 &&& r37)) 1 10).toNatClampNeg x4) 8 ((ms (ms (ms M48 5 (M48 1 10).toNatClampNeg x2) 6 ((ms M48 5 (M48 1 10).toNatClampNeg x2) 1 10).toNatClampNeg (x3 &&& r37)) 7 ((ms (ms M48 5 (M48 1 10).toNatClampNeg x2) 6 ((ms M48 5 (M48 1 10).toNatClampNeg x2) 1 10).toNatClampNeg (x3 &&& r37)) 1 10).toNatClampNeg x4) 1 10).toNatClampNeg (x5 &&& r48))) fun r116 M116 => f_F_addPairLeaf_119 x1 x2 (x3 &&& r37) r116 M116)))) else some ((-1 : Int32), M11)
set_option maxRecDepth 100000 in
theorem g_F_addPairLeaf {r : Int32} {M' : Mem} (C : GC p s m args meth c b_F_addPairLeaf 9 (some (FieldType.int)) "NoneWords$Facts" TB D vwCl (tysW cI cZ cC) A Z) {x1 : Int32} {x2 : Int32} {x3 : Int32} {x4 : Int32} {x5 : Int32} {M : Mem} (hf : f_F_addPairLeaf x1 x2 x3 x4 x5 M = some (r, M')) : GW p l e rm_F_addPairLeaf s m args below meth c (MQ below (QW D vwCl (tysW cI cZ cC) A (some (.int r)) (wc ad cI cZ cC M')) args s 0 0 A) D vwCl A 9 0 0 (wc ad cI cZ cC M) 0 [(0, .ref (ad 1)), (1, .int x1), (2, .int x2), (3, .int x3), (4, .int x4), (5, .int x5)] [] := by
  unfold f_F_addPairLeaf at hf
  refine gw_aload_n C 0 d_F_addPairLeaf_0 rfl rfl ?_
  refine gw_iload_n C 2 d_F_addPairLeaf_1 rfl rfl ?_
  obtain ⟨r2, M2, hc2, hf⟩ := ob_some hf
  refine gw_callVr (rest := []) C 1 wcg_1 clg_0 (c_F_hasName C.2.2.2.2.2.2.2.2.2.2 hc2) (cwV 1 C.2.2.2.2.1 (gTB_V tw_254 mv_F_hasName) rfl rfl rfl pd_F_hasName ⟨Nat.le_of_ble_eq_true rfl, Nat.le_of_ble_eq_true rfl⟩) rfl rfl (Nat.le_of_ble_eq_true rfl) d_F_addPairLeaf_2 ⟨Nat.le_of_ble_eq_true rfl, Nat.le_of_ble_eq_true rfl⟩ ?_
  refine gw_if_eq (tgt := 32) C d_F_addPairLeaf_5 (by decide) (fun c => ?_) (fun c => ?_)
  · have hf := (if_pos c).symm.trans hf
    refine gw_iconst (v := (-1 : Int32)) C d_F_addPairLeaf_32 (by decide) ?_
    exact gw_ireti C d_F_addPairLeaf_33 (wc ad cI cZ cC) hf
  · have hf := (if_neg c).symm.trans hf
    refine gw_aload_n C 0 d_F_addPairLeaf_8 rfl rfl ?_
    refine gw_iload C 4 d_F_addPairLeaf_9 rfl ?_
    obtain ⟨r11, M11, hc11, hf⟩ := ob_some hf
    refine gw_callVr (rest := []) C 1 wcg_1 clg_0 (c_F_hasName C.2.2.2.2.2.2.2.2.2.2 hc11) (cwV 1 C.2.2.2.2.1 (gTB_V tw_254 mv_F_hasName) rfl rfl rfl pd_F_hasName ⟨Nat.le_of_ble_eq_true rfl, Nat.le_of_ble_eq_true rfl⟩) rfl rfl (Nat.le_of_ble_eq_true rfl) d_F_addPairLeaf_11 ⟨Nat.le_of_ble_eq_true rfl, Nat.le_of_ble_eq_true rfl⟩ ?_
    refine gw_if_eq (tgt := 32) C d_F_addPairLeaf_14 (by decide) (fun c => ?_) (fun c => ?_)
    · have hf := (if_pos c).symm.trans hf
      refine gw_iconst (v := (-1 : Int32)) C d_F_addPairLeaf_32 (by decide) ?_
      exact gw_ireti C d_F_addPairLeaf_33 (wc ad cI cZ cC) hf
    · have hf := (if_neg c).symm.trans hf
      refine gw_iload_n C 2 d_F_addPairLeaf_17 rfl rfl ?_
      refine gw_iload C 4 d_F_addPairLeaf_18 rfl ?_
      refine gw_icmp_eq (tgt := 32) C d_F_addPairLeaf_20 (by decide) (fun c => ?_) (fun c => ?_)
      · have hf := (if_pos c).symm.trans hf
        refine gw_iconst (v := (-1 : Int32)) C d_F_addPairLeaf_32 (by decide) ?_
        exact gw_ireti C d_F_addPairLeaf_33 (wc ad cI cZ cC) hf
      · have hf := (if_neg c).symm.trans hf
        refine gw_aload_n C 0 d_F_addPairLeaf_23 rfl rfl ?_
        refine gw_get C in_F 1 wcg_1 clg_0 10 (by decide) tw_102 rfl rfl d_F_addPairLeaf_24 ?_
        refine gw_bipush (v := (120 : Int32)) C d_F_addPairLeaf_27 (by decide) ?_
        refine gw_icmp_lt (tgt := 34) C d_F_addPairLeaf_29 (by decide) (fun c => ?_) (fun c => ?_)
        · have hf := (if_pos c).symm.trans hf
          refine gw_iload_n C 3 d_F_addPairLeaf_34 rfl rfl ?_
          refine gw_aload_n C 0 d_F_addPairLeaf_35 rfl rfl ?_
          refine gw_iload_n C 2 d_F_addPairLeaf_36 rfl rfl ?_
          obtain ⟨r37, M37, hc37, hf⟩ := ob_some hf
          refine gw_callVr (rest := [.int x3]) C 1 wcg_1 clg_0 (c_F_allVersions C.2.2.2.2.2.2.2.2.2.2 hc37) (cwV 1 C.2.2.2.2.1 (gTB_V tw_258 mv_F_allVersions) rfl rfl rfl pd_F_allVersions ⟨Nat.le_of_ble_eq_true rfl, Nat.le_of_ble_eq_true rfl⟩) rfl rfl (Nat.le_of_ble_eq_true rfl) d_F_addPairLeaf_37 ⟨Nat.le_of_ble_eq_true rfl, Nat.le_of_ble_eq_true rfl⟩ ?_
          refine gw_iand C d_F_addPairLeaf_40 ?_
          refine gw_istore (lv' := [(6, .int (x3 &&& r37)), (0, .ref (ad 1)), (1, .int x1), (2, .int x2), (3, .int x3), (4, .int x4), (5, .int x5)]) C d_F_addPairLeaf_41 (by decide) rfl ?_
          refine gw_iload C 6 d_F_addPairLeaf_43 rfl ?_
          refine gw_aload_n C 1 d_F_addPairLeaf_45 rfl rfl ?_
          refine gw_iload C 5 d_F_addPairLeaf_46 rfl ?_
          obtain ⟨r48, M48, hc48, hf⟩ := ob_some hf
          refine gw_callVr (rest := [.int x5]) C 1 wcg_1 clg_0 (c_F_allVersions C.2.2.2.2.2.2.2.2.2.2 hc48) (cwV 1 C.2.2.2.2.1 (gTB_V tw_258 mv_F_allVersions) rfl rfl rfl pd_F_allVersions ⟨Nat.le_of_ble_eq_true rfl, Nat.le_of_ble_eq_true rfl⟩) rfl rfl (Nat.le_of_ble_eq_true rfl) d_F_addPairLeaf_48 ⟨Nat.le_of_ble_eq_true rfl, Nat.le_of_ble_eq_true rfl⟩ ?_
          refine gw_iand C d_F_addPairLeaf_51 ?_
          refine gw_istore (lv' := [(7, .int (x5 &&& r48)), (6, .int (x3 &&& r37)), (0, .ref (ad 1)), (1, .int x1), (2, .int x2), (3, .int x3), (4, .int x4), (5, .int x5)]) C d_F_addPairLeaf_52 (by decide) rfl ?_
          refine gw_aload_n C 2 d_F_addPairLeaf_54 rfl rfl ?_
          refine gw_get C in_F 1 wcg_1 clg_0 4 (by decide) tw_96 rfl rfl d_F_addPairLeaf_55 ?_
          refine gw_aload_n C 2 d_F_addPairLeaf_58 rfl rfl ?_
          refine gw_get C in_F 1 wcg_1 clg_0 10 (by decide) tw_102 rfl rfl d_F_addPairLeaf_59 ?_
          refine gw_iload_n C 4 d_F_addPairLeaf_62 rfl rfl ?_
          obtain ⟨hb63, hf⟩ := gd_some hf
          refine gw_iast C 5 0 wcg_5 rfl hb63 d_F_addPairLeaf_63 wca_5 ?_
          refine gw_aload_n C 2 d_F_addPairLeaf_64 rfl rfl ?_
          refine gw_get C in_F 1 wcg_1 clg_0 5 (by decide) tw_97 rfl rfl d_F_addPairLeaf_65 ?_
          refine gw_aload_n C 2 d_F_addPairLeaf_68 rfl rfl ?_
          refine gw_get C in_F 1 wcg_1 clg_0 10 (by decide) tw_102 rfl rfl d_F_addPairLeaf_69 ?_
          refine gw_iload C 1 d_F_addPairLeaf_72 rfl ?_
          obtain ⟨hb74, hf⟩ := gd_some hf
          refine gw_iast C 6 0 wcg_6 rfl hb74 d_F_addPairLeaf_74 wca_6 ?_
          refine gw_aload_n C 2 d_F_addPairLeaf_75 rfl rfl ?_
          refine gw_get C in_F 1 wcg_1 clg_0 6 (by decide) tw_98 rfl rfl d_F_addPairLeaf_76 ?_
          refine gw_aload_n C 2 d_F_addPairLeaf_79 rfl rfl ?_
          refine gw_get C in_F 1 wcg_1 clg_0 10 (by decide) tw_102 rfl rfl d_F_addPairLeaf_80 ?_
          refine gw_iload C 6 d_F_addPairLeaf_83 rfl ?_
          obtain ⟨hb85, hf⟩ := gd_some hf
          refine gw_iast C 7 0 wcg_7 rfl hb85 d_F_addPairLeaf_85 wca_7 ?_
          refine gw_aload_n C 2 d_F_addPairLeaf_86 rfl rfl ?_
          refine gw_get C in_F 1 wcg_1 clg_0 7 (by decide) tw_99 rfl rfl d_F_addPairLeaf_87 ?_
          refine gw_aload_n C 2 d_F_addPairLeaf_90 rfl rfl ?_
          refine gw_get C in_F 1 wcg_1 clg_0 10 (by decide) tw_102 rfl rfl d_F_addPairLeaf_91 ?_
          refine gw_iload C 0 d_F_addPairLeaf_94 rfl ?_
          obtain ⟨hb96, hf⟩ := gd_some hf
          refine gw_iast C 8 0 wcg_8 rfl hb96 d_F_addPairLeaf_96 wca_8 ?_
          refine gw_iload_n C 3 d_F_addPairLeaf_97 rfl rfl ?_
          refine gw_iconst (v := (1 : Int32)) C d_F_addPairLeaf_98 (by decide) ?_
          refine gw_icmp_ne (tgt := 112) C d_F_addPairLeaf_99 (by decide) (fun c => ?_) (fun c => ?_)
          · have hf := (if_neg c).symm.trans hf
            refine gw_iload C 6 d_F_addPairLeaf_112 rfl ?_
            refine gw_iload C 0 d_F_addPairLeaf_114 rfl ?_
            obtain ⟨r116, M116, hc116, hf⟩ := ob_some hf
            refine gw_callSr (rest := []) C (c_F_wantedIn C.2.2.2.2.2.2.2.2.2.2 hc116) (cwS 2 C.2.2.2.2.1 (gTB_S tw_266 mv_F_wantedIn) rfl rfl rfl pd_F_wantedIn ⟨Nat.le_of_ble_eq_true rfl, Nat.le_of_ble_eq_true rfl⟩) rfl rfl (Nat.le_of_ble_eq_true rfl) d_F_addPairLeaf_116 ⟨Nat.le_of_ble_eq_true rfl, Nat.le_of_ble_eq_true rfl⟩ ?_
            exact gw_sub [2, 3, 4, 1] rfl (g_F_addPairLeaf_119 C hf)
          · have hf := (if_pos c).symm.trans hf
            refine gw_iload C 6 d_F_addPairLeaf_102 rfl ?_
            refine gw_iload C 0 d_F_addPairLeaf_104 rfl ?_
            obtain ⟨r106, M106, hc106, hf⟩ := ob_some hf
            refine gw_callSr (rest := []) C (c_F_notIn C.2.2.2.2.2.2.2.2.2.2 hc106) (cwS 2 C.2.2.2.2.1 (gTB_S tw_262 mv_F_notIn) rfl rfl rfl pd_F_notIn ⟨Nat.le_of_ble_eq_true rfl, Nat.le_of_ble_eq_true rfl⟩) rfl rfl (Nat.le_of_ble_eq_true rfl) d_F_addPairLeaf_106 ⟨Nat.le_of_ble_eq_true rfl, Nat.le_of_ble_eq_true rfl⟩ ?_
            refine gw_goto (tgt := 119) C d_F_addPairLeaf_109 (by decide) ?_
            exact gw_sub [2, 3, 4, 1] rfl (g_F_addPairLeaf_119 C hf)
        · have hf := (if_neg c).symm.trans hf
          refine gw_iconst (v := (-1 : Int32)) C d_F_addPairLeaf_32 (by decide) ?_
          exact gw_ireti C d_F_addPairLeaf_33 (wc ad cI cZ cC) hf
theorem c_F_addPairLeaf (hZ : gw_ZOK Z) {x1 : Int32} {x2 : Int32} {x3 : Int32} {x4 : Int32} {x5 : Int32} {M : Mem} {r : Int32} {M' : Mem} (hf : f_F_addPairLeaf x1 x2 x3 x4 x5 M = some (r, M')) : CW l y_F_addPairLeaf ws_F_addPairLeaf rm_F_addPairLeaf D vwCl (tysW cI cZ cC) Z [.ref (ad 1), .int x1, .int x2, .int x3, .int x4, .int x5] (wc ad cI cZ cC M) (some (.int r)) (wc ad cI cZ cC M') 0 0 :=
  CW.ofG hZ (by decide) rfl (Nat.le_of_ble_eq_true rfl) (fun _ _ _ _ _ _ _ _ C _ => g_F_addPairLeaf C hf)
abbrev b_F_optionsOfTerm : ByteArray := prog_2_method_26_code
def y_F_optionsOfTerm : MethodName := ⟨"NoneWords$Facts", "optionsOfTerm", "(II)I"⟩
abbrev ws_F_optionsOfTerm : List Cond := Cond.code y_F_optionsOfTerm b_F_optionsOfTerm 3 (some (FieldType.int)) :: TB
set_option maxRecDepth 100000 in
theorem tc_F_optionsOfTerm : Cond.code y_F_optionsOfTerm b_F_optionsOfTerm 3 (some (FieldType.int)) ∈ TB := inTB 292 rfl rfl
theorem mv_F_optionsOfTerm : Cond.instanceMethod y_F_optionsOfTerm ∈ TB ∧ Cond.selects "NoneWords$Facts" y_F_optionsOfTerm y_F_optionsOfTerm ∈ TB ∧ Cond.initialized "NoneWords$Facts" ∈ TB ∧ Cond.code y_F_optionsOfTerm b_F_optionsOfTerm 3 (some (FieldType.int)) ∈ TB := ⟨inTB 290 (by decide +kernel) (by decide +kernel), inTB 291 (by decide +kernel) (by decide +kernel), inTB 65 (by decide +kernel) (by decide +kernel), tc_F_optionsOfTerm⟩
theorem pd_F_optionsOfTerm : y_F_optionsOfTerm.cls = "NoneWords$Facts" ∧ y_F_optionsOfTerm.cls ≠ "java/lang/invoke/MethodHandle" ∧ y_F_optionsOfTerm.cls ≠ "java/lang/invoke/VarHandle" ∧ (parseMethodDescriptor y_F_optionsOfTerm.desc).map (fun d => d.parameters.length) = some 2 := by decide +kernel
theorem d_F_optionsOfTerm_0 : decode b_F_optionsOfTerm 0 = .ok (.iload_n 1, 1) := by decide +kernel
theorem d_F_optionsOfTerm_1 : decode b_F_optionsOfTerm 1 = .ok (.ifCond .lt 23, 3) := by decide +kernel
theorem d_F_optionsOfTerm_4 : decode b_F_optionsOfTerm 4 = .ok (.iload_n 1, 1) := by decide +kernel
theorem d_F_optionsOfTerm_5 : decode b_F_optionsOfTerm 5 = .ok (.aload_n 0, 1) := by decide +kernel
theorem d_F_optionsOfTerm_6 : decode b_F_optionsOfTerm 6 = .ok (.getfield 43, 3) := by decide +kernel
theorem d_F_optionsOfTerm_9 : decode b_F_optionsOfTerm 9 = .ok (.if_icmp .ge 15, 3) := by decide +kernel
theorem d_F_optionsOfTerm_12 : decode b_F_optionsOfTerm 12 = .ok (.iload_n 2, 1) := by decide +kernel
theorem d_F_optionsOfTerm_13 : decode b_F_optionsOfTerm 13 = .ok (.ifCond .lt 11, 3) := by decide +kernel
theorem d_F_optionsOfTerm_16 : decode b_F_optionsOfTerm 16 = .ok (.iload_n 2, 1) := by decide +kernel
theorem d_F_optionsOfTerm_17 : decode b_F_optionsOfTerm 17 = .ok (.aload_n 0, 1) := by decide +kernel
theorem d_F_optionsOfTerm_18 : decode b_F_optionsOfTerm 18 = .ok (.getfield 15, 3) := by decide +kernel
theorem d_F_optionsOfTerm_21 : decode b_F_optionsOfTerm 21 = .ok (.if_icmp .lt 6, 3) := by decide +kernel
theorem d_F_optionsOfTerm_24 : decode b_F_optionsOfTerm 24 = .ok (.bipush 31, 2) := by decide +kernel
theorem d_F_optionsOfTerm_26 : decode b_F_optionsOfTerm 26 = .ok (.ireturn, 1) := by decide +kernel
theorem d_F_optionsOfTerm_27 : decode b_F_optionsOfTerm 27 = .ok (.aload_n 0, 1) := by decide +kernel
theorem d_F_optionsOfTerm_28 : decode b_F_optionsOfTerm 28 = .ok (.getfield 22, 3) := by decide +kernel
theorem d_F_optionsOfTerm_31 : decode b_F_optionsOfTerm 31 = .ok (.iload_n 1, 1) := by decide +kernel
theorem d_F_optionsOfTerm_32 : decode b_F_optionsOfTerm 32 = .ok (.iaload, 1) := by decide +kernel
theorem d_F_optionsOfTerm_33 : decode b_F_optionsOfTerm 33 = .ok (.iconst 5, 1) := by decide +kernel
theorem d_F_optionsOfTerm_34 : decode b_F_optionsOfTerm 34 = .ok (.iload_n 2, 1) := by decide +kernel
theorem d_F_optionsOfTerm_35 : decode b_F_optionsOfTerm 35 = .ok (.imul, 1) := by decide +kernel
theorem d_F_optionsOfTerm_36 : decode b_F_optionsOfTerm 36 = .ok (.ishr, 1) := by decide +kernel
theorem d_F_optionsOfTerm_37 : decode b_F_optionsOfTerm 37 = .ok (.bipush 31, 2) := by decide +kernel
theorem d_F_optionsOfTerm_39 : decode b_F_optionsOfTerm 39 = .ok (.iand, 1) := by decide +kernel
theorem d_F_optionsOfTerm_40 : decode b_F_optionsOfTerm 40 = .ok (.ireturn, 1) := by decide +kernel
abbrev rm_F_optionsOfTerm : Room := { frames := 0, cells := 0, slots := 0, locals := 0 }
def f_F_optionsOfTerm (x1 : Int32) (x2 : Int32) (M : Mem) : Option (Int32 × Mem) :=
  if x1 < 0 then some ((31 : Int32), M) else if (M 1 10) ≤ x1 then some ((31 : Int32), M) else if x2 < 0 then some ((31 : Int32), M) else if x2 < (M 1 1) then gd (inb x1 120) (some (((M 4 x1.toNatClampNeg) >>> (((5 : Int32) * x2) &&& 31)) &&& (31 : Int32), M)) else some ((31 : Int32), M)
set_option maxRecDepth 100000 in
theorem g_F_optionsOfTerm {r : Int32} {M' : Mem} (C : GC p s m args meth c b_F_optionsOfTerm 3 (some (FieldType.int)) "NoneWords$Facts" TB D vwCl (tysW cI cZ cC) A Z) {x1 : Int32} {x2 : Int32} {M : Mem} (hf : f_F_optionsOfTerm x1 x2 M = some (r, M')) : GW p l e rm_F_optionsOfTerm s m args below meth c (MQ below (QW D vwCl (tysW cI cZ cC) A (some (.int r)) (wc ad cI cZ cC M')) args s 0 0 A) D vwCl A 3 0 0 (wc ad cI cZ cC M) 0 [(0, .ref (ad 1)), (1, .int x1), (2, .int x2)] [] := by
  unfold f_F_optionsOfTerm at hf
  refine gw_iload_n C 1 d_F_optionsOfTerm_0 rfl rfl ?_
  refine gw_if_lt (tgt := 24) C d_F_optionsOfTerm_1 (by decide) (fun c => ?_) (fun c => ?_)
  · have hf := (if_pos c).symm.trans hf
    refine gw_bipush (v := (31 : Int32)) C d_F_optionsOfTerm_24 (by decide) ?_
    exact gw_ireti C d_F_optionsOfTerm_26 (wc ad cI cZ cC) hf
  · have hf := (if_neg c).symm.trans hf
    refine gw_iload_n C 1 d_F_optionsOfTerm_4 rfl rfl ?_
    refine gw_aload_n C 0 d_F_optionsOfTerm_5 rfl rfl ?_
    refine gw_get C in_F 1 wcg_1 clg_0 10 (by decide) tw_102 rfl rfl d_F_optionsOfTerm_6 ?_
    refine gw_icmp_ge (tgt := 24) C d_F_optionsOfTerm_9 (by decide) (fun c => ?_) (fun c => ?_)
    · have hf := (if_pos c).symm.trans hf
      refine gw_bipush (v := (31 : Int32)) C d_F_optionsOfTerm_24 (by decide) ?_
      exact gw_ireti C d_F_optionsOfTerm_26 (wc ad cI cZ cC) hf
    · have hf := (if_neg c).symm.trans hf
      refine gw_iload_n C 2 d_F_optionsOfTerm_12 rfl rfl ?_
      refine gw_if_lt (tgt := 24) C d_F_optionsOfTerm_13 (by decide) (fun c => ?_) (fun c => ?_)
      · have hf := (if_pos c).symm.trans hf
        refine gw_bipush (v := (31 : Int32)) C d_F_optionsOfTerm_24 (by decide) ?_
        exact gw_ireti C d_F_optionsOfTerm_26 (wc ad cI cZ cC) hf
      · have hf := (if_neg c).symm.trans hf
        refine gw_iload_n C 2 d_F_optionsOfTerm_16 rfl rfl ?_
        refine gw_aload_n C 0 d_F_optionsOfTerm_17 rfl rfl ?_
        refine gw_get C in_F 1 wcg_1 clg_0 1 (by decide) tw_93 rfl rfl d_F_optionsOfTerm_18 ?_
        refine gw_icmp_lt (tgt := 27) C d_F_optionsOfTerm_21 (by decide) (fun c => ?_) (fun c => ?_)
        · have hf := (if_pos c).symm.trans hf
          refine gw_aload_n C 0 d_F_optionsOfTerm_27 rfl rfl ?_
          refine gw_get C in_F 1 wcg_1 clg_0 3 (by decide) tw_95 rfl rfl d_F_optionsOfTerm_28 ?_
          refine gw_iload_n C 1 d_F_optionsOfTerm_31 rfl rfl ?_
          obtain ⟨hb32, hf⟩ := gd_some hf
          refine gw_iald C 4 0 wcg_4 rfl hb32 d_F_optionsOfTerm_32 ?_
          refine gw_iconst (v := (5 : Int32)) C d_F_optionsOfTerm_33 (by decide) ?_
          refine gw_iload_n C 2 d_F_optionsOfTerm_34 rfl rfl ?_
          refine gw_imul C d_F_optionsOfTerm_35 ?_
          refine gw_ishr C d_F_optionsOfTerm_36 ?_
          refine gw_bipush (v := (31 : Int32)) C d_F_optionsOfTerm_37 (by decide) ?_
          refine gw_iand C d_F_optionsOfTerm_39 ?_
          exact gw_ireti C d_F_optionsOfTerm_40 (wc ad cI cZ cC) hf
        · have hf := (if_neg c).symm.trans hf
          refine gw_bipush (v := (31 : Int32)) C d_F_optionsOfTerm_24 (by decide) ?_
          exact gw_ireti C d_F_optionsOfTerm_26 (wc ad cI cZ cC) hf
theorem c_F_optionsOfTerm (hZ : gw_ZOK Z) {x1 : Int32} {x2 : Int32} {M : Mem} {r : Int32} {M' : Mem} (hf : f_F_optionsOfTerm x1 x2 M = some (r, M')) : CW l y_F_optionsOfTerm ws_F_optionsOfTerm rm_F_optionsOfTerm D vwCl (tysW cI cZ cC) Z [.ref (ad 1), .int x1, .int x2] (wc ad cI cZ cC M) (some (.int r)) (wc ad cI cZ cC M') 0 0 :=
  CW.ofG hZ (by decide) rfl (Nat.le_of_ble_eq_true rfl) (fun _ _ _ _ _ _ _ _ C _ => g_F_optionsOfTerm C hf)
abbrev b_F_addJoin : ByteArray := prog_2_method_22_code
def y_F_addJoin : MethodName := ⟨"NoneWords$Facts", "addJoin", "(III)I"⟩
abbrev ws_F_addJoin : List Cond := Cond.code y_F_addJoin b_F_addJoin 7 (some (FieldType.int)) :: TB
set_option maxRecDepth 100000 in
theorem tc_F_addJoin : Cond.code y_F_addJoin b_F_addJoin 7 (some (FieldType.int)) ∈ TB := inTB 284 rfl rfl
theorem mv_F_addJoin : Cond.instanceMethod y_F_addJoin ∈ TB ∧ Cond.selects "NoneWords$Facts" y_F_addJoin y_F_addJoin ∈ TB ∧ Cond.initialized "NoneWords$Facts" ∈ TB ∧ Cond.code y_F_addJoin b_F_addJoin 7 (some (FieldType.int)) ∈ TB := ⟨inTB 282 (by decide +kernel) (by decide +kernel), inTB 283 (by decide +kernel) (by decide +kernel), inTB 65 (by decide +kernel) (by decide +kernel), tc_F_addJoin⟩
theorem pd_F_addJoin : y_F_addJoin.cls = "NoneWords$Facts" ∧ y_F_addJoin.cls ≠ "java/lang/invoke/MethodHandle" ∧ y_F_addJoin.cls ≠ "java/lang/invoke/VarHandle" ∧ (parseMethodDescriptor y_F_addJoin.desc).map (fun d => d.parameters.length) = some 3 := by decide +kernel
theorem d_F_addJoin_0 : decode b_F_addJoin 0 = .ok (.aload_n 0, 1) := by decide +kernel
theorem d_F_addJoin_1 : decode b_F_addJoin 1 = .ok (.iload_n 1, 1) := by decide +kernel
theorem d_F_addJoin_2 : decode b_F_addJoin 2 = .ok (.invokevirtual 52, 3) := by decide +kernel
theorem d_F_addJoin_5 : decode b_F_addJoin 5 = .ok (.ifCond .eq 28, 3) := by decide +kernel
theorem d_F_addJoin_8 : decode b_F_addJoin 8 = .ok (.aload_n 0, 1) := by decide +kernel
theorem d_F_addJoin_9 : decode b_F_addJoin 9 = .ok (.iload_n 2, 1) := by decide +kernel
theorem d_F_addJoin_10 : decode b_F_addJoin 10 = .ok (.invokevirtual 52, 3) := by decide +kernel
theorem d_F_addJoin_13 : decode b_F_addJoin 13 = .ok (.ifCond .eq 20, 3) := by decide +kernel
theorem d_F_addJoin_16 : decode b_F_addJoin 16 = .ok (.aload_n 0, 1) := by decide +kernel
theorem d_F_addJoin_17 : decode b_F_addJoin 17 = .ok (.iload_n 3, 1) := by decide +kernel
theorem d_F_addJoin_18 : decode b_F_addJoin 18 = .ok (.invokevirtual 69, 3) := by decide +kernel
theorem d_F_addJoin_21 : decode b_F_addJoin 21 = .ok (.ifCond .eq 12, 3) := by decide +kernel
theorem d_F_addJoin_24 : decode b_F_addJoin 24 = .ok (.aload_n 0, 1) := by decide +kernel
theorem d_F_addJoin_25 : decode b_F_addJoin 25 = .ok (.getfield 43, 3) := by decide +kernel
theorem d_F_addJoin_28 : decode b_F_addJoin 28 = .ok (.bipush 120, 2) := by decide +kernel
theorem d_F_addJoin_30 : decode b_F_addJoin 30 = .ok (.if_icmp .lt 5, 3) := by decide +kernel
theorem d_F_addJoin_33 : decode b_F_addJoin 33 = .ok (.iconst (-1), 1) := by decide +kernel
theorem d_F_addJoin_34 : decode b_F_addJoin 34 = .ok (.ireturn, 1) := by decide +kernel
theorem d_F_addJoin_35 : decode b_F_addJoin 35 = .ok (.aload_n 0, 1) := by decide +kernel
theorem d_F_addJoin_36 : decode b_F_addJoin 36 = .ok (.iload_n 1, 1) := by decide +kernel
theorem d_F_addJoin_37 : decode b_F_addJoin 37 = .ok (.iload_n 3, 1) := by decide +kernel
theorem d_F_addJoin_38 : decode b_F_addJoin 38 = .ok (.invokevirtual 85, 3) := by decide +kernel
theorem d_F_addJoin_41 : decode b_F_addJoin 41 = .ok (.bipush 31, 2) := by decide +kernel
theorem d_F_addJoin_43 : decode b_F_addJoin 43 = .ok (.if_icmp .eq 14, 3) := by decide +kernel
theorem d_F_addJoin_46 : decode b_F_addJoin 46 = .ok (.aload_n 0, 1) := by decide +kernel
theorem d_F_addJoin_47 : decode b_F_addJoin 47 = .ok (.iload_n 2, 1) := by decide +kernel
theorem d_F_addJoin_48 : decode b_F_addJoin 48 = .ok (.iload_n 3, 1) := by decide +kernel
theorem d_F_addJoin_49 : decode b_F_addJoin 49 = .ok (.invokevirtual 85, 3) := by decide +kernel
theorem d_F_addJoin_52 : decode b_F_addJoin 52 = .ok (.bipush 31, 2) := by decide +kernel
theorem d_F_addJoin_54 : decode b_F_addJoin 54 = .ok (.if_icmp .ne 5, 3) := by decide +kernel
theorem d_F_addJoin_57 : decode b_F_addJoin 57 = .ok (.iconst (-1), 1) := by decide +kernel
theorem d_F_addJoin_58 : decode b_F_addJoin 58 = .ok (.ireturn, 1) := by decide +kernel
theorem d_F_addJoin_59 : decode b_F_addJoin 59 = .ok (.aload_n 0, 1) := by decide +kernel
theorem d_F_addJoin_60 : decode b_F_addJoin 60 = .ok (.getfield 37, 3) := by decide +kernel
theorem d_F_addJoin_63 : decode b_F_addJoin 63 = .ok (.aload_n 0, 1) := by decide +kernel
theorem d_F_addJoin_64 : decode b_F_addJoin 64 = .ok (.getfield 43, 3) := by decide +kernel
theorem d_F_addJoin_67 : decode b_F_addJoin 67 = .ok (.iload_n 1, 1) := by decide +kernel
theorem d_F_addJoin_68 : decode b_F_addJoin 68 = .ok (.iastore, 1) := by decide +kernel
theorem d_F_addJoin_69 : decode b_F_addJoin 69 = .ok (.aload_n 0, 1) := by decide +kernel
theorem d_F_addJoin_70 : decode b_F_addJoin 70 = .ok (.getfield 40, 3) := by decide +kernel
theorem d_F_addJoin_73 : decode b_F_addJoin 73 = .ok (.aload_n 0, 1) := by decide +kernel
theorem d_F_addJoin_74 : decode b_F_addJoin 74 = .ok (.getfield 43, 3) := by decide +kernel
theorem d_F_addJoin_77 : decode b_F_addJoin 77 = .ok (.iload_n 2, 1) := by decide +kernel
theorem d_F_addJoin_78 : decode b_F_addJoin 78 = .ok (.iastore, 1) := by decide +kernel
theorem d_F_addJoin_79 : decode b_F_addJoin 79 = .ok (.bipush 31, 2) := by decide +kernel
theorem d_F_addJoin_81 : decode b_F_addJoin 81 = .ok (.iconst 5, 1) := by decide +kernel
theorem d_F_addJoin_82 : decode b_F_addJoin 82 = .ok (.iload_n 3, 1) := by decide +kernel
theorem d_F_addJoin_83 : decode b_F_addJoin 83 = .ok (.imul, 1) := by decide +kernel
theorem d_F_addJoin_84 : decode b_F_addJoin 84 = .ok (.ishl, 1) := by decide +kernel
theorem d_F_addJoin_85 : decode b_F_addJoin 85 = .ok (.istore 4, 2) := by decide +kernel
theorem d_F_addJoin_87 : decode b_F_addJoin 87 = .ok (.aload_n 0, 1) := by decide +kernel
theorem d_F_addJoin_88 : decode b_F_addJoin 88 = .ok (.getfield 22, 3) := by decide +kernel
theorem d_F_addJoin_91 : decode b_F_addJoin 91 = .ok (.iload_n 1, 1) := by decide +kernel
theorem d_F_addJoin_92 : decode b_F_addJoin 92 = .ok (.iaload, 1) := by decide +kernel
theorem d_F_addJoin_93 : decode b_F_addJoin 93 = .ok (.aload_n 0, 1) := by decide +kernel
theorem d_F_addJoin_94 : decode b_F_addJoin 94 = .ok (.getfield 22, 3) := by decide +kernel
theorem d_F_addJoin_97 : decode b_F_addJoin 97 = .ok (.iload_n 2, 1) := by decide +kernel
theorem d_F_addJoin_98 : decode b_F_addJoin 98 = .ok (.iaload, 1) := by decide +kernel
theorem d_F_addJoin_99 : decode b_F_addJoin 99 = .ok (.ior, 1) := by decide +kernel
theorem d_F_addJoin_100 : decode b_F_addJoin 100 = .ok (.iload 4, 2) := by decide +kernel
theorem d_F_addJoin_102 : decode b_F_addJoin 102 = .ok (.iand, 1) := by decide +kernel
theorem d_F_addJoin_103 : decode b_F_addJoin 103 = .ok (.istore 5, 2) := by decide +kernel
theorem d_F_addJoin_105 : decode b_F_addJoin 105 = .ok (.aload_n 0, 1) := by decide +kernel
theorem d_F_addJoin_106 : decode b_F_addJoin 106 = .ok (.getfield 22, 3) := by decide +kernel
theorem d_F_addJoin_109 : decode b_F_addJoin 109 = .ok (.iload_n 1, 1) := by decide +kernel
theorem d_F_addJoin_110 : decode b_F_addJoin 110 = .ok (.iaload, 1) := by decide +kernel
theorem d_F_addJoin_111 : decode b_F_addJoin 111 = .ok (.aload_n 0, 1) := by decide +kernel
theorem d_F_addJoin_112 : decode b_F_addJoin 112 = .ok (.getfield 22, 3) := by decide +kernel
theorem d_F_addJoin_115 : decode b_F_addJoin 115 = .ok (.iload_n 2, 1) := by decide +kernel
theorem d_F_addJoin_116 : decode b_F_addJoin 116 = .ok (.iaload, 1) := by decide +kernel
theorem d_F_addJoin_117 : decode b_F_addJoin 117 = .ok (.iand, 1) := by decide +kernel
theorem d_F_addJoin_118 : decode b_F_addJoin 118 = .ok (.iload 4, 2) := by decide +kernel
theorem d_F_addJoin_120 : decode b_F_addJoin 120 = .ok (.iconst (-1), 1) := by decide +kernel
theorem d_F_addJoin_121 : decode b_F_addJoin 121 = .ok (.ixor, 1) := by decide +kernel
theorem d_F_addJoin_122 : decode b_F_addJoin 122 = .ok (.iand, 1) := by decide +kernel
theorem d_F_addJoin_123 : decode b_F_addJoin 123 = .ok (.istore 6, 2) := by decide +kernel
theorem d_F_addJoin_125 : decode b_F_addJoin 125 = .ok (.aload_n 0, 1) := by decide +kernel
theorem d_F_addJoin_126 : decode b_F_addJoin 126 = .ok (.iconst 4, 1) := by decide +kernel
theorem d_F_addJoin_127 : decode b_F_addJoin 127 = .ok (.iload 5, 2) := by decide +kernel
theorem d_F_addJoin_129 : decode b_F_addJoin 129 = .ok (.iload 6, 2) := by decide +kernel
theorem d_F_addJoin_131 : decode b_F_addJoin 131 = .ok (.ior, 1) := by decide +kernel
theorem d_F_addJoin_132 : decode b_F_addJoin 132 = .ok (.invokevirtual 82, 3) := by decide +kernel
theorem d_F_addJoin_135 : decode b_F_addJoin 135 = .ok (.ireturn, 1) := by decide +kernel
abbrev rm_F_addJoin : Room := { frames := 1, cells := 0, slots := 0, locals := 22 }
def f_F_addJoin (x1 : Int32) (x2 : Int32) (x3 : Int32) (M : Mem) : Option (Int32 × Mem) :=
  ob (f_F_hasNode x1 M) fun r2 M2 => if r2 = 0 then some ((-1 : Int32), M2) else ob (f_F_hasNode x2 M2) fun r10 M10 => if r10 = 0 then some ((-1 : Int32), M10) else ob (f_F_hasName x3 M10) fun r18 M18 => if r18 = 0 then some ((-1 : Int32), M18) else if (M18 1 10) < (120 : Int32) then ob (f_F_optionsOfTerm x1 x3 M18) fun r38 M38 => if r38 = (31 : Int32) then some ((-1 : Int32), M38) else ob (f_F_optionsOfTerm x2 x3 M38) fun r49 M49 => if r49 = (31 : Int32) then some ((-1 : Int32), M49) else gd (inb (M49 1 10) 120) (gd (inb ((ms M49 9 (M49 1 10).toNatClampNeg x1) 1 10) 120) (gd (inb x1 120) (gd (inb x2 120) (gd (inb x1 120) (gd (inb x2 120) (ob (f_F_addNode (4 : Int32) (((((ms (ms M49 9 (M49 1 10).toNatClampNeg x1) 10 ((ms M49 9 (M49 1 10).toNatClampNeg x1) 1 10).toNatClampNeg x2) 4 x1.toNatClampNeg) ||| ((ms (ms M49 9 (M49 1 10).toNatClampNeg x1) 10 ((ms M49 9 (M49 1 10).toNatClampNeg x1) 1 10).toNatClampNeg x2) 4 x2.toNatClampNeg)) &&& ((31 : Int32) <<< (((5 : Int32) * x3) &&& 31))) ||| ((((ms (ms M49 9 (M49 1 10).toNatClampNeg x1) 10 ((ms M49 9 (M49 1 10).toNatClampNeg x1) 1 10).toNatClampNeg x2) 4 x1.toNatClampNeg) &&& ((ms (ms M49 9 (M49 1 10).toNatClampNeg x1) 10 ((ms M49 9 (M49 1 10).toNatClampNeg x1) 1 10).toNatClampNeg x2) 4 x2.toNatClampNeg)) &&& (((31 : Int32) <<< (((5 : Int32) * x3) &&& 31)) ^^^ (-1 : Int32)))) (ms (ms M49 9 (M49 1 10).toNatClampNeg x1) 10 ((ms M49 9 (M49 1 10).toNatClampNeg x1) 1 10).toNatClampNeg x2)) fun r132 M132 => some (r132, M132))))))) else some ((-1 : Int32), M18)
set_option maxRecDepth 100000 in
theorem g_F_addJoin {r : Int32} {M' : Mem} (C : GC p s m args meth c b_F_addJoin 7 (some (FieldType.int)) "NoneWords$Facts" TB D vwCl (tysW cI cZ cC) A Z) {x1 : Int32} {x2 : Int32} {x3 : Int32} {M : Mem} (hf : f_F_addJoin x1 x2 x3 M = some (r, M')) : GW p l e rm_F_addJoin s m args below meth c (MQ below (QW D vwCl (tysW cI cZ cC) A (some (.int r)) (wc ad cI cZ cC M')) args s 0 0 A) D vwCl A 7 0 0 (wc ad cI cZ cC M) 0 [(0, .ref (ad 1)), (1, .int x1), (2, .int x2), (3, .int x3)] [] := by
  unfold f_F_addJoin at hf
  refine gw_aload_n C 0 d_F_addJoin_0 rfl rfl ?_
  refine gw_iload_n C 1 d_F_addJoin_1 rfl rfl ?_
  obtain ⟨r2, M2, hc2, hf⟩ := ob_some hf
  refine gw_callVr (rest := []) C 1 wcg_1 clg_0 (c_F_hasNode C.2.2.2.2.2.2.2.2.2.2 hc2) (cwV 1 C.2.2.2.2.1 (gTB_V tw_285 mv_F_hasNode) rfl rfl rfl pd_F_hasNode ⟨Nat.le_of_ble_eq_true rfl, Nat.le_of_ble_eq_true rfl⟩) rfl rfl (Nat.le_of_ble_eq_true rfl) d_F_addJoin_2 ⟨Nat.le_of_ble_eq_true rfl, Nat.le_of_ble_eq_true rfl⟩ ?_
  refine gw_if_eq (tgt := 33) C d_F_addJoin_5 (by decide) (fun c => ?_) (fun c => ?_)
  · have hf := (if_pos c).symm.trans hf
    refine gw_iconst (v := (-1 : Int32)) C d_F_addJoin_33 (by decide) ?_
    exact gw_ireti C d_F_addJoin_34 (wc ad cI cZ cC) hf
  · have hf := (if_neg c).symm.trans hf
    refine gw_aload_n C 0 d_F_addJoin_8 rfl rfl ?_
    refine gw_iload_n C 2 d_F_addJoin_9 rfl rfl ?_
    obtain ⟨r10, M10, hc10, hf⟩ := ob_some hf
    refine gw_callVr (rest := []) C 1 wcg_1 clg_0 (c_F_hasNode C.2.2.2.2.2.2.2.2.2.2 hc10) (cwV 1 C.2.2.2.2.1 (gTB_V tw_285 mv_F_hasNode) rfl rfl rfl pd_F_hasNode ⟨Nat.le_of_ble_eq_true rfl, Nat.le_of_ble_eq_true rfl⟩) rfl rfl (Nat.le_of_ble_eq_true rfl) d_F_addJoin_10 ⟨Nat.le_of_ble_eq_true rfl, Nat.le_of_ble_eq_true rfl⟩ ?_
    refine gw_if_eq (tgt := 33) C d_F_addJoin_13 (by decide) (fun c => ?_) (fun c => ?_)
    · have hf := (if_pos c).symm.trans hf
      refine gw_iconst (v := (-1 : Int32)) C d_F_addJoin_33 (by decide) ?_
      exact gw_ireti C d_F_addJoin_34 (wc ad cI cZ cC) hf
    · have hf := (if_neg c).symm.trans hf
      refine gw_aload_n C 0 d_F_addJoin_16 rfl rfl ?_
      refine gw_iload_n C 3 d_F_addJoin_17 rfl rfl ?_
      obtain ⟨r18, M18, hc18, hf⟩ := ob_some hf
      refine gw_callVr (rest := []) C 1 wcg_1 clg_0 (c_F_hasName C.2.2.2.2.2.2.2.2.2.2 hc18) (cwV 1 C.2.2.2.2.1 (gTB_V tw_254 mv_F_hasName) rfl rfl rfl pd_F_hasName ⟨Nat.le_of_ble_eq_true rfl, Nat.le_of_ble_eq_true rfl⟩) rfl rfl (Nat.le_of_ble_eq_true rfl) d_F_addJoin_18 ⟨Nat.le_of_ble_eq_true rfl, Nat.le_of_ble_eq_true rfl⟩ ?_
      refine gw_if_eq (tgt := 33) C d_F_addJoin_21 (by decide) (fun c => ?_) (fun c => ?_)
      · have hf := (if_pos c).symm.trans hf
        refine gw_iconst (v := (-1 : Int32)) C d_F_addJoin_33 (by decide) ?_
        exact gw_ireti C d_F_addJoin_34 (wc ad cI cZ cC) hf
      · have hf := (if_neg c).symm.trans hf
        refine gw_aload_n C 0 d_F_addJoin_24 rfl rfl ?_
        refine gw_get C in_F 1 wcg_1 clg_0 10 (by decide) tw_102 rfl rfl d_F_addJoin_25 ?_
        refine gw_bipush (v := (120 : Int32)) C d_F_addJoin_28 (by decide) ?_
        refine gw_icmp_lt (tgt := 35) C d_F_addJoin_30 (by decide) (fun c => ?_) (fun c => ?_)
        · have hf := (if_pos c).symm.trans hf
          refine gw_aload_n C 0 d_F_addJoin_35 rfl rfl ?_
          refine gw_iload_n C 1 d_F_addJoin_36 rfl rfl ?_
          refine gw_iload_n C 3 d_F_addJoin_37 rfl rfl ?_
          obtain ⟨r38, M38, hc38, hf⟩ := ob_some hf
          refine gw_callVr (rest := []) C 1 wcg_1 clg_0 (c_F_optionsOfTerm C.2.2.2.2.2.2.2.2.2.2 hc38) (cwV 2 C.2.2.2.2.1 (gTB_V tw_289 mv_F_optionsOfTerm) rfl rfl rfl pd_F_optionsOfTerm ⟨Nat.le_of_ble_eq_true rfl, Nat.le_of_ble_eq_true rfl⟩) rfl rfl (Nat.le_of_ble_eq_true rfl) d_F_addJoin_38 ⟨Nat.le_of_ble_eq_true rfl, Nat.le_of_ble_eq_true rfl⟩ ?_
          refine gw_bipush (v := (31 : Int32)) C d_F_addJoin_41 (by decide) ?_
          refine gw_icmp_eq (tgt := 57) C d_F_addJoin_43 (by decide) (fun c => ?_) (fun c => ?_)
          · have hf := (if_pos c).symm.trans hf
            refine gw_iconst (v := (-1 : Int32)) C d_F_addJoin_57 (by decide) ?_
            exact gw_ireti C d_F_addJoin_58 (wc ad cI cZ cC) hf
          · have hf := (if_neg c).symm.trans hf
            refine gw_aload_n C 0 d_F_addJoin_46 rfl rfl ?_
            refine gw_iload_n C 2 d_F_addJoin_47 rfl rfl ?_
            refine gw_iload_n C 3 d_F_addJoin_48 rfl rfl ?_
            obtain ⟨r49, M49, hc49, hf⟩ := ob_some hf
            refine gw_callVr (rest := []) C 1 wcg_1 clg_0 (c_F_optionsOfTerm C.2.2.2.2.2.2.2.2.2.2 hc49) (cwV 2 C.2.2.2.2.1 (gTB_V tw_289 mv_F_optionsOfTerm) rfl rfl rfl pd_F_optionsOfTerm ⟨Nat.le_of_ble_eq_true rfl, Nat.le_of_ble_eq_true rfl⟩) rfl rfl (Nat.le_of_ble_eq_true rfl) d_F_addJoin_49 ⟨Nat.le_of_ble_eq_true rfl, Nat.le_of_ble_eq_true rfl⟩ ?_
            refine gw_bipush (v := (31 : Int32)) C d_F_addJoin_52 (by decide) ?_
            refine gw_icmp_ne (tgt := 59) C d_F_addJoin_54 (by decide) (fun c => ?_) (fun c => ?_)
            · have hf := (if_neg c).symm.trans hf
              refine gw_aload_n C 0 d_F_addJoin_59 rfl rfl ?_
              refine gw_get C in_F 1 wcg_1 clg_0 8 (by decide) tw_100 rfl rfl d_F_addJoin_60 ?_
              refine gw_aload_n C 0 d_F_addJoin_63 rfl rfl ?_
              refine gw_get C in_F 1 wcg_1 clg_0 10 (by decide) tw_102 rfl rfl d_F_addJoin_64 ?_
              refine gw_iload_n C 1 d_F_addJoin_67 rfl rfl ?_
              obtain ⟨hb68, hf⟩ := gd_some hf
              refine gw_iast C 9 0 wcg_9 rfl hb68 d_F_addJoin_68 wca_9 ?_
              refine gw_aload_n C 0 d_F_addJoin_69 rfl rfl ?_
              refine gw_get C in_F 1 wcg_1 clg_0 9 (by decide) tw_101 rfl rfl d_F_addJoin_70 ?_
              refine gw_aload_n C 0 d_F_addJoin_73 rfl rfl ?_
              refine gw_get C in_F 1 wcg_1 clg_0 10 (by decide) tw_102 rfl rfl d_F_addJoin_74 ?_
              refine gw_iload_n C 2 d_F_addJoin_77 rfl rfl ?_
              obtain ⟨hb78, hf⟩ := gd_some hf
              refine gw_iast C 10 0 wcg_10 rfl hb78 d_F_addJoin_78 wca_10 ?_
              refine gw_bipush (v := (31 : Int32)) C d_F_addJoin_79 (by decide) ?_
              refine gw_iconst (v := (5 : Int32)) C d_F_addJoin_81 (by decide) ?_
              refine gw_iload_n C 3 d_F_addJoin_82 rfl rfl ?_
              refine gw_imul C d_F_addJoin_83 ?_
              refine gw_ishl C d_F_addJoin_84 ?_
              refine gw_istore (lv' := [(4, .int ((31 : Int32) <<< (((5 : Int32) * x3) &&& 31))), (0, .ref (ad 1)), (1, .int x1), (2, .int x2), (3, .int x3)]) C d_F_addJoin_85 (by decide) rfl ?_
              refine gw_aload_n C 1 d_F_addJoin_87 rfl rfl ?_
              refine gw_get C in_F 1 wcg_1 clg_0 3 (by decide) tw_95 rfl rfl d_F_addJoin_88 ?_
              refine gw_iload_n C 2 d_F_addJoin_91 rfl rfl ?_
              obtain ⟨hb92, hf⟩ := gd_some hf
              refine gw_iald C 4 0 wcg_4 rfl hb92 d_F_addJoin_92 ?_
              refine gw_aload_n C 1 d_F_addJoin_93 rfl rfl ?_
              refine gw_get C in_F 1 wcg_1 clg_0 3 (by decide) tw_95 rfl rfl d_F_addJoin_94 ?_
              refine gw_iload_n C 3 d_F_addJoin_97 rfl rfl ?_
              obtain ⟨hb98, hf⟩ := gd_some hf
              refine gw_iald C 4 0 wcg_4 rfl hb98 d_F_addJoin_98 ?_
              refine gw_ior C d_F_addJoin_99 ?_
              refine gw_iload C 0 d_F_addJoin_100 rfl ?_
              refine gw_iand C d_F_addJoin_102 ?_
              refine gw_istore (lv' := [(5, .int ((((ms (ms M49 9 (M49 1 10).toNatClampNeg x1) 10 ((ms M49 9 (M49 1 10).toNatClampNeg x1) 1 10).toNatClampNeg x2) 4 x1.toNatClampNeg) ||| ((ms (ms M49 9 (M49 1 10).toNatClampNeg x1) 10 ((ms M49 9 (M49 1 10).toNatClampNeg x1) 1 10).toNatClampNeg x2) 4 x2.toNatClampNeg)) &&& ((31 : Int32) <<< (((5 : Int32) * x3) &&& 31)))), (4, .int ((31 : Int32) <<< (((5 : Int32) * x3) &&& 31))), (0, .ref (ad 1)), (1, .int x1), (2, .int x2), (3, .int x3)]) C d_F_addJoin_103 (by decide) rfl ?_
              refine gw_aload_n C 2 d_F_addJoin_105 rfl rfl ?_
              refine gw_get C in_F 1 wcg_1 clg_0 3 (by decide) tw_95 rfl rfl d_F_addJoin_106 ?_
              refine gw_iload_n C 3 d_F_addJoin_109 rfl rfl ?_
              obtain ⟨hb110, hf⟩ := gd_some hf
              refine gw_iald C 4 0 wcg_4 rfl hb110 d_F_addJoin_110 ?_
              refine gw_aload_n C 2 d_F_addJoin_111 rfl rfl ?_
              refine gw_get C in_F 1 wcg_1 clg_0 3 (by decide) tw_95 rfl rfl d_F_addJoin_112 ?_
              refine gw_iload_n C 4 d_F_addJoin_115 rfl rfl ?_
              obtain ⟨hb116, hf⟩ := gd_some hf
              refine gw_iald C 4 0 wcg_4 rfl hb116 d_F_addJoin_116 ?_
              refine gw_iand C d_F_addJoin_117 ?_
              refine gw_iload C 1 d_F_addJoin_118 rfl ?_
              refine gw_iconst (v := (-1 : Int32)) C d_F_addJoin_120 (by decide) ?_
              refine gw_ixor C d_F_addJoin_121 ?_
              refine gw_iand C d_F_addJoin_122 ?_
              refine gw_istore (lv' := [(6, .int ((((ms (ms M49 9 (M49 1 10).toNatClampNeg x1) 10 ((ms M49 9 (M49 1 10).toNatClampNeg x1) 1 10).toNatClampNeg x2) 4 x1.toNatClampNeg) &&& ((ms (ms M49 9 (M49 1 10).toNatClampNeg x1) 10 ((ms M49 9 (M49 1 10).toNatClampNeg x1) 1 10).toNatClampNeg x2) 4 x2.toNatClampNeg)) &&& (((31 : Int32) <<< (((5 : Int32) * x3) &&& 31)) ^^^ (-1 : Int32)))), (5, .int ((((ms (ms M49 9 (M49 1 10).toNatClampNeg x1) 10 ((ms M49 9 (M49 1 10).toNatClampNeg x1) 1 10).toNatClampNeg x2) 4 x1.toNatClampNeg) ||| ((ms (ms M49 9 (M49 1 10).toNatClampNeg x1) 10 ((ms M49 9 (M49 1 10).toNatClampNeg x1) 1 10).toNatClampNeg x2) 4 x2.toNatClampNeg)) &&& ((31 : Int32) <<< (((5 : Int32) * x3) &&& 31)))), (4, .int ((31 : Int32) <<< (((5 : Int32) * x3) &&& 31))), (0, .ref (ad 1)), (1, .int x1), (2, .int x2), (3, .int x3)]) C d_F_addJoin_123 (by decide) rfl ?_
              refine gw_aload_n C 3 d_F_addJoin_125 rfl rfl ?_
              refine gw_iconst (v := (4 : Int32)) C d_F_addJoin_126 (by decide) ?_
              refine gw_iload C 1 d_F_addJoin_127 rfl ?_
              refine gw_iload C 0 d_F_addJoin_129 rfl ?_
              refine gw_ior C d_F_addJoin_131 ?_
              obtain ⟨r132, M132, hc132, hf⟩ := ob_some hf
              refine gw_callVr (rest := []) C 1 wcg_1 clg_0 (c_F_addNode C.2.2.2.2.2.2.2.2.2.2 hc132) (cwV 2 C.2.2.2.2.1 (gTB_V tw_269 mv_F_addNode) rfl rfl rfl pd_F_addNode ⟨Nat.le_of_ble_eq_true rfl, Nat.le_of_ble_eq_true rfl⟩) rfl rfl (Nat.le_of_ble_eq_true rfl) d_F_addJoin_132 ⟨Nat.le_of_ble_eq_true rfl, Nat.le_of_ble_eq_true rfl⟩ ?_
              exact gw_ireti C d_F_addJoin_135 (wc ad cI cZ cC) hf
            · have hf := (if_pos c).symm.trans hf
              refine gw_iconst (v := (-1 : Int32)) C d_F_addJoin_57 (by decide) ?_
              exact gw_ireti C d_F_addJoin_58 (wc ad cI cZ cC) hf
        · have hf := (if_neg c).symm.trans hf
          refine gw_iconst (v := (-1 : Int32)) C d_F_addJoin_33 (by decide) ?_
          exact gw_ireti C d_F_addJoin_34 (wc ad cI cZ cC) hf
theorem c_F_addJoin (hZ : gw_ZOK Z) {x1 : Int32} {x2 : Int32} {x3 : Int32} {M : Mem} {r : Int32} {M' : Mem} (hf : f_F_addJoin x1 x2 x3 M = some (r, M')) : CW l y_F_addJoin ws_F_addJoin rm_F_addJoin D vwCl (tysW cI cZ cC) Z [.ref (ad 1), .int x1, .int x2, .int x3] (wc ad cI cZ cC M) (some (.int r)) (wc ad cI cZ cC M') 0 0 :=
  CW.ofG hZ (by decide) rfl (Nat.le_of_ble_eq_true rfl) (fun _ _ _ _ _ _ _ _ C _ => g_F_addJoin C hf)
abbrev b_F_hasTermOf : ByteArray := prog_2_method_27_code
def y_F_hasTermOf : MethodName := ⟨"NoneWords$Facts", "hasTermOf", "(IIZ)Z"⟩
abbrev ws_F_hasTermOf : List Cond := Cond.code y_F_hasTermOf b_F_hasTermOf 6 (some (FieldType.boolean)) :: TB
set_option maxRecDepth 100000 in
theorem tc_F_hasTermOf : Cond.code y_F_hasTermOf b_F_hasTermOf 6 (some (FieldType.boolean)) ∈ TB := inTB 305 rfl rfl
theorem mv_F_hasTermOf : Cond.instanceMethod y_F_hasTermOf ∈ TB ∧ Cond.selects "NoneWords$Facts" y_F_hasTermOf y_F_hasTermOf ∈ TB ∧ Cond.initialized "NoneWords$Facts" ∈ TB ∧ Cond.code y_F_hasTermOf b_F_hasTermOf 6 (some (FieldType.boolean)) ∈ TB := ⟨inTB 303 (by decide +kernel) (by decide +kernel), inTB 304 (by decide +kernel) (by decide +kernel), inTB 65 (by decide +kernel) (by decide +kernel), tc_F_hasTermOf⟩
theorem pd_F_hasTermOf : y_F_hasTermOf.cls = "NoneWords$Facts" ∧ y_F_hasTermOf.cls ≠ "java/lang/invoke/MethodHandle" ∧ y_F_hasTermOf.cls ≠ "java/lang/invoke/VarHandle" ∧ (parseMethodDescriptor y_F_hasTermOf.desc).map (fun d => d.parameters.length) = some 3 := by decide +kernel
theorem d_F_hasTermOf_0 : decode b_F_hasTermOf 0 = .ok (.aload_n 0, 1) := by decide +kernel
theorem d_F_hasTermOf_1 : decode b_F_hasTermOf 1 = .ok (.iload_n 1, 1) := by decide +kernel
theorem d_F_hasTermOf_2 : decode b_F_hasTermOf 2 = .ok (.iload_n 2, 1) := by decide +kernel
theorem d_F_hasTermOf_3 : decode b_F_hasTermOf 3 = .ok (.invokevirtual 85, 3) := by decide +kernel
theorem d_F_hasTermOf_6 : decode b_F_hasTermOf 6 = .ok (.istore 4, 2) := by decide +kernel
theorem d_F_hasTermOf_8 : decode b_F_hasTermOf 8 = .ok (.iload 4, 2) := by decide +kernel
theorem d_F_hasTermOf_10 : decode b_F_hasTermOf 10 = .ok (.bipush 16, 2) := by decide +kernel
theorem d_F_hasTermOf_12 : decode b_F_hasTermOf 12 = .ok (.iand, 1) := by decide +kernel
theorem d_F_hasTermOf_13 : decode b_F_hasTermOf 13 = .ok (.ifCond .ne 7, 3) := by decide +kernel
theorem d_F_hasTermOf_16 : decode b_F_hasTermOf 16 = .ok (.iconst 1, 1) := by decide +kernel
theorem d_F_hasTermOf_17 : decode b_F_hasTermOf 17 = .ok (.goto 4, 3) := by decide +kernel
theorem d_F_hasTermOf_20 : decode b_F_hasTermOf 20 = .ok (.iconst 0, 1) := by decide +kernel
theorem d_F_hasTermOf_21 : decode b_F_hasTermOf 21 = .ok (.istore 5, 2) := by decide +kernel
theorem d_F_hasTermOf_23 : decode b_F_hasTermOf 23 = .ok (.iload 4, 2) := by decide +kernel
theorem d_F_hasTermOf_25 : decode b_F_hasTermOf 25 = .ok (.bipush 31, 2) := by decide +kernel
theorem d_F_hasTermOf_27 : decode b_F_hasTermOf 27 = .ok (.if_icmp .eq 13, 3) := by decide +kernel
theorem d_F_hasTermOf_30 : decode b_F_hasTermOf 30 = .ok (.iload 5, 2) := by decide +kernel
theorem d_F_hasTermOf_32 : decode b_F_hasTermOf 32 = .ok (.iload_n 3, 1) := by decide +kernel
theorem d_F_hasTermOf_33 : decode b_F_hasTermOf 33 = .ok (.if_icmp .ne 7, 3) := by decide +kernel
theorem d_F_hasTermOf_36 : decode b_F_hasTermOf 36 = .ok (.iconst 1, 1) := by decide +kernel
theorem d_F_hasTermOf_37 : decode b_F_hasTermOf 37 = .ok (.goto 4, 3) := by decide +kernel
theorem d_F_hasTermOf_40 : decode b_F_hasTermOf 40 = .ok (.iconst 0, 1) := by decide +kernel
theorem d_F_hasTermOf_41 : decode b_F_hasTermOf 41 = .ok (.ireturn, 1) := by decide +kernel
abbrev rm_F_hasTermOf : Room := { frames := 1, cells := 0, slots := 0, locals := 22 }
def f_F_hasTermOf_21 (x3 : Int32) (x4 : Int32) (y0 : Int32) (M : Mem) : Option (Int32 × Mem) :=
  if x4 = (31 : Int32) then some ((0 : Int32), M) else if y0 = x3 then some ((1 : Int32), M) else some ((0 : Int32), M)
set_option maxRecDepth 100000 in
theorem g_F_hasTermOf_21 {r : Int32} {M' : Mem} (C : GC p s m args meth c b_F_hasTermOf 6 (some (FieldType.boolean)) "NoneWords$Facts" TB D vwCl (tysW cI cZ cC) A Z) {x3 : Int32} {x4 : Int32} {y0 : Int32} {M : Mem} (hf : f_F_hasTermOf_21 x3 x4 y0 M = some (r, M')) : GW p l e rm_F_hasTermOf s m args below meth c (MQ below (QW D vwCl (tysW cI cZ cC) A (some (.int r)) (wc ad cI cZ cC M')) args s 0 0 A) D vwCl A 6 0 0 (wc ad cI cZ cC M) 21 [(3, .int x3), (4, .int x4)] [.int y0] := by
  unfold f_F_hasTermOf_21 at hf
  refine gw_istore (lv' := [(5, .int y0), (3, .int x3), (4, .int x4)]) C d_F_hasTermOf_21 (by decide) rfl ?_
  refine gw_iload C 2 d_F_hasTermOf_23 rfl ?_
  refine gw_bipush (v := (31 : Int32)) C d_F_hasTermOf_25 (by decide) ?_
  refine gw_icmp_eq (tgt := 40) C d_F_hasTermOf_27 (by decide) (fun c => ?_) (fun c => ?_)
  · have hf := (if_pos c).symm.trans hf
    refine gw_iconst (v := (0 : Int32)) C d_F_hasTermOf_40 (by decide) ?_
    exact gw_zreti C d_F_hasTermOf_41 (wc ad cI cZ cC) (by decide) hf
  · have hf := (if_neg c).symm.trans hf
    refine gw_iload C 0 d_F_hasTermOf_30 rfl ?_
    refine gw_iload_n C 1 d_F_hasTermOf_32 rfl rfl ?_
    refine gw_icmp_ne (tgt := 40) C d_F_hasTermOf_33 (by decide) (fun c => ?_) (fun c => ?_)
    · have hf := (if_neg c).symm.trans hf
      refine gw_iconst (v := (0 : Int32)) C d_F_hasTermOf_40 (by decide) ?_
      exact gw_zreti C d_F_hasTermOf_41 (wc ad cI cZ cC) (by decide) hf
    · have hf := (if_pos c).symm.trans hf
      refine gw_iconst (v := (1 : Int32)) C d_F_hasTermOf_36 (by decide) ?_
      refine gw_goto (tgt := 41) C d_F_hasTermOf_37 (by decide) ?_
      exact gw_zreti C d_F_hasTermOf_41 (wc ad cI cZ cC) (by decide) hf
def f_F_hasTermOf (x1 : Int32) (x2 : Int32) (x3 : Int32) (M : Mem) : Option (Int32 × Mem) :=
  ob (f_F_optionsOfTerm x1 x2 M) fun r3 M3 => if (r3 &&& (16 : Int32)) = 0 then f_F_hasTermOf_21 x3 r3 (1 : Int32) M3 else f_F_hasTermOf_21 x3 r3 (0 : Int32) M3
set_option maxRecDepth 100000 in
theorem g_F_hasTermOf {r : Int32} {M' : Mem} (C : GC p s m args meth c b_F_hasTermOf 6 (some (FieldType.boolean)) "NoneWords$Facts" TB D vwCl (tysW cI cZ cC) A Z) {x1 : Int32} {x2 : Int32} {x3 : Int32} {M : Mem} (hf : f_F_hasTermOf x1 x2 x3 M = some (r, M')) : GW p l e rm_F_hasTermOf s m args below meth c (MQ below (QW D vwCl (tysW cI cZ cC) A (some (.int r)) (wc ad cI cZ cC M')) args s 0 0 A) D vwCl A 6 0 0 (wc ad cI cZ cC M) 0 [(0, .ref (ad 1)), (1, .int x1), (2, .int x2), (3, .int x3)] [] := by
  unfold f_F_hasTermOf at hf
  refine gw_aload_n C 0 d_F_hasTermOf_0 rfl rfl ?_
  refine gw_iload_n C 1 d_F_hasTermOf_1 rfl rfl ?_
  refine gw_iload_n C 2 d_F_hasTermOf_2 rfl rfl ?_
  obtain ⟨r3, M3, hc3, hf⟩ := ob_some hf
  refine gw_callVr (rest := []) C 1 wcg_1 clg_0 (c_F_optionsOfTerm C.2.2.2.2.2.2.2.2.2.2 hc3) (cwV 2 C.2.2.2.2.1 (gTB_V tw_289 mv_F_optionsOfTerm) rfl rfl rfl pd_F_optionsOfTerm ⟨Nat.le_of_ble_eq_true rfl, Nat.le_of_ble_eq_true rfl⟩) rfl rfl (Nat.le_of_ble_eq_true rfl) d_F_hasTermOf_3 ⟨Nat.le_of_ble_eq_true rfl, Nat.le_of_ble_eq_true rfl⟩ ?_
  refine gw_istore (lv' := [(4, .int r3), (0, .ref (ad 1)), (1, .int x1), (2, .int x2), (3, .int x3)]) C d_F_hasTermOf_6 (by decide) rfl ?_
  refine gw_iload C 0 d_F_hasTermOf_8 rfl ?_
  refine gw_bipush (v := (16 : Int32)) C d_F_hasTermOf_10 (by decide) ?_
  refine gw_iand C d_F_hasTermOf_12 ?_
  refine gw_if_ne (tgt := 20) C d_F_hasTermOf_13 (by decide) (fun c => ?_) (fun c => ?_)
  · have hf := (if_neg c).symm.trans hf
    refine gw_iconst (v := (0 : Int32)) C d_F_hasTermOf_20 (by decide) ?_
    exact gw_sub [4, 0] rfl (g_F_hasTermOf_21 C hf)
  · have hf := (if_pos c).symm.trans hf
    refine gw_iconst (v := (1 : Int32)) C d_F_hasTermOf_16 (by decide) ?_
    refine gw_goto (tgt := 21) C d_F_hasTermOf_17 (by decide) ?_
    exact gw_sub [4, 0] rfl (g_F_hasTermOf_21 C hf)
theorem c_F_hasTermOf (hZ : gw_ZOK Z) {x1 : Int32} {x2 : Int32} {x3 : Int32} {M : Mem} {r : Int32} {M' : Mem} (hf : f_F_hasTermOf x1 x2 x3 M = some (r, M')) : CW l y_F_hasTermOf ws_F_hasTermOf rm_F_hasTermOf D vwCl (tysW cI cZ cC) Z [.ref (ad 1), .int x1, .int x2, .int x3] (wc ad cI cZ cC M) (some (.int r)) (wc ad cI cZ cC M') 0 0 :=
  CW.ofG hZ (by decide) rfl (Nat.le_of_ble_eq_true rfl) (fun _ _ _ _ _ _ _ _ C _ => g_F_hasTermOf C hf)
abbrev b_F_setOfTerm : ByteArray := prog_2_method_28_code
def y_F_setOfTerm : MethodName := ⟨"NoneWords$Facts", "setOfTerm", "(II)I"⟩
abbrev ws_F_setOfTerm : List Cond := Cond.code y_F_setOfTerm b_F_setOfTerm 4 (some (FieldType.int)) :: TB
set_option maxRecDepth 100000 in
theorem tc_F_setOfTerm : Cond.code y_F_setOfTerm b_F_setOfTerm 4 (some (FieldType.int)) ∈ TB := inTB 317 rfl rfl
theorem mv_F_setOfTerm : Cond.instanceMethod y_F_setOfTerm ∈ TB ∧ Cond.selects "NoneWords$Facts" y_F_setOfTerm y_F_setOfTerm ∈ TB ∧ Cond.initialized "NoneWords$Facts" ∈ TB ∧ Cond.code y_F_setOfTerm b_F_setOfTerm 4 (some (FieldType.int)) ∈ TB := ⟨inTB 315 (by decide +kernel) (by decide +kernel), inTB 316 (by decide +kernel) (by decide +kernel), inTB 65 (by decide +kernel) (by decide +kernel), tc_F_setOfTerm⟩
theorem pd_F_setOfTerm : y_F_setOfTerm.cls = "NoneWords$Facts" ∧ y_F_setOfTerm.cls ≠ "java/lang/invoke/MethodHandle" ∧ y_F_setOfTerm.cls ≠ "java/lang/invoke/VarHandle" ∧ (parseMethodDescriptor y_F_setOfTerm.desc).map (fun d => d.parameters.length) = some 2 := by decide +kernel
theorem d_F_setOfTerm_0 : decode b_F_setOfTerm 0 = .ok (.aload_n 0, 1) := by decide +kernel
theorem d_F_setOfTerm_1 : decode b_F_setOfTerm 1 = .ok (.iload_n 1, 1) := by decide +kernel
theorem d_F_setOfTerm_2 : decode b_F_setOfTerm 2 = .ok (.iload_n 2, 1) := by decide +kernel
theorem d_F_setOfTerm_3 : decode b_F_setOfTerm 3 = .ok (.invokevirtual 85, 3) := by decide +kernel
theorem d_F_setOfTerm_6 : decode b_F_setOfTerm 6 = .ok (.istore_n 3, 1) := by decide +kernel
theorem d_F_setOfTerm_7 : decode b_F_setOfTerm 7 = .ok (.iload_n 3, 1) := by decide +kernel
theorem d_F_setOfTerm_8 : decode b_F_setOfTerm 8 = .ok (.bipush 16, 2) := by decide +kernel
theorem d_F_setOfTerm_10 : decode b_F_setOfTerm 10 = .ok (.iand, 1) := by decide +kernel
theorem d_F_setOfTerm_11 : decode b_F_setOfTerm 11 = .ok (.ifCond .ne 7, 3) := by decide +kernel
theorem d_F_setOfTerm_14 : decode b_F_setOfTerm 14 = .ok (.iload_n 3, 1) := by decide +kernel
theorem d_F_setOfTerm_15 : decode b_F_setOfTerm 15 = .ok (.goto 9, 3) := by decide +kernel
theorem d_F_setOfTerm_18 : decode b_F_setOfTerm 18 = .ok (.bipush 31, 2) := by decide +kernel
theorem d_F_setOfTerm_20 : decode b_F_setOfTerm 20 = .ok (.iload_n 3, 1) := by decide +kernel
theorem d_F_setOfTerm_21 : decode b_F_setOfTerm 21 = .ok (.iconst (-1), 1) := by decide +kernel
theorem d_F_setOfTerm_22 : decode b_F_setOfTerm 22 = .ok (.ixor, 1) := by decide +kernel
theorem d_F_setOfTerm_23 : decode b_F_setOfTerm 23 = .ok (.iand, 1) := by decide +kernel
theorem d_F_setOfTerm_24 : decode b_F_setOfTerm 24 = .ok (.ireturn, 1) := by decide +kernel
abbrev rm_F_setOfTerm : Room := { frames := 1, cells := 0, slots := 0, locals := 22 }
def f_F_setOfTerm (x1 : Int32) (x2 : Int32) (M : Mem) : Option (Int32 × Mem) :=
  ob (f_F_optionsOfTerm x1 x2 M) fun r3 M3 => if (r3 &&& (16 : Int32)) = 0 then some (r3, M3) else some ((31 : Int32) &&& (r3 ^^^ (-1 : Int32)), M3)
set_option maxRecDepth 100000 in
theorem g_F_setOfTerm {r : Int32} {M' : Mem} (C : GC p s m args meth c b_F_setOfTerm 4 (some (FieldType.int)) "NoneWords$Facts" TB D vwCl (tysW cI cZ cC) A Z) {x1 : Int32} {x2 : Int32} {M : Mem} (hf : f_F_setOfTerm x1 x2 M = some (r, M')) : GW p l e rm_F_setOfTerm s m args below meth c (MQ below (QW D vwCl (tysW cI cZ cC) A (some (.int r)) (wc ad cI cZ cC M')) args s 0 0 A) D vwCl A 4 0 0 (wc ad cI cZ cC M) 0 [(0, .ref (ad 1)), (1, .int x1), (2, .int x2)] [] := by
  unfold f_F_setOfTerm at hf
  refine gw_aload_n C 0 d_F_setOfTerm_0 rfl rfl ?_
  refine gw_iload_n C 1 d_F_setOfTerm_1 rfl rfl ?_
  refine gw_iload_n C 2 d_F_setOfTerm_2 rfl rfl ?_
  obtain ⟨r3, M3, hc3, hf⟩ := ob_some hf
  refine gw_callVr (rest := []) C 1 wcg_1 clg_0 (c_F_optionsOfTerm C.2.2.2.2.2.2.2.2.2.2 hc3) (cwV 2 C.2.2.2.2.1 (gTB_V tw_289 mv_F_optionsOfTerm) rfl rfl rfl pd_F_optionsOfTerm ⟨Nat.le_of_ble_eq_true rfl, Nat.le_of_ble_eq_true rfl⟩) rfl rfl (Nat.le_of_ble_eq_true rfl) d_F_setOfTerm_3 ⟨Nat.le_of_ble_eq_true rfl, Nat.le_of_ble_eq_true rfl⟩ ?_
  refine gw_istore_n (lv' := [(3, .int r3), (0, .ref (ad 1)), (1, .int x1), (2, .int x2)]) C d_F_setOfTerm_6 rfl (by decide) rfl ?_
  refine gw_iload_n C 0 d_F_setOfTerm_7 rfl rfl ?_
  refine gw_bipush (v := (16 : Int32)) C d_F_setOfTerm_8 (by decide) ?_
  refine gw_iand C d_F_setOfTerm_10 ?_
  refine gw_if_ne (tgt := 18) C d_F_setOfTerm_11 (by decide) (fun c => ?_) (fun c => ?_)
  · have hf := (if_neg c).symm.trans hf
    refine gw_bipush (v := (31 : Int32)) C d_F_setOfTerm_18 (by decide) ?_
    refine gw_iload_n C 0 d_F_setOfTerm_20 rfl rfl ?_
    refine gw_iconst (v := (-1 : Int32)) C d_F_setOfTerm_21 (by decide) ?_
    refine gw_ixor C d_F_setOfTerm_22 ?_
    refine gw_iand C d_F_setOfTerm_23 ?_
    exact gw_ireti C d_F_setOfTerm_24 (wc ad cI cZ cC) hf
  · have hf := (if_pos c).symm.trans hf
    refine gw_iload_n C 0 d_F_setOfTerm_14 rfl rfl ?_
    refine gw_goto (tgt := 24) C d_F_setOfTerm_15 (by decide) ?_
    exact gw_ireti C d_F_setOfTerm_24 (wc ad cI cZ cC) hf
theorem c_F_setOfTerm (hZ : gw_ZOK Z) {x1 : Int32} {x2 : Int32} {M : Mem} {r : Int32} {M' : Mem} (hf : f_F_setOfTerm x1 x2 M = some (r, M')) : CW l y_F_setOfTerm ws_F_setOfTerm rm_F_setOfTerm D vwCl (tysW cI cZ cC) Z [.ref (ad 1), .int x1, .int x2] (wc ad cI cZ cC M) (some (.int r)) (wc ad cI cZ cC M') 0 0 :=
  CW.ofG hZ (by decide) rfl (Nat.le_of_ble_eq_true rfl) (fun _ _ _ _ _ _ _ _ C _ => g_F_setOfTerm C hf)
abbrev b_F_countTerms : ByteArray := prog_2_method_29_code
def y_F_countTerms : MethodName := ⟨"NoneWords$Facts", "countTerms", "(IZ)I"⟩
abbrev ws_F_countTerms : List Cond := Cond.code y_F_countTerms b_F_countTerms 5 (some (FieldType.int)) :: TB
set_option maxRecDepth 100000 in
theorem tc_F_countTerms : Cond.code y_F_countTerms b_F_countTerms 5 (some (FieldType.int)) ∈ TB := inTB 301 rfl rfl
theorem mv_F_countTerms : Cond.instanceMethod y_F_countTerms ∈ TB ∧ Cond.selects "NoneWords$Facts" y_F_countTerms y_F_countTerms ∈ TB ∧ Cond.initialized "NoneWords$Facts" ∈ TB ∧ Cond.code y_F_countTerms b_F_countTerms 5 (some (FieldType.int)) ∈ TB := ⟨inTB 299 (by decide +kernel) (by decide +kernel), inTB 300 (by decide +kernel) (by decide +kernel), inTB 65 (by decide +kernel) (by decide +kernel), tc_F_countTerms⟩
theorem pd_F_countTerms : y_F_countTerms.cls = "NoneWords$Facts" ∧ y_F_countTerms.cls ≠ "java/lang/invoke/MethodHandle" ∧ y_F_countTerms.cls ≠ "java/lang/invoke/VarHandle" ∧ (parseMethodDescriptor y_F_countTerms.desc).map (fun d => d.parameters.length) = some 2 := by decide +kernel
theorem d_F_countTerms_0 : decode b_F_countTerms 0 = .ok (.iconst 0, 1) := by decide +kernel
theorem d_F_countTerms_1 : decode b_F_countTerms 1 = .ok (.istore_n 3, 1) := by decide +kernel
theorem d_F_countTerms_2 : decode b_F_countTerms 2 = .ok (.iconst 0, 1) := by decide +kernel
theorem d_F_countTerms_3 : decode b_F_countTerms 3 = .ok (.istore 4, 2) := by decide +kernel
theorem d_F_countTerms_5 : decode b_F_countTerms 5 = .ok (.iload 4, 2) := by decide +kernel
theorem d_F_countTerms_7 : decode b_F_countTerms 7 = .ok (.aload_n 0, 1) := by decide +kernel
theorem d_F_countTerms_8 : decode b_F_countTerms 8 = .ok (.getfield 15, 3) := by decide +kernel
theorem d_F_countTerms_11 : decode b_F_countTerms 11 = .ok (.if_icmp .ge 23, 3) := by decide +kernel
theorem d_F_countTerms_14 : decode b_F_countTerms 14 = .ok (.aload_n 0, 1) := by decide +kernel
theorem d_F_countTerms_15 : decode b_F_countTerms 15 = .ok (.iload_n 1, 1) := by decide +kernel
theorem d_F_countTerms_16 : decode b_F_countTerms 16 = .ok (.iload 4, 2) := by decide +kernel
theorem d_F_countTerms_18 : decode b_F_countTerms 18 = .ok (.iload_n 2, 1) := by decide +kernel
theorem d_F_countTerms_19 : decode b_F_countTerms 19 = .ok (.invokevirtual 89, 3) := by decide +kernel
theorem d_F_countTerms_22 : decode b_F_countTerms 22 = .ok (.ifCond .eq 6, 3) := by decide +kernel
theorem d_F_countTerms_25 : decode b_F_countTerms 25 = .ok (.iinc 3 1, 3) := by decide +kernel
theorem d_F_countTerms_28 : decode b_F_countTerms 28 = .ok (.iinc 4 1, 3) := by decide +kernel
theorem d_F_countTerms_31 : decode b_F_countTerms 31 = .ok (.goto (-26), 3) := by decide +kernel
theorem d_F_countTerms_34 : decode b_F_countTerms 34 = .ok (.iload_n 3, 1) := by decide +kernel
theorem d_F_countTerms_35 : decode b_F_countTerms 35 = .ok (.ireturn, 1) := by decide +kernel
abbrev rm_F_countTerms : Room := { frames := 2, cells := 0, slots := 0, locals := 47 }
def f_F_countTerms_5 : Nat → Int32 → Int32 → Int32 → Int32 → Mem → Option (Int32 × Mem)
  | 0, _, _, _, _, _ => none
  | n + 1, x1, x2, x3, x4, M => if (M 1 1) ≤ x4 then some (x3, M) else ob (f_F_hasTermOf x1 x4 x2 M) fun r19 M19 => if r19 = 0 then (f_F_countTerms_5 n) x1 x2 x3 (x4 + (1 : Int32)) M19 else (f_F_countTerms_5 n) x1 x2 (x3 + (1 : Int32)) (x4 + (1 : Int32)) M19
set_option maxRecDepth 100000 in
theorem g_F_countTerms_5 {r : Int32} {M' : Mem} (C : GC p s m args meth c b_F_countTerms 5 (some (FieldType.int)) "NoneWords$Facts" TB D vwCl (tysW cI cZ cC) A Z) : ∀ (n : Nat) (x1 : Int32) (x2 : Int32) (x3 : Int32) (x4 : Int32) (M : Mem), f_F_countTerms_5 n x1 x2 x3 x4 M = some (r, M') → GW p l e rm_F_countTerms s m args below meth c (MQ below (QW D vwCl (tysW cI cZ cC) A (some (.int r)) (wc ad cI cZ cC M')) args s 0 0 A) D vwCl A 5 0 0 (wc ad cI cZ cC M) 5 [(0, .ref (ad 1)), (1, .int x1), (2, .int x2), (3, .int x3), (4, .int x4)] [] := by
  intro n
  induction n with
  | zero => intro _ _ _ _ _ hf; cases hf
  | succ n ih =>
    intro x1 x2 x3 x4 M hf
    rw [f_F_countTerms_5] at hf
    refine gw_iload C 4 d_F_countTerms_5 rfl ?_
    refine gw_aload_n C 0 d_F_countTerms_7 rfl rfl ?_
    refine gw_get C in_F 1 wcg_1 clg_0 1 (by decide) tw_93 rfl rfl d_F_countTerms_8 ?_
    refine gw_icmp_ge (tgt := 34) C d_F_countTerms_11 (by decide) (fun c => ?_) (fun c => ?_)
    · have hf := (if_pos c).symm.trans hf
      refine gw_iload_n C 3 d_F_countTerms_34 rfl rfl ?_
      exact gw_ireti C d_F_countTerms_35 (wc ad cI cZ cC) hf
    · have hf := (if_neg c).symm.trans hf
      refine gw_aload_n C 0 d_F_countTerms_14 rfl rfl ?_
      refine gw_iload_n C 1 d_F_countTerms_15 rfl rfl ?_
      refine gw_iload C 4 d_F_countTerms_16 rfl ?_
      refine gw_iload_n C 2 d_F_countTerms_18 rfl rfl ?_
      obtain ⟨r19, M19, hc19, hf⟩ := ob_some hf
      refine gw_callVr (rest := []) C 1 wcg_1 clg_0 (c_F_hasTermOf C.2.2.2.2.2.2.2.2.2.2 hc19) (cwV 3 C.2.2.2.2.1 (gTB_V tw_302 mv_F_hasTermOf) rfl rfl rfl pd_F_hasTermOf ⟨Nat.le_of_ble_eq_true rfl, Nat.le_of_ble_eq_true rfl⟩) rfl rfl (Nat.le_of_ble_eq_true rfl) d_F_countTerms_19 ⟨Nat.le_of_ble_eq_true rfl, Nat.le_of_ble_eq_true rfl⟩ ?_
      refine gw_if_eq (tgt := 28) C d_F_countTerms_22 (by decide) (fun c => ?_) (fun c => ?_)
      · have hf := (if_pos c).symm.trans hf
        refine gw_iinc (v := x4 + (1 : Int32)) (lv' := [(4, .int (x4 + (1 : Int32))), (0, .ref (ad 1)), (1, .int x1), (2, .int x2), (3, .int x3)]) C 4 d_F_countTerms_28 rfl rfl (by decide) rfl ?_
        refine gw_goto (tgt := 5) C d_F_countTerms_31 (by decide) ?_
        exact gw_sub [1, 2, 3, 4, 0] rfl (ih _ _ _ _ _ hf)
      · have hf := (if_neg c).symm.trans hf
        refine gw_iinc (v := x3 + (1 : Int32)) (lv' := [(3, .int (x3 + (1 : Int32))), (0, .ref (ad 1)), (1, .int x1), (2, .int x2), (4, .int x4)]) C 3 d_F_countTerms_25 rfl rfl (by decide) rfl ?_
        refine gw_iinc (v := x4 + (1 : Int32)) (lv' := [(4, .int (x4 + (1 : Int32))), (3, .int (x3 + (1 : Int32))), (0, .ref (ad 1)), (1, .int x1), (2, .int x2)]) C 4 d_F_countTerms_28 rfl rfl (by decide) rfl ?_
        refine gw_goto (tgt := 5) C d_F_countTerms_31 (by decide) ?_
        exact gw_sub [2, 3, 4, 1, 0] rfl (ih _ _ _ _ _ hf)
def f_F_countTerms (x1 : Int32) (x2 : Int32) (M : Mem) : Option (Int32 × Mem) :=
  f_F_countTerms_5 1000 x1 x2 (0 : Int32) (0 : Int32) M
set_option maxRecDepth 100000 in
theorem g_F_countTerms {r : Int32} {M' : Mem} (C : GC p s m args meth c b_F_countTerms 5 (some (FieldType.int)) "NoneWords$Facts" TB D vwCl (tysW cI cZ cC) A Z) {x1 : Int32} {x2 : Int32} {M : Mem} (hf : f_F_countTerms x1 x2 M = some (r, M')) : GW p l e rm_F_countTerms s m args below meth c (MQ below (QW D vwCl (tysW cI cZ cC) A (some (.int r)) (wc ad cI cZ cC M')) args s 0 0 A) D vwCl A 5 0 0 (wc ad cI cZ cC M) 0 [(0, .ref (ad 1)), (1, .int x1), (2, .int x2)] [] := by
  unfold f_F_countTerms at hf
  refine gw_iconst (v := (0 : Int32)) C d_F_countTerms_0 (by decide) ?_
  refine gw_istore_n (lv' := [(3, .int (0 : Int32)), (0, .ref (ad 1)), (1, .int x1), (2, .int x2)]) C d_F_countTerms_1 rfl (by decide) rfl ?_
  refine gw_iconst (v := (0 : Int32)) C d_F_countTerms_2 (by decide) ?_
  refine gw_istore (lv' := [(4, .int (0 : Int32)), (3, .int (0 : Int32)), (0, .ref (ad 1)), (1, .int x1), (2, .int x2)]) C d_F_countTerms_3 (by decide) rfl ?_
  exact gw_sub [2, 3, 4, 1, 0] rfl (g_F_countTerms_5 C _ _ _ _ _ _ hf)
theorem c_F_countTerms (hZ : gw_ZOK Z) {x1 : Int32} {x2 : Int32} {M : Mem} {r : Int32} {M' : Mem} (hf : f_F_countTerms x1 x2 M = some (r, M')) : CW l y_F_countTerms ws_F_countTerms rm_F_countTerms D vwCl (tysW cI cZ cC) Z [.ref (ad 1), .int x1, .int x2] (wc ad cI cZ cC M) (some (.int r)) (wc ad cI cZ cC M') 0 0 :=
  CW.ofG hZ (by decide) rfl (Nat.le_of_ble_eq_true rfl) (fun _ _ _ _ _ _ _ _ C _ => g_F_countTerms C hf)
abbrev b_F_nameOfTerm : ByteArray := prog_2_method_30_code
def y_F_nameOfTerm : MethodName := ⟨"NoneWords$Facts", "nameOfTerm", "(II)I"⟩
abbrev ws_F_nameOfTerm : List Cond := Cond.code y_F_nameOfTerm b_F_nameOfTerm 5 (some (FieldType.int)) :: TB
set_option maxRecDepth 100000 in
theorem tc_F_nameOfTerm : Cond.code y_F_nameOfTerm b_F_nameOfTerm 5 (some (FieldType.int)) ∈ TB := inTB 313 rfl rfl
theorem mv_F_nameOfTerm : Cond.instanceMethod y_F_nameOfTerm ∈ TB ∧ Cond.selects "NoneWords$Facts" y_F_nameOfTerm y_F_nameOfTerm ∈ TB ∧ Cond.initialized "NoneWords$Facts" ∈ TB ∧ Cond.code y_F_nameOfTerm b_F_nameOfTerm 5 (some (FieldType.int)) ∈ TB := ⟨inTB 311 (by decide +kernel) (by decide +kernel), inTB 312 (by decide +kernel) (by decide +kernel), inTB 65 (by decide +kernel) (by decide +kernel), tc_F_nameOfTerm⟩
theorem pd_F_nameOfTerm : y_F_nameOfTerm.cls = "NoneWords$Facts" ∧ y_F_nameOfTerm.cls ≠ "java/lang/invoke/MethodHandle" ∧ y_F_nameOfTerm.cls ≠ "java/lang/invoke/VarHandle" ∧ (parseMethodDescriptor y_F_nameOfTerm.desc).map (fun d => d.parameters.length) = some 2 := by decide +kernel
theorem d_F_nameOfTerm_0 : decode b_F_nameOfTerm 0 = .ok (.iconst 0, 1) := by decide +kernel
theorem d_F_nameOfTerm_1 : decode b_F_nameOfTerm 1 = .ok (.istore_n 3, 1) := by decide +kernel
theorem d_F_nameOfTerm_2 : decode b_F_nameOfTerm 2 = .ok (.iconst 0, 1) := by decide +kernel
theorem d_F_nameOfTerm_3 : decode b_F_nameOfTerm 3 = .ok (.istore 4, 2) := by decide +kernel
theorem d_F_nameOfTerm_5 : decode b_F_nameOfTerm 5 = .ok (.iload 4, 2) := by decide +kernel
theorem d_F_nameOfTerm_7 : decode b_F_nameOfTerm 7 = .ok (.aload_n 0, 1) := by decide +kernel
theorem d_F_nameOfTerm_8 : decode b_F_nameOfTerm 8 = .ok (.getfield 15, 3) := by decide +kernel
theorem d_F_nameOfTerm_11 : decode b_F_nameOfTerm 11 = .ok (.if_icmp .ge 32, 3) := by decide +kernel
theorem d_F_nameOfTerm_14 : decode b_F_nameOfTerm 14 = .ok (.aload_n 0, 1) := by decide +kernel
theorem d_F_nameOfTerm_15 : decode b_F_nameOfTerm 15 = .ok (.iload_n 1, 1) := by decide +kernel
theorem d_F_nameOfTerm_16 : decode b_F_nameOfTerm 16 = .ok (.iload 4, 2) := by decide +kernel
theorem d_F_nameOfTerm_18 : decode b_F_nameOfTerm 18 = .ok (.invokevirtual 85, 3) := by decide +kernel
theorem d_F_nameOfTerm_21 : decode b_F_nameOfTerm 21 = .ok (.bipush 31, 2) := by decide +kernel
theorem d_F_nameOfTerm_23 : decode b_F_nameOfTerm 23 = .ok (.if_icmp .eq 14, 3) := by decide +kernel
theorem d_F_nameOfTerm_26 : decode b_F_nameOfTerm 26 = .ok (.iload_n 3, 1) := by decide +kernel
theorem d_F_nameOfTerm_27 : decode b_F_nameOfTerm 27 = .ok (.iload_n 2, 1) := by decide +kernel
theorem d_F_nameOfTerm_28 : decode b_F_nameOfTerm 28 = .ok (.if_icmp .ne 6, 3) := by decide +kernel
theorem d_F_nameOfTerm_31 : decode b_F_nameOfTerm 31 = .ok (.iload 4, 2) := by decide +kernel
theorem d_F_nameOfTerm_33 : decode b_F_nameOfTerm 33 = .ok (.ireturn, 1) := by decide +kernel
theorem d_F_nameOfTerm_34 : decode b_F_nameOfTerm 34 = .ok (.iinc 3 1, 3) := by decide +kernel
theorem d_F_nameOfTerm_37 : decode b_F_nameOfTerm 37 = .ok (.iinc 4 1, 3) := by decide +kernel
theorem d_F_nameOfTerm_40 : decode b_F_nameOfTerm 40 = .ok (.goto (-35), 3) := by decide +kernel
theorem d_F_nameOfTerm_43 : decode b_F_nameOfTerm 43 = .ok (.iconst (-1), 1) := by decide +kernel
theorem d_F_nameOfTerm_44 : decode b_F_nameOfTerm 44 = .ok (.ireturn, 1) := by decide +kernel
abbrev rm_F_nameOfTerm : Room := { frames := 1, cells := 0, slots := 0, locals := 22 }
def f_F_nameOfTerm_5 : Nat → Int32 → Int32 → Int32 → Int32 → Mem → Option (Int32 × Mem)
  | 0, _, _, _, _, _ => none
  | n + 1, x1, x2, x3, x4, M => if (M 1 1) ≤ x4 then some ((-1 : Int32), M) else ob (f_F_optionsOfTerm x1 x4 M) fun r18 M18 => if r18 = (31 : Int32) then (f_F_nameOfTerm_5 n) x1 x2 x3 (x4 + (1 : Int32)) M18 else if x3 = x2 then some (x4, M18) else (f_F_nameOfTerm_5 n) x1 x2 (x3 + (1 : Int32)) (x4 + (1 : Int32)) M18
set_option maxRecDepth 100000 in
theorem g_F_nameOfTerm_5 {r : Int32} {M' : Mem} (C : GC p s m args meth c b_F_nameOfTerm 5 (some (FieldType.int)) "NoneWords$Facts" TB D vwCl (tysW cI cZ cC) A Z) : ∀ (n : Nat) (x1 : Int32) (x2 : Int32) (x3 : Int32) (x4 : Int32) (M : Mem), f_F_nameOfTerm_5 n x1 x2 x3 x4 M = some (r, M') → GW p l e rm_F_nameOfTerm s m args below meth c (MQ below (QW D vwCl (tysW cI cZ cC) A (some (.int r)) (wc ad cI cZ cC M')) args s 0 0 A) D vwCl A 5 0 0 (wc ad cI cZ cC M) 5 [(0, .ref (ad 1)), (1, .int x1), (2, .int x2), (3, .int x3), (4, .int x4)] [] := by
  intro n
  induction n with
  | zero => intro _ _ _ _ _ hf; cases hf
  | succ n ih =>
    intro x1 x2 x3 x4 M hf
    rw [f_F_nameOfTerm_5] at hf
    refine gw_iload C 4 d_F_nameOfTerm_5 rfl ?_
    refine gw_aload_n C 0 d_F_nameOfTerm_7 rfl rfl ?_
    refine gw_get C in_F 1 wcg_1 clg_0 1 (by decide) tw_93 rfl rfl d_F_nameOfTerm_8 ?_
    refine gw_icmp_ge (tgt := 43) C d_F_nameOfTerm_11 (by decide) (fun c => ?_) (fun c => ?_)
    · have hf := (if_pos c).symm.trans hf
      refine gw_iconst (v := (-1 : Int32)) C d_F_nameOfTerm_43 (by decide) ?_
      exact gw_ireti C d_F_nameOfTerm_44 (wc ad cI cZ cC) hf
    · have hf := (if_neg c).symm.trans hf
      refine gw_aload_n C 0 d_F_nameOfTerm_14 rfl rfl ?_
      refine gw_iload_n C 1 d_F_nameOfTerm_15 rfl rfl ?_
      refine gw_iload C 4 d_F_nameOfTerm_16 rfl ?_
      obtain ⟨r18, M18, hc18, hf⟩ := ob_some hf
      refine gw_callVr (rest := []) C 1 wcg_1 clg_0 (c_F_optionsOfTerm C.2.2.2.2.2.2.2.2.2.2 hc18) (cwV 2 C.2.2.2.2.1 (gTB_V tw_289 mv_F_optionsOfTerm) rfl rfl rfl pd_F_optionsOfTerm ⟨Nat.le_of_ble_eq_true rfl, Nat.le_of_ble_eq_true rfl⟩) rfl rfl (Nat.le_of_ble_eq_true rfl) d_F_nameOfTerm_18 ⟨Nat.le_of_ble_eq_true rfl, Nat.le_of_ble_eq_true rfl⟩ ?_
      refine gw_bipush (v := (31 : Int32)) C d_F_nameOfTerm_21 (by decide) ?_
      refine gw_icmp_eq (tgt := 37) C d_F_nameOfTerm_23 (by decide) (fun c => ?_) (fun c => ?_)
      · have hf := (if_pos c).symm.trans hf
        refine gw_iinc (v := x4 + (1 : Int32)) (lv' := [(4, .int (x4 + (1 : Int32))), (0, .ref (ad 1)), (1, .int x1), (2, .int x2), (3, .int x3)]) C 4 d_F_nameOfTerm_37 rfl rfl (by decide) rfl ?_
        refine gw_goto (tgt := 5) C d_F_nameOfTerm_40 (by decide) ?_
        exact gw_sub [1, 2, 3, 4, 0] rfl (ih _ _ _ _ _ hf)
      · have hf := (if_neg c).symm.trans hf
        refine gw_iload_n C 3 d_F_nameOfTerm_26 rfl rfl ?_
        refine gw_iload_n C 2 d_F_nameOfTerm_27 rfl rfl ?_
        refine gw_icmp_ne (tgt := 34) C d_F_nameOfTerm_28 (by decide) (fun c => ?_) (fun c => ?_)
        · have hf := (if_neg c).symm.trans hf
          refine gw_iinc (v := x3 + (1 : Int32)) (lv' := [(3, .int (x3 + (1 : Int32))), (0, .ref (ad 1)), (1, .int x1), (2, .int x2), (4, .int x4)]) C 3 d_F_nameOfTerm_34 rfl rfl (by decide) rfl ?_
          refine gw_iinc (v := x4 + (1 : Int32)) (lv' := [(4, .int (x4 + (1 : Int32))), (3, .int (x3 + (1 : Int32))), (0, .ref (ad 1)), (1, .int x1), (2, .int x2)]) C 4 d_F_nameOfTerm_37 rfl rfl (by decide) rfl ?_
          refine gw_goto (tgt := 5) C d_F_nameOfTerm_40 (by decide) ?_
          exact gw_sub [2, 3, 4, 1, 0] rfl (ih _ _ _ _ _ hf)
        · have hf := (if_pos c).symm.trans hf
          refine gw_iload C 4 d_F_nameOfTerm_31 rfl ?_
          exact gw_ireti C d_F_nameOfTerm_33 (wc ad cI cZ cC) hf
def f_F_nameOfTerm (x1 : Int32) (x2 : Int32) (M : Mem) : Option (Int32 × Mem) :=
  f_F_nameOfTerm_5 1000 x1 x2 (0 : Int32) (0 : Int32) M
set_option maxRecDepth 100000 in
theorem g_F_nameOfTerm {r : Int32} {M' : Mem} (C : GC p s m args meth c b_F_nameOfTerm 5 (some (FieldType.int)) "NoneWords$Facts" TB D vwCl (tysW cI cZ cC) A Z) {x1 : Int32} {x2 : Int32} {M : Mem} (hf : f_F_nameOfTerm x1 x2 M = some (r, M')) : GW p l e rm_F_nameOfTerm s m args below meth c (MQ below (QW D vwCl (tysW cI cZ cC) A (some (.int r)) (wc ad cI cZ cC M')) args s 0 0 A) D vwCl A 5 0 0 (wc ad cI cZ cC M) 0 [(0, .ref (ad 1)), (1, .int x1), (2, .int x2)] [] := by
  unfold f_F_nameOfTerm at hf
  refine gw_iconst (v := (0 : Int32)) C d_F_nameOfTerm_0 (by decide) ?_
  refine gw_istore_n (lv' := [(3, .int (0 : Int32)), (0, .ref (ad 1)), (1, .int x1), (2, .int x2)]) C d_F_nameOfTerm_1 rfl (by decide) rfl ?_
  refine gw_iconst (v := (0 : Int32)) C d_F_nameOfTerm_2 (by decide) ?_
  refine gw_istore (lv' := [(4, .int (0 : Int32)), (3, .int (0 : Int32)), (0, .ref (ad 1)), (1, .int x1), (2, .int x2)]) C d_F_nameOfTerm_3 (by decide) rfl ?_
  exact gw_sub [2, 3, 4, 1, 0] rfl (g_F_nameOfTerm_5 C _ _ _ _ _ _ hf)
theorem c_F_nameOfTerm (hZ : gw_ZOK Z) {x1 : Int32} {x2 : Int32} {M : Mem} {r : Int32} {M' : Mem} (hf : f_F_nameOfTerm x1 x2 M = some (r, M')) : CW l y_F_nameOfTerm ws_F_nameOfTerm rm_F_nameOfTerm D vwCl (tysW cI cZ cC) Z [.ref (ad 1), .int x1, .int x2] (wc ad cI cZ cC M) (some (.int r)) (wc ad cI cZ cC M') 0 0 :=
  CW.ofG hZ (by decide) rfl (Nat.le_of_ble_eq_true rfl) (fun _ _ _ _ _ _ _ _ C _ => g_F_nameOfTerm C hf)
end FACTS
end
section
theorem tw_142 : Cond.fieldLink "NoneWords$Writer" 37 "NoneWords$Writer" "sentences" "I" ∈ TB := inTB 142 (by decide +kernel) (by decide +kernel)
theorem tw_432 : Cond.methodLink "NoneWords$Writer" 59 ⟨"NoneWords$Writer", "hasSentence", "(I)Z"⟩ ∈ TB := inTB 432 (by decide +kernel) (by decide +kernel)
theorem tw_137 : Cond.fieldLink "NoneWords$Writer" 22 "NoneWords$Writer" "openings" "[I" ∈ TB := inTB 137 (by decide +kernel) (by decide +kernel)
theorem tw_138 : Cond.fieldLink "NoneWords$Writer" 25 "NoneWords$Writer" "firstCauses" "[I" ∈ TB := inTB 138 (by decide +kernel) (by decide +kernel)
theorem tw_139 : Cond.fieldLink "NoneWords$Writer" 28 "NoneWords$Writer" "secondCauses" "[I" ∈ TB := inTB 139 (by decide +kernel) (by decide +kernel)
theorem tw_140 : Cond.fieldLink "NoneWords$Writer" 31 "NoneWords$Writer" "conclusions" "[I" ∈ TB := inTB 140 (by decide +kernel) (by decide +kernel)
theorem tw_141 : Cond.fieldLink "NoneWords$Writer" 34 "NoneWords$Writer" "sentenceNumbers" "[I" ∈ TB := inTB 141 (by decide +kernel) (by decide +kernel)
theorem tw_133 : Cond.fieldLink "NoneWords$Writer" 55 "NoneWords$Writer" "facts" "LNoneWords$Facts;" ∈ TB := inTB 133 (by decide +kernel) (by decide +kernel)
theorem tw_344 : Cond.methodLink "NoneWords$Writer" 63 ⟨"NoneWords$Facts", "hasNode", "(I)Z"⟩ ∈ TB := inTB 344 (by decide +kernel) (by decide +kernel)
theorem tw_135 : Cond.fieldLink "NoneWords$Writer" 15 "NoneWords$Writer" "nodeNumbers" "[I" ∈ TB := inTB 135 (by decide +kernel) (by decide +kernel)
theorem tw_134 : Cond.fieldLink "NoneWords$Writer" 9 "NoneWords$Writer" "uses" "[I" ∈ TB := inTB 134 (by decide +kernel) (by decide +kernel)
theorem tw_336 : Cond.methodLink "NoneWords$Writer" 92 ⟨"NoneWords$Facts", "leftPart", "(I)I"⟩ ∈ TB := inTB 336 (by decide +kernel) (by decide +kernel)
theorem tw_340 : Cond.methodLink "NoneWords$Writer" 96 ⟨"NoneWords$Writer", "countUse", "(I)V"⟩ ∈ TB := inTB 340 (by decide +kernel) (by decide +kernel)
theorem tw_345 : Cond.methodLink "NoneWords$Writer" 99 ⟨"NoneWords$Facts", "rightPart", "(I)I"⟩ ∈ TB := inTB 345 (by decide +kernel) (by decide +kernel)
theorem tw_331 : Cond.methodLink "NoneWords$Writer" 68 ⟨"java/util/Arrays", "fill", "([II)V"⟩ ∈ TB := inTB 331 (by decide +kernel) (by decide +kernel)
theorem tw_147 : Cond.fieldLink "NoneWords$Writer" 52 "NoneWords$Writer" "waiting" "I" ∈ TB := inTB 147 (by decide +kernel) (by decide +kernel)
theorem tw_143 : Cond.fieldLink "NoneWords$Writer" 40 "NoneWords$Writer" "steps" "[I" ∈ TB := inTB 143 (by decide +kernel) (by decide +kernel)
theorem tw_144 : Cond.fieldLink "NoneWords$Writer" 43 "NoneWords$Writer" "stepNodes" "[I" ∈ TB := inTB 144 (by decide +kernel) (by decide +kernel)
theorem tw_145 : Cond.fieldLink "NoneWords$Writer" 46 "NoneWords$Writer" "stepFirsts" "[I" ∈ TB := inTB 145 (by decide +kernel) (by decide +kernel)
theorem tw_146 : Cond.fieldLink "NoneWords$Writer" 49 "NoneWords$Writer" "stepSeconds" "[I" ∈ TB := inTB 146 (by decide +kernel) (by decide +kernel)
theorem tw_136 : Cond.fieldLink "NoneWords$Writer" 18 "NoneWords$Writer" "numbers" "I" ∈ TB := inTB 136 (by decide +kernel) (by decide +kernel)
theorem tw_373 : Cond.methodLink "NoneWords$Writer" 132 ⟨"NoneWords$Writer", "numberOfNode", "(I)I"⟩ ∈ TB := inTB 373 (by decide +kernel) (by decide +kernel)
theorem tw_361 : Cond.methodLink "NoneWords$Writer" 105 ⟨"NoneWords$Writer", "say", "(IIII)V"⟩ ∈ TB := inTB 361 (by decide +kernel) (by decide +kernel)
theorem tw_381 : Cond.methodLink "NoneWords$Writer" 123 ⟨"NoneWords$Writer", "isShared", "(I)Z"⟩ ∈ TB := inTB 381 (by decide +kernel) (by decide +kernel)
theorem tw_385 : Cond.methodLink "NoneWords$Writer" 129 ⟨"NoneWords$Writer", "giveNumber", "(I)V"⟩ ∈ TB := inTB 385 (by decide +kernel) (by decide +kernel)
theorem tw_349 : Cond.methodLink "NoneWords$Writer" 78 ⟨"NoneWords$Writer", "await", "(IIII)V"⟩ ∈ TB := inTB 349 (by decide +kernel) (by decide +kernel)
theorem tw_369 : Cond.methodLink "NoneWords$Writer" 120 ⟨"NoneWords$Writer", "hasNumber", "(I)Z"⟩ ∈ TB := inTB 369 (by decide +kernel) (by decide +kernel)
theorem tw_389 : Cond.methodLink "NoneWords$Writer" 126 ⟨"NoneWords$Facts", "isSimple", "(I)Z"⟩ ∈ TB := inTB 389 (by decide +kernel) (by decide +kernel)
theorem tw_377 : Cond.methodLink "NoneWords$Writer" 89 ⟨"NoneWords$Writer", "close", "(IIII)V"⟩ ∈ TB := inTB 377 (by decide +kernel) (by decide +kernel)
theorem tw_403 : Cond.methodLink "NoneWords$Writer" 114 ⟨"NoneWords$Facts", "leafPart", "(I)I"⟩ ∈ TB := inTB 403 (by decide +kernel) (by decide +kernel)
theorem tw_407 : Cond.methodLink "NoneWords$Writer" 117 ⟨"NoneWords$Facts", "joinPart", "(I)I"⟩ ∈ TB := inTB 407 (by decide +kernel) (by decide +kernel)
theorem tw_357 : Cond.methodLink "NoneWords$Writer" 102 ⟨"NoneWords$Facts", "isJoin", "(I)Z"⟩ ∈ TB := inTB 357 (by decide +kernel) (by decide +kernel)
theorem tw_399 : Cond.methodLink "NoneWords$Writer" 111 ⟨"NoneWords$Writer", "openOfLeafAndJoin", "(III)V"⟩ ∈ TB := inTB 399 (by decide +kernel) (by decide +kernel)
theorem tw_365 : Cond.methodLink "NoneWords$Writer" 108 ⟨"NoneWords$Writer", "openOfJoins", "(III)V"⟩ ∈ TB := inTB 365 (by decide +kernel) (by decide +kernel)
theorem tw_353 : Cond.methodLink "NoneWords$Writer" 82 ⟨"NoneWords$Writer", "open", "(I)V"⟩ ∈ TB := inTB 353 (by decide +kernel) (by decide +kernel)
theorem tw_412 : Cond.methodLink "NoneWords$Writer" 85 ⟨"NoneWords$Writer", "goOn", "(III)V"⟩ ∈ TB := inTB 412 (by decide +kernel) (by decide +kernel)
theorem tw_332 : Cond.methodLink "NoneWords$Writer" 74 ⟨"NoneWords$Writer", "countUses", "(I)V"⟩ ∈ TB := inTB 332 (by decide +kernel) (by decide +kernel)
section WRITER
variable {p : Program} {l : Launch} {e : Env} {s : State} {m : MethodId} {args : Array Value} {below : List Frame} {meth : Method} {c : Code} {D : va_G} {A : Nat → Prop} {Z : gw_Z} {ad : Nat → Nat} {cI cZ cC : ClassId}
abbrev b_W_hasSentence : ByteArray := prog_5_method_2_code
def y_W_hasSentence : MethodName := ⟨"NoneWords$Writer", "hasSentence", "(I)Z"⟩
abbrev ws_W_hasSentence : List Cond := Cond.code y_W_hasSentence b_W_hasSentence 2 (some (FieldType.boolean)) :: TB
set_option maxRecDepth 100000 in
theorem tc_W_hasSentence : Cond.code y_W_hasSentence b_W_hasSentence 2 (some (FieldType.boolean)) ∈ TB := inTB 427 rfl rfl
theorem mv_W_hasSentence : Cond.instanceMethod y_W_hasSentence ∈ TB ∧ Cond.selects "NoneWords$Writer" y_W_hasSentence y_W_hasSentence ∈ TB ∧ Cond.initialized "NoneWords$Writer" ∈ TB ∧ Cond.code y_W_hasSentence b_W_hasSentence 2 (some (FieldType.boolean)) ∈ TB := ⟨inTB 425 (by decide +kernel) (by decide +kernel), inTB 426 (by decide +kernel) (by decide +kernel), inTB 67 (by decide +kernel) (by decide +kernel), tc_W_hasSentence⟩
theorem pd_W_hasSentence : y_W_hasSentence.cls = "NoneWords$Writer" ∧ y_W_hasSentence.cls ≠ "java/lang/invoke/MethodHandle" ∧ y_W_hasSentence.cls ≠ "java/lang/invoke/VarHandle" ∧ (parseMethodDescriptor y_W_hasSentence.desc).map (fun d => d.parameters.length) = some 1 := by decide +kernel
theorem d_W_hasSentence_0 : decode b_W_hasSentence 0 = .ok (.iload_n 1, 1) := by decide +kernel
theorem d_W_hasSentence_1 : decode b_W_hasSentence 1 = .ok (.ifCond .lt 15, 3) := by decide +kernel
theorem d_W_hasSentence_4 : decode b_W_hasSentence 4 = .ok (.iload_n 1, 1) := by decide +kernel
theorem d_W_hasSentence_5 : decode b_W_hasSentence 5 = .ok (.aload_n 0, 1) := by decide +kernel
theorem d_W_hasSentence_6 : decode b_W_hasSentence 6 = .ok (.getfield 37, 3) := by decide +kernel
theorem d_W_hasSentence_9 : decode b_W_hasSentence 9 = .ok (.if_icmp .ge 7, 3) := by decide +kernel
theorem d_W_hasSentence_12 : decode b_W_hasSentence 12 = .ok (.iconst 1, 1) := by decide +kernel
theorem d_W_hasSentence_13 : decode b_W_hasSentence 13 = .ok (.goto 4, 3) := by decide +kernel
theorem d_W_hasSentence_16 : decode b_W_hasSentence 16 = .ok (.iconst 0, 1) := by decide +kernel
theorem d_W_hasSentence_17 : decode b_W_hasSentence 17 = .ok (.ireturn, 1) := by decide +kernel
abbrev rm_W_hasSentence : Room := { frames := 0, cells := 0, slots := 0, locals := 0 }
def f_W_hasSentence (x1 : Int32) (M : Mem) : Option (Int32 × Mem) :=
  if x1 < 0 then some ((0 : Int32), M) else if (M 11 9) ≤ x1 then some ((0 : Int32), M) else some ((1 : Int32), M)
set_option maxRecDepth 100000 in
theorem g_W_hasSentence {r : Int32} {M' : Mem} (C : GC p s m args meth c b_W_hasSentence 2 (some (FieldType.boolean)) "NoneWords$Writer" TB D vwCl (tysW cI cZ cC) A Z) {x1 : Int32} {M : Mem} (hf : f_W_hasSentence x1 M = some (r, M')) : GW p l e rm_W_hasSentence s m args below meth c (MQ below (QW D vwCl (tysW cI cZ cC) A (some (.int r)) (wc ad cI cZ cC M')) args s 0 0 A) D vwCl A 2 0 0 (wc ad cI cZ cC M) 0 [(0, .ref (ad 11)), (1, .int x1)] [] := by
  unfold f_W_hasSentence at hf
  refine gw_iload_n C 1 d_W_hasSentence_0 rfl rfl ?_
  refine gw_if_lt (tgt := 16) C d_W_hasSentence_1 (by decide) (fun c => ?_) (fun c => ?_)
  · have hf := (if_pos c).symm.trans hf
    refine gw_iconst (v := (0 : Int32)) C d_W_hasSentence_16 (by decide) ?_
    exact gw_zreti C d_W_hasSentence_17 (wc ad cI cZ cC) (by decide) hf
  · have hf := (if_neg c).symm.trans hf
    refine gw_iload_n C 1 d_W_hasSentence_4 rfl rfl ?_
    refine gw_aload_n C 0 d_W_hasSentence_5 rfl rfl ?_
    refine gw_get C in_W 11 wcg_11 clg_3 9 (by decide) tw_142 rfl rfl d_W_hasSentence_6 ?_
    refine gw_icmp_ge (tgt := 16) C d_W_hasSentence_9 (by decide) (fun c => ?_) (fun c => ?_)
    · have hf := (if_pos c).symm.trans hf
      refine gw_iconst (v := (0 : Int32)) C d_W_hasSentence_16 (by decide) ?_
      exact gw_zreti C d_W_hasSentence_17 (wc ad cI cZ cC) (by decide) hf
    · have hf := (if_neg c).symm.trans hf
      refine gw_iconst (v := (1 : Int32)) C d_W_hasSentence_12 (by decide) ?_
      refine gw_goto (tgt := 17) C d_W_hasSentence_13 (by decide) ?_
      exact gw_zreti C d_W_hasSentence_17 (wc ad cI cZ cC) (by decide) hf
theorem c_W_hasSentence (hZ : gw_ZOK Z) {x1 : Int32} {M : Mem} {r : Int32} {M' : Mem} (hf : f_W_hasSentence x1 M = some (r, M')) : CW l y_W_hasSentence ws_W_hasSentence rm_W_hasSentence D vwCl (tysW cI cZ cC) Z [.ref (ad 11), .int x1] (wc ad cI cZ cC M) (some (.int r)) (wc ad cI cZ cC M') 0 0 :=
  CW.ofG hZ (by decide) rfl (Nat.le_of_ble_eq_true rfl) (fun _ _ _ _ _ _ _ _ C _ => g_W_hasSentence C hf)
abbrev b_W_opening : ByteArray := prog_5_method_3_code
def y_W_opening : MethodName := ⟨"NoneWords$Writer", "opening", "(I)I"⟩
abbrev ws_W_opening : List Cond := Cond.code y_W_opening b_W_opening 2 (some (FieldType.int)) :: TB
set_option maxRecDepth 100000 in
theorem tc_W_opening : Cond.code y_W_opening b_W_opening 2 (some (FieldType.int)) ∈ TB := inTB 440 rfl rfl
theorem mv_W_opening : Cond.instanceMethod y_W_opening ∈ TB ∧ Cond.selects "NoneWords$Writer" y_W_opening y_W_opening ∈ TB ∧ Cond.initialized "NoneWords$Writer" ∈ TB ∧ Cond.code y_W_opening b_W_opening 2 (some (FieldType.int)) ∈ TB := ⟨inTB 438 (by decide +kernel) (by decide +kernel), inTB 439 (by decide +kernel) (by decide +kernel), inTB 67 (by decide +kernel) (by decide +kernel), tc_W_opening⟩
theorem pd_W_opening : y_W_opening.cls = "NoneWords$Writer" ∧ y_W_opening.cls ≠ "java/lang/invoke/MethodHandle" ∧ y_W_opening.cls ≠ "java/lang/invoke/VarHandle" ∧ (parseMethodDescriptor y_W_opening.desc).map (fun d => d.parameters.length) = some 1 := by decide +kernel
theorem d_W_opening_0 : decode b_W_opening 0 = .ok (.aload_n 0, 1) := by decide +kernel
theorem d_W_opening_1 : decode b_W_opening 1 = .ok (.iload_n 1, 1) := by decide +kernel
theorem d_W_opening_2 : decode b_W_opening 2 = .ok (.invokevirtual 59, 3) := by decide +kernel
theorem d_W_opening_5 : decode b_W_opening 5 = .ok (.ifCond .eq 12, 3) := by decide +kernel
theorem d_W_opening_8 : decode b_W_opening 8 = .ok (.aload_n 0, 1) := by decide +kernel
theorem d_W_opening_9 : decode b_W_opening 9 = .ok (.getfield 22, 3) := by decide +kernel
theorem d_W_opening_12 : decode b_W_opening 12 = .ok (.iload_n 1, 1) := by decide +kernel
theorem d_W_opening_13 : decode b_W_opening 13 = .ok (.iaload, 1) := by decide +kernel
theorem d_W_opening_14 : decode b_W_opening 14 = .ok (.goto 4, 3) := by decide +kernel
theorem d_W_opening_17 : decode b_W_opening 17 = .ok (.iconst 0, 1) := by decide +kernel
theorem d_W_opening_18 : decode b_W_opening 18 = .ok (.ireturn, 1) := by decide +kernel
abbrev rm_W_opening : Room := { frames := 1, cells := 0, slots := 0, locals := 21 }
def f_W_opening (x1 : Int32) (M : Mem) : Option (Int32 × Mem) :=
  ob (f_W_hasSentence x1 M) fun r2 M2 => if r2 = 0 then some ((0 : Int32), M2) else gd (inb x1 120) (some (M2 14 x1.toNatClampNeg, M2))
set_option maxRecDepth 100000 in
theorem g_W_opening {r : Int32} {M' : Mem} (C : GC p s m args meth c b_W_opening 2 (some (FieldType.int)) "NoneWords$Writer" TB D vwCl (tysW cI cZ cC) A Z) {x1 : Int32} {M : Mem} (hf : f_W_opening x1 M = some (r, M')) : GW p l e rm_W_opening s m args below meth c (MQ below (QW D vwCl (tysW cI cZ cC) A (some (.int r)) (wc ad cI cZ cC M')) args s 0 0 A) D vwCl A 2 0 0 (wc ad cI cZ cC M) 0 [(0, .ref (ad 11)), (1, .int x1)] [] := by
  unfold f_W_opening at hf
  refine gw_aload_n C 0 d_W_opening_0 rfl rfl ?_
  refine gw_iload_n C 1 d_W_opening_1 rfl rfl ?_
  obtain ⟨r2, M2, hc2, hf⟩ := ob_some hf
  refine gw_callVr (rest := []) C 11 wcg_11 clg_3 (c_W_hasSentence C.2.2.2.2.2.2.2.2.2.2 hc2) (cwV 1 C.2.2.2.2.1 (gTB_V tw_432 mv_W_hasSentence) rfl rfl rfl pd_W_hasSentence ⟨Nat.le_of_ble_eq_true rfl, Nat.le_of_ble_eq_true rfl⟩) rfl rfl (Nat.le_of_ble_eq_true rfl) d_W_opening_2 ⟨Nat.le_of_ble_eq_true rfl, Nat.le_of_ble_eq_true rfl⟩ ?_
  refine gw_if_eq (tgt := 17) C d_W_opening_5 (by decide) (fun c => ?_) (fun c => ?_)
  · have hf := (if_pos c).symm.trans hf
    refine gw_iconst (v := (0 : Int32)) C d_W_opening_17 (by decide) ?_
    exact gw_ireti C d_W_opening_18 (wc ad cI cZ cC) hf
  · have hf := (if_neg c).symm.trans hf
    refine gw_aload_n C 0 d_W_opening_8 rfl rfl ?_
    refine gw_get C in_W 11 wcg_11 clg_3 4 (by decide) tw_137 rfl rfl d_W_opening_9 ?_
    refine gw_iload_n C 1 d_W_opening_12 rfl rfl ?_
    obtain ⟨hb13, hf⟩ := gd_some hf
    refine gw_iald C 14 0 wcg_14 rfl hb13 d_W_opening_13 ?_
    refine gw_goto (tgt := 18) C d_W_opening_14 (by decide) ?_
    exact gw_ireti C d_W_opening_18 (wc ad cI cZ cC) hf
theorem c_W_opening (hZ : gw_ZOK Z) {x1 : Int32} {M : Mem} {r : Int32} {M' : Mem} (hf : f_W_opening x1 M = some (r, M')) : CW l y_W_opening ws_W_opening rm_W_opening D vwCl (tysW cI cZ cC) Z [.ref (ad 11), .int x1] (wc ad cI cZ cC M) (some (.int r)) (wc ad cI cZ cC M') 0 0 :=
  CW.ofG hZ (by decide) rfl (Nat.le_of_ble_eq_true rfl) (fun _ _ _ _ _ _ _ _ C _ => g_W_opening C hf)
abbrev b_W_firstCause : ByteArray := prog_5_method_4_code
def y_W_firstCause : MethodName := ⟨"NoneWords$Writer", "firstCause", "(I)I"⟩
abbrev ws_W_firstCause : List Cond := Cond.code y_W_firstCause b_W_firstCause 2 (some (FieldType.int)) :: TB
set_option maxRecDepth 100000 in
theorem tc_W_firstCause : Cond.code y_W_firstCause b_W_firstCause 2 (some (FieldType.int)) ∈ TB := inTB 431 rfl rfl
theorem mv_W_firstCause : Cond.instanceMethod y_W_firstCause ∈ TB ∧ Cond.selects "NoneWords$Writer" y_W_firstCause y_W_firstCause ∈ TB ∧ Cond.initialized "NoneWords$Writer" ∈ TB ∧ Cond.code y_W_firstCause b_W_firstCause 2 (some (FieldType.int)) ∈ TB := ⟨inTB 429 (by decide +kernel) (by decide +kernel), inTB 430 (by decide +kernel) (by decide +kernel), inTB 67 (by decide +kernel) (by decide +kernel), tc_W_firstCause⟩
theorem pd_W_firstCause : y_W_firstCause.cls = "NoneWords$Writer" ∧ y_W_firstCause.cls ≠ "java/lang/invoke/MethodHandle" ∧ y_W_firstCause.cls ≠ "java/lang/invoke/VarHandle" ∧ (parseMethodDescriptor y_W_firstCause.desc).map (fun d => d.parameters.length) = some 1 := by decide +kernel
theorem d_W_firstCause_0 : decode b_W_firstCause 0 = .ok (.aload_n 0, 1) := by decide +kernel
theorem d_W_firstCause_1 : decode b_W_firstCause 1 = .ok (.iload_n 1, 1) := by decide +kernel
theorem d_W_firstCause_2 : decode b_W_firstCause 2 = .ok (.invokevirtual 59, 3) := by decide +kernel
theorem d_W_firstCause_5 : decode b_W_firstCause 5 = .ok (.ifCond .eq 12, 3) := by decide +kernel
theorem d_W_firstCause_8 : decode b_W_firstCause 8 = .ok (.aload_n 0, 1) := by decide +kernel
theorem d_W_firstCause_9 : decode b_W_firstCause 9 = .ok (.getfield 25, 3) := by decide +kernel
theorem d_W_firstCause_12 : decode b_W_firstCause 12 = .ok (.iload_n 1, 1) := by decide +kernel
theorem d_W_firstCause_13 : decode b_W_firstCause 13 = .ok (.iaload, 1) := by decide +kernel
theorem d_W_firstCause_14 : decode b_W_firstCause 14 = .ok (.goto 4, 3) := by decide +kernel
theorem d_W_firstCause_17 : decode b_W_firstCause 17 = .ok (.iconst (-1), 1) := by decide +kernel
theorem d_W_firstCause_18 : decode b_W_firstCause 18 = .ok (.ireturn, 1) := by decide +kernel
abbrev rm_W_firstCause : Room := { frames := 1, cells := 0, slots := 0, locals := 21 }
def f_W_firstCause (x1 : Int32) (M : Mem) : Option (Int32 × Mem) :=
  ob (f_W_hasSentence x1 M) fun r2 M2 => if r2 = 0 then some ((-1 : Int32), M2) else gd (inb x1 120) (some (M2 15 x1.toNatClampNeg, M2))
set_option maxRecDepth 100000 in
theorem g_W_firstCause {r : Int32} {M' : Mem} (C : GC p s m args meth c b_W_firstCause 2 (some (FieldType.int)) "NoneWords$Writer" TB D vwCl (tysW cI cZ cC) A Z) {x1 : Int32} {M : Mem} (hf : f_W_firstCause x1 M = some (r, M')) : GW p l e rm_W_firstCause s m args below meth c (MQ below (QW D vwCl (tysW cI cZ cC) A (some (.int r)) (wc ad cI cZ cC M')) args s 0 0 A) D vwCl A 2 0 0 (wc ad cI cZ cC M) 0 [(0, .ref (ad 11)), (1, .int x1)] [] := by
  unfold f_W_firstCause at hf
  refine gw_aload_n C 0 d_W_firstCause_0 rfl rfl ?_
  refine gw_iload_n C 1 d_W_firstCause_1 rfl rfl ?_
  obtain ⟨r2, M2, hc2, hf⟩ := ob_some hf
  refine gw_callVr (rest := []) C 11 wcg_11 clg_3 (c_W_hasSentence C.2.2.2.2.2.2.2.2.2.2 hc2) (cwV 1 C.2.2.2.2.1 (gTB_V tw_432 mv_W_hasSentence) rfl rfl rfl pd_W_hasSentence ⟨Nat.le_of_ble_eq_true rfl, Nat.le_of_ble_eq_true rfl⟩) rfl rfl (Nat.le_of_ble_eq_true rfl) d_W_firstCause_2 ⟨Nat.le_of_ble_eq_true rfl, Nat.le_of_ble_eq_true rfl⟩ ?_
  refine gw_if_eq (tgt := 17) C d_W_firstCause_5 (by decide) (fun c => ?_) (fun c => ?_)
  · have hf := (if_pos c).symm.trans hf
    refine gw_iconst (v := (-1 : Int32)) C d_W_firstCause_17 (by decide) ?_
    exact gw_ireti C d_W_firstCause_18 (wc ad cI cZ cC) hf
  · have hf := (if_neg c).symm.trans hf
    refine gw_aload_n C 0 d_W_firstCause_8 rfl rfl ?_
    refine gw_get C in_W 11 wcg_11 clg_3 5 (by decide) tw_138 rfl rfl d_W_firstCause_9 ?_
    refine gw_iload_n C 1 d_W_firstCause_12 rfl rfl ?_
    obtain ⟨hb13, hf⟩ := gd_some hf
    refine gw_iald C 15 0 wcg_15 rfl hb13 d_W_firstCause_13 ?_
    refine gw_goto (tgt := 18) C d_W_firstCause_14 (by decide) ?_
    exact gw_ireti C d_W_firstCause_18 (wc ad cI cZ cC) hf
theorem c_W_firstCause (hZ : gw_ZOK Z) {x1 : Int32} {M : Mem} {r : Int32} {M' : Mem} (hf : f_W_firstCause x1 M = some (r, M')) : CW l y_W_firstCause ws_W_firstCause rm_W_firstCause D vwCl (tysW cI cZ cC) Z [.ref (ad 11), .int x1] (wc ad cI cZ cC M) (some (.int r)) (wc ad cI cZ cC M') 0 0 :=
  CW.ofG hZ (by decide) rfl (Nat.le_of_ble_eq_true rfl) (fun _ _ _ _ _ _ _ _ C _ => g_W_firstCause C hf)
abbrev b_W_secondCause : ByteArray := prog_5_method_5_code
def y_W_secondCause : MethodName := ⟨"NoneWords$Writer", "secondCause", "(I)I"⟩
abbrev ws_W_secondCause : List Cond := Cond.code y_W_secondCause b_W_secondCause 2 (some (FieldType.int)) :: TB
set_option maxRecDepth 100000 in
theorem tc_W_secondCause : Cond.code y_W_secondCause b_W_secondCause 2 (some (FieldType.int)) ∈ TB := inTB 436 rfl rfl
theorem mv_W_secondCause : Cond.instanceMethod y_W_secondCause ∈ TB ∧ Cond.selects "NoneWords$Writer" y_W_secondCause y_W_secondCause ∈ TB ∧ Cond.initialized "NoneWords$Writer" ∈ TB ∧ Cond.code y_W_secondCause b_W_secondCause 2 (some (FieldType.int)) ∈ TB := ⟨inTB 434 (by decide +kernel) (by decide +kernel), inTB 435 (by decide +kernel) (by decide +kernel), inTB 67 (by decide +kernel) (by decide +kernel), tc_W_secondCause⟩
theorem pd_W_secondCause : y_W_secondCause.cls = "NoneWords$Writer" ∧ y_W_secondCause.cls ≠ "java/lang/invoke/MethodHandle" ∧ y_W_secondCause.cls ≠ "java/lang/invoke/VarHandle" ∧ (parseMethodDescriptor y_W_secondCause.desc).map (fun d => d.parameters.length) = some 1 := by decide +kernel
theorem d_W_secondCause_0 : decode b_W_secondCause 0 = .ok (.aload_n 0, 1) := by decide +kernel
theorem d_W_secondCause_1 : decode b_W_secondCause 1 = .ok (.iload_n 1, 1) := by decide +kernel
theorem d_W_secondCause_2 : decode b_W_secondCause 2 = .ok (.invokevirtual 59, 3) := by decide +kernel
theorem d_W_secondCause_5 : decode b_W_secondCause 5 = .ok (.ifCond .eq 12, 3) := by decide +kernel
theorem d_W_secondCause_8 : decode b_W_secondCause 8 = .ok (.aload_n 0, 1) := by decide +kernel
theorem d_W_secondCause_9 : decode b_W_secondCause 9 = .ok (.getfield 28, 3) := by decide +kernel
theorem d_W_secondCause_12 : decode b_W_secondCause 12 = .ok (.iload_n 1, 1) := by decide +kernel
theorem d_W_secondCause_13 : decode b_W_secondCause 13 = .ok (.iaload, 1) := by decide +kernel
theorem d_W_secondCause_14 : decode b_W_secondCause 14 = .ok (.goto 4, 3) := by decide +kernel
theorem d_W_secondCause_17 : decode b_W_secondCause 17 = .ok (.iconst (-1), 1) := by decide +kernel
theorem d_W_secondCause_18 : decode b_W_secondCause 18 = .ok (.ireturn, 1) := by decide +kernel
abbrev rm_W_secondCause : Room := { frames := 1, cells := 0, slots := 0, locals := 21 }
def f_W_secondCause (x1 : Int32) (M : Mem) : Option (Int32 × Mem) :=
  ob (f_W_hasSentence x1 M) fun r2 M2 => if r2 = 0 then some ((-1 : Int32), M2) else gd (inb x1 120) (some (M2 16 x1.toNatClampNeg, M2))
set_option maxRecDepth 100000 in
theorem g_W_secondCause {r : Int32} {M' : Mem} (C : GC p s m args meth c b_W_secondCause 2 (some (FieldType.int)) "NoneWords$Writer" TB D vwCl (tysW cI cZ cC) A Z) {x1 : Int32} {M : Mem} (hf : f_W_secondCause x1 M = some (r, M')) : GW p l e rm_W_secondCause s m args below meth c (MQ below (QW D vwCl (tysW cI cZ cC) A (some (.int r)) (wc ad cI cZ cC M')) args s 0 0 A) D vwCl A 2 0 0 (wc ad cI cZ cC M) 0 [(0, .ref (ad 11)), (1, .int x1)] [] := by
  unfold f_W_secondCause at hf
  refine gw_aload_n C 0 d_W_secondCause_0 rfl rfl ?_
  refine gw_iload_n C 1 d_W_secondCause_1 rfl rfl ?_
  obtain ⟨r2, M2, hc2, hf⟩ := ob_some hf
  refine gw_callVr (rest := []) C 11 wcg_11 clg_3 (c_W_hasSentence C.2.2.2.2.2.2.2.2.2.2 hc2) (cwV 1 C.2.2.2.2.1 (gTB_V tw_432 mv_W_hasSentence) rfl rfl rfl pd_W_hasSentence ⟨Nat.le_of_ble_eq_true rfl, Nat.le_of_ble_eq_true rfl⟩) rfl rfl (Nat.le_of_ble_eq_true rfl) d_W_secondCause_2 ⟨Nat.le_of_ble_eq_true rfl, Nat.le_of_ble_eq_true rfl⟩ ?_
  refine gw_if_eq (tgt := 17) C d_W_secondCause_5 (by decide) (fun c => ?_) (fun c => ?_)
  · have hf := (if_pos c).symm.trans hf
    refine gw_iconst (v := (-1 : Int32)) C d_W_secondCause_17 (by decide) ?_
    exact gw_ireti C d_W_secondCause_18 (wc ad cI cZ cC) hf
  · have hf := (if_neg c).symm.trans hf
    refine gw_aload_n C 0 d_W_secondCause_8 rfl rfl ?_
    refine gw_get C in_W 11 wcg_11 clg_3 6 (by decide) tw_139 rfl rfl d_W_secondCause_9 ?_
    refine gw_iload_n C 1 d_W_secondCause_12 rfl rfl ?_
    obtain ⟨hb13, hf⟩ := gd_some hf
    refine gw_iald C 16 0 wcg_16 rfl hb13 d_W_secondCause_13 ?_
    refine gw_goto (tgt := 18) C d_W_secondCause_14 (by decide) ?_
    exact gw_ireti C d_W_secondCause_18 (wc ad cI cZ cC) hf
theorem c_W_secondCause (hZ : gw_ZOK Z) {x1 : Int32} {M : Mem} {r : Int32} {M' : Mem} (hf : f_W_secondCause x1 M = some (r, M')) : CW l y_W_secondCause ws_W_secondCause rm_W_secondCause D vwCl (tysW cI cZ cC) Z [.ref (ad 11), .int x1] (wc ad cI cZ cC M) (some (.int r)) (wc ad cI cZ cC M') 0 0 :=
  CW.ofG hZ (by decide) rfl (Nat.le_of_ble_eq_true rfl) (fun _ _ _ _ _ _ _ _ C _ => g_W_secondCause C hf)
abbrev b_W_conclusion : ByteArray := prog_5_method_6_code
def y_W_conclusion : MethodName := ⟨"NoneWords$Writer", "conclusion", "(I)I"⟩
abbrev ws_W_conclusion : List Cond := Cond.code y_W_conclusion b_W_conclusion 2 (some (FieldType.int)) :: TB
set_option maxRecDepth 100000 in
theorem tc_W_conclusion : Cond.code y_W_conclusion b_W_conclusion 2 (some (FieldType.int)) ∈ TB := inTB 580 rfl rfl
theorem mv_W_conclusion : Cond.instanceMethod y_W_conclusion ∈ TB ∧ Cond.selects "NoneWords$Writer" y_W_conclusion y_W_conclusion ∈ TB ∧ Cond.initialized "NoneWords$Writer" ∈ TB ∧ Cond.code y_W_conclusion b_W_conclusion 2 (some (FieldType.int)) ∈ TB := ⟨inTB 578 (by decide +kernel) (by decide +kernel), inTB 579 (by decide +kernel) (by decide +kernel), inTB 67 (by decide +kernel) (by decide +kernel), tc_W_conclusion⟩
theorem pd_W_conclusion : y_W_conclusion.cls = "NoneWords$Writer" ∧ y_W_conclusion.cls ≠ "java/lang/invoke/MethodHandle" ∧ y_W_conclusion.cls ≠ "java/lang/invoke/VarHandle" ∧ (parseMethodDescriptor y_W_conclusion.desc).map (fun d => d.parameters.length) = some 1 := by decide +kernel
theorem d_W_conclusion_0 : decode b_W_conclusion 0 = .ok (.aload_n 0, 1) := by decide +kernel
theorem d_W_conclusion_1 : decode b_W_conclusion 1 = .ok (.iload_n 1, 1) := by decide +kernel
theorem d_W_conclusion_2 : decode b_W_conclusion 2 = .ok (.invokevirtual 59, 3) := by decide +kernel
theorem d_W_conclusion_5 : decode b_W_conclusion 5 = .ok (.ifCond .eq 12, 3) := by decide +kernel
theorem d_W_conclusion_8 : decode b_W_conclusion 8 = .ok (.aload_n 0, 1) := by decide +kernel
theorem d_W_conclusion_9 : decode b_W_conclusion 9 = .ok (.getfield 31, 3) := by decide +kernel
theorem d_W_conclusion_12 : decode b_W_conclusion 12 = .ok (.iload_n 1, 1) := by decide +kernel
theorem d_W_conclusion_13 : decode b_W_conclusion 13 = .ok (.iaload, 1) := by decide +kernel
theorem d_W_conclusion_14 : decode b_W_conclusion 14 = .ok (.goto 4, 3) := by decide +kernel
theorem d_W_conclusion_17 : decode b_W_conclusion 17 = .ok (.iconst (-1), 1) := by decide +kernel
theorem d_W_conclusion_18 : decode b_W_conclusion 18 = .ok (.ireturn, 1) := by decide +kernel
abbrev rm_W_conclusion : Room := { frames := 1, cells := 0, slots := 0, locals := 21 }
def f_W_conclusion (x1 : Int32) (M : Mem) : Option (Int32 × Mem) :=
  ob (f_W_hasSentence x1 M) fun r2 M2 => if r2 = 0 then some ((-1 : Int32), M2) else gd (inb x1 120) (some (M2 17 x1.toNatClampNeg, M2))
set_option maxRecDepth 100000 in
theorem g_W_conclusion {r : Int32} {M' : Mem} (C : GC p s m args meth c b_W_conclusion 2 (some (FieldType.int)) "NoneWords$Writer" TB D vwCl (tysW cI cZ cC) A Z) {x1 : Int32} {M : Mem} (hf : f_W_conclusion x1 M = some (r, M')) : GW p l e rm_W_conclusion s m args below meth c (MQ below (QW D vwCl (tysW cI cZ cC) A (some (.int r)) (wc ad cI cZ cC M')) args s 0 0 A) D vwCl A 2 0 0 (wc ad cI cZ cC M) 0 [(0, .ref (ad 11)), (1, .int x1)] [] := by
  unfold f_W_conclusion at hf
  refine gw_aload_n C 0 d_W_conclusion_0 rfl rfl ?_
  refine gw_iload_n C 1 d_W_conclusion_1 rfl rfl ?_
  obtain ⟨r2, M2, hc2, hf⟩ := ob_some hf
  refine gw_callVr (rest := []) C 11 wcg_11 clg_3 (c_W_hasSentence C.2.2.2.2.2.2.2.2.2.2 hc2) (cwV 1 C.2.2.2.2.1 (gTB_V tw_432 mv_W_hasSentence) rfl rfl rfl pd_W_hasSentence ⟨Nat.le_of_ble_eq_true rfl, Nat.le_of_ble_eq_true rfl⟩) rfl rfl (Nat.le_of_ble_eq_true rfl) d_W_conclusion_2 ⟨Nat.le_of_ble_eq_true rfl, Nat.le_of_ble_eq_true rfl⟩ ?_
  refine gw_if_eq (tgt := 17) C d_W_conclusion_5 (by decide) (fun c => ?_) (fun c => ?_)
  · have hf := (if_pos c).symm.trans hf
    refine gw_iconst (v := (-1 : Int32)) C d_W_conclusion_17 (by decide) ?_
    exact gw_ireti C d_W_conclusion_18 (wc ad cI cZ cC) hf
  · have hf := (if_neg c).symm.trans hf
    refine gw_aload_n C 0 d_W_conclusion_8 rfl rfl ?_
    refine gw_get C in_W 11 wcg_11 clg_3 7 (by decide) tw_140 rfl rfl d_W_conclusion_9 ?_
    refine gw_iload_n C 1 d_W_conclusion_12 rfl rfl ?_
    obtain ⟨hb13, hf⟩ := gd_some hf
    refine gw_iald C 17 0 wcg_17 rfl hb13 d_W_conclusion_13 ?_
    refine gw_goto (tgt := 18) C d_W_conclusion_14 (by decide) ?_
    exact gw_ireti C d_W_conclusion_18 (wc ad cI cZ cC) hf
theorem c_W_conclusion (hZ : gw_ZOK Z) {x1 : Int32} {M : Mem} {r : Int32} {M' : Mem} (hf : f_W_conclusion x1 M = some (r, M')) : CW l y_W_conclusion ws_W_conclusion rm_W_conclusion D vwCl (tysW cI cZ cC) Z [.ref (ad 11), .int x1] (wc ad cI cZ cC M) (some (.int r)) (wc ad cI cZ cC M') 0 0 :=
  CW.ofG hZ (by decide) rfl (Nat.le_of_ble_eq_true rfl) (fun _ _ _ _ _ _ _ _ C _ => g_W_conclusion C hf)
abbrev b_W_numberOfSentence : ByteArray := prog_5_method_7_code
def y_W_numberOfSentence : MethodName := ⟨"NoneWords$Writer", "numberOfSentence", "(I)I"⟩
abbrev ws_W_numberOfSentence : List Cond := Cond.code y_W_numberOfSentence b_W_numberOfSentence 2 (some (FieldType.int)) :: TB
set_option maxRecDepth 100000 in
theorem tc_W_numberOfSentence : Cond.code y_W_numberOfSentence b_W_numberOfSentence 2 (some (FieldType.int)) ∈ TB := inTB 601 rfl rfl
theorem mv_W_numberOfSentence : Cond.instanceMethod y_W_numberOfSentence ∈ TB ∧ Cond.selects "NoneWords$Writer" y_W_numberOfSentence y_W_numberOfSentence ∈ TB ∧ Cond.initialized "NoneWords$Writer" ∈ TB ∧ Cond.code y_W_numberOfSentence b_W_numberOfSentence 2 (some (FieldType.int)) ∈ TB := ⟨inTB 599 (by decide +kernel) (by decide +kernel), inTB 600 (by decide +kernel) (by decide +kernel), inTB 67 (by decide +kernel) (by decide +kernel), tc_W_numberOfSentence⟩
theorem pd_W_numberOfSentence : y_W_numberOfSentence.cls = "NoneWords$Writer" ∧ y_W_numberOfSentence.cls ≠ "java/lang/invoke/MethodHandle" ∧ y_W_numberOfSentence.cls ≠ "java/lang/invoke/VarHandle" ∧ (parseMethodDescriptor y_W_numberOfSentence.desc).map (fun d => d.parameters.length) = some 1 := by decide +kernel
theorem d_W_numberOfSentence_0 : decode b_W_numberOfSentence 0 = .ok (.aload_n 0, 1) := by decide +kernel
theorem d_W_numberOfSentence_1 : decode b_W_numberOfSentence 1 = .ok (.iload_n 1, 1) := by decide +kernel
theorem d_W_numberOfSentence_2 : decode b_W_numberOfSentence 2 = .ok (.invokevirtual 59, 3) := by decide +kernel
theorem d_W_numberOfSentence_5 : decode b_W_numberOfSentence 5 = .ok (.ifCond .eq 12, 3) := by decide +kernel
theorem d_W_numberOfSentence_8 : decode b_W_numberOfSentence 8 = .ok (.aload_n 0, 1) := by decide +kernel
theorem d_W_numberOfSentence_9 : decode b_W_numberOfSentence 9 = .ok (.getfield 34, 3) := by decide +kernel
theorem d_W_numberOfSentence_12 : decode b_W_numberOfSentence 12 = .ok (.iload_n 1, 1) := by decide +kernel
theorem d_W_numberOfSentence_13 : decode b_W_numberOfSentence 13 = .ok (.iaload, 1) := by decide +kernel
theorem d_W_numberOfSentence_14 : decode b_W_numberOfSentence 14 = .ok (.goto 4, 3) := by decide +kernel
theorem d_W_numberOfSentence_17 : decode b_W_numberOfSentence 17 = .ok (.iconst 0, 1) := by decide +kernel
theorem d_W_numberOfSentence_18 : decode b_W_numberOfSentence 18 = .ok (.ireturn, 1) := by decide +kernel
abbrev rm_W_numberOfSentence : Room := { frames := 1, cells := 0, slots := 0, locals := 21 }
def f_W_numberOfSentence (x1 : Int32) (M : Mem) : Option (Int32 × Mem) :=
  ob (f_W_hasSentence x1 M) fun r2 M2 => if r2 = 0 then some ((0 : Int32), M2) else gd (inb x1 120) (some (M2 18 x1.toNatClampNeg, M2))
set_option maxRecDepth 100000 in
theorem g_W_numberOfSentence {r : Int32} {M' : Mem} (C : GC p s m args meth c b_W_numberOfSentence 2 (some (FieldType.int)) "NoneWords$Writer" TB D vwCl (tysW cI cZ cC) A Z) {x1 : Int32} {M : Mem} (hf : f_W_numberOfSentence x1 M = some (r, M')) : GW p l e rm_W_numberOfSentence s m args below meth c (MQ below (QW D vwCl (tysW cI cZ cC) A (some (.int r)) (wc ad cI cZ cC M')) args s 0 0 A) D vwCl A 2 0 0 (wc ad cI cZ cC M) 0 [(0, .ref (ad 11)), (1, .int x1)] [] := by
  unfold f_W_numberOfSentence at hf
  refine gw_aload_n C 0 d_W_numberOfSentence_0 rfl rfl ?_
  refine gw_iload_n C 1 d_W_numberOfSentence_1 rfl rfl ?_
  obtain ⟨r2, M2, hc2, hf⟩ := ob_some hf
  refine gw_callVr (rest := []) C 11 wcg_11 clg_3 (c_W_hasSentence C.2.2.2.2.2.2.2.2.2.2 hc2) (cwV 1 C.2.2.2.2.1 (gTB_V tw_432 mv_W_hasSentence) rfl rfl rfl pd_W_hasSentence ⟨Nat.le_of_ble_eq_true rfl, Nat.le_of_ble_eq_true rfl⟩) rfl rfl (Nat.le_of_ble_eq_true rfl) d_W_numberOfSentence_2 ⟨Nat.le_of_ble_eq_true rfl, Nat.le_of_ble_eq_true rfl⟩ ?_
  refine gw_if_eq (tgt := 17) C d_W_numberOfSentence_5 (by decide) (fun c => ?_) (fun c => ?_)
  · have hf := (if_pos c).symm.trans hf
    refine gw_iconst (v := (0 : Int32)) C d_W_numberOfSentence_17 (by decide) ?_
    exact gw_ireti C d_W_numberOfSentence_18 (wc ad cI cZ cC) hf
  · have hf := (if_neg c).symm.trans hf
    refine gw_aload_n C 0 d_W_numberOfSentence_8 rfl rfl ?_
    refine gw_get C in_W 11 wcg_11 clg_3 8 (by decide) tw_141 rfl rfl d_W_numberOfSentence_9 ?_
    refine gw_iload_n C 1 d_W_numberOfSentence_12 rfl rfl ?_
    obtain ⟨hb13, hf⟩ := gd_some hf
    refine gw_iald C 18 0 wcg_18 rfl hb13 d_W_numberOfSentence_13 ?_
    refine gw_goto (tgt := 18) C d_W_numberOfSentence_14 (by decide) ?_
    exact gw_ireti C d_W_numberOfSentence_18 (wc ad cI cZ cC) hf
theorem c_W_numberOfSentence (hZ : gw_ZOK Z) {x1 : Int32} {M : Mem} {r : Int32} {M' : Mem} (hf : f_W_numberOfSentence x1 M = some (r, M')) : CW l y_W_numberOfSentence ws_W_numberOfSentence rm_W_numberOfSentence D vwCl (tysW cI cZ cC) Z [.ref (ad 11), .int x1] (wc ad cI cZ cC M) (some (.int r)) (wc ad cI cZ cC M') 0 0 :=
  CW.ofG hZ (by decide) rfl (Nat.le_of_ble_eq_true rfl) (fun _ _ _ _ _ _ _ _ C _ => g_W_numberOfSentence C hf)
abbrev b_W_numberOfNode : ByteArray := prog_5_method_8_code
def y_W_numberOfNode : MethodName := ⟨"NoneWords$Writer", "numberOfNode", "(I)I"⟩
abbrev ws_W_numberOfNode : List Cond := Cond.code y_W_numberOfNode b_W_numberOfNode 2 (some (FieldType.int)) :: TB
set_option maxRecDepth 100000 in
theorem tc_W_numberOfNode : Cond.code y_W_numberOfNode b_W_numberOfNode 2 (some (FieldType.int)) ∈ TB := inTB 376 rfl rfl
theorem mv_W_numberOfNode : Cond.instanceMethod y_W_numberOfNode ∈ TB ∧ Cond.selects "NoneWords$Writer" y_W_numberOfNode y_W_numberOfNode ∈ TB ∧ Cond.initialized "NoneWords$Writer" ∈ TB ∧ Cond.code y_W_numberOfNode b_W_numberOfNode 2 (some (FieldType.int)) ∈ TB := ⟨inTB 374 (by decide +kernel) (by decide +kernel), inTB 375 (by decide +kernel) (by decide +kernel), inTB 67 (by decide +kernel) (by decide +kernel), tc_W_numberOfNode⟩
theorem pd_W_numberOfNode : y_W_numberOfNode.cls = "NoneWords$Writer" ∧ y_W_numberOfNode.cls ≠ "java/lang/invoke/MethodHandle" ∧ y_W_numberOfNode.cls ≠ "java/lang/invoke/VarHandle" ∧ (parseMethodDescriptor y_W_numberOfNode.desc).map (fun d => d.parameters.length) = some 1 := by decide +kernel
theorem d_W_numberOfNode_0 : decode b_W_numberOfNode 0 = .ok (.aload_n 0, 1) := by decide +kernel
theorem d_W_numberOfNode_1 : decode b_W_numberOfNode 1 = .ok (.getfield 55, 3) := by decide +kernel
theorem d_W_numberOfNode_4 : decode b_W_numberOfNode 4 = .ok (.iload_n 1, 1) := by decide +kernel
theorem d_W_numberOfNode_5 : decode b_W_numberOfNode 5 = .ok (.invokevirtual 63, 3) := by decide +kernel
theorem d_W_numberOfNode_8 : decode b_W_numberOfNode 8 = .ok (.ifCond .eq 12, 3) := by decide +kernel
theorem d_W_numberOfNode_11 : decode b_W_numberOfNode 11 = .ok (.aload_n 0, 1) := by decide +kernel
theorem d_W_numberOfNode_12 : decode b_W_numberOfNode 12 = .ok (.getfield 15, 3) := by decide +kernel
theorem d_W_numberOfNode_15 : decode b_W_numberOfNode 15 = .ok (.iload_n 1, 1) := by decide +kernel
theorem d_W_numberOfNode_16 : decode b_W_numberOfNode 16 = .ok (.iaload, 1) := by decide +kernel
theorem d_W_numberOfNode_17 : decode b_W_numberOfNode 17 = .ok (.goto 4, 3) := by decide +kernel
theorem d_W_numberOfNode_20 : decode b_W_numberOfNode 20 = .ok (.iconst 0, 1) := by decide +kernel
theorem d_W_numberOfNode_21 : decode b_W_numberOfNode 21 = .ok (.ireturn, 1) := by decide +kernel
abbrev rm_W_numberOfNode : Room := { frames := 1, cells := 0, slots := 0, locals := 21 }
def f_W_numberOfNode (x1 : Int32) (M : Mem) : Option (Int32 × Mem) :=
  ob (f_F_hasNode x1 M) fun r5 M5 => if r5 = 0 then some ((0 : Int32), M5) else gd (inb x1 120) (some (M5 13 x1.toNatClampNeg, M5))
set_option maxRecDepth 100000 in
theorem g_W_numberOfNode {r : Int32} {M' : Mem} (C : GC p s m args meth c b_W_numberOfNode 2 (some (FieldType.int)) "NoneWords$Writer" TB D vwCl (tysW cI cZ cC) A Z) {x1 : Int32} {M : Mem} (hf : f_W_numberOfNode x1 M = some (r, M')) : GW p l e rm_W_numberOfNode s m args below meth c (MQ below (QW D vwCl (tysW cI cZ cC) A (some (.int r)) (wc ad cI cZ cC M')) args s 0 0 A) D vwCl A 2 0 0 (wc ad cI cZ cC M) 0 [(0, .ref (ad 11)), (1, .int x1)] [] := by
  unfold f_W_numberOfNode at hf
  refine gw_aload_n C 0 d_W_numberOfNode_0 rfl rfl ?_
  refine gw_get C in_W 11 wcg_11 clg_3 0 (by decide) tw_133 rfl rfl d_W_numberOfNode_1 ?_
  refine gw_iload_n C 1 d_W_numberOfNode_4 rfl rfl ?_
  obtain ⟨r5, M5, hc5, hf⟩ := ob_some hf
  refine gw_callVr (rest := []) C 1 wcg_1 clg_0 (c_F_hasNode C.2.2.2.2.2.2.2.2.2.2 hc5) (cwV 1 C.2.2.2.2.1 (gTB_V tw_344 mv_F_hasNode) rfl rfl rfl pd_F_hasNode ⟨Nat.le_of_ble_eq_true rfl, Nat.le_of_ble_eq_true rfl⟩) rfl rfl (Nat.le_of_ble_eq_true rfl) d_W_numberOfNode_5 ⟨Nat.le_of_ble_eq_true rfl, Nat.le_of_ble_eq_true rfl⟩ ?_
  refine gw_if_eq (tgt := 20) C d_W_numberOfNode_8 (by decide) (fun c => ?_) (fun c => ?_)
  · have hf := (if_pos c).symm.trans hf
    refine gw_iconst (v := (0 : Int32)) C d_W_numberOfNode_20 (by decide) ?_
    exact gw_ireti C d_W_numberOfNode_21 (wc ad cI cZ cC) hf
  · have hf := (if_neg c).symm.trans hf
    refine gw_aload_n C 0 d_W_numberOfNode_11 rfl rfl ?_
    refine gw_get C in_W 11 wcg_11 clg_3 2 (by decide) tw_135 rfl rfl d_W_numberOfNode_12 ?_
    refine gw_iload_n C 1 d_W_numberOfNode_15 rfl rfl ?_
    obtain ⟨hb16, hf⟩ := gd_some hf
    refine gw_iald C 13 0 wcg_13 rfl hb16 d_W_numberOfNode_16 ?_
    refine gw_goto (tgt := 21) C d_W_numberOfNode_17 (by decide) ?_
    exact gw_ireti C d_W_numberOfNode_21 (wc ad cI cZ cC) hf
theorem c_W_numberOfNode (hZ : gw_ZOK Z) {x1 : Int32} {M : Mem} {r : Int32} {M' : Mem} (hf : f_W_numberOfNode x1 M = some (r, M')) : CW l y_W_numberOfNode ws_W_numberOfNode rm_W_numberOfNode D vwCl (tysW cI cZ cC) Z [.ref (ad 11), .int x1] (wc ad cI cZ cC M) (some (.int r)) (wc ad cI cZ cC M') 0 0 :=
  CW.ofG hZ (by decide) rfl (Nat.le_of_ble_eq_true rfl) (fun _ _ _ _ _ _ _ _ C _ => g_W_numberOfNode C hf)
abbrev b_W_countUse : ByteArray := prog_5_method_11_code
def y_W_countUse : MethodName := ⟨"NoneWords$Writer", "countUse", "(I)V"⟩
abbrev ws_W_countUse : List Cond := Cond.code y_W_countUse b_W_countUse 2 (none) :: TB
set_option maxRecDepth 100000 in
theorem tc_W_countUse : Cond.code y_W_countUse b_W_countUse 2 (none) ∈ TB := inTB 343 rfl rfl
theorem mv_W_countUse : Cond.instanceMethod y_W_countUse ∈ TB ∧ Cond.selects "NoneWords$Writer" y_W_countUse y_W_countUse ∈ TB ∧ Cond.initialized "NoneWords$Writer" ∈ TB ∧ Cond.code y_W_countUse b_W_countUse 2 (none) ∈ TB := ⟨inTB 342 (by decide +kernel) (by decide +kernel), inTB 2 (by decide +kernel) (by decide +kernel), inTB 67 (by decide +kernel) (by decide +kernel), tc_W_countUse⟩
theorem pd_W_countUse : y_W_countUse.cls = "NoneWords$Writer" ∧ y_W_countUse.cls ≠ "java/lang/invoke/MethodHandle" ∧ y_W_countUse.cls ≠ "java/lang/invoke/VarHandle" ∧ (parseMethodDescriptor y_W_countUse.desc).map (fun d => d.parameters.length) = some 1 := by decide +kernel
theorem d_W_countUse_0 : decode b_W_countUse 0 = .ok (.aload_n 0, 1) := by decide +kernel
theorem d_W_countUse_1 : decode b_W_countUse 1 = .ok (.getfield 55, 3) := by decide +kernel
theorem d_W_countUse_4 : decode b_W_countUse 4 = .ok (.iload_n 1, 1) := by decide +kernel
theorem d_W_countUse_5 : decode b_W_countUse 5 = .ok (.invokevirtual 63, 3) := by decide +kernel
theorem d_W_countUse_8 : decode b_W_countUse 8 = .ok (.ifCond .eq 13, 3) := by decide +kernel
theorem d_W_countUse_11 : decode b_W_countUse 11 = .ok (.aload_n 0, 1) := by decide +kernel
theorem d_W_countUse_12 : decode b_W_countUse 12 = .ok (.getfield 9, 3) := by decide +kernel
theorem d_W_countUse_15 : decode b_W_countUse 15 = .ok (.iload_n 1, 1) := by decide +kernel
theorem d_W_countUse_16 : decode b_W_countUse 16 = .ok (.dup2, 1) := by decide +kernel
theorem d_W_countUse_17 : decode b_W_countUse 17 = .ok (.iaload, 1) := by decide +kernel
theorem d_W_countUse_18 : decode b_W_countUse 18 = .ok (.iconst 1, 1) := by decide +kernel
theorem d_W_countUse_19 : decode b_W_countUse 19 = .ok (.iadd, 1) := by decide +kernel
theorem d_W_countUse_20 : decode b_W_countUse 20 = .ok (.iastore, 1) := by decide +kernel
theorem d_W_countUse_21 : decode b_W_countUse 21 = .ok (.return_, 1) := by decide +kernel
abbrev rm_W_countUse : Room := { frames := 1, cells := 0, slots := 0, locals := 21 }
def f_W_countUse (x1 : Int32) (M : Mem) : Option Mem :=
  ob (f_F_hasNode x1 M) fun r5 M5 => if r5 = 0 then some M5 else gd (inb x1 120) (gd (inb x1 120) (some (ms M5 12 x1.toNatClampNeg ((M5 12 x1.toNatClampNeg) + (1 : Int32)))))
set_option maxRecDepth 100000 in
theorem g_W_countUse {M' : Mem} (C : GC p s m args meth c b_W_countUse 2 (none) "NoneWords$Writer" TB D vwCl (tysW cI cZ cC) A Z) {x1 : Int32} {M : Mem} (hf : f_W_countUse x1 M = some M') : GW p l e rm_W_countUse s m args below meth c (MQ below (QW D vwCl (tysW cI cZ cC) A none (wc ad cI cZ cC M')) args s 0 0 A) D vwCl A 2 0 0 (wc ad cI cZ cC M) 0 [(0, .ref (ad 11)), (1, .int x1)] [] := by
  unfold f_W_countUse at hf
  refine gw_aload_n C 0 d_W_countUse_0 rfl rfl ?_
  refine gw_get C in_W 11 wcg_11 clg_3 0 (by decide) tw_133 rfl rfl d_W_countUse_1 ?_
  refine gw_iload_n C 1 d_W_countUse_4 rfl rfl ?_
  obtain ⟨r5, M5, hc5, hf⟩ := ob_some hf
  refine gw_callVr (rest := []) C 1 wcg_1 clg_0 (c_F_hasNode C.2.2.2.2.2.2.2.2.2.2 hc5) (cwV 1 C.2.2.2.2.1 (gTB_V tw_344 mv_F_hasNode) rfl rfl rfl pd_F_hasNode ⟨Nat.le_of_ble_eq_true rfl, Nat.le_of_ble_eq_true rfl⟩) rfl rfl (Nat.le_of_ble_eq_true rfl) d_W_countUse_5 ⟨Nat.le_of_ble_eq_true rfl, Nat.le_of_ble_eq_true rfl⟩ ?_
  refine gw_if_eq (tgt := 21) C d_W_countUse_8 (by decide) (fun c => ?_) (fun c => ?_)
  · have hf := (if_pos c).symm.trans hf
    exact gw_vreti C d_W_countUse_21 (wc ad cI cZ cC) hf
  · have hf := (if_neg c).symm.trans hf
    refine gw_aload_n C 0 d_W_countUse_11 rfl rfl ?_
    refine gw_get C in_W 11 wcg_11 clg_3 1 (by decide) tw_134 rfl rfl d_W_countUse_12 ?_
    refine gw_iload_n C 1 d_W_countUse_15 rfl rfl ?_
    refine gw_dup2 C d_W_countUse_16 rfl rfl ?_
    obtain ⟨hb17, hf⟩ := gd_some hf
    refine gw_iald C 12 0 wcg_12 rfl hb17 d_W_countUse_17 ?_
    refine gw_iconst (v := (1 : Int32)) C d_W_countUse_18 (by decide) ?_
    refine gw_iadd C d_W_countUse_19 ?_
    obtain ⟨hb20, hf⟩ := gd_some hf
    refine gw_iast C 12 0 wcg_12 rfl hb20 d_W_countUse_20 wca_12 ?_
    exact gw_vreti C d_W_countUse_21 (wc ad cI cZ cC) hf
theorem c_W_countUse (hZ : gw_ZOK Z) {x1 : Int32} {M : Mem} {M' : Mem} (hf : f_W_countUse x1 M = some M') : CW l y_W_countUse ws_W_countUse rm_W_countUse D vwCl (tysW cI cZ cC) Z [.ref (ad 11), .int x1] (wc ad cI cZ cC M) none (wc ad cI cZ cC M') 0 0 :=
  CW.ofG hZ (by decide) rfl (Nat.le_of_ble_eq_true rfl) (fun _ _ _ _ _ _ _ _ C _ => g_W_countUse C hf)
abbrev b_W_countUses : ByteArray := prog_5_method_10_code
def y_W_countUses : MethodName := ⟨"NoneWords$Writer", "countUses", "(I)V"⟩
abbrev ws_W_countUses : List Cond := Cond.code y_W_countUses b_W_countUses 3 (none) :: TB
set_option maxRecDepth 100000 in
theorem tc_W_countUses : Cond.code y_W_countUses b_W_countUses 3 (none) ∈ TB := inTB 335 rfl rfl
theorem mv_W_countUses : Cond.instanceMethod y_W_countUses ∈ TB ∧ Cond.selects "NoneWords$Writer" y_W_countUses y_W_countUses ∈ TB ∧ Cond.initialized "NoneWords$Writer" ∈ TB ∧ Cond.code y_W_countUses b_W_countUses 3 (none) ∈ TB := ⟨inTB 334 (by decide +kernel) (by decide +kernel), inTB 1 (by decide +kernel) (by decide +kernel), inTB 67 (by decide +kernel) (by decide +kernel), tc_W_countUses⟩
theorem pd_W_countUses : y_W_countUses.cls = "NoneWords$Writer" ∧ y_W_countUses.cls ≠ "java/lang/invoke/MethodHandle" ∧ y_W_countUses.cls ≠ "java/lang/invoke/VarHandle" ∧ (parseMethodDescriptor y_W_countUses.desc).map (fun d => d.parameters.length) = some 1 := by decide +kernel
theorem d_W_countUses_0 : decode b_W_countUses 0 = .ok (.aload_n 0, 1) := by decide +kernel
theorem d_W_countUses_1 : decode b_W_countUses 1 = .ok (.getfield 9, 3) := by decide +kernel
theorem d_W_countUses_4 : decode b_W_countUses 4 = .ok (.iconst 0, 1) := by decide +kernel
theorem d_W_countUses_5 : decode b_W_countUses 5 = .ok (.invokestatic 68, 3) := by decide +kernel
theorem d_W_countUses_8 : decode b_W_countUses 8 = .ok (.iload_n 1, 1) := by decide +kernel
theorem d_W_countUses_9 : decode b_W_countUses 9 = .ok (.istore_n 2, 1) := by decide +kernel
theorem d_W_countUses_10 : decode b_W_countUses 10 = .ok (.iload_n 2, 1) := by decide +kernel
theorem d_W_countUses_11 : decode b_W_countUses 11 = .ok (.ifCond .lt 47, 3) := by decide +kernel
theorem d_W_countUses_14 : decode b_W_countUses 14 = .ok (.iload_n 2, 1) := by decide +kernel
theorem d_W_countUses_15 : decode b_W_countUses 15 = .ok (.iload_n 1, 1) := by decide +kernel
theorem d_W_countUses_16 : decode b_W_countUses 16 = .ok (.if_icmp .eq 12, 3) := by decide +kernel
theorem d_W_countUses_19 : decode b_W_countUses 19 = .ok (.aload_n 0, 1) := by decide +kernel
theorem d_W_countUses_20 : decode b_W_countUses 20 = .ok (.getfield 9, 3) := by decide +kernel
theorem d_W_countUses_23 : decode b_W_countUses 23 = .ok (.iload_n 2, 1) := by decide +kernel
theorem d_W_countUses_24 : decode b_W_countUses 24 = .ok (.iaload, 1) := by decide +kernel
theorem d_W_countUses_25 : decode b_W_countUses 25 = .ok (.ifCond .le 27, 3) := by decide +kernel
theorem d_W_countUses_28 : decode b_W_countUses 28 = .ok (.aload_n 0, 1) := by decide +kernel
theorem d_W_countUses_29 : decode b_W_countUses 29 = .ok (.aload_n 0, 1) := by decide +kernel
theorem d_W_countUses_30 : decode b_W_countUses 30 = .ok (.getfield 55, 3) := by decide +kernel
theorem d_W_countUses_33 : decode b_W_countUses 33 = .ok (.iload_n 2, 1) := by decide +kernel
theorem d_W_countUses_34 : decode b_W_countUses 34 = .ok (.invokevirtual 92, 3) := by decide +kernel
theorem d_W_countUses_37 : decode b_W_countUses 37 = .ok (.invokevirtual 96, 3) := by decide +kernel
theorem d_W_countUses_40 : decode b_W_countUses 40 = .ok (.aload_n 0, 1) := by decide +kernel
theorem d_W_countUses_41 : decode b_W_countUses 41 = .ok (.aload_n 0, 1) := by decide +kernel
theorem d_W_countUses_42 : decode b_W_countUses 42 = .ok (.getfield 55, 3) := by decide +kernel
theorem d_W_countUses_45 : decode b_W_countUses 45 = .ok (.iload_n 2, 1) := by decide +kernel
theorem d_W_countUses_46 : decode b_W_countUses 46 = .ok (.invokevirtual 99, 3) := by decide +kernel
theorem d_W_countUses_49 : decode b_W_countUses 49 = .ok (.invokevirtual 96, 3) := by decide +kernel
theorem d_W_countUses_52 : decode b_W_countUses 52 = .ok (.iinc 2 (-1), 3) := by decide +kernel
theorem d_W_countUses_55 : decode b_W_countUses 55 = .ok (.goto (-45), 3) := by decide +kernel
theorem d_W_countUses_58 : decode b_W_countUses 58 = .ok (.return_, 1) := by decide +kernel
abbrev rm_W_countUses : Room := { frames := 2, cells := 0, slots := 0, locals := 42 }
def f_W_countUses_28 (k10 : Int32 → Int32 → Mem → Option Mem) (x1 : Int32) (x2 : Int32) (M : Mem) : Option Mem :=
  ob (f_F_leftPart x2 M) fun r34 M34 => om (f_W_countUse r34 M34) fun M37 => ob (f_F_rightPart x2 M37) fun r46 M46 => om (f_W_countUse r46 M46) fun M49 => k10 x1 (x2 + (-1 : Int32)) M49
set_option maxRecDepth 100000 in
theorem g_W_countUses_28 {M' : Mem} (C : GC p s m args meth c b_W_countUses 3 (none) "NoneWords$Writer" TB D vwCl (tysW cI cZ cC) A Z) {k10 : Int32 → Int32 → Mem → Option Mem} (hk10 : ∀ (x1 : Int32) (x2 : Int32) (M : Mem), k10 x1 x2 M = some M' → GW p l e rm_W_countUses s m args below meth c (MQ below (QW D vwCl (tysW cI cZ cC) A none (wc ad cI cZ cC M')) args s 0 0 A) D vwCl A 3 0 0 (wc ad cI cZ cC M) 10 [(0, .ref (ad 11)), (1, .int x1), (2, .int x2)] []) {x1 : Int32} {x2 : Int32} {M : Mem} (hf : f_W_countUses_28 k10 x1 x2 M = some M') : GW p l e rm_W_countUses s m args below meth c (MQ below (QW D vwCl (tysW cI cZ cC) A none (wc ad cI cZ cC M')) args s 0 0 A) D vwCl A 3 0 0 (wc ad cI cZ cC M) 28 [(0, .ref (ad 11)), (1, .int x1), (2, .int x2)] [] := by
  unfold f_W_countUses_28 at hf
  refine gw_aload_n C 0 d_W_countUses_28 rfl rfl ?_
  refine gw_aload_n C 0 d_W_countUses_29 rfl rfl ?_
  refine gw_get C in_W 11 wcg_11 clg_3 0 (by decide) tw_133 rfl rfl d_W_countUses_30 ?_
  refine gw_iload_n C 2 d_W_countUses_33 rfl rfl ?_
  obtain ⟨r34, M34, hc34, hf⟩ := ob_some hf
  refine gw_callVr (rest := [.ref (ad 11)]) C 1 wcg_1 clg_0 (c_F_leftPart C.2.2.2.2.2.2.2.2.2.2 hc34) (cwV 1 C.2.2.2.2.1 (gTB_V tw_336 mv_F_leftPart) rfl rfl rfl pd_F_leftPart ⟨Nat.le_of_ble_eq_true rfl, Nat.le_of_ble_eq_true rfl⟩) rfl rfl (Nat.le_of_ble_eq_true rfl) d_W_countUses_34 ⟨Nat.le_of_ble_eq_true rfl, Nat.le_of_ble_eq_true rfl⟩ ?_
  obtain ⟨M37, hc37, hf⟩ := om_some hf
  refine gw_callVv (rest := []) C 11 wcg_11 clg_3 (c_W_countUse C.2.2.2.2.2.2.2.2.2.2 hc37) (cwV 1 C.2.2.2.2.1 (gTB_V tw_340 mv_W_countUse) rfl rfl rfl pd_W_countUse ⟨Nat.le_of_ble_eq_true rfl, Nat.le_of_ble_eq_true rfl⟩) rfl rfl (Nat.le_of_ble_eq_true rfl) d_W_countUses_37 ⟨Nat.le_of_ble_eq_true rfl, Nat.le_of_ble_eq_true rfl⟩ ?_
  refine gw_aload_n C 0 d_W_countUses_40 rfl rfl ?_
  refine gw_aload_n C 0 d_W_countUses_41 rfl rfl ?_
  refine gw_get C in_W 11 wcg_11 clg_3 0 (by decide) tw_133 rfl rfl d_W_countUses_42 ?_
  refine gw_iload_n C 2 d_W_countUses_45 rfl rfl ?_
  obtain ⟨r46, M46, hc46, hf⟩ := ob_some hf
  refine gw_callVr (rest := [.ref (ad 11)]) C 1 wcg_1 clg_0 (c_F_rightPart C.2.2.2.2.2.2.2.2.2.2 hc46) (cwV 1 C.2.2.2.2.1 (gTB_V tw_345 mv_F_rightPart) rfl rfl rfl pd_F_rightPart ⟨Nat.le_of_ble_eq_true rfl, Nat.le_of_ble_eq_true rfl⟩) rfl rfl (Nat.le_of_ble_eq_true rfl) d_W_countUses_46 ⟨Nat.le_of_ble_eq_true rfl, Nat.le_of_ble_eq_true rfl⟩ ?_
  obtain ⟨M49, hc49, hf⟩ := om_some hf
  refine gw_callVv (rest := []) C 11 wcg_11 clg_3 (c_W_countUse C.2.2.2.2.2.2.2.2.2.2 hc49) (cwV 1 C.2.2.2.2.1 (gTB_V tw_340 mv_W_countUse) rfl rfl rfl pd_W_countUse ⟨Nat.le_of_ble_eq_true rfl, Nat.le_of_ble_eq_true rfl⟩) rfl rfl (Nat.le_of_ble_eq_true rfl) d_W_countUses_49 ⟨Nat.le_of_ble_eq_true rfl, Nat.le_of_ble_eq_true rfl⟩ ?_
  refine gw_iinc (v := x2 + (-1 : Int32)) (lv' := [(2, .int (x2 + (-1 : Int32))), (0, .ref (ad 11)), (1, .int x1)]) C 2 d_W_countUses_52 rfl rfl (by decide) rfl ?_
  refine gw_goto (tgt := 10) C d_W_countUses_55 (by decide) ?_
  exact gw_sub [1, 2, 0] rfl (hk10 _ _ _ hf)
def f_W_countUses_10 : Nat → Int32 → Int32 → Mem → Option Mem
  | 0, _, _, _ => none
  | n + 1, x1, x2, M => if x2 < 0 then some M else if x2 = x1 then f_W_countUses_28 (f_W_countUses_10 n) x1 x2 M else gd (inb x2 120) (if (M 12 x2.toNatClampNeg) ≤ 0 then (f_W_countUses_10 n) x1 (x2 + (-1 : Int32)) M else f_W_countUses_28 (f_W_countUses_10 n) x1 x2 M)
set_option maxRecDepth 100000 in
theorem g_W_countUses_10 {M' : Mem} (C : GC p s m args meth c b_W_countUses 3 (none) "NoneWords$Writer" TB D vwCl (tysW cI cZ cC) A Z) : ∀ (n : Nat) (x1 : Int32) (x2 : Int32) (M : Mem), f_W_countUses_10 n x1 x2 M = some M' → GW p l e rm_W_countUses s m args below meth c (MQ below (QW D vwCl (tysW cI cZ cC) A none (wc ad cI cZ cC M')) args s 0 0 A) D vwCl A 3 0 0 (wc ad cI cZ cC M) 10 [(0, .ref (ad 11)), (1, .int x1), (2, .int x2)] [] := by
  intro n
  induction n with
  | zero => intro _ _ _ hf; cases hf
  | succ n ih =>
    intro x1 x2 M hf
    rw [f_W_countUses_10] at hf
    refine gw_iload_n C 2 d_W_countUses_10 rfl rfl ?_
    refine gw_if_lt (tgt := 58) C d_W_countUses_11 (by decide) (fun c => ?_) (fun c => ?_)
    · have hf := (if_pos c).symm.trans hf
      exact gw_vreti C d_W_countUses_58 (wc ad cI cZ cC) hf
    · have hf := (if_neg c).symm.trans hf
      refine gw_iload_n C 2 d_W_countUses_14 rfl rfl ?_
      refine gw_iload_n C 1 d_W_countUses_15 rfl rfl ?_
      refine gw_icmp_eq (tgt := 28) C d_W_countUses_16 (by decide) (fun c => ?_) (fun c => ?_)
      · have hf := (if_pos c).symm.trans hf
        exact gw_sub [0, 1, 2] rfl (g_W_countUses_28 C ih hf)
      · have hf := (if_neg c).symm.trans hf
        refine gw_aload_n C 0 d_W_countUses_19 rfl rfl ?_
        refine gw_get C in_W 11 wcg_11 clg_3 1 (by decide) tw_134 rfl rfl d_W_countUses_20 ?_
        refine gw_iload_n C 2 d_W_countUses_23 rfl rfl ?_
        obtain ⟨hb24, hf⟩ := gd_some hf
        refine gw_iald C 12 0 wcg_12 rfl hb24 d_W_countUses_24 ?_
        refine gw_if_le (tgt := 52) C d_W_countUses_25 (by decide) (fun c => ?_) (fun c => ?_)
        · have hf := (if_pos c).symm.trans hf
          refine gw_iinc (v := x2 + (-1 : Int32)) (lv' := [(2, .int (x2 + (-1 : Int32))), (0, .ref (ad 11)), (1, .int x1)]) C 2 d_W_countUses_52 rfl rfl (by decide) rfl ?_
          refine gw_goto (tgt := 10) C d_W_countUses_55 (by decide) ?_
          exact gw_sub [1, 2, 0] rfl (ih _ _ _ hf)
        · have hf := (if_neg c).symm.trans hf
          exact gw_sub [0, 1, 2] rfl (g_W_countUses_28 C ih hf)
def f_W_countUses (x1 : Int32) (M : Mem) : Option Mem :=
  f_W_countUses_10 1000 x1 x1 (mf M 12 120 (0 : Int32))
set_option maxRecDepth 100000 in
theorem g_W_countUses {M' : Mem} (C : GC p s m args meth c b_W_countUses 3 (none) "NoneWords$Writer" TB D vwCl (tysW cI cZ cC) A Z) {x1 : Int32} {M : Mem} (hf : f_W_countUses x1 M = some M') : GW p l e rm_W_countUses s m args below meth c (MQ below (QW D vwCl (tysW cI cZ cC) A none (wc ad cI cZ cC M')) args s 0 0 A) D vwCl A 3 0 0 (wc ad cI cZ cC M) 0 [(0, .ref (ad 11)), (1, .int x1)] [] := by
  unfold f_W_countUses at hf
  refine gw_aload_n C 0 d_W_countUses_0 rfl rfl ?_
  refine gw_get C in_W 11 wcg_11 clg_3 1 (by decide) tw_134 rfl rfl d_W_countUses_1 ?_
  refine gw_iconst (v := (0 : Int32)) C d_W_countUses_4 (by decide) ?_
  refine gw_callSv (rest := []) C (c_A_fill C.2.2.2.2.2.2.2.2.2.2 12 0 wcg_12 rfl (by decide) wcz_12) (va_cwS 2 C.2.2.2.2.1 (gTB_vS rfl tw_331 mv_A_fill) rfl rfl rfl pd_A_fill.2 ⟨Nat.le_of_ble_eq_true rfl, Nat.le_of_ble_eq_true rfl⟩) rfl rfl (Nat.le_of_ble_eq_true rfl) d_W_countUses_5 ⟨Nat.le_of_ble_eq_true rfl, Nat.le_of_ble_eq_true rfl⟩ ?_
  refine gw_iload_n C 1 d_W_countUses_8 rfl rfl ?_
  refine gw_istore_n (lv' := [(2, .int x1), (0, .ref (ad 11)), (1, .int x1)]) C d_W_countUses_9 rfl (by decide) rfl ?_
  exact gw_sub [1, 2, 0] rfl (g_W_countUses_10 C _ _ _ _ hf)
theorem c_W_countUses (hZ : gw_ZOK Z) {x1 : Int32} {M : Mem} {M' : Mem} (hf : f_W_countUses x1 M = some M') : CW l y_W_countUses ws_W_countUses rm_W_countUses D vwCl (tysW cI cZ cC) Z [.ref (ad 11), .int x1] (wc ad cI cZ cC M) none (wc ad cI cZ cC M') 0 0 :=
  CW.ofG hZ (by decide) rfl (Nat.le_of_ble_eq_true rfl) (fun _ _ _ _ _ _ _ _ C _ => g_W_countUses C hf)
abbrev b_W_await : ByteArray := prog_5_method_12_code
def y_W_await : MethodName := ⟨"NoneWords$Writer", "await", "(IIII)V"⟩
abbrev ws_W_await : List Cond := Cond.code y_W_await b_W_await 5 (none) :: TB
set_option maxRecDepth 100000 in
theorem tc_W_await : Cond.code y_W_await b_W_await 5 (none) ∈ TB := inTB 352 rfl rfl
theorem mv_W_await : Cond.instanceMethod y_W_await ∈ TB ∧ Cond.selects "NoneWords$Writer" y_W_await y_W_await ∈ TB ∧ Cond.initialized "NoneWords$Writer" ∈ TB ∧ Cond.code y_W_await b_W_await 5 (none) ∈ TB := ⟨inTB 351 (by decide +kernel) (by decide +kernel), inTB 3 (by decide +kernel) (by decide +kernel), inTB 67 (by decide +kernel) (by decide +kernel), tc_W_await⟩
theorem pd_W_await : y_W_await.cls = "NoneWords$Writer" ∧ y_W_await.cls ≠ "java/lang/invoke/MethodHandle" ∧ y_W_await.cls ≠ "java/lang/invoke/VarHandle" ∧ (parseMethodDescriptor y_W_await.desc).map (fun d => d.parameters.length) = some 4 := by decide +kernel
theorem d_W_await_0 : decode b_W_await 0 = .ok (.aload_n 0, 1) := by decide +kernel
theorem d_W_await_1 : decode b_W_await 1 = .ok (.getfield 52, 3) := by decide +kernel
theorem d_W_await_4 : decode b_W_await 4 = .ok (.bipush 121, 2) := by decide +kernel
theorem d_W_await_6 : decode b_W_await 6 = .ok (.if_icmp .ge 54, 3) := by decide +kernel
theorem d_W_await_9 : decode b_W_await 9 = .ok (.aload_n 0, 1) := by decide +kernel
theorem d_W_await_10 : decode b_W_await 10 = .ok (.getfield 40, 3) := by decide +kernel
theorem d_W_await_13 : decode b_W_await 13 = .ok (.aload_n 0, 1) := by decide +kernel
theorem d_W_await_14 : decode b_W_await 14 = .ok (.getfield 52, 3) := by decide +kernel
theorem d_W_await_17 : decode b_W_await 17 = .ok (.iload_n 1, 1) := by decide +kernel
theorem d_W_await_18 : decode b_W_await 18 = .ok (.iastore, 1) := by decide +kernel
theorem d_W_await_19 : decode b_W_await 19 = .ok (.aload_n 0, 1) := by decide +kernel
theorem d_W_await_20 : decode b_W_await 20 = .ok (.getfield 43, 3) := by decide +kernel
theorem d_W_await_23 : decode b_W_await 23 = .ok (.aload_n 0, 1) := by decide +kernel
theorem d_W_await_24 : decode b_W_await 24 = .ok (.getfield 52, 3) := by decide +kernel
theorem d_W_await_27 : decode b_W_await 27 = .ok (.iload_n 2, 1) := by decide +kernel
theorem d_W_await_28 : decode b_W_await 28 = .ok (.iastore, 1) := by decide +kernel
theorem d_W_await_29 : decode b_W_await 29 = .ok (.aload_n 0, 1) := by decide +kernel
theorem d_W_await_30 : decode b_W_await 30 = .ok (.getfield 46, 3) := by decide +kernel
theorem d_W_await_33 : decode b_W_await 33 = .ok (.aload_n 0, 1) := by decide +kernel
theorem d_W_await_34 : decode b_W_await 34 = .ok (.getfield 52, 3) := by decide +kernel
theorem d_W_await_37 : decode b_W_await 37 = .ok (.iload_n 3, 1) := by decide +kernel
theorem d_W_await_38 : decode b_W_await 38 = .ok (.iastore, 1) := by decide +kernel
theorem d_W_await_39 : decode b_W_await 39 = .ok (.aload_n 0, 1) := by decide +kernel
theorem d_W_await_40 : decode b_W_await 40 = .ok (.getfield 49, 3) := by decide +kernel
theorem d_W_await_43 : decode b_W_await 43 = .ok (.aload_n 0, 1) := by decide +kernel
theorem d_W_await_44 : decode b_W_await 44 = .ok (.getfield 52, 3) := by decide +kernel
theorem d_W_await_47 : decode b_W_await 47 = .ok (.iload 4, 2) := by decide +kernel
theorem d_W_await_49 : decode b_W_await 49 = .ok (.iastore, 1) := by decide +kernel
theorem d_W_await_50 : decode b_W_await 50 = .ok (.aload_n 0, 1) := by decide +kernel
theorem d_W_await_51 : decode b_W_await 51 = .ok (.dup, 1) := by decide +kernel
theorem d_W_await_52 : decode b_W_await 52 = .ok (.getfield 52, 3) := by decide +kernel
theorem d_W_await_55 : decode b_W_await 55 = .ok (.iconst 1, 1) := by decide +kernel
theorem d_W_await_56 : decode b_W_await 56 = .ok (.iadd, 1) := by decide +kernel
theorem d_W_await_57 : decode b_W_await 57 = .ok (.putfield 52, 3) := by decide +kernel
theorem d_W_await_60 : decode b_W_await 60 = .ok (.return_, 1) := by decide +kernel
abbrev rm_W_await : Room := { frames := 0, cells := 0, slots := 0, locals := 0 }
def f_W_await (x1 : Int32) (x2 : Int32) (x3 : Int32) (x4 : Int32) (M : Mem) : Option Mem :=
  if (121 : Int32) ≤ (M 11 14) then some M else gd (inb (M 11 14) 121) (gd (inb ((ms M 19 (M 11 14).toNatClampNeg x1) 11 14) 121) (gd (inb ((ms (ms M 19 (M 11 14).toNatClampNeg x1) 20 ((ms M 19 (M 11 14).toNatClampNeg x1) 11 14).toNatClampNeg x2) 11 14) 121) (gd (inb ((ms (ms (ms M 19 (M 11 14).toNatClampNeg x1) 20 ((ms M 19 (M 11 14).toNatClampNeg x1) 11 14).toNatClampNeg x2) 21 ((ms (ms M 19 (M 11 14).toNatClampNeg x1) 20 ((ms M 19 (M 11 14).toNatClampNeg x1) 11 14).toNatClampNeg x2) 11 14).toNatClampNeg x3) 11 14) 121) (some (ms (ms (ms (ms (ms M 19 (M 11 14).toNatClampNeg x1) 20 ((ms M 19 (M 11 14).toNatClampNeg x1) 11 14).toNatClampNeg x2) 21 ((ms (ms M 19 (M 11 14).toNatClampNeg x1) 20 ((ms M 19 (M 11 14).toNatClampNeg x1) 11 14).toNatClampNeg x2) 11 14).toNatClampNeg x3) 22 ((ms (ms (ms M 19 (M 11 14).toNatClampNeg x1) 20 ((ms M 19 (M 11 14).toNatClampNeg x1) 11 14).toNatClampNeg x2) 21 ((ms (ms M 19 (M 11 14).toNatClampNeg x1) 20 ((ms M 19 (M 11 14).toNatClampNeg x1) 11 14).toNatClampNeg x2) 11 14).toNatClampNeg x3) 11 14).toNatClampNeg x4) 11 14 (((ms (ms (ms (ms M 19 (M 11 14).toNatClampNeg x1) 20 ((ms M 19 (M 11 14).toNatClampNeg x1) 11 14).toNatClampNeg x2) 21 ((ms (ms M 19 (M 11 14).toNatClampNeg x1) 20 ((ms M 19 (M 11 14).toNatClampNeg x1) 11 14).toNatClampNeg x2) 11 14).toNatClampNeg x3) 22 ((ms (ms (ms M 19 (M 11 14).toNatClampNeg x1) 20 ((ms M 19 (M 11 14).toNatClampNeg x1) 11 14).toNatClampNeg x2) 21 ((ms (ms M 19 (M 11 14).toNatClampNeg x1) 20 ((ms M 19 (M 11 14).toNatClampNeg x1) 11 14).toNatClampNeg x2) 11 14).toNatClampNeg x3) 11 14).toNatClampNeg x4) 11 14) + (1 : Int32)))))))
set_option maxRecDepth 100000 in
theorem g_W_await {M' : Mem} (C : GC p s m args meth c b_W_await 5 (none) "NoneWords$Writer" TB D vwCl (tysW cI cZ cC) A Z) {x1 : Int32} {x2 : Int32} {x3 : Int32} {x4 : Int32} {M : Mem} (hf : f_W_await x1 x2 x3 x4 M = some M') : GW p l e rm_W_await s m args below meth c (MQ below (QW D vwCl (tysW cI cZ cC) A none (wc ad cI cZ cC M')) args s 0 0 A) D vwCl A 5 0 0 (wc ad cI cZ cC M) 0 [(0, .ref (ad 11)), (1, .int x1), (2, .int x2), (3, .int x3), (4, .int x4)] [] := by
  unfold f_W_await at hf
  refine gw_aload_n C 0 d_W_await_0 rfl rfl ?_
  refine gw_get C in_W 11 wcg_11 clg_3 14 (by decide) tw_147 rfl rfl d_W_await_1 ?_
  refine gw_bipush (v := (121 : Int32)) C d_W_await_4 (by decide) ?_
  refine gw_icmp_ge (tgt := 60) C d_W_await_6 (by decide) (fun c => ?_) (fun c => ?_)
  · have hf := (if_pos c).symm.trans hf
    exact gw_vreti C d_W_await_60 (wc ad cI cZ cC) hf
  · have hf := (if_neg c).symm.trans hf
    refine gw_aload_n C 0 d_W_await_9 rfl rfl ?_
    refine gw_get C in_W 11 wcg_11 clg_3 10 (by decide) tw_143 rfl rfl d_W_await_10 ?_
    refine gw_aload_n C 0 d_W_await_13 rfl rfl ?_
    refine gw_get C in_W 11 wcg_11 clg_3 14 (by decide) tw_147 rfl rfl d_W_await_14 ?_
    refine gw_iload_n C 1 d_W_await_17 rfl rfl ?_
    obtain ⟨hb18, hf⟩ := gd_some hf
    refine gw_iast C 19 0 wcg_19 rfl hb18 d_W_await_18 wca_19 ?_
    refine gw_aload_n C 0 d_W_await_19 rfl rfl ?_
    refine gw_get C in_W 11 wcg_11 clg_3 11 (by decide) tw_144 rfl rfl d_W_await_20 ?_
    refine gw_aload_n C 0 d_W_await_23 rfl rfl ?_
    refine gw_get C in_W 11 wcg_11 clg_3 14 (by decide) tw_147 rfl rfl d_W_await_24 ?_
    refine gw_iload_n C 2 d_W_await_27 rfl rfl ?_
    obtain ⟨hb28, hf⟩ := gd_some hf
    refine gw_iast C 20 0 wcg_20 rfl hb28 d_W_await_28 wca_20 ?_
    refine gw_aload_n C 0 d_W_await_29 rfl rfl ?_
    refine gw_get C in_W 11 wcg_11 clg_3 12 (by decide) tw_145 rfl rfl d_W_await_30 ?_
    refine gw_aload_n C 0 d_W_await_33 rfl rfl ?_
    refine gw_get C in_W 11 wcg_11 clg_3 14 (by decide) tw_147 rfl rfl d_W_await_34 ?_
    refine gw_iload_n C 3 d_W_await_37 rfl rfl ?_
    obtain ⟨hb38, hf⟩ := gd_some hf
    refine gw_iast C 21 0 wcg_21 rfl hb38 d_W_await_38 wca_21 ?_
    refine gw_aload_n C 0 d_W_await_39 rfl rfl ?_
    refine gw_get C in_W 11 wcg_11 clg_3 13 (by decide) tw_146 rfl rfl d_W_await_40 ?_
    refine gw_aload_n C 0 d_W_await_43 rfl rfl ?_
    refine gw_get C in_W 11 wcg_11 clg_3 14 (by decide) tw_147 rfl rfl d_W_await_44 ?_
    refine gw_iload C 4 d_W_await_47 rfl ?_
    obtain ⟨hb49, hf⟩ := gd_some hf
    refine gw_iast C 22 0 wcg_22 rfl hb49 d_W_await_49 wca_22 ?_
    refine gw_aload_n C 0 d_W_await_50 rfl rfl ?_
    refine gw_dup C d_W_await_51 rfl ?_
    refine gw_get C in_W 11 wcg_11 clg_3 14 (by decide) tw_147 rfl rfl d_W_await_52 ?_
    refine gw_iconst (v := (1 : Int32)) C d_W_await_55 (by decide) ?_
    refine gw_iadd C d_W_await_56 ?_
    refine gw_put C in_W ty_W tk_W nm_W 11 wcg_11 clg_3 14 (by decide) tw_147 rfl rfl rfl rfl (Nat.le_of_ble_eq_true rfl) d_W_await_57 wcf_11_14 ?_
    exact gw_vreti C d_W_await_60 (wc ad cI cZ cC) hf
theorem c_W_await (hZ : gw_ZOK Z) {x1 : Int32} {x2 : Int32} {x3 : Int32} {x4 : Int32} {M : Mem} {M' : Mem} (hf : f_W_await x1 x2 x3 x4 M = some M') : CW l y_W_await ws_W_await rm_W_await D vwCl (tysW cI cZ cC) Z [.ref (ad 11), .int x1, .int x2, .int x3, .int x4] (wc ad cI cZ cC M) none (wc ad cI cZ cC M') 0 0 :=
  CW.ofG hZ (by decide) rfl (Nat.le_of_ble_eq_true rfl) (fun _ _ _ _ _ _ _ _ C _ => g_W_await C hf)
abbrev b_W_say : ByteArray := prog_5_method_18_code
def y_W_say : MethodName := ⟨"NoneWords$Writer", "say", "(IIII)V"⟩
abbrev ws_W_say : List Cond := Cond.code y_W_say b_W_say 5 (none) :: TB
set_option maxRecDepth 100000 in
theorem tc_W_say : Cond.code y_W_say b_W_say 5 (none) ∈ TB := inTB 364 rfl rfl
theorem mv_W_say : Cond.instanceMethod y_W_say ∈ TB ∧ Cond.selects "NoneWords$Writer" y_W_say y_W_say ∈ TB ∧ Cond.initialized "NoneWords$Writer" ∈ TB ∧ Cond.code y_W_say b_W_say 5 (none) ∈ TB := ⟨inTB 363 (by decide +kernel) (by decide +kernel), inTB 5 (by decide +kernel) (by decide +kernel), inTB 67 (by decide +kernel) (by decide +kernel), tc_W_say⟩
theorem pd_W_say : y_W_say.cls = "NoneWords$Writer" ∧ y_W_say.cls ≠ "java/lang/invoke/MethodHandle" ∧ y_W_say.cls ≠ "java/lang/invoke/VarHandle" ∧ (parseMethodDescriptor y_W_say.desc).map (fun d => d.parameters.length) = some 4 := by decide +kernel
theorem d_W_say_0 : decode b_W_say 0 = .ok (.aload_n 0, 1) := by decide +kernel
theorem d_W_say_1 : decode b_W_say 1 = .ok (.getfield 37, 3) := by decide +kernel
theorem d_W_say_4 : decode b_W_say 4 = .ok (.bipush 120, 2) := by decide +kernel
theorem d_W_say_6 : decode b_W_say 6 = .ok (.if_icmp .ge 64, 3) := by decide +kernel
theorem d_W_say_9 : decode b_W_say 9 = .ok (.aload_n 0, 1) := by decide +kernel
theorem d_W_say_10 : decode b_W_say 10 = .ok (.getfield 22, 3) := by decide +kernel
theorem d_W_say_13 : decode b_W_say 13 = .ok (.aload_n 0, 1) := by decide +kernel
theorem d_W_say_14 : decode b_W_say 14 = .ok (.getfield 37, 3) := by decide +kernel
theorem d_W_say_17 : decode b_W_say 17 = .ok (.iload_n 1, 1) := by decide +kernel
theorem d_W_say_18 : decode b_W_say 18 = .ok (.iastore, 1) := by decide +kernel
theorem d_W_say_19 : decode b_W_say 19 = .ok (.aload_n 0, 1) := by decide +kernel
theorem d_W_say_20 : decode b_W_say 20 = .ok (.getfield 25, 3) := by decide +kernel
theorem d_W_say_23 : decode b_W_say 23 = .ok (.aload_n 0, 1) := by decide +kernel
theorem d_W_say_24 : decode b_W_say 24 = .ok (.getfield 37, 3) := by decide +kernel
theorem d_W_say_27 : decode b_W_say 27 = .ok (.iload_n 2, 1) := by decide +kernel
theorem d_W_say_28 : decode b_W_say 28 = .ok (.iastore, 1) := by decide +kernel
theorem d_W_say_29 : decode b_W_say 29 = .ok (.aload_n 0, 1) := by decide +kernel
theorem d_W_say_30 : decode b_W_say 30 = .ok (.getfield 28, 3) := by decide +kernel
theorem d_W_say_33 : decode b_W_say 33 = .ok (.aload_n 0, 1) := by decide +kernel
theorem d_W_say_34 : decode b_W_say 34 = .ok (.getfield 37, 3) := by decide +kernel
theorem d_W_say_37 : decode b_W_say 37 = .ok (.iload_n 3, 1) := by decide +kernel
theorem d_W_say_38 : decode b_W_say 38 = .ok (.iastore, 1) := by decide +kernel
theorem d_W_say_39 : decode b_W_say 39 = .ok (.aload_n 0, 1) := by decide +kernel
theorem d_W_say_40 : decode b_W_say 40 = .ok (.getfield 31, 3) := by decide +kernel
theorem d_W_say_43 : decode b_W_say 43 = .ok (.aload_n 0, 1) := by decide +kernel
theorem d_W_say_44 : decode b_W_say 44 = .ok (.getfield 37, 3) := by decide +kernel
theorem d_W_say_47 : decode b_W_say 47 = .ok (.iload 4, 2) := by decide +kernel
theorem d_W_say_49 : decode b_W_say 49 = .ok (.iastore, 1) := by decide +kernel
theorem d_W_say_50 : decode b_W_say 50 = .ok (.aload_n 0, 1) := by decide +kernel
theorem d_W_say_51 : decode b_W_say 51 = .ok (.getfield 34, 3) := by decide +kernel
theorem d_W_say_54 : decode b_W_say 54 = .ok (.aload_n 0, 1) := by decide +kernel
theorem d_W_say_55 : decode b_W_say 55 = .ok (.getfield 37, 3) := by decide +kernel
theorem d_W_say_58 : decode b_W_say 58 = .ok (.iconst 0, 1) := by decide +kernel
theorem d_W_say_59 : decode b_W_say 59 = .ok (.iastore, 1) := by decide +kernel
theorem d_W_say_60 : decode b_W_say 60 = .ok (.aload_n 0, 1) := by decide +kernel
theorem d_W_say_61 : decode b_W_say 61 = .ok (.dup, 1) := by decide +kernel
theorem d_W_say_62 : decode b_W_say 62 = .ok (.getfield 37, 3) := by decide +kernel
theorem d_W_say_65 : decode b_W_say 65 = .ok (.iconst 1, 1) := by decide +kernel
theorem d_W_say_66 : decode b_W_say 66 = .ok (.iadd, 1) := by decide +kernel
theorem d_W_say_67 : decode b_W_say 67 = .ok (.putfield 37, 3) := by decide +kernel
theorem d_W_say_70 : decode b_W_say 70 = .ok (.return_, 1) := by decide +kernel
abbrev rm_W_say : Room := { frames := 0, cells := 0, slots := 0, locals := 0 }
def f_W_say (x1 : Int32) (x2 : Int32) (x3 : Int32) (x4 : Int32) (M : Mem) : Option Mem :=
  if (120 : Int32) ≤ (M 11 9) then some M else gd (inb (M 11 9) 120) (gd (inb ((ms M 14 (M 11 9).toNatClampNeg x1) 11 9) 120) (gd (inb ((ms (ms M 14 (M 11 9).toNatClampNeg x1) 15 ((ms M 14 (M 11 9).toNatClampNeg x1) 11 9).toNatClampNeg x2) 11 9) 120) (gd (inb ((ms (ms (ms M 14 (M 11 9).toNatClampNeg x1) 15 ((ms M 14 (M 11 9).toNatClampNeg x1) 11 9).toNatClampNeg x2) 16 ((ms (ms M 14 (M 11 9).toNatClampNeg x1) 15 ((ms M 14 (M 11 9).toNatClampNeg x1) 11 9).toNatClampNeg x2) 11 9).toNatClampNeg x3) 11 9) 120) (gd (inb ((ms (ms (ms (ms M 14 (M 11 9).toNatClampNeg x1) 15 ((ms M 14 (M 11 9).toNatClampNeg x1) 11 9).toNatClampNeg x2) 16 ((ms (ms M 14 (M 11 9).toNatClampNeg x1) 15 ((ms M 14 (M 11 9).toNatClampNeg x1) 11 9).toNatClampNeg x2) 11 9).toNatClampNeg x3) 17 ((ms (ms (ms M 14 (M 11 9).toNatClampNeg x1) 15 ((ms M 14 (M 11 9).toNatClampNeg x1) 11 9).toNatClampNeg x2) 16 ((ms (ms M 14 (M 11 9).toNatClampNeg x1) 15 ((ms M 14 (M 11 9).toNatClampNeg x1) 11 9).toNatClampNeg x2) 11 9).toNatClampNeg x3) 11 9).toNatClampNeg x4) 11 9) 120) (some (ms (ms (ms (ms (ms (ms M 14 (M 11 9).toNatClampNeg x1) 15 ((ms M 14 (M 11 9).toNatClampNeg x1) 11 9).toNatClampNeg x2) 16 ((ms (ms M 14 (M 11 9).toNatClampNeg x1) 15 ((ms M 14 (M 11 9).toNatClampNeg x1) 11 9).toNatClampNeg x2) 11 9).toNatClampNeg x3) 17 ((ms (ms (ms M 14 (M 11 9).toNatClampNeg x1) 15 ((ms M 14 (M 11 9).toNatClampNeg x1) 11 9).toNatClampNeg x2) 16 ((ms (ms M 14 (M 11 9).toNatClampNeg x1) 15 ((ms M 14 (M 11 9).toNatClampNeg x1) 11 9).toNatClampNeg x2) 11 9).toNatClampNeg x3) 11 9).toNatClampNeg x4) 18 ((ms (ms (ms (ms M 14 (M 11 9).toNatClampNeg x1) 15 ((ms M 14 (M 11 9).toNatClampNeg x1) 11 9).toNatClampNeg x2) 16 ((ms (ms M 14 (M 11 9).toNatClampNeg x1) 15 ((ms M 14 (M 11 9).toNatClampNeg x1) 11 9).toNatClampNeg x2) 11 9).toNatClampNeg x3) 17 ((ms (ms (ms M 14 (M 11 9).toNatClampNeg x1) 15 ((ms M 14 (M 11 9).toNatClampNeg x1) 11 9).toNatClampNeg x2) 16 ((ms (ms M 14 (M 11 9).toNatClampNeg x1) 15 ((ms M 14 (M 11 9).toNatClampNeg x1) 11 9).toNatClampNeg x2) 11 9).toNatClampNeg x3) 11 9).toNatClampNeg x4) 11 9).toNatClampNeg (0 : Int32)) 11 9 (((ms (ms (ms (ms (ms M 14 (M 11 9).toNatClampNeg x1) 15 ((ms M 14 (M 11 9).toNatClampNeg x1) 11 9).toNatClampNeg x2) 16 ((ms (ms M 14 (M 11 9).toNatClampNeg x1) 15 ((ms M 14 (M 11 9).toNatClampNeg x1) 11 9).toNatClampNeg x2) 11 9).toNatClampNeg x3) 17 ((ms (ms (ms M 14 (M 11 9).toNatClampNeg x1) 15 ((ms M 14 (M 11 9).toNatClampNeg x1) 11 9).toNatClampNeg x2) 16 ((ms (ms M 14 (M 11 9).toNatClampNeg x1) 15 ((ms M 14 (M 11 9).toNatClampNeg x1) 11 9).toNatClampNeg x2) 11 9).toNatClampNeg x3) 11 9).toNatClampNeg x4) 18 ((ms (ms (ms (ms M 14 (M 11 9).toNatClampNeg x1) 15 ((ms M 14 (M 11 9).toNatClampNeg x1) 11 9).toNatClampNeg x2) 16 ((ms (ms M 14 (M 11 9).toNatClampNeg x1) 15 ((ms M 14 (M 11 9).toNatClampNeg x1) 11 9).toNatClampNeg x2) 11 9).toNatClampNeg x3) 17 ((ms (ms (ms M 14 (M 11 9).toNatClampNeg x1) 15 ((ms M 14 (M 11 9).toNatClampNeg x1) 11 9).toNatClampNeg x2) 16 ((ms (ms M 14 (M 11 9).toNatClampNeg x1) 15 ((ms M 14 (M 11 9).toNatClampNeg x1) 11 9).toNatClampNeg x2) 11 9).toNatClampNeg x3) 11 9).toNatClampNeg x4) 11 9).toNatClampNeg (0 : Int32)) 11 9) + (1 : Int32))))))))
set_option maxRecDepth 100000 in
theorem g_W_say {M' : Mem} (C : GC p s m args meth c b_W_say 5 (none) "NoneWords$Writer" TB D vwCl (tysW cI cZ cC) A Z) {x1 : Int32} {x2 : Int32} {x3 : Int32} {x4 : Int32} {M : Mem} (hf : f_W_say x1 x2 x3 x4 M = some M') : GW p l e rm_W_say s m args below meth c (MQ below (QW D vwCl (tysW cI cZ cC) A none (wc ad cI cZ cC M')) args s 0 0 A) D vwCl A 5 0 0 (wc ad cI cZ cC M) 0 [(0, .ref (ad 11)), (1, .int x1), (2, .int x2), (3, .int x3), (4, .int x4)] [] := by
  unfold f_W_say at hf
  refine gw_aload_n C 0 d_W_say_0 rfl rfl ?_
  refine gw_get C in_W 11 wcg_11 clg_3 9 (by decide) tw_142 rfl rfl d_W_say_1 ?_
  refine gw_bipush (v := (120 : Int32)) C d_W_say_4 (by decide) ?_
  refine gw_icmp_ge (tgt := 70) C d_W_say_6 (by decide) (fun c => ?_) (fun c => ?_)
  · have hf := (if_pos c).symm.trans hf
    exact gw_vreti C d_W_say_70 (wc ad cI cZ cC) hf
  · have hf := (if_neg c).symm.trans hf
    refine gw_aload_n C 0 d_W_say_9 rfl rfl ?_
    refine gw_get C in_W 11 wcg_11 clg_3 4 (by decide) tw_137 rfl rfl d_W_say_10 ?_
    refine gw_aload_n C 0 d_W_say_13 rfl rfl ?_
    refine gw_get C in_W 11 wcg_11 clg_3 9 (by decide) tw_142 rfl rfl d_W_say_14 ?_
    refine gw_iload_n C 1 d_W_say_17 rfl rfl ?_
    obtain ⟨hb18, hf⟩ := gd_some hf
    refine gw_iast C 14 0 wcg_14 rfl hb18 d_W_say_18 wca_14 ?_
    refine gw_aload_n C 0 d_W_say_19 rfl rfl ?_
    refine gw_get C in_W 11 wcg_11 clg_3 5 (by decide) tw_138 rfl rfl d_W_say_20 ?_
    refine gw_aload_n C 0 d_W_say_23 rfl rfl ?_
    refine gw_get C in_W 11 wcg_11 clg_3 9 (by decide) tw_142 rfl rfl d_W_say_24 ?_
    refine gw_iload_n C 2 d_W_say_27 rfl rfl ?_
    obtain ⟨hb28, hf⟩ := gd_some hf
    refine gw_iast C 15 0 wcg_15 rfl hb28 d_W_say_28 wca_15 ?_
    refine gw_aload_n C 0 d_W_say_29 rfl rfl ?_
    refine gw_get C in_W 11 wcg_11 clg_3 6 (by decide) tw_139 rfl rfl d_W_say_30 ?_
    refine gw_aload_n C 0 d_W_say_33 rfl rfl ?_
    refine gw_get C in_W 11 wcg_11 clg_3 9 (by decide) tw_142 rfl rfl d_W_say_34 ?_
    refine gw_iload_n C 3 d_W_say_37 rfl rfl ?_
    obtain ⟨hb38, hf⟩ := gd_some hf
    refine gw_iast C 16 0 wcg_16 rfl hb38 d_W_say_38 wca_16 ?_
    refine gw_aload_n C 0 d_W_say_39 rfl rfl ?_
    refine gw_get C in_W 11 wcg_11 clg_3 7 (by decide) tw_140 rfl rfl d_W_say_40 ?_
    refine gw_aload_n C 0 d_W_say_43 rfl rfl ?_
    refine gw_get C in_W 11 wcg_11 clg_3 9 (by decide) tw_142 rfl rfl d_W_say_44 ?_
    refine gw_iload C 4 d_W_say_47 rfl ?_
    obtain ⟨hb49, hf⟩ := gd_some hf
    refine gw_iast C 17 0 wcg_17 rfl hb49 d_W_say_49 wca_17 ?_
    refine gw_aload_n C 0 d_W_say_50 rfl rfl ?_
    refine gw_get C in_W 11 wcg_11 clg_3 8 (by decide) tw_141 rfl rfl d_W_say_51 ?_
    refine gw_aload_n C 0 d_W_say_54 rfl rfl ?_
    refine gw_get C in_W 11 wcg_11 clg_3 9 (by decide) tw_142 rfl rfl d_W_say_55 ?_
    refine gw_iconst (v := (0 : Int32)) C d_W_say_58 (by decide) ?_
    obtain ⟨hb59, hf⟩ := gd_some hf
    refine gw_iast C 18 0 wcg_18 rfl hb59 d_W_say_59 wca_18 ?_
    refine gw_aload_n C 0 d_W_say_60 rfl rfl ?_
    refine gw_dup C d_W_say_61 rfl ?_
    refine gw_get C in_W 11 wcg_11 clg_3 9 (by decide) tw_142 rfl rfl d_W_say_62 ?_
    refine gw_iconst (v := (1 : Int32)) C d_W_say_65 (by decide) ?_
    refine gw_iadd C d_W_say_66 ?_
    refine gw_put C in_W ty_W tk_W nm_W 11 wcg_11 clg_3 9 (by decide) tw_142 rfl rfl rfl rfl (Nat.le_of_ble_eq_true rfl) d_W_say_67 wcf_11_9 ?_
    exact gw_vreti C d_W_say_70 (wc ad cI cZ cC) hf
theorem c_W_say (hZ : gw_ZOK Z) {x1 : Int32} {x2 : Int32} {x3 : Int32} {x4 : Int32} {M : Mem} {M' : Mem} (hf : f_W_say x1 x2 x3 x4 M = some M') : CW l y_W_say ws_W_say rm_W_say D vwCl (tysW cI cZ cC) Z [.ref (ad 11), .int x1, .int x2, .int x3, .int x4] (wc ad cI cZ cC M) none (wc ad cI cZ cC M') 0 0 :=
  CW.ofG hZ (by decide) rfl (Nat.le_of_ble_eq_true rfl) (fun _ _ _ _ _ _ _ _ C _ => g_W_say C hf)
abbrev b_W_giveNumber : ByteArray := prog_5_method_19_code
def y_W_giveNumber : MethodName := ⟨"NoneWords$Writer", "giveNumber", "(I)V"⟩
abbrev ws_W_giveNumber : List Cond := Cond.code y_W_giveNumber b_W_giveNumber 2 (none) :: TB
set_option maxRecDepth 100000 in
theorem tc_W_giveNumber : Cond.code y_W_giveNumber b_W_giveNumber 2 (none) ∈ TB := inTB 388 rfl rfl
theorem mv_W_giveNumber : Cond.instanceMethod y_W_giveNumber ∈ TB ∧ Cond.selects "NoneWords$Writer" y_W_giveNumber y_W_giveNumber ∈ TB ∧ Cond.initialized "NoneWords$Writer" ∈ TB ∧ Cond.code y_W_giveNumber b_W_giveNumber 2 (none) ∈ TB := ⟨inTB 387 (by decide +kernel) (by decide +kernel), inTB 10 (by decide +kernel) (by decide +kernel), inTB 67 (by decide +kernel) (by decide +kernel), tc_W_giveNumber⟩
theorem pd_W_giveNumber : y_W_giveNumber.cls = "NoneWords$Writer" ∧ y_W_giveNumber.cls ≠ "java/lang/invoke/MethodHandle" ∧ y_W_giveNumber.cls ≠ "java/lang/invoke/VarHandle" ∧ (parseMethodDescriptor y_W_giveNumber.desc).map (fun d => d.parameters.length) = some 1 := by decide +kernel
theorem d_W_giveNumber_0 : decode b_W_giveNumber 0 = .ok (.aload_n 0, 1) := by decide +kernel
theorem d_W_giveNumber_1 : decode b_W_giveNumber 1 = .ok (.getfield 55, 3) := by decide +kernel
theorem d_W_giveNumber_4 : decode b_W_giveNumber 4 = .ok (.iload_n 1, 1) := by decide +kernel
theorem d_W_giveNumber_5 : decode b_W_giveNumber 5 = .ok (.invokevirtual 63, 3) := by decide +kernel
theorem d_W_giveNumber_8 : decode b_W_giveNumber 8 = .ok (.ifCond .eq 45, 3) := by decide +kernel
theorem d_W_giveNumber_11 : decode b_W_giveNumber 11 = .ok (.aload_n 0, 1) := by decide +kernel
theorem d_W_giveNumber_12 : decode b_W_giveNumber 12 = .ok (.getfield 37, 3) := by decide +kernel
theorem d_W_giveNumber_15 : decode b_W_giveNumber 15 = .ok (.ifCond .le 38, 3) := by decide +kernel
theorem d_W_giveNumber_18 : decode b_W_giveNumber 18 = .ok (.aload_n 0, 1) := by decide +kernel
theorem d_W_giveNumber_19 : decode b_W_giveNumber 19 = .ok (.dup, 1) := by decide +kernel
theorem d_W_giveNumber_20 : decode b_W_giveNumber 20 = .ok (.getfield 18, 3) := by decide +kernel
theorem d_W_giveNumber_23 : decode b_W_giveNumber 23 = .ok (.iconst 1, 1) := by decide +kernel
theorem d_W_giveNumber_24 : decode b_W_giveNumber 24 = .ok (.iadd, 1) := by decide +kernel
theorem d_W_giveNumber_25 : decode b_W_giveNumber 25 = .ok (.putfield 18, 3) := by decide +kernel
theorem d_W_giveNumber_28 : decode b_W_giveNumber 28 = .ok (.aload_n 0, 1) := by decide +kernel
theorem d_W_giveNumber_29 : decode b_W_giveNumber 29 = .ok (.getfield 15, 3) := by decide +kernel
theorem d_W_giveNumber_32 : decode b_W_giveNumber 32 = .ok (.iload_n 1, 1) := by decide +kernel
theorem d_W_giveNumber_33 : decode b_W_giveNumber 33 = .ok (.aload_n 0, 1) := by decide +kernel
theorem d_W_giveNumber_34 : decode b_W_giveNumber 34 = .ok (.getfield 18, 3) := by decide +kernel
theorem d_W_giveNumber_37 : decode b_W_giveNumber 37 = .ok (.iastore, 1) := by decide +kernel
theorem d_W_giveNumber_38 : decode b_W_giveNumber 38 = .ok (.aload_n 0, 1) := by decide +kernel
theorem d_W_giveNumber_39 : decode b_W_giveNumber 39 = .ok (.getfield 34, 3) := by decide +kernel
theorem d_W_giveNumber_42 : decode b_W_giveNumber 42 = .ok (.aload_n 0, 1) := by decide +kernel
theorem d_W_giveNumber_43 : decode b_W_giveNumber 43 = .ok (.getfield 37, 3) := by decide +kernel
theorem d_W_giveNumber_46 : decode b_W_giveNumber 46 = .ok (.iconst 1, 1) := by decide +kernel
theorem d_W_giveNumber_47 : decode b_W_giveNumber 47 = .ok (.isub, 1) := by decide +kernel
theorem d_W_giveNumber_48 : decode b_W_giveNumber 48 = .ok (.aload_n 0, 1) := by decide +kernel
theorem d_W_giveNumber_49 : decode b_W_giveNumber 49 = .ok (.getfield 18, 3) := by decide +kernel
theorem d_W_giveNumber_52 : decode b_W_giveNumber 52 = .ok (.iastore, 1) := by decide +kernel
theorem d_W_giveNumber_53 : decode b_W_giveNumber 53 = .ok (.return_, 1) := by decide +kernel
abbrev rm_W_giveNumber : Room := { frames := 1, cells := 0, slots := 0, locals := 21 }
def f_W_giveNumber (x1 : Int32) (M : Mem) : Option Mem :=
  ob (f_F_hasNode x1 M) fun r5 M5 => if r5 = 0 then some M5 else if (M5 11 9) ≤ 0 then some M5 else gd (inb x1 120) (gd (inb (((ms (ms M5 11 3 ((M5 11 3) + (1 : Int32))) 13 x1.toNatClampNeg ((ms M5 11 3 ((M5 11 3) + (1 : Int32))) 11 3)) 11 9) - (1 : Int32)) 120) (some (ms (ms (ms M5 11 3 ((M5 11 3) + (1 : Int32))) 13 x1.toNatClampNeg ((ms M5 11 3 ((M5 11 3) + (1 : Int32))) 11 3)) 18 (((ms (ms M5 11 3 ((M5 11 3) + (1 : Int32))) 13 x1.toNatClampNeg ((ms M5 11 3 ((M5 11 3) + (1 : Int32))) 11 3)) 11 9) - (1 : Int32)).toNatClampNeg ((ms (ms M5 11 3 ((M5 11 3) + (1 : Int32))) 13 x1.toNatClampNeg ((ms M5 11 3 ((M5 11 3) + (1 : Int32))) 11 3)) 11 3))))
set_option maxRecDepth 100000 in
theorem g_W_giveNumber {M' : Mem} (C : GC p s m args meth c b_W_giveNumber 2 (none) "NoneWords$Writer" TB D vwCl (tysW cI cZ cC) A Z) {x1 : Int32} {M : Mem} (hf : f_W_giveNumber x1 M = some M') : GW p l e rm_W_giveNumber s m args below meth c (MQ below (QW D vwCl (tysW cI cZ cC) A none (wc ad cI cZ cC M')) args s 0 0 A) D vwCl A 2 0 0 (wc ad cI cZ cC M) 0 [(0, .ref (ad 11)), (1, .int x1)] [] := by
  unfold f_W_giveNumber at hf
  refine gw_aload_n C 0 d_W_giveNumber_0 rfl rfl ?_
  refine gw_get C in_W 11 wcg_11 clg_3 0 (by decide) tw_133 rfl rfl d_W_giveNumber_1 ?_
  refine gw_iload_n C 1 d_W_giveNumber_4 rfl rfl ?_
  obtain ⟨r5, M5, hc5, hf⟩ := ob_some hf
  refine gw_callVr (rest := []) C 1 wcg_1 clg_0 (c_F_hasNode C.2.2.2.2.2.2.2.2.2.2 hc5) (cwV 1 C.2.2.2.2.1 (gTB_V tw_344 mv_F_hasNode) rfl rfl rfl pd_F_hasNode ⟨Nat.le_of_ble_eq_true rfl, Nat.le_of_ble_eq_true rfl⟩) rfl rfl (Nat.le_of_ble_eq_true rfl) d_W_giveNumber_5 ⟨Nat.le_of_ble_eq_true rfl, Nat.le_of_ble_eq_true rfl⟩ ?_
  refine gw_if_eq (tgt := 53) C d_W_giveNumber_8 (by decide) (fun c => ?_) (fun c => ?_)
  · have hf := (if_pos c).symm.trans hf
    exact gw_vreti C d_W_giveNumber_53 (wc ad cI cZ cC) hf
  · have hf := (if_neg c).symm.trans hf
    refine gw_aload_n C 0 d_W_giveNumber_11 rfl rfl ?_
    refine gw_get C in_W 11 wcg_11 clg_3 9 (by decide) tw_142 rfl rfl d_W_giveNumber_12 ?_
    refine gw_if_le (tgt := 53) C d_W_giveNumber_15 (by decide) (fun c => ?_) (fun c => ?_)
    · have hf := (if_pos c).symm.trans hf
      exact gw_vreti C d_W_giveNumber_53 (wc ad cI cZ cC) hf
    · have hf := (if_neg c).symm.trans hf
      refine gw_aload_n C 0 d_W_giveNumber_18 rfl rfl ?_
      refine gw_dup C d_W_giveNumber_19 rfl ?_
      refine gw_get C in_W 11 wcg_11 clg_3 3 (by decide) tw_136 rfl rfl d_W_giveNumber_20 ?_
      refine gw_iconst (v := (1 : Int32)) C d_W_giveNumber_23 (by decide) ?_
      refine gw_iadd C d_W_giveNumber_24 ?_
      refine gw_put C in_W ty_W tk_W nm_W 11 wcg_11 clg_3 3 (by decide) tw_136 rfl rfl rfl rfl (Nat.le_of_ble_eq_true rfl) d_W_giveNumber_25 wcf_11_3 ?_
      refine gw_aload_n C 0 d_W_giveNumber_28 rfl rfl ?_
      refine gw_get C in_W 11 wcg_11 clg_3 2 (by decide) tw_135 rfl rfl d_W_giveNumber_29 ?_
      refine gw_iload_n C 1 d_W_giveNumber_32 rfl rfl ?_
      refine gw_aload_n C 0 d_W_giveNumber_33 rfl rfl ?_
      refine gw_get C in_W 11 wcg_11 clg_3 3 (by decide) tw_136 rfl rfl d_W_giveNumber_34 ?_
      obtain ⟨hb37, hf⟩ := gd_some hf
      refine gw_iast C 13 0 wcg_13 rfl hb37 d_W_giveNumber_37 wca_13 ?_
      refine gw_aload_n C 0 d_W_giveNumber_38 rfl rfl ?_
      refine gw_get C in_W 11 wcg_11 clg_3 8 (by decide) tw_141 rfl rfl d_W_giveNumber_39 ?_
      refine gw_aload_n C 0 d_W_giveNumber_42 rfl rfl ?_
      refine gw_get C in_W 11 wcg_11 clg_3 9 (by decide) tw_142 rfl rfl d_W_giveNumber_43 ?_
      refine gw_iconst (v := (1 : Int32)) C d_W_giveNumber_46 (by decide) ?_
      refine gw_isub C d_W_giveNumber_47 ?_
      refine gw_aload_n C 0 d_W_giveNumber_48 rfl rfl ?_
      refine gw_get C in_W 11 wcg_11 clg_3 3 (by decide) tw_136 rfl rfl d_W_giveNumber_49 ?_
      obtain ⟨hb52, hf⟩ := gd_some hf
      refine gw_iast C 18 0 wcg_18 rfl hb52 d_W_giveNumber_52 wca_18 ?_
      exact gw_vreti C d_W_giveNumber_53 (wc ad cI cZ cC) hf
theorem c_W_giveNumber (hZ : gw_ZOK Z) {x1 : Int32} {M : Mem} {M' : Mem} (hf : f_W_giveNumber x1 M = some M') : CW l y_W_giveNumber ws_W_giveNumber rm_W_giveNumber D vwCl (tysW cI cZ cC) Z [.ref (ad 11), .int x1] (wc ad cI cZ cC M) none (wc ad cI cZ cC M') 0 0 :=
  CW.ofG hZ (by decide) rfl (Nat.le_of_ble_eq_true rfl) (fun _ _ _ _ _ _ _ _ C _ => g_W_giveNumber C hf)
abbrev b_W_hasNumber : ByteArray := prog_5_method_20_code
def y_W_hasNumber : MethodName := ⟨"NoneWords$Writer", "hasNumber", "(I)Z"⟩
abbrev ws_W_hasNumber : List Cond := Cond.code y_W_hasNumber b_W_hasNumber 2 (some (FieldType.boolean)) :: TB
set_option maxRecDepth 100000 in
theorem tc_W_hasNumber : Cond.code y_W_hasNumber b_W_hasNumber 2 (some (FieldType.boolean)) ∈ TB := inTB 372 rfl rfl
theorem mv_W_hasNumber : Cond.instanceMethod y_W_hasNumber ∈ TB ∧ Cond.selects "NoneWords$Writer" y_W_hasNumber y_W_hasNumber ∈ TB ∧ Cond.initialized "NoneWords$Writer" ∈ TB ∧ Cond.code y_W_hasNumber b_W_hasNumber 2 (some (FieldType.boolean)) ∈ TB := ⟨inTB 371 (by decide +kernel) (by decide +kernel), inTB 7 (by decide +kernel) (by decide +kernel), inTB 67 (by decide +kernel) (by decide +kernel), tc_W_hasNumber⟩
theorem pd_W_hasNumber : y_W_hasNumber.cls = "NoneWords$Writer" ∧ y_W_hasNumber.cls ≠ "java/lang/invoke/MethodHandle" ∧ y_W_hasNumber.cls ≠ "java/lang/invoke/VarHandle" ∧ (parseMethodDescriptor y_W_hasNumber.desc).map (fun d => d.parameters.length) = some 1 := by decide +kernel
theorem d_W_hasNumber_0 : decode b_W_hasNumber 0 = .ok (.aload_n 0, 1) := by decide +kernel
theorem d_W_hasNumber_1 : decode b_W_hasNumber 1 = .ok (.iload_n 1, 1) := by decide +kernel
theorem d_W_hasNumber_2 : decode b_W_hasNumber 2 = .ok (.invokevirtual 132, 3) := by decide +kernel
theorem d_W_hasNumber_5 : decode b_W_hasNumber 5 = .ok (.ifCond .eq 7, 3) := by decide +kernel
theorem d_W_hasNumber_8 : decode b_W_hasNumber 8 = .ok (.iconst 1, 1) := by decide +kernel
theorem d_W_hasNumber_9 : decode b_W_hasNumber 9 = .ok (.goto 4, 3) := by decide +kernel
theorem d_W_hasNumber_12 : decode b_W_hasNumber 12 = .ok (.iconst 0, 1) := by decide +kernel
theorem d_W_hasNumber_13 : decode b_W_hasNumber 13 = .ok (.ireturn, 1) := by decide +kernel
abbrev rm_W_hasNumber : Room := { frames := 2, cells := 0, slots := 0, locals := 42 }
def f_W_hasNumber (x1 : Int32) (M : Mem) : Option (Int32 × Mem) :=
  ob (f_W_numberOfNode x1 M) fun r2 M2 => if r2 = 0 then some ((0 : Int32), M2) else some ((1 : Int32), M2)
set_option maxRecDepth 100000 in
theorem g_W_hasNumber {r : Int32} {M' : Mem} (C : GC p s m args meth c b_W_hasNumber 2 (some (FieldType.boolean)) "NoneWords$Writer" TB D vwCl (tysW cI cZ cC) A Z) {x1 : Int32} {M : Mem} (hf : f_W_hasNumber x1 M = some (r, M')) : GW p l e rm_W_hasNumber s m args below meth c (MQ below (QW D vwCl (tysW cI cZ cC) A (some (.int r)) (wc ad cI cZ cC M')) args s 0 0 A) D vwCl A 2 0 0 (wc ad cI cZ cC M) 0 [(0, .ref (ad 11)), (1, .int x1)] [] := by
  unfold f_W_hasNumber at hf
  refine gw_aload_n C 0 d_W_hasNumber_0 rfl rfl ?_
  refine gw_iload_n C 1 d_W_hasNumber_1 rfl rfl ?_
  obtain ⟨r2, M2, hc2, hf⟩ := ob_some hf
  refine gw_callVr (rest := []) C 11 wcg_11 clg_3 (c_W_numberOfNode C.2.2.2.2.2.2.2.2.2.2 hc2) (cwV 1 C.2.2.2.2.1 (gTB_V tw_373 mv_W_numberOfNode) rfl rfl rfl pd_W_numberOfNode ⟨Nat.le_of_ble_eq_true rfl, Nat.le_of_ble_eq_true rfl⟩) rfl rfl (Nat.le_of_ble_eq_true rfl) d_W_hasNumber_2 ⟨Nat.le_of_ble_eq_true rfl, Nat.le_of_ble_eq_true rfl⟩ ?_
  refine gw_if_eq (tgt := 12) C d_W_hasNumber_5 (by decide) (fun c => ?_) (fun c => ?_)
  · have hf := (if_pos c).symm.trans hf
    refine gw_iconst (v := (0 : Int32)) C d_W_hasNumber_12 (by decide) ?_
    exact gw_zreti C d_W_hasNumber_13 (wc ad cI cZ cC) (by decide) hf
  · have hf := (if_neg c).symm.trans hf
    refine gw_iconst (v := (1 : Int32)) C d_W_hasNumber_8 (by decide) ?_
    refine gw_goto (tgt := 13) C d_W_hasNumber_9 (by decide) ?_
    exact gw_zreti C d_W_hasNumber_13 (wc ad cI cZ cC) (by decide) hf
theorem c_W_hasNumber (hZ : gw_ZOK Z) {x1 : Int32} {M : Mem} {r : Int32} {M' : Mem} (hf : f_W_hasNumber x1 M = some (r, M')) : CW l y_W_hasNumber ws_W_hasNumber rm_W_hasNumber D vwCl (tysW cI cZ cC) Z [.ref (ad 11), .int x1] (wc ad cI cZ cC M) (some (.int r)) (wc ad cI cZ cC M') 0 0 :=
  CW.ofG hZ (by decide) rfl (Nat.le_of_ble_eq_true rfl) (fun _ _ _ _ _ _ _ _ C _ => g_W_hasNumber C hf)
abbrev b_W_isShared : ByteArray := prog_5_method_21_code
def y_W_isShared : MethodName := ⟨"NoneWords$Writer", "isShared", "(I)Z"⟩
abbrev ws_W_isShared : List Cond := Cond.code y_W_isShared b_W_isShared 2 (some (FieldType.boolean)) :: TB
set_option maxRecDepth 100000 in
theorem tc_W_isShared : Cond.code y_W_isShared b_W_isShared 2 (some (FieldType.boolean)) ∈ TB := inTB 384 rfl rfl
theorem mv_W_isShared : Cond.instanceMethod y_W_isShared ∈ TB ∧ Cond.selects "NoneWords$Writer" y_W_isShared y_W_isShared ∈ TB ∧ Cond.initialized "NoneWords$Writer" ∈ TB ∧ Cond.code y_W_isShared b_W_isShared 2 (some (FieldType.boolean)) ∈ TB := ⟨inTB 383 (by decide +kernel) (by decide +kernel), inTB 9 (by decide +kernel) (by decide +kernel), inTB 67 (by decide +kernel) (by decide +kernel), tc_W_isShared⟩
theorem pd_W_isShared : y_W_isShared.cls = "NoneWords$Writer" ∧ y_W_isShared.cls ≠ "java/lang/invoke/MethodHandle" ∧ y_W_isShared.cls ≠ "java/lang/invoke/VarHandle" ∧ (parseMethodDescriptor y_W_isShared.desc).map (fun d => d.parameters.length) = some 1 := by decide +kernel
theorem d_W_isShared_0 : decode b_W_isShared 0 = .ok (.aload_n 0, 1) := by decide +kernel
theorem d_W_isShared_1 : decode b_W_isShared 1 = .ok (.getfield 55, 3) := by decide +kernel
theorem d_W_isShared_4 : decode b_W_isShared 4 = .ok (.iload_n 1, 1) := by decide +kernel
theorem d_W_isShared_5 : decode b_W_isShared 5 = .ok (.invokevirtual 63, 3) := by decide +kernel
theorem d_W_isShared_8 : decode b_W_isShared 8 = .ok (.ifCond .eq 17, 3) := by decide +kernel
theorem d_W_isShared_11 : decode b_W_isShared 11 = .ok (.aload_n 0, 1) := by decide +kernel
theorem d_W_isShared_12 : decode b_W_isShared 12 = .ok (.getfield 9, 3) := by decide +kernel
theorem d_W_isShared_15 : decode b_W_isShared 15 = .ok (.iload_n 1, 1) := by decide +kernel
theorem d_W_isShared_16 : decode b_W_isShared 16 = .ok (.iaload, 1) := by decide +kernel
theorem d_W_isShared_17 : decode b_W_isShared 17 = .ok (.iconst 2, 1) := by decide +kernel
theorem d_W_isShared_18 : decode b_W_isShared 18 = .ok (.if_icmp .lt 7, 3) := by decide +kernel
theorem d_W_isShared_21 : decode b_W_isShared 21 = .ok (.iconst 1, 1) := by decide +kernel
theorem d_W_isShared_22 : decode b_W_isShared 22 = .ok (.goto 4, 3) := by decide +kernel
theorem d_W_isShared_25 : decode b_W_isShared 25 = .ok (.iconst 0, 1) := by decide +kernel
theorem d_W_isShared_26 : decode b_W_isShared 26 = .ok (.ireturn, 1) := by decide +kernel
abbrev rm_W_isShared : Room := { frames := 1, cells := 0, slots := 0, locals := 21 }
def f_W_isShared (x1 : Int32) (M : Mem) : Option (Int32 × Mem) :=
  ob (f_F_hasNode x1 M) fun r5 M5 => if r5 = 0 then some ((0 : Int32), M5) else gd (inb x1 120) (if (M5 12 x1.toNatClampNeg) < (2 : Int32) then some ((0 : Int32), M5) else some ((1 : Int32), M5))
set_option maxRecDepth 100000 in
theorem g_W_isShared {r : Int32} {M' : Mem} (C : GC p s m args meth c b_W_isShared 2 (some (FieldType.boolean)) "NoneWords$Writer" TB D vwCl (tysW cI cZ cC) A Z) {x1 : Int32} {M : Mem} (hf : f_W_isShared x1 M = some (r, M')) : GW p l e rm_W_isShared s m args below meth c (MQ below (QW D vwCl (tysW cI cZ cC) A (some (.int r)) (wc ad cI cZ cC M')) args s 0 0 A) D vwCl A 2 0 0 (wc ad cI cZ cC M) 0 [(0, .ref (ad 11)), (1, .int x1)] [] := by
  unfold f_W_isShared at hf
  refine gw_aload_n C 0 d_W_isShared_0 rfl rfl ?_
  refine gw_get C in_W 11 wcg_11 clg_3 0 (by decide) tw_133 rfl rfl d_W_isShared_1 ?_
  refine gw_iload_n C 1 d_W_isShared_4 rfl rfl ?_
  obtain ⟨r5, M5, hc5, hf⟩ := ob_some hf
  refine gw_callVr (rest := []) C 1 wcg_1 clg_0 (c_F_hasNode C.2.2.2.2.2.2.2.2.2.2 hc5) (cwV 1 C.2.2.2.2.1 (gTB_V tw_344 mv_F_hasNode) rfl rfl rfl pd_F_hasNode ⟨Nat.le_of_ble_eq_true rfl, Nat.le_of_ble_eq_true rfl⟩) rfl rfl (Nat.le_of_ble_eq_true rfl) d_W_isShared_5 ⟨Nat.le_of_ble_eq_true rfl, Nat.le_of_ble_eq_true rfl⟩ ?_
  refine gw_if_eq (tgt := 25) C d_W_isShared_8 (by decide) (fun c => ?_) (fun c => ?_)
  · have hf := (if_pos c).symm.trans hf
    refine gw_iconst (v := (0 : Int32)) C d_W_isShared_25 (by decide) ?_
    exact gw_zreti C d_W_isShared_26 (wc ad cI cZ cC) (by decide) hf
  · have hf := (if_neg c).symm.trans hf
    refine gw_aload_n C 0 d_W_isShared_11 rfl rfl ?_
    refine gw_get C in_W 11 wcg_11 clg_3 1 (by decide) tw_134 rfl rfl d_W_isShared_12 ?_
    refine gw_iload_n C 1 d_W_isShared_15 rfl rfl ?_
    obtain ⟨hb16, hf⟩ := gd_some hf
    refine gw_iald C 12 0 wcg_12 rfl hb16 d_W_isShared_16 ?_
    refine gw_iconst (v := (2 : Int32)) C d_W_isShared_17 (by decide) ?_
    refine gw_icmp_lt (tgt := 25) C d_W_isShared_18 (by decide) (fun c => ?_) (fun c => ?_)
    · have hf := (if_pos c).symm.trans hf
      refine gw_iconst (v := (0 : Int32)) C d_W_isShared_25 (by decide) ?_
      exact gw_zreti C d_W_isShared_26 (wc ad cI cZ cC) (by decide) hf
    · have hf := (if_neg c).symm.trans hf
      refine gw_iconst (v := (1 : Int32)) C d_W_isShared_21 (by decide) ?_
      refine gw_goto (tgt := 26) C d_W_isShared_22 (by decide) ?_
      exact gw_zreti C d_W_isShared_26 (wc ad cI cZ cC) (by decide) hf
theorem c_W_isShared (hZ : gw_ZOK Z) {x1 : Int32} {M : Mem} {r : Int32} {M' : Mem} (hf : f_W_isShared x1 M = some (r, M')) : CW l y_W_isShared ws_W_isShared rm_W_isShared D vwCl (tysW cI cZ cC) Z [.ref (ad 11), .int x1] (wc ad cI cZ cC M) (some (.int r)) (wc ad cI cZ cC M') 0 0 :=
  CW.ofG hZ (by decide) rfl (Nat.le_of_ble_eq_true rfl) (fun _ _ _ _ _ _ _ _ C _ => g_W_isShared C hf)
abbrev b_W_close : ByteArray := prog_5_method_17_code
def y_W_close : MethodName := ⟨"NoneWords$Writer", "close", "(IIII)V"⟩
abbrev ws_W_close : List Cond := Cond.code y_W_close b_W_close 5 (none) :: TB
set_option maxRecDepth 100000 in
theorem tc_W_close : Cond.code y_W_close b_W_close 5 (none) ∈ TB := inTB 380 rfl rfl
theorem mv_W_close : Cond.instanceMethod y_W_close ∈ TB ∧ Cond.selects "NoneWords$Writer" y_W_close y_W_close ∈ TB ∧ Cond.initialized "NoneWords$Writer" ∈ TB ∧ Cond.code y_W_close b_W_close 5 (none) ∈ TB := ⟨inTB 379 (by decide +kernel) (by decide +kernel), inTB 8 (by decide +kernel) (by decide +kernel), inTB 67 (by decide +kernel) (by decide +kernel), tc_W_close⟩
theorem pd_W_close : y_W_close.cls = "NoneWords$Writer" ∧ y_W_close.cls ≠ "java/lang/invoke/MethodHandle" ∧ y_W_close.cls ≠ "java/lang/invoke/VarHandle" ∧ (parseMethodDescriptor y_W_close.desc).map (fun d => d.parameters.length) = some 4 := by decide +kernel
theorem d_W_close_0 : decode b_W_close 0 = .ok (.aload_n 0, 1) := by decide +kernel
theorem d_W_close_1 : decode b_W_close 1 = .ok (.iload_n 1, 1) := by decide +kernel
theorem d_W_close_2 : decode b_W_close 2 = .ok (.iload_n 2, 1) := by decide +kernel
theorem d_W_close_3 : decode b_W_close 3 = .ok (.iload_n 3, 1) := by decide +kernel
theorem d_W_close_4 : decode b_W_close 4 = .ok (.iload 4, 2) := by decide +kernel
theorem d_W_close_6 : decode b_W_close 6 = .ok (.invokevirtual 105, 3) := by decide +kernel
theorem d_W_close_9 : decode b_W_close 9 = .ok (.aload_n 0, 1) := by decide +kernel
theorem d_W_close_10 : decode b_W_close 10 = .ok (.iload 4, 2) := by decide +kernel
theorem d_W_close_12 : decode b_W_close 12 = .ok (.invokevirtual 123, 3) := by decide +kernel
theorem d_W_close_15 : decode b_W_close 15 = .ok (.ifCond .eq 9, 3) := by decide +kernel
theorem d_W_close_18 : decode b_W_close 18 = .ok (.aload_n 0, 1) := by decide +kernel
theorem d_W_close_19 : decode b_W_close 19 = .ok (.iload 4, 2) := by decide +kernel
theorem d_W_close_21 : decode b_W_close 21 = .ok (.invokevirtual 129, 3) := by decide +kernel
theorem d_W_close_24 : decode b_W_close 24 = .ok (.return_, 1) := by decide +kernel
abbrev rm_W_close : Room := { frames := 2, cells := 0, slots := 0, locals := 42 }
def f_W_close (x1 : Int32) (x2 : Int32) (x3 : Int32) (x4 : Int32) (M : Mem) : Option Mem :=
  om (f_W_say x1 x2 x3 x4 M) fun M6 => ob (f_W_isShared x4 M6) fun r12 M12 => if r12 = 0 then some M12 else om (f_W_giveNumber x4 M12) fun M21 => some M21
set_option maxRecDepth 100000 in
theorem g_W_close {M' : Mem} (C : GC p s m args meth c b_W_close 5 (none) "NoneWords$Writer" TB D vwCl (tysW cI cZ cC) A Z) {x1 : Int32} {x2 : Int32} {x3 : Int32} {x4 : Int32} {M : Mem} (hf : f_W_close x1 x2 x3 x4 M = some M') : GW p l e rm_W_close s m args below meth c (MQ below (QW D vwCl (tysW cI cZ cC) A none (wc ad cI cZ cC M')) args s 0 0 A) D vwCl A 5 0 0 (wc ad cI cZ cC M) 0 [(0, .ref (ad 11)), (1, .int x1), (2, .int x2), (3, .int x3), (4, .int x4)] [] := by
  unfold f_W_close at hf
  refine gw_aload_n C 0 d_W_close_0 rfl rfl ?_
  refine gw_iload_n C 1 d_W_close_1 rfl rfl ?_
  refine gw_iload_n C 2 d_W_close_2 rfl rfl ?_
  refine gw_iload_n C 3 d_W_close_3 rfl rfl ?_
  refine gw_iload C 4 d_W_close_4 rfl ?_
  obtain ⟨M6, hc6, hf⟩ := om_some hf
  refine gw_callVv (rest := []) C 11 wcg_11 clg_3 (c_W_say C.2.2.2.2.2.2.2.2.2.2 hc6) (cwV 4 C.2.2.2.2.1 (gTB_V tw_361 mv_W_say) rfl rfl rfl pd_W_say ⟨Nat.le_of_ble_eq_true rfl, Nat.le_of_ble_eq_true rfl⟩) rfl rfl (Nat.le_of_ble_eq_true rfl) d_W_close_6 ⟨Nat.le_of_ble_eq_true rfl, Nat.le_of_ble_eq_true rfl⟩ ?_
  refine gw_aload_n C 0 d_W_close_9 rfl rfl ?_
  refine gw_iload C 4 d_W_close_10 rfl ?_
  obtain ⟨r12, M12, hc12, hf⟩ := ob_some hf
  refine gw_callVr (rest := []) C 11 wcg_11 clg_3 (c_W_isShared C.2.2.2.2.2.2.2.2.2.2 hc12) (cwV 1 C.2.2.2.2.1 (gTB_V tw_381 mv_W_isShared) rfl rfl rfl pd_W_isShared ⟨Nat.le_of_ble_eq_true rfl, Nat.le_of_ble_eq_true rfl⟩) rfl rfl (Nat.le_of_ble_eq_true rfl) d_W_close_12 ⟨Nat.le_of_ble_eq_true rfl, Nat.le_of_ble_eq_true rfl⟩ ?_
  refine gw_if_eq (tgt := 24) C d_W_close_15 (by decide) (fun c => ?_) (fun c => ?_)
  · have hf := (if_pos c).symm.trans hf
    exact gw_vreti C d_W_close_24 (wc ad cI cZ cC) hf
  · have hf := (if_neg c).symm.trans hf
    refine gw_aload_n C 0 d_W_close_18 rfl rfl ?_
    refine gw_iload C 4 d_W_close_19 rfl ?_
    obtain ⟨M21, hc21, hf⟩ := om_some hf
    refine gw_callVv (rest := []) C 11 wcg_11 clg_3 (c_W_giveNumber C.2.2.2.2.2.2.2.2.2.2 hc21) (cwV 1 C.2.2.2.2.1 (gTB_V tw_385 mv_W_giveNumber) rfl rfl rfl pd_W_giveNumber ⟨Nat.le_of_ble_eq_true rfl, Nat.le_of_ble_eq_true rfl⟩) rfl rfl (Nat.le_of_ble_eq_true rfl) d_W_close_21 ⟨Nat.le_of_ble_eq_true rfl, Nat.le_of_ble_eq_true rfl⟩ ?_
    exact gw_vreti C d_W_close_24 (wc ad cI cZ cC) hf
theorem c_W_close (hZ : gw_ZOK Z) {x1 : Int32} {x2 : Int32} {x3 : Int32} {x4 : Int32} {M : Mem} {M' : Mem} (hf : f_W_close x1 x2 x3 x4 M = some M') : CW l y_W_close ws_W_close rm_W_close D vwCl (tysW cI cZ cC) Z [.ref (ad 11), .int x1, .int x2, .int x3, .int x4] (wc ad cI cZ cC M) none (wc ad cI cZ cC M') 0 0 :=
  CW.ofG hZ (by decide) rfl (Nat.le_of_ble_eq_true rfl) (fun _ _ _ _ _ _ _ _ C _ => g_W_close C hf)
abbrev b_W_openOfJoins : ByteArray := prog_5_method_15_code
def y_W_openOfJoins : MethodName := ⟨"NoneWords$Writer", "openOfJoins", "(III)V"⟩
abbrev ws_W_openOfJoins : List Cond := Cond.code y_W_openOfJoins b_W_openOfJoins 4 (none) :: TB
set_option maxRecDepth 100000 in
theorem tc_W_openOfJoins : Cond.code y_W_openOfJoins b_W_openOfJoins 4 (none) ∈ TB := inTB 368 rfl rfl
theorem mv_W_openOfJoins : Cond.instanceMethod y_W_openOfJoins ∈ TB ∧ Cond.selects "NoneWords$Writer" y_W_openOfJoins y_W_openOfJoins ∈ TB ∧ Cond.initialized "NoneWords$Writer" ∈ TB ∧ Cond.code y_W_openOfJoins b_W_openOfJoins 4 (none) ∈ TB := ⟨inTB 367 (by decide +kernel) (by decide +kernel), inTB 6 (by decide +kernel) (by decide +kernel), inTB 67 (by decide +kernel) (by decide +kernel), tc_W_openOfJoins⟩
theorem pd_W_openOfJoins : y_W_openOfJoins.cls = "NoneWords$Writer" ∧ y_W_openOfJoins.cls ≠ "java/lang/invoke/MethodHandle" ∧ y_W_openOfJoins.cls ≠ "java/lang/invoke/VarHandle" ∧ (parseMethodDescriptor y_W_openOfJoins.desc).map (fun d => d.parameters.length) = some 3 := by decide +kernel
theorem d_W_openOfJoins_0 : decode b_W_openOfJoins 0 = .ok (.aload_n 0, 1) := by decide +kernel
theorem d_W_openOfJoins_1 : decode b_W_openOfJoins 1 = .ok (.iload_n 2, 1) := by decide +kernel
theorem d_W_openOfJoins_2 : decode b_W_openOfJoins 2 = .ok (.invokevirtual 120, 3) := by decide +kernel
theorem d_W_openOfJoins_5 : decode b_W_openOfJoins 5 = .ok (.ifCond .eq 22, 3) := by decide +kernel
theorem d_W_openOfJoins_8 : decode b_W_openOfJoins 8 = .ok (.aload_n 0, 1) := by decide +kernel
theorem d_W_openOfJoins_9 : decode b_W_openOfJoins 9 = .ok (.iload_n 3, 1) := by decide +kernel
theorem d_W_openOfJoins_10 : decode b_W_openOfJoins 10 = .ok (.invokevirtual 120, 3) := by decide +kernel
theorem d_W_openOfJoins_13 : decode b_W_openOfJoins 13 = .ok (.ifCond .eq 14, 3) := by decide +kernel
theorem d_W_openOfJoins_16 : decode b_W_openOfJoins 16 = .ok (.aload_n 0, 1) := by decide +kernel
theorem d_W_openOfJoins_17 : decode b_W_openOfJoins 17 = .ok (.iconst 1, 1) := by decide +kernel
theorem d_W_openOfJoins_18 : decode b_W_openOfJoins 18 = .ok (.iload_n 2, 1) := by decide +kernel
theorem d_W_openOfJoins_19 : decode b_W_openOfJoins 19 = .ok (.iload_n 3, 1) := by decide +kernel
theorem d_W_openOfJoins_20 : decode b_W_openOfJoins 20 = .ok (.iload_n 1, 1) := by decide +kernel
theorem d_W_openOfJoins_21 : decode b_W_openOfJoins 21 = .ok (.invokevirtual 89, 3) := by decide +kernel
theorem d_W_openOfJoins_24 : decode b_W_openOfJoins 24 = .ok (.goto 114, 3) := by decide +kernel
theorem d_W_openOfJoins_27 : decode b_W_openOfJoins 27 = .ok (.aload_n 0, 1) := by decide +kernel
theorem d_W_openOfJoins_28 : decode b_W_openOfJoins 28 = .ok (.iload_n 2, 1) := by decide +kernel
theorem d_W_openOfJoins_29 : decode b_W_openOfJoins 29 = .ok (.invokevirtual 120, 3) := by decide +kernel
theorem d_W_openOfJoins_32 : decode b_W_openOfJoins 32 = .ok (.ifCond .eq 22, 3) := by decide +kernel
theorem d_W_openOfJoins_35 : decode b_W_openOfJoins 35 = .ok (.aload_n 0, 1) := by decide +kernel
theorem d_W_openOfJoins_36 : decode b_W_openOfJoins 36 = .ok (.iconst 2, 1) := by decide +kernel
theorem d_W_openOfJoins_37 : decode b_W_openOfJoins 37 = .ok (.iload_n 1, 1) := by decide +kernel
theorem d_W_openOfJoins_38 : decode b_W_openOfJoins 38 = .ok (.iload_n 2, 1) := by decide +kernel
theorem d_W_openOfJoins_39 : decode b_W_openOfJoins 39 = .ok (.iconst (-1), 1) := by decide +kernel
theorem d_W_openOfJoins_40 : decode b_W_openOfJoins 40 = .ok (.invokevirtual 78, 3) := by decide +kernel
theorem d_W_openOfJoins_43 : decode b_W_openOfJoins 43 = .ok (.aload_n 0, 1) := by decide +kernel
theorem d_W_openOfJoins_44 : decode b_W_openOfJoins 44 = .ok (.iconst 0, 1) := by decide +kernel
theorem d_W_openOfJoins_45 : decode b_W_openOfJoins 45 = .ok (.iload_n 3, 1) := by decide +kernel
theorem d_W_openOfJoins_46 : decode b_W_openOfJoins 46 = .ok (.iconst (-1), 1) := by decide +kernel
theorem d_W_openOfJoins_47 : decode b_W_openOfJoins 47 = .ok (.iconst (-1), 1) := by decide +kernel
theorem d_W_openOfJoins_48 : decode b_W_openOfJoins 48 = .ok (.invokevirtual 78, 3) := by decide +kernel
theorem d_W_openOfJoins_51 : decode b_W_openOfJoins 51 = .ok (.goto 87, 3) := by decide +kernel
theorem d_W_openOfJoins_54 : decode b_W_openOfJoins 54 = .ok (.aload_n 0, 1) := by decide +kernel
theorem d_W_openOfJoins_55 : decode b_W_openOfJoins 55 = .ok (.iload_n 3, 1) := by decide +kernel
theorem d_W_openOfJoins_56 : decode b_W_openOfJoins 56 = .ok (.invokevirtual 120, 3) := by decide +kernel
theorem d_W_openOfJoins_59 : decode b_W_openOfJoins 59 = .ok (.ifCond .eq 22, 3) := by decide +kernel
theorem d_W_openOfJoins_62 : decode b_W_openOfJoins 62 = .ok (.aload_n 0, 1) := by decide +kernel
theorem d_W_openOfJoins_63 : decode b_W_openOfJoins 63 = .ok (.iconst 2, 1) := by decide +kernel
theorem d_W_openOfJoins_64 : decode b_W_openOfJoins 64 = .ok (.iload_n 1, 1) := by decide +kernel
theorem d_W_openOfJoins_65 : decode b_W_openOfJoins 65 = .ok (.iload_n 3, 1) := by decide +kernel
theorem d_W_openOfJoins_66 : decode b_W_openOfJoins 66 = .ok (.iconst (-1), 1) := by decide +kernel
theorem d_W_openOfJoins_67 : decode b_W_openOfJoins 67 = .ok (.invokevirtual 78, 3) := by decide +kernel
theorem d_W_openOfJoins_70 : decode b_W_openOfJoins 70 = .ok (.aload_n 0, 1) := by decide +kernel
theorem d_W_openOfJoins_71 : decode b_W_openOfJoins 71 = .ok (.iconst 0, 1) := by decide +kernel
theorem d_W_openOfJoins_72 : decode b_W_openOfJoins 72 = .ok (.iload_n 2, 1) := by decide +kernel
theorem d_W_openOfJoins_73 : decode b_W_openOfJoins 73 = .ok (.iconst (-1), 1) := by decide +kernel
theorem d_W_openOfJoins_74 : decode b_W_openOfJoins 74 = .ok (.iconst (-1), 1) := by decide +kernel
theorem d_W_openOfJoins_75 : decode b_W_openOfJoins 75 = .ok (.invokevirtual 78, 3) := by decide +kernel
theorem d_W_openOfJoins_78 : decode b_W_openOfJoins 78 = .ok (.goto 60, 3) := by decide +kernel
theorem d_W_openOfJoins_81 : decode b_W_openOfJoins 81 = .ok (.aload_n 0, 1) := by decide +kernel
theorem d_W_openOfJoins_82 : decode b_W_openOfJoins 82 = .ok (.getfield 55, 3) := by decide +kernel
theorem d_W_openOfJoins_85 : decode b_W_openOfJoins 85 = .ok (.iload_n 2, 1) := by decide +kernel
theorem d_W_openOfJoins_86 : decode b_W_openOfJoins 86 = .ok (.invokevirtual 126, 3) := by decide +kernel
theorem d_W_openOfJoins_89 : decode b_W_openOfJoins 89 = .ok (.ifCond .eq 33, 3) := by decide +kernel
theorem d_W_openOfJoins_92 : decode b_W_openOfJoins 92 = .ok (.aload_n 0, 1) := by decide +kernel
theorem d_W_openOfJoins_93 : decode b_W_openOfJoins 93 = .ok (.getfield 55, 3) := by decide +kernel
theorem d_W_openOfJoins_96 : decode b_W_openOfJoins 96 = .ok (.iload_n 3, 1) := by decide +kernel
theorem d_W_openOfJoins_97 : decode b_W_openOfJoins 97 = .ok (.invokevirtual 126, 3) := by decide +kernel
theorem d_W_openOfJoins_100 : decode b_W_openOfJoins 100 = .ok (.ifCond .ne 22, 3) := by decide +kernel
theorem d_W_openOfJoins_103 : decode b_W_openOfJoins 103 = .ok (.aload_n 0, 1) := by decide +kernel
theorem d_W_openOfJoins_104 : decode b_W_openOfJoins 104 = .ok (.iconst 1, 1) := by decide +kernel
theorem d_W_openOfJoins_105 : decode b_W_openOfJoins 105 = .ok (.iload_n 1, 1) := by decide +kernel
theorem d_W_openOfJoins_106 : decode b_W_openOfJoins 106 = .ok (.iload_n 3, 1) := by decide +kernel
theorem d_W_openOfJoins_107 : decode b_W_openOfJoins 107 = .ok (.iload_n 2, 1) := by decide +kernel
theorem d_W_openOfJoins_108 : decode b_W_openOfJoins 108 = .ok (.invokevirtual 78, 3) := by decide +kernel
theorem d_W_openOfJoins_111 : decode b_W_openOfJoins 111 = .ok (.aload_n 0, 1) := by decide +kernel
theorem d_W_openOfJoins_112 : decode b_W_openOfJoins 112 = .ok (.iconst 0, 1) := by decide +kernel
theorem d_W_openOfJoins_113 : decode b_W_openOfJoins 113 = .ok (.iload_n 3, 1) := by decide +kernel
theorem d_W_openOfJoins_114 : decode b_W_openOfJoins 114 = .ok (.iconst (-1), 1) := by decide +kernel
theorem d_W_openOfJoins_115 : decode b_W_openOfJoins 115 = .ok (.iconst (-1), 1) := by decide +kernel
theorem d_W_openOfJoins_116 : decode b_W_openOfJoins 116 = .ok (.invokevirtual 78, 3) := by decide +kernel
theorem d_W_openOfJoins_119 : decode b_W_openOfJoins 119 = .ok (.goto 19, 3) := by decide +kernel
theorem d_W_openOfJoins_122 : decode b_W_openOfJoins 122 = .ok (.aload_n 0, 1) := by decide +kernel
theorem d_W_openOfJoins_123 : decode b_W_openOfJoins 123 = .ok (.iconst 1, 1) := by decide +kernel
theorem d_W_openOfJoins_124 : decode b_W_openOfJoins 124 = .ok (.iload_n 1, 1) := by decide +kernel
theorem d_W_openOfJoins_125 : decode b_W_openOfJoins 125 = .ok (.iload_n 2, 1) := by decide +kernel
theorem d_W_openOfJoins_126 : decode b_W_openOfJoins 126 = .ok (.iload_n 3, 1) := by decide +kernel
theorem d_W_openOfJoins_127 : decode b_W_openOfJoins 127 = .ok (.invokevirtual 78, 3) := by decide +kernel
theorem d_W_openOfJoins_130 : decode b_W_openOfJoins 130 = .ok (.aload_n 0, 1) := by decide +kernel
theorem d_W_openOfJoins_131 : decode b_W_openOfJoins 131 = .ok (.iconst 0, 1) := by decide +kernel
theorem d_W_openOfJoins_132 : decode b_W_openOfJoins 132 = .ok (.iload_n 2, 1) := by decide +kernel
theorem d_W_openOfJoins_133 : decode b_W_openOfJoins 133 = .ok (.iconst (-1), 1) := by decide +kernel
theorem d_W_openOfJoins_134 : decode b_W_openOfJoins 134 = .ok (.iconst (-1), 1) := by decide +kernel
theorem d_W_openOfJoins_135 : decode b_W_openOfJoins 135 = .ok (.invokevirtual 78, 3) := by decide +kernel
theorem d_W_openOfJoins_138 : decode b_W_openOfJoins 138 = .ok (.return_, 1) := by decide +kernel
abbrev rm_W_openOfJoins : Room := { frames := 3, cells := 0, slots := 0, locals := 66 }
def f_W_openOfJoins_122 (x1 : Int32) (x2 : Int32) (x3 : Int32) (M : Mem) : Option Mem :=
  om (f_W_await (1 : Int32) x1 x2 x3 M) fun M127 => om (f_W_await (0 : Int32) x2 (-1 : Int32) (-1 : Int32) M127) fun M135 => some M135
set_option maxRecDepth 100000 in
theorem g_W_openOfJoins_122 {M' : Mem} (C : GC p s m args meth c b_W_openOfJoins 4 (none) "NoneWords$Writer" TB D vwCl (tysW cI cZ cC) A Z) {x1 : Int32} {x2 : Int32} {x3 : Int32} {M : Mem} (hf : f_W_openOfJoins_122 x1 x2 x3 M = some M') : GW p l e rm_W_openOfJoins s m args below meth c (MQ below (QW D vwCl (tysW cI cZ cC) A none (wc ad cI cZ cC M')) args s 0 0 A) D vwCl A 4 0 0 (wc ad cI cZ cC M) 122 [(0, .ref (ad 11)), (1, .int x1), (2, .int x2), (3, .int x3)] [] := by
  unfold f_W_openOfJoins_122 at hf
  refine gw_aload_n C 0 d_W_openOfJoins_122 rfl rfl ?_
  refine gw_iconst (v := (1 : Int32)) C d_W_openOfJoins_123 (by decide) ?_
  refine gw_iload_n C 1 d_W_openOfJoins_124 rfl rfl ?_
  refine gw_iload_n C 2 d_W_openOfJoins_125 rfl rfl ?_
  refine gw_iload_n C 3 d_W_openOfJoins_126 rfl rfl ?_
  obtain ⟨M127, hc127, hf⟩ := om_some hf
  refine gw_callVv (rest := []) C 11 wcg_11 clg_3 (c_W_await C.2.2.2.2.2.2.2.2.2.2 hc127) (cwV 4 C.2.2.2.2.1 (gTB_V tw_349 mv_W_await) rfl rfl rfl pd_W_await ⟨Nat.le_of_ble_eq_true rfl, Nat.le_of_ble_eq_true rfl⟩) rfl rfl (Nat.le_of_ble_eq_true rfl) d_W_openOfJoins_127 ⟨Nat.le_of_ble_eq_true rfl, Nat.le_of_ble_eq_true rfl⟩ ?_
  refine gw_aload_n C 0 d_W_openOfJoins_130 rfl rfl ?_
  refine gw_iconst (v := (0 : Int32)) C d_W_openOfJoins_131 (by decide) ?_
  refine gw_iload_n C 2 d_W_openOfJoins_132 rfl rfl ?_
  refine gw_iconst (v := (-1 : Int32)) C d_W_openOfJoins_133 (by decide) ?_
  refine gw_iconst (v := (-1 : Int32)) C d_W_openOfJoins_134 (by decide) ?_
  obtain ⟨M135, hc135, hf⟩ := om_some hf
  refine gw_callVv (rest := []) C 11 wcg_11 clg_3 (c_W_await C.2.2.2.2.2.2.2.2.2.2 hc135) (cwV 4 C.2.2.2.2.1 (gTB_V tw_349 mv_W_await) rfl rfl rfl pd_W_await ⟨Nat.le_of_ble_eq_true rfl, Nat.le_of_ble_eq_true rfl⟩) rfl rfl (Nat.le_of_ble_eq_true rfl) d_W_openOfJoins_135 ⟨Nat.le_of_ble_eq_true rfl, Nat.le_of_ble_eq_true rfl⟩ ?_
  exact gw_vreti C d_W_openOfJoins_138 (wc ad cI cZ cC) hf
def f_W_openOfJoins_27 (x1 : Int32) (x2 : Int32) (x3 : Int32) (M : Mem) : Option Mem :=
  ob (f_W_hasNumber x2 M) fun r29 M29 => if r29 = 0 then ob (f_W_hasNumber x3 M29) fun r56 M56 => if r56 = 0 then ob (f_F_isSimple x2 M56) fun r86 M86 => if r86 = 0 then f_W_openOfJoins_122 x1 x2 x3 M86 else ob (f_F_isSimple x3 M86) fun r97 M97 => if r97 = 0 then om (f_W_await (1 : Int32) x1 x3 x2 M97) fun M108 => om (f_W_await (0 : Int32) x3 (-1 : Int32) (-1 : Int32) M108) fun M116 => some M116 else f_W_openOfJoins_122 x1 x2 x3 M97 else om (f_W_await (2 : Int32) x1 x3 (-1 : Int32) M56) fun M67 => om (f_W_await (0 : Int32) x2 (-1 : Int32) (-1 : Int32) M67) fun M75 => some M75 else om (f_W_await (2 : Int32) x1 x2 (-1 : Int32) M29) fun M40 => om (f_W_await (0 : Int32) x3 (-1 : Int32) (-1 : Int32) M40) fun M48 => some M48
set_option maxRecDepth 100000 in
theorem g_W_openOfJoins_27 {M' : Mem} (C : GC p s m args meth c b_W_openOfJoins 4 (none) "NoneWords$Writer" TB D vwCl (tysW cI cZ cC) A Z) {x1 : Int32} {x2 : Int32} {x3 : Int32} {M : Mem} (hf : f_W_openOfJoins_27 x1 x2 x3 M = some M') : GW p l e rm_W_openOfJoins s m args below meth c (MQ below (QW D vwCl (tysW cI cZ cC) A none (wc ad cI cZ cC M')) args s 0 0 A) D vwCl A 4 0 0 (wc ad cI cZ cC M) 27 [(0, .ref (ad 11)), (1, .int x1), (2, .int x2), (3, .int x3)] [] := by
  unfold f_W_openOfJoins_27 at hf
  refine gw_aload_n C 0 d_W_openOfJoins_27 rfl rfl ?_
  refine gw_iload_n C 2 d_W_openOfJoins_28 rfl rfl ?_
  obtain ⟨r29, M29, hc29, hf⟩ := ob_some hf
  refine gw_callVr (rest := []) C 11 wcg_11 clg_3 (c_W_hasNumber C.2.2.2.2.2.2.2.2.2.2 hc29) (cwV 1 C.2.2.2.2.1 (gTB_V tw_369 mv_W_hasNumber) rfl rfl rfl pd_W_hasNumber ⟨Nat.le_of_ble_eq_true rfl, Nat.le_of_ble_eq_true rfl⟩) rfl rfl (Nat.le_of_ble_eq_true rfl) d_W_openOfJoins_29 ⟨Nat.le_of_ble_eq_true rfl, Nat.le_of_ble_eq_true rfl⟩ ?_
  refine gw_if_eq (tgt := 54) C d_W_openOfJoins_32 (by decide) (fun c => ?_) (fun c => ?_)
  · have hf := (if_pos c).symm.trans hf
    refine gw_aload_n C 0 d_W_openOfJoins_54 rfl rfl ?_
    refine gw_iload_n C 3 d_W_openOfJoins_55 rfl rfl ?_
    obtain ⟨r56, M56, hc56, hf⟩ := ob_some hf
    refine gw_callVr (rest := []) C 11 wcg_11 clg_3 (c_W_hasNumber C.2.2.2.2.2.2.2.2.2.2 hc56) (cwV 1 C.2.2.2.2.1 (gTB_V tw_369 mv_W_hasNumber) rfl rfl rfl pd_W_hasNumber ⟨Nat.le_of_ble_eq_true rfl, Nat.le_of_ble_eq_true rfl⟩) rfl rfl (Nat.le_of_ble_eq_true rfl) d_W_openOfJoins_56 ⟨Nat.le_of_ble_eq_true rfl, Nat.le_of_ble_eq_true rfl⟩ ?_
    refine gw_if_eq (tgt := 81) C d_W_openOfJoins_59 (by decide) (fun c => ?_) (fun c => ?_)
    · have hf := (if_pos c).symm.trans hf
      refine gw_aload_n C 0 d_W_openOfJoins_81 rfl rfl ?_
      refine gw_get C in_W 11 wcg_11 clg_3 0 (by decide) tw_133 rfl rfl d_W_openOfJoins_82 ?_
      refine gw_iload_n C 2 d_W_openOfJoins_85 rfl rfl ?_
      obtain ⟨r86, M86, hc86, hf⟩ := ob_some hf
      refine gw_callVr (rest := []) C 1 wcg_1 clg_0 (c_F_isSimple C.2.2.2.2.2.2.2.2.2.2 hc86) (cwV 1 C.2.2.2.2.1 (gTB_V tw_389 mv_F_isSimple) rfl rfl rfl pd_F_isSimple ⟨Nat.le_of_ble_eq_true rfl, Nat.le_of_ble_eq_true rfl⟩) rfl rfl (Nat.le_of_ble_eq_true rfl) d_W_openOfJoins_86 ⟨Nat.le_of_ble_eq_true rfl, Nat.le_of_ble_eq_true rfl⟩ ?_
      refine gw_if_eq (tgt := 122) C d_W_openOfJoins_89 (by decide) (fun c => ?_) (fun c => ?_)
      · have hf := (if_pos c).symm.trans hf
        exact gw_sub [0, 1, 2, 3] rfl (g_W_openOfJoins_122 C hf)
      · have hf := (if_neg c).symm.trans hf
        refine gw_aload_n C 0 d_W_openOfJoins_92 rfl rfl ?_
        refine gw_get C in_W 11 wcg_11 clg_3 0 (by decide) tw_133 rfl rfl d_W_openOfJoins_93 ?_
        refine gw_iload_n C 3 d_W_openOfJoins_96 rfl rfl ?_
        obtain ⟨r97, M97, hc97, hf⟩ := ob_some hf
        refine gw_callVr (rest := []) C 1 wcg_1 clg_0 (c_F_isSimple C.2.2.2.2.2.2.2.2.2.2 hc97) (cwV 1 C.2.2.2.2.1 (gTB_V tw_389 mv_F_isSimple) rfl rfl rfl pd_F_isSimple ⟨Nat.le_of_ble_eq_true rfl, Nat.le_of_ble_eq_true rfl⟩) rfl rfl (Nat.le_of_ble_eq_true rfl) d_W_openOfJoins_97 ⟨Nat.le_of_ble_eq_true rfl, Nat.le_of_ble_eq_true rfl⟩ ?_
        refine gw_if_ne (tgt := 122) C d_W_openOfJoins_100 (by decide) (fun c => ?_) (fun c => ?_)
        · have hf := (if_neg c).symm.trans hf
          exact gw_sub [0, 1, 2, 3] rfl (g_W_openOfJoins_122 C hf)
        · have hf := (if_pos c).symm.trans hf
          refine gw_aload_n C 0 d_W_openOfJoins_103 rfl rfl ?_
          refine gw_iconst (v := (1 : Int32)) C d_W_openOfJoins_104 (by decide) ?_
          refine gw_iload_n C 1 d_W_openOfJoins_105 rfl rfl ?_
          refine gw_iload_n C 3 d_W_openOfJoins_106 rfl rfl ?_
          refine gw_iload_n C 2 d_W_openOfJoins_107 rfl rfl ?_
          obtain ⟨M108, hc108, hf⟩ := om_some hf
          refine gw_callVv (rest := []) C 11 wcg_11 clg_3 (c_W_await C.2.2.2.2.2.2.2.2.2.2 hc108) (cwV 4 C.2.2.2.2.1 (gTB_V tw_349 mv_W_await) rfl rfl rfl pd_W_await ⟨Nat.le_of_ble_eq_true rfl, Nat.le_of_ble_eq_true rfl⟩) rfl rfl (Nat.le_of_ble_eq_true rfl) d_W_openOfJoins_108 ⟨Nat.le_of_ble_eq_true rfl, Nat.le_of_ble_eq_true rfl⟩ ?_
          refine gw_aload_n C 0 d_W_openOfJoins_111 rfl rfl ?_
          refine gw_iconst (v := (0 : Int32)) C d_W_openOfJoins_112 (by decide) ?_
          refine gw_iload_n C 3 d_W_openOfJoins_113 rfl rfl ?_
          refine gw_iconst (v := (-1 : Int32)) C d_W_openOfJoins_114 (by decide) ?_
          refine gw_iconst (v := (-1 : Int32)) C d_W_openOfJoins_115 (by decide) ?_
          obtain ⟨M116, hc116, hf⟩ := om_some hf
          refine gw_callVv (rest := []) C 11 wcg_11 clg_3 (c_W_await C.2.2.2.2.2.2.2.2.2.2 hc116) (cwV 4 C.2.2.2.2.1 (gTB_V tw_349 mv_W_await) rfl rfl rfl pd_W_await ⟨Nat.le_of_ble_eq_true rfl, Nat.le_of_ble_eq_true rfl⟩) rfl rfl (Nat.le_of_ble_eq_true rfl) d_W_openOfJoins_116 ⟨Nat.le_of_ble_eq_true rfl, Nat.le_of_ble_eq_true rfl⟩ ?_
          refine gw_goto (tgt := 138) C d_W_openOfJoins_119 (by decide) ?_
          exact gw_vreti C d_W_openOfJoins_138 (wc ad cI cZ cC) hf
    · have hf := (if_neg c).symm.trans hf
      refine gw_aload_n C 0 d_W_openOfJoins_62 rfl rfl ?_
      refine gw_iconst (v := (2 : Int32)) C d_W_openOfJoins_63 (by decide) ?_
      refine gw_iload_n C 1 d_W_openOfJoins_64 rfl rfl ?_
      refine gw_iload_n C 3 d_W_openOfJoins_65 rfl rfl ?_
      refine gw_iconst (v := (-1 : Int32)) C d_W_openOfJoins_66 (by decide) ?_
      obtain ⟨M67, hc67, hf⟩ := om_some hf
      refine gw_callVv (rest := []) C 11 wcg_11 clg_3 (c_W_await C.2.2.2.2.2.2.2.2.2.2 hc67) (cwV 4 C.2.2.2.2.1 (gTB_V tw_349 mv_W_await) rfl rfl rfl pd_W_await ⟨Nat.le_of_ble_eq_true rfl, Nat.le_of_ble_eq_true rfl⟩) rfl rfl (Nat.le_of_ble_eq_true rfl) d_W_openOfJoins_67 ⟨Nat.le_of_ble_eq_true rfl, Nat.le_of_ble_eq_true rfl⟩ ?_
      refine gw_aload_n C 0 d_W_openOfJoins_70 rfl rfl ?_
      refine gw_iconst (v := (0 : Int32)) C d_W_openOfJoins_71 (by decide) ?_
      refine gw_iload_n C 2 d_W_openOfJoins_72 rfl rfl ?_
      refine gw_iconst (v := (-1 : Int32)) C d_W_openOfJoins_73 (by decide) ?_
      refine gw_iconst (v := (-1 : Int32)) C d_W_openOfJoins_74 (by decide) ?_
      obtain ⟨M75, hc75, hf⟩ := om_some hf
      refine gw_callVv (rest := []) C 11 wcg_11 clg_3 (c_W_await C.2.2.2.2.2.2.2.2.2.2 hc75) (cwV 4 C.2.2.2.2.1 (gTB_V tw_349 mv_W_await) rfl rfl rfl pd_W_await ⟨Nat.le_of_ble_eq_true rfl, Nat.le_of_ble_eq_true rfl⟩) rfl rfl (Nat.le_of_ble_eq_true rfl) d_W_openOfJoins_75 ⟨Nat.le_of_ble_eq_true rfl, Nat.le_of_ble_eq_true rfl⟩ ?_
      refine gw_goto (tgt := 138) C d_W_openOfJoins_78 (by decide) ?_
      exact gw_vreti C d_W_openOfJoins_138 (wc ad cI cZ cC) hf
  · have hf := (if_neg c).symm.trans hf
    refine gw_aload_n C 0 d_W_openOfJoins_35 rfl rfl ?_
    refine gw_iconst (v := (2 : Int32)) C d_W_openOfJoins_36 (by decide) ?_
    refine gw_iload_n C 1 d_W_openOfJoins_37 rfl rfl ?_
    refine gw_iload_n C 2 d_W_openOfJoins_38 rfl rfl ?_
    refine gw_iconst (v := (-1 : Int32)) C d_W_openOfJoins_39 (by decide) ?_
    obtain ⟨M40, hc40, hf⟩ := om_some hf
    refine gw_callVv (rest := []) C 11 wcg_11 clg_3 (c_W_await C.2.2.2.2.2.2.2.2.2.2 hc40) (cwV 4 C.2.2.2.2.1 (gTB_V tw_349 mv_W_await) rfl rfl rfl pd_W_await ⟨Nat.le_of_ble_eq_true rfl, Nat.le_of_ble_eq_true rfl⟩) rfl rfl (Nat.le_of_ble_eq_true rfl) d_W_openOfJoins_40 ⟨Nat.le_of_ble_eq_true rfl, Nat.le_of_ble_eq_true rfl⟩ ?_
    refine gw_aload_n C 0 d_W_openOfJoins_43 rfl rfl ?_
    refine gw_iconst (v := (0 : Int32)) C d_W_openOfJoins_44 (by decide) ?_
    refine gw_iload_n C 3 d_W_openOfJoins_45 rfl rfl ?_
    refine gw_iconst (v := (-1 : Int32)) C d_W_openOfJoins_46 (by decide) ?_
    refine gw_iconst (v := (-1 : Int32)) C d_W_openOfJoins_47 (by decide) ?_
    obtain ⟨M48, hc48, hf⟩ := om_some hf
    refine gw_callVv (rest := []) C 11 wcg_11 clg_3 (c_W_await C.2.2.2.2.2.2.2.2.2.2 hc48) (cwV 4 C.2.2.2.2.1 (gTB_V tw_349 mv_W_await) rfl rfl rfl pd_W_await ⟨Nat.le_of_ble_eq_true rfl, Nat.le_of_ble_eq_true rfl⟩) rfl rfl (Nat.le_of_ble_eq_true rfl) d_W_openOfJoins_48 ⟨Nat.le_of_ble_eq_true rfl, Nat.le_of_ble_eq_true rfl⟩ ?_
    refine gw_goto (tgt := 138) C d_W_openOfJoins_51 (by decide) ?_
    exact gw_vreti C d_W_openOfJoins_138 (wc ad cI cZ cC) hf
def f_W_openOfJoins (x1 : Int32) (x2 : Int32) (x3 : Int32) (M : Mem) : Option Mem :=
  ob (f_W_hasNumber x2 M) fun r2 M2 => if r2 = 0 then f_W_openOfJoins_27 x1 x2 x3 M2 else ob (f_W_hasNumber x3 M2) fun r10 M10 => if r10 = 0 then f_W_openOfJoins_27 x1 x2 x3 M10 else om (f_W_close (1 : Int32) x2 x3 x1 M10) fun M21 => some M21
set_option maxRecDepth 100000 in
theorem g_W_openOfJoins {M' : Mem} (C : GC p s m args meth c b_W_openOfJoins 4 (none) "NoneWords$Writer" TB D vwCl (tysW cI cZ cC) A Z) {x1 : Int32} {x2 : Int32} {x3 : Int32} {M : Mem} (hf : f_W_openOfJoins x1 x2 x3 M = some M') : GW p l e rm_W_openOfJoins s m args below meth c (MQ below (QW D vwCl (tysW cI cZ cC) A none (wc ad cI cZ cC M')) args s 0 0 A) D vwCl A 4 0 0 (wc ad cI cZ cC M) 0 [(0, .ref (ad 11)), (1, .int x1), (2, .int x2), (3, .int x3)] [] := by
  unfold f_W_openOfJoins at hf
  refine gw_aload_n C 0 d_W_openOfJoins_0 rfl rfl ?_
  refine gw_iload_n C 2 d_W_openOfJoins_1 rfl rfl ?_
  obtain ⟨r2, M2, hc2, hf⟩ := ob_some hf
  refine gw_callVr (rest := []) C 11 wcg_11 clg_3 (c_W_hasNumber C.2.2.2.2.2.2.2.2.2.2 hc2) (cwV 1 C.2.2.2.2.1 (gTB_V tw_369 mv_W_hasNumber) rfl rfl rfl pd_W_hasNumber ⟨Nat.le_of_ble_eq_true rfl, Nat.le_of_ble_eq_true rfl⟩) rfl rfl (Nat.le_of_ble_eq_true rfl) d_W_openOfJoins_2 ⟨Nat.le_of_ble_eq_true rfl, Nat.le_of_ble_eq_true rfl⟩ ?_
  refine gw_if_eq (tgt := 27) C d_W_openOfJoins_5 (by decide) (fun c => ?_) (fun c => ?_)
  · have hf := (if_pos c).symm.trans hf
    exact gw_sub [0, 1, 2, 3] rfl (g_W_openOfJoins_27 C hf)
  · have hf := (if_neg c).symm.trans hf
    refine gw_aload_n C 0 d_W_openOfJoins_8 rfl rfl ?_
    refine gw_iload_n C 3 d_W_openOfJoins_9 rfl rfl ?_
    obtain ⟨r10, M10, hc10, hf⟩ := ob_some hf
    refine gw_callVr (rest := []) C 11 wcg_11 clg_3 (c_W_hasNumber C.2.2.2.2.2.2.2.2.2.2 hc10) (cwV 1 C.2.2.2.2.1 (gTB_V tw_369 mv_W_hasNumber) rfl rfl rfl pd_W_hasNumber ⟨Nat.le_of_ble_eq_true rfl, Nat.le_of_ble_eq_true rfl⟩) rfl rfl (Nat.le_of_ble_eq_true rfl) d_W_openOfJoins_10 ⟨Nat.le_of_ble_eq_true rfl, Nat.le_of_ble_eq_true rfl⟩ ?_
    refine gw_if_eq (tgt := 27) C d_W_openOfJoins_13 (by decide) (fun c => ?_) (fun c => ?_)
    · have hf := (if_pos c).symm.trans hf
      exact gw_sub [0, 1, 2, 3] rfl (g_W_openOfJoins_27 C hf)
    · have hf := (if_neg c).symm.trans hf
      refine gw_aload_n C 0 d_W_openOfJoins_16 rfl rfl ?_
      refine gw_iconst (v := (1 : Int32)) C d_W_openOfJoins_17 (by decide) ?_
      refine gw_iload_n C 2 d_W_openOfJoins_18 rfl rfl ?_
      refine gw_iload_n C 3 d_W_openOfJoins_19 rfl rfl ?_
      refine gw_iload_n C 1 d_W_openOfJoins_20 rfl rfl ?_
      obtain ⟨M21, hc21, hf⟩ := om_some hf
      refine gw_callVv (rest := []) C 11 wcg_11 clg_3 (c_W_close C.2.2.2.2.2.2.2.2.2.2 hc21) (cwV 4 C.2.2.2.2.1 (gTB_V tw_377 mv_W_close) rfl rfl rfl pd_W_close ⟨Nat.le_of_ble_eq_true rfl, Nat.le_of_ble_eq_true rfl⟩) rfl rfl (Nat.le_of_ble_eq_true rfl) d_W_openOfJoins_21 ⟨Nat.le_of_ble_eq_true rfl, Nat.le_of_ble_eq_true rfl⟩ ?_
      refine gw_goto (tgt := 138) C d_W_openOfJoins_24 (by decide) ?_
      exact gw_vreti C d_W_openOfJoins_138 (wc ad cI cZ cC) hf
theorem c_W_openOfJoins (hZ : gw_ZOK Z) {x1 : Int32} {x2 : Int32} {x3 : Int32} {M : Mem} {M' : Mem} (hf : f_W_openOfJoins x1 x2 x3 M = some M') : CW l y_W_openOfJoins ws_W_openOfJoins rm_W_openOfJoins D vwCl (tysW cI cZ cC) Z [.ref (ad 11), .int x1, .int x2, .int x3] (wc ad cI cZ cC M) none (wc ad cI cZ cC M') 0 0 :=
  CW.ofG hZ (by decide) rfl (Nat.le_of_ble_eq_true rfl) (fun _ _ _ _ _ _ _ _ C _ => g_W_openOfJoins C hf)
abbrev b_W_openOfLeafAndJoin : ByteArray := prog_5_method_14_code
def y_W_openOfLeafAndJoin : MethodName := ⟨"NoneWords$Writer", "openOfLeafAndJoin", "(III)V"⟩
abbrev ws_W_openOfLeafAndJoin : List Cond := Cond.code y_W_openOfLeafAndJoin b_W_openOfLeafAndJoin 7 (none) :: TB
set_option maxRecDepth 100000 in
theorem tc_W_openOfLeafAndJoin : Cond.code y_W_openOfLeafAndJoin b_W_openOfLeafAndJoin 7 (none) ∈ TB := inTB 402 rfl rfl
theorem mv_W_openOfLeafAndJoin : Cond.instanceMethod y_W_openOfLeafAndJoin ∈ TB ∧ Cond.selects "NoneWords$Writer" y_W_openOfLeafAndJoin y_W_openOfLeafAndJoin ∈ TB ∧ Cond.initialized "NoneWords$Writer" ∈ TB ∧ Cond.code y_W_openOfLeafAndJoin b_W_openOfLeafAndJoin 7 (none) ∈ TB := ⟨inTB 401 (by decide +kernel) (by decide +kernel), inTB 11 (by decide +kernel) (by decide +kernel), inTB 67 (by decide +kernel) (by decide +kernel), tc_W_openOfLeafAndJoin⟩
theorem pd_W_openOfLeafAndJoin : y_W_openOfLeafAndJoin.cls = "NoneWords$Writer" ∧ y_W_openOfLeafAndJoin.cls ≠ "java/lang/invoke/MethodHandle" ∧ y_W_openOfLeafAndJoin.cls ≠ "java/lang/invoke/VarHandle" ∧ (parseMethodDescriptor y_W_openOfLeafAndJoin.desc).map (fun d => d.parameters.length) = some 3 := by decide +kernel
theorem d_W_openOfLeafAndJoin_0 : decode b_W_openOfLeafAndJoin 0 = .ok (.aload_n 0, 1) := by decide +kernel
theorem d_W_openOfLeafAndJoin_1 : decode b_W_openOfLeafAndJoin 1 = .ok (.getfield 55, 3) := by decide +kernel
theorem d_W_openOfLeafAndJoin_4 : decode b_W_openOfLeafAndJoin 4 = .ok (.iload_n 3, 1) := by decide +kernel
theorem d_W_openOfLeafAndJoin_5 : decode b_W_openOfLeafAndJoin 5 = .ok (.invokevirtual 114, 3) := by decide +kernel
theorem d_W_openOfLeafAndJoin_8 : decode b_W_openOfLeafAndJoin 8 = .ok (.istore 4, 2) := by decide +kernel
theorem d_W_openOfLeafAndJoin_10 : decode b_W_openOfLeafAndJoin 10 = .ok (.aload_n 0, 1) := by decide +kernel
theorem d_W_openOfLeafAndJoin_11 : decode b_W_openOfLeafAndJoin 11 = .ok (.getfield 55, 3) := by decide +kernel
theorem d_W_openOfLeafAndJoin_14 : decode b_W_openOfLeafAndJoin 14 = .ok (.iload_n 3, 1) := by decide +kernel
theorem d_W_openOfLeafAndJoin_15 : decode b_W_openOfLeafAndJoin 15 = .ok (.invokevirtual 117, 3) := by decide +kernel
theorem d_W_openOfLeafAndJoin_18 : decode b_W_openOfLeafAndJoin 18 = .ok (.istore 5, 2) := by decide +kernel
theorem d_W_openOfLeafAndJoin_20 : decode b_W_openOfLeafAndJoin 20 = .ok (.iload 4, 2) := by decide +kernel
theorem d_W_openOfLeafAndJoin_22 : decode b_W_openOfLeafAndJoin 22 = .ok (.iconst (-1), 1) := by decide +kernel
theorem d_W_openOfLeafAndJoin_23 : decode b_W_openOfLeafAndJoin 23 = .ok (.if_icmp .eq 13, 3) := by decide +kernel
theorem d_W_openOfLeafAndJoin_26 : decode b_W_openOfLeafAndJoin 26 = .ok (.iload 5, 2) := by decide +kernel
theorem d_W_openOfLeafAndJoin_28 : decode b_W_openOfLeafAndJoin 28 = .ok (.iconst (-1), 1) := by decide +kernel
theorem d_W_openOfLeafAndJoin_29 : decode b_W_openOfLeafAndJoin 29 = .ok (.if_icmp .eq 7, 3) := by decide +kernel
theorem d_W_openOfLeafAndJoin_32 : decode b_W_openOfLeafAndJoin 32 = .ok (.iconst 1, 1) := by decide +kernel
theorem d_W_openOfLeafAndJoin_33 : decode b_W_openOfLeafAndJoin 33 = .ok (.goto 4, 3) := by decide +kernel
theorem d_W_openOfLeafAndJoin_36 : decode b_W_openOfLeafAndJoin 36 = .ok (.iconst 0, 1) := by decide +kernel
theorem d_W_openOfLeafAndJoin_37 : decode b_W_openOfLeafAndJoin 37 = .ok (.istore 6, 2) := by decide +kernel
theorem d_W_openOfLeafAndJoin_39 : decode b_W_openOfLeafAndJoin 39 = .ok (.aload_n 0, 1) := by decide +kernel
theorem d_W_openOfLeafAndJoin_40 : decode b_W_openOfLeafAndJoin 40 = .ok (.iload_n 3, 1) := by decide +kernel
theorem d_W_openOfLeafAndJoin_41 : decode b_W_openOfLeafAndJoin 41 = .ok (.invokevirtual 120, 3) := by decide +kernel
theorem d_W_openOfLeafAndJoin_44 : decode b_W_openOfLeafAndJoin 44 = .ok (.ifCond .eq 14, 3) := by decide +kernel
theorem d_W_openOfLeafAndJoin_47 : decode b_W_openOfLeafAndJoin 47 = .ok (.aload_n 0, 1) := by decide +kernel
theorem d_W_openOfLeafAndJoin_48 : decode b_W_openOfLeafAndJoin 48 = .ok (.iconst 1, 1) := by decide +kernel
theorem d_W_openOfLeafAndJoin_49 : decode b_W_openOfLeafAndJoin 49 = .ok (.iload_n 2, 1) := by decide +kernel
theorem d_W_openOfLeafAndJoin_50 : decode b_W_openOfLeafAndJoin 50 = .ok (.iload_n 3, 1) := by decide +kernel
theorem d_W_openOfLeafAndJoin_51 : decode b_W_openOfLeafAndJoin 51 = .ok (.iload_n 1, 1) := by decide +kernel
theorem d_W_openOfLeafAndJoin_52 : decode b_W_openOfLeafAndJoin 52 = .ok (.invokevirtual 89, 3) := by decide +kernel
theorem d_W_openOfLeafAndJoin_55 : decode b_W_openOfLeafAndJoin 55 = .ok (.goto 62, 3) := by decide +kernel
theorem d_W_openOfLeafAndJoin_58 : decode b_W_openOfLeafAndJoin 58 = .ok (.iload 6, 2) := by decide +kernel
theorem d_W_openOfLeafAndJoin_60 : decode b_W_openOfLeafAndJoin 60 = .ok (.ifCond .eq 41, 3) := by decide +kernel
theorem d_W_openOfLeafAndJoin_63 : decode b_W_openOfLeafAndJoin 63 = .ok (.aload_n 0, 1) := by decide +kernel
theorem d_W_openOfLeafAndJoin_64 : decode b_W_openOfLeafAndJoin 64 = .ok (.iload_n 3, 1) := by decide +kernel
theorem d_W_openOfLeafAndJoin_65 : decode b_W_openOfLeafAndJoin 65 = .ok (.invokevirtual 123, 3) := by decide +kernel
theorem d_W_openOfLeafAndJoin_68 : decode b_W_openOfLeafAndJoin 68 = .ok (.ifCond .ne 33, 3) := by decide +kernel
theorem d_W_openOfLeafAndJoin_71 : decode b_W_openOfLeafAndJoin 71 = .ok (.aload_n 0, 1) := by decide +kernel
theorem d_W_openOfLeafAndJoin_72 : decode b_W_openOfLeafAndJoin 72 = .ok (.iload 5, 2) := by decide +kernel
theorem d_W_openOfLeafAndJoin_74 : decode b_W_openOfLeafAndJoin 74 = .ok (.invokevirtual 120, 3) := by decide +kernel
theorem d_W_openOfLeafAndJoin_77 : decode b_W_openOfLeafAndJoin 77 = .ok (.ifCond .ne 24, 3) := by decide +kernel
theorem d_W_openOfLeafAndJoin_80 : decode b_W_openOfLeafAndJoin 80 = .ok (.aload_n 0, 1) := by decide +kernel
theorem d_W_openOfLeafAndJoin_81 : decode b_W_openOfLeafAndJoin 81 = .ok (.iconst 2, 1) := by decide +kernel
theorem d_W_openOfLeafAndJoin_82 : decode b_W_openOfLeafAndJoin 82 = .ok (.iload_n 1, 1) := by decide +kernel
theorem d_W_openOfLeafAndJoin_83 : decode b_W_openOfLeafAndJoin 83 = .ok (.iload 4, 2) := by decide +kernel
theorem d_W_openOfLeafAndJoin_85 : decode b_W_openOfLeafAndJoin 85 = .ok (.iload_n 2, 1) := by decide +kernel
theorem d_W_openOfLeafAndJoin_86 : decode b_W_openOfLeafAndJoin 86 = .ok (.invokevirtual 78, 3) := by decide +kernel
theorem d_W_openOfLeafAndJoin_89 : decode b_W_openOfLeafAndJoin 89 = .ok (.aload_n 0, 1) := by decide +kernel
theorem d_W_openOfLeafAndJoin_90 : decode b_W_openOfLeafAndJoin 90 = .ok (.iconst 0, 1) := by decide +kernel
theorem d_W_openOfLeafAndJoin_91 : decode b_W_openOfLeafAndJoin 91 = .ok (.iload 5, 2) := by decide +kernel
theorem d_W_openOfLeafAndJoin_93 : decode b_W_openOfLeafAndJoin 93 = .ok (.iconst (-1), 1) := by decide +kernel
theorem d_W_openOfLeafAndJoin_94 : decode b_W_openOfLeafAndJoin 94 = .ok (.iconst (-1), 1) := by decide +kernel
theorem d_W_openOfLeafAndJoin_95 : decode b_W_openOfLeafAndJoin 95 = .ok (.invokevirtual 78, 3) := by decide +kernel
theorem d_W_openOfLeafAndJoin_98 : decode b_W_openOfLeafAndJoin 98 = .ok (.goto 19, 3) := by decide +kernel
theorem d_W_openOfLeafAndJoin_101 : decode b_W_openOfLeafAndJoin 101 = .ok (.aload_n 0, 1) := by decide +kernel
theorem d_W_openOfLeafAndJoin_102 : decode b_W_openOfLeafAndJoin 102 = .ok (.iconst 2, 1) := by decide +kernel
theorem d_W_openOfLeafAndJoin_103 : decode b_W_openOfLeafAndJoin 103 = .ok (.iload_n 1, 1) := by decide +kernel
theorem d_W_openOfLeafAndJoin_104 : decode b_W_openOfLeafAndJoin 104 = .ok (.iload_n 2, 1) := by decide +kernel
theorem d_W_openOfLeafAndJoin_105 : decode b_W_openOfLeafAndJoin 105 = .ok (.iconst (-1), 1) := by decide +kernel
theorem d_W_openOfLeafAndJoin_106 : decode b_W_openOfLeafAndJoin 106 = .ok (.invokevirtual 78, 3) := by decide +kernel
theorem d_W_openOfLeafAndJoin_109 : decode b_W_openOfLeafAndJoin 109 = .ok (.aload_n 0, 1) := by decide +kernel
theorem d_W_openOfLeafAndJoin_110 : decode b_W_openOfLeafAndJoin 110 = .ok (.iconst 0, 1) := by decide +kernel
theorem d_W_openOfLeafAndJoin_111 : decode b_W_openOfLeafAndJoin 111 = .ok (.iload_n 3, 1) := by decide +kernel
theorem d_W_openOfLeafAndJoin_112 : decode b_W_openOfLeafAndJoin 112 = .ok (.iconst (-1), 1) := by decide +kernel
theorem d_W_openOfLeafAndJoin_113 : decode b_W_openOfLeafAndJoin 113 = .ok (.iconst (-1), 1) := by decide +kernel
theorem d_W_openOfLeafAndJoin_114 : decode b_W_openOfLeafAndJoin 114 = .ok (.invokevirtual 78, 3) := by decide +kernel
theorem d_W_openOfLeafAndJoin_117 : decode b_W_openOfLeafAndJoin 117 = .ok (.return_, 1) := by decide +kernel
abbrev rm_W_openOfLeafAndJoin : Room := { frames := 3, cells := 0, slots := 0, locals := 66 }
def f_W_openOfLeafAndJoin_101 (x1 : Int32) (x2 : Int32) (x3 : Int32) (M : Mem) : Option Mem :=
  om (f_W_await (2 : Int32) x1 x2 (-1 : Int32) M) fun M106 => om (f_W_await (0 : Int32) x3 (-1 : Int32) (-1 : Int32) M106) fun M114 => some M114
set_option maxRecDepth 100000 in
theorem g_W_openOfLeafAndJoin_101 {M' : Mem} (C : GC p s m args meth c b_W_openOfLeafAndJoin 7 (none) "NoneWords$Writer" TB D vwCl (tysW cI cZ cC) A Z) {x1 : Int32} {x2 : Int32} {x3 : Int32} {M : Mem} (hf : f_W_openOfLeafAndJoin_101 x1 x2 x3 M = some M') : GW p l e rm_W_openOfLeafAndJoin s m args below meth c (MQ below (QW D vwCl (tysW cI cZ cC) A none (wc ad cI cZ cC M')) args s 0 0 A) D vwCl A 7 0 0 (wc ad cI cZ cC M) 101 [(0, .ref (ad 11)), (1, .int x1), (2, .int x2), (3, .int x3)] [] := by
  unfold f_W_openOfLeafAndJoin_101 at hf
  refine gw_aload_n C 0 d_W_openOfLeafAndJoin_101 rfl rfl ?_
  refine gw_iconst (v := (2 : Int32)) C d_W_openOfLeafAndJoin_102 (by decide) ?_
  refine gw_iload_n C 1 d_W_openOfLeafAndJoin_103 rfl rfl ?_
  refine gw_iload_n C 2 d_W_openOfLeafAndJoin_104 rfl rfl ?_
  refine gw_iconst (v := (-1 : Int32)) C d_W_openOfLeafAndJoin_105 (by decide) ?_
  obtain ⟨M106, hc106, hf⟩ := om_some hf
  refine gw_callVv (rest := []) C 11 wcg_11 clg_3 (c_W_await C.2.2.2.2.2.2.2.2.2.2 hc106) (cwV 4 C.2.2.2.2.1 (gTB_V tw_349 mv_W_await) rfl rfl rfl pd_W_await ⟨Nat.le_of_ble_eq_true rfl, Nat.le_of_ble_eq_true rfl⟩) rfl rfl (Nat.le_of_ble_eq_true rfl) d_W_openOfLeafAndJoin_106 ⟨Nat.le_of_ble_eq_true rfl, Nat.le_of_ble_eq_true rfl⟩ ?_
  refine gw_aload_n C 0 d_W_openOfLeafAndJoin_109 rfl rfl ?_
  refine gw_iconst (v := (0 : Int32)) C d_W_openOfLeafAndJoin_110 (by decide) ?_
  refine gw_iload_n C 3 d_W_openOfLeafAndJoin_111 rfl rfl ?_
  refine gw_iconst (v := (-1 : Int32)) C d_W_openOfLeafAndJoin_112 (by decide) ?_
  refine gw_iconst (v := (-1 : Int32)) C d_W_openOfLeafAndJoin_113 (by decide) ?_
  obtain ⟨M114, hc114, hf⟩ := om_some hf
  refine gw_callVv (rest := []) C 11 wcg_11 clg_3 (c_W_await C.2.2.2.2.2.2.2.2.2.2 hc114) (cwV 4 C.2.2.2.2.1 (gTB_V tw_349 mv_W_await) rfl rfl rfl pd_W_await ⟨Nat.le_of_ble_eq_true rfl, Nat.le_of_ble_eq_true rfl⟩) rfl rfl (Nat.le_of_ble_eq_true rfl) d_W_openOfLeafAndJoin_114 ⟨Nat.le_of_ble_eq_true rfl, Nat.le_of_ble_eq_true rfl⟩ ?_
  exact gw_vreti C d_W_openOfLeafAndJoin_117 (wc ad cI cZ cC) hf
def f_W_openOfLeafAndJoin_37 (x1 : Int32) (x2 : Int32) (x3 : Int32) (x4 : Int32) (x5 : Int32) (y0 : Int32) (M : Mem) : Option Mem :=
  ob (f_W_hasNumber x3 M) fun r41 M41 => if r41 = 0 then if y0 = 0 then f_W_openOfLeafAndJoin_101 x1 x2 x3 M41 else ob (f_W_isShared x3 M41) fun r65 M65 => if r65 = 0 then ob (f_W_hasNumber x5 M65) fun r74 M74 => if r74 = 0 then om (f_W_await (2 : Int32) x1 x4 x2 M74) fun M86 => om (f_W_await (0 : Int32) x5 (-1 : Int32) (-1 : Int32) M86) fun M95 => some M95 else f_W_openOfLeafAndJoin_101 x1 x2 x3 M74 else f_W_openOfLeafAndJoin_101 x1 x2 x3 M65 else om (f_W_close (1 : Int32) x2 x3 x1 M41) fun M52 => some M52
set_option maxRecDepth 100000 in
theorem g_W_openOfLeafAndJoin_37 {M' : Mem} (C : GC p s m args meth c b_W_openOfLeafAndJoin 7 (none) "NoneWords$Writer" TB D vwCl (tysW cI cZ cC) A Z) {x1 : Int32} {x2 : Int32} {x3 : Int32} {x4 : Int32} {x5 : Int32} {y0 : Int32} {M : Mem} (hf : f_W_openOfLeafAndJoin_37 x1 x2 x3 x4 x5 y0 M = some M') : GW p l e rm_W_openOfLeafAndJoin s m args below meth c (MQ below (QW D vwCl (tysW cI cZ cC) A none (wc ad cI cZ cC M')) args s 0 0 A) D vwCl A 7 0 0 (wc ad cI cZ cC M) 37 [(0, .ref (ad 11)), (1, .int x1), (2, .int x2), (3, .int x3), (4, .int x4), (5, .int x5)] [.int y0] := by
  unfold f_W_openOfLeafAndJoin_37 at hf
  refine gw_istore (lv' := [(6, .int y0), (0, .ref (ad 11)), (1, .int x1), (2, .int x2), (3, .int x3), (4, .int x4), (5, .int x5)]) C d_W_openOfLeafAndJoin_37 (by decide) rfl ?_
  refine gw_aload_n C 1 d_W_openOfLeafAndJoin_39 rfl rfl ?_
  refine gw_iload_n C 4 d_W_openOfLeafAndJoin_40 rfl rfl ?_
  obtain ⟨r41, M41, hc41, hf⟩ := ob_some hf
  refine gw_callVr (rest := []) C 11 wcg_11 clg_3 (c_W_hasNumber C.2.2.2.2.2.2.2.2.2.2 hc41) (cwV 1 C.2.2.2.2.1 (gTB_V tw_369 mv_W_hasNumber) rfl rfl rfl pd_W_hasNumber ⟨Nat.le_of_ble_eq_true rfl, Nat.le_of_ble_eq_true rfl⟩) rfl rfl (Nat.le_of_ble_eq_true rfl) d_W_openOfLeafAndJoin_41 ⟨Nat.le_of_ble_eq_true rfl, Nat.le_of_ble_eq_true rfl⟩ ?_
  refine gw_if_eq (tgt := 58) C d_W_openOfLeafAndJoin_44 (by decide) (fun c => ?_) (fun c => ?_)
  · have hf := (if_pos c).symm.trans hf
    refine gw_iload C 0 d_W_openOfLeafAndJoin_58 rfl ?_
    refine gw_if_eq (tgt := 101) C d_W_openOfLeafAndJoin_60 (by decide) (fun c => ?_) (fun c => ?_)
    · have hf := (if_pos c).symm.trans hf
      exact gw_sub [1, 2, 3, 4] rfl (g_W_openOfLeafAndJoin_101 C hf)
    · have hf := (if_neg c).symm.trans hf
      refine gw_aload_n C 1 d_W_openOfLeafAndJoin_63 rfl rfl ?_
      refine gw_iload_n C 4 d_W_openOfLeafAndJoin_64 rfl rfl ?_
      obtain ⟨r65, M65, hc65, hf⟩ := ob_some hf
      refine gw_callVr (rest := []) C 11 wcg_11 clg_3 (c_W_isShared C.2.2.2.2.2.2.2.2.2.2 hc65) (cwV 1 C.2.2.2.2.1 (gTB_V tw_381 mv_W_isShared) rfl rfl rfl pd_W_isShared ⟨Nat.le_of_ble_eq_true rfl, Nat.le_of_ble_eq_true rfl⟩) rfl rfl (Nat.le_of_ble_eq_true rfl) d_W_openOfLeafAndJoin_65 ⟨Nat.le_of_ble_eq_true rfl, Nat.le_of_ble_eq_true rfl⟩ ?_
      refine gw_if_ne (tgt := 101) C d_W_openOfLeafAndJoin_68 (by decide) (fun c => ?_) (fun c => ?_)
      · have hf := (if_neg c).symm.trans hf
        exact gw_sub [1, 2, 3, 4] rfl (g_W_openOfLeafAndJoin_101 C hf)
      · have hf := (if_pos c).symm.trans hf
        refine gw_aload_n C 1 d_W_openOfLeafAndJoin_71 rfl rfl ?_
        refine gw_iload C 6 d_W_openOfLeafAndJoin_72 rfl ?_
        obtain ⟨r74, M74, hc74, hf⟩ := ob_some hf
        refine gw_callVr (rest := []) C 11 wcg_11 clg_3 (c_W_hasNumber C.2.2.2.2.2.2.2.2.2.2 hc74) (cwV 1 C.2.2.2.2.1 (gTB_V tw_369 mv_W_hasNumber) rfl rfl rfl pd_W_hasNumber ⟨Nat.le_of_ble_eq_true rfl, Nat.le_of_ble_eq_true rfl⟩) rfl rfl (Nat.le_of_ble_eq_true rfl) d_W_openOfLeafAndJoin_74 ⟨Nat.le_of_ble_eq_true rfl, Nat.le_of_ble_eq_true rfl⟩ ?_
        refine gw_if_ne (tgt := 101) C d_W_openOfLeafAndJoin_77 (by decide) (fun c => ?_) (fun c => ?_)
        · have hf := (if_neg c).symm.trans hf
          exact gw_sub [1, 2, 3, 4] rfl (g_W_openOfLeafAndJoin_101 C hf)
        · have hf := (if_pos c).symm.trans hf
          refine gw_aload_n C 1 d_W_openOfLeafAndJoin_80 rfl rfl ?_
          refine gw_iconst (v := (2 : Int32)) C d_W_openOfLeafAndJoin_81 (by decide) ?_
          refine gw_iload_n C 2 d_W_openOfLeafAndJoin_82 rfl rfl ?_
          refine gw_iload C 5 d_W_openOfLeafAndJoin_83 rfl ?_
          refine gw_iload_n C 3 d_W_openOfLeafAndJoin_85 rfl rfl ?_
          obtain ⟨M86, hc86, hf⟩ := om_some hf
          refine gw_callVv (rest := []) C 11 wcg_11 clg_3 (c_W_await C.2.2.2.2.2.2.2.2.2.2 hc86) (cwV 4 C.2.2.2.2.1 (gTB_V tw_349 mv_W_await) rfl rfl rfl pd_W_await ⟨Nat.le_of_ble_eq_true rfl, Nat.le_of_ble_eq_true rfl⟩) rfl rfl (Nat.le_of_ble_eq_true rfl) d_W_openOfLeafAndJoin_86 ⟨Nat.le_of_ble_eq_true rfl, Nat.le_of_ble_eq_true rfl⟩ ?_
          refine gw_aload_n C 1 d_W_openOfLeafAndJoin_89 rfl rfl ?_
          refine gw_iconst (v := (0 : Int32)) C d_W_openOfLeafAndJoin_90 (by decide) ?_
          refine gw_iload C 6 d_W_openOfLeafAndJoin_91 rfl ?_
          refine gw_iconst (v := (-1 : Int32)) C d_W_openOfLeafAndJoin_93 (by decide) ?_
          refine gw_iconst (v := (-1 : Int32)) C d_W_openOfLeafAndJoin_94 (by decide) ?_
          obtain ⟨M95, hc95, hf⟩ := om_some hf
          refine gw_callVv (rest := []) C 11 wcg_11 clg_3 (c_W_await C.2.2.2.2.2.2.2.2.2.2 hc95) (cwV 4 C.2.2.2.2.1 (gTB_V tw_349 mv_W_await) rfl rfl rfl pd_W_await ⟨Nat.le_of_ble_eq_true rfl, Nat.le_of_ble_eq_true rfl⟩) rfl rfl (Nat.le_of_ble_eq_true rfl) d_W_openOfLeafAndJoin_95 ⟨Nat.le_of_ble_eq_true rfl, Nat.le_of_ble_eq_true rfl⟩ ?_
          refine gw_goto (tgt := 117) C d_W_openOfLeafAndJoin_98 (by decide) ?_
          exact gw_vreti C d_W_openOfLeafAndJoin_117 (wc ad cI cZ cC) hf
  · have hf := (if_neg c).symm.trans hf
    refine gw_aload_n C 1 d_W_openOfLeafAndJoin_47 rfl rfl ?_
    refine gw_iconst (v := (1 : Int32)) C d_W_openOfLeafAndJoin_48 (by decide) ?_
    refine gw_iload_n C 3 d_W_openOfLeafAndJoin_49 rfl rfl ?_
    refine gw_iload_n C 4 d_W_openOfLeafAndJoin_50 rfl rfl ?_
    refine gw_iload_n C 2 d_W_openOfLeafAndJoin_51 rfl rfl ?_
    obtain ⟨M52, hc52, hf⟩ := om_some hf
    refine gw_callVv (rest := []) C 11 wcg_11 clg_3 (c_W_close C.2.2.2.2.2.2.2.2.2.2 hc52) (cwV 4 C.2.2.2.2.1 (gTB_V tw_377 mv_W_close) rfl rfl rfl pd_W_close ⟨Nat.le_of_ble_eq_true rfl, Nat.le_of_ble_eq_true rfl⟩) rfl rfl (Nat.le_of_ble_eq_true rfl) d_W_openOfLeafAndJoin_52 ⟨Nat.le_of_ble_eq_true rfl, Nat.le_of_ble_eq_true rfl⟩ ?_
    refine gw_goto (tgt := 117) C d_W_openOfLeafAndJoin_55 (by decide) ?_
    exact gw_vreti C d_W_openOfLeafAndJoin_117 (wc ad cI cZ cC) hf
def f_W_openOfLeafAndJoin (x1 : Int32) (x2 : Int32) (x3 : Int32) (M : Mem) : Option Mem :=
  ob (f_F_leafPart x3 M) fun r5 M5 => ob (f_F_joinPart x3 M5) fun r15 M15 => if r5 = (-1 : Int32) then f_W_openOfLeafAndJoin_37 x1 x2 x3 r5 r15 (0 : Int32) M15 else if r15 = (-1 : Int32) then f_W_openOfLeafAndJoin_37 x1 x2 x3 r5 r15 (0 : Int32) M15 else f_W_openOfLeafAndJoin_37 x1 x2 x3 r5 r15 (1 : Int32) M15
set_option maxRecDepth 100000 in
theorem g_W_openOfLeafAndJoin {M' : Mem} (C : GC p s m args meth c b_W_openOfLeafAndJoin 7 (none) "NoneWords$Writer" TB D vwCl (tysW cI cZ cC) A Z) {x1 : Int32} {x2 : Int32} {x3 : Int32} {M : Mem} (hf : f_W_openOfLeafAndJoin x1 x2 x3 M = some M') : GW p l e rm_W_openOfLeafAndJoin s m args below meth c (MQ below (QW D vwCl (tysW cI cZ cC) A none (wc ad cI cZ cC M')) args s 0 0 A) D vwCl A 7 0 0 (wc ad cI cZ cC M) 0 [(0, .ref (ad 11)), (1, .int x1), (2, .int x2), (3, .int x3)] [] := by
  unfold f_W_openOfLeafAndJoin at hf
  refine gw_aload_n C 0 d_W_openOfLeafAndJoin_0 rfl rfl ?_
  refine gw_get C in_W 11 wcg_11 clg_3 0 (by decide) tw_133 rfl rfl d_W_openOfLeafAndJoin_1 ?_
  refine gw_iload_n C 3 d_W_openOfLeafAndJoin_4 rfl rfl ?_
  obtain ⟨r5, M5, hc5, hf⟩ := ob_some hf
  refine gw_callVr (rest := []) C 1 wcg_1 clg_0 (c_F_leafPart C.2.2.2.2.2.2.2.2.2.2 hc5) (cwV 1 C.2.2.2.2.1 (gTB_V tw_403 mv_F_leafPart) rfl rfl rfl pd_F_leafPart ⟨Nat.le_of_ble_eq_true rfl, Nat.le_of_ble_eq_true rfl⟩) rfl rfl (Nat.le_of_ble_eq_true rfl) d_W_openOfLeafAndJoin_5 ⟨Nat.le_of_ble_eq_true rfl, Nat.le_of_ble_eq_true rfl⟩ ?_
  refine gw_istore (lv' := [(4, .int r5), (0, .ref (ad 11)), (1, .int x1), (2, .int x2), (3, .int x3)]) C d_W_openOfLeafAndJoin_8 (by decide) rfl ?_
  refine gw_aload_n C 1 d_W_openOfLeafAndJoin_10 rfl rfl ?_
  refine gw_get C in_W 11 wcg_11 clg_3 0 (by decide) tw_133 rfl rfl d_W_openOfLeafAndJoin_11 ?_
  refine gw_iload_n C 4 d_W_openOfLeafAndJoin_14 rfl rfl ?_
  obtain ⟨r15, M15, hc15, hf⟩ := ob_some hf
  refine gw_callVr (rest := []) C 1 wcg_1 clg_0 (c_F_joinPart C.2.2.2.2.2.2.2.2.2.2 hc15) (cwV 1 C.2.2.2.2.1 (gTB_V tw_407 mv_F_joinPart) rfl rfl rfl pd_F_joinPart ⟨Nat.le_of_ble_eq_true rfl, Nat.le_of_ble_eq_true rfl⟩) rfl rfl (Nat.le_of_ble_eq_true rfl) d_W_openOfLeafAndJoin_15 ⟨Nat.le_of_ble_eq_true rfl, Nat.le_of_ble_eq_true rfl⟩ ?_
  refine gw_istore (lv' := [(5, .int r15), (4, .int r5), (0, .ref (ad 11)), (1, .int x1), (2, .int x2), (3, .int x3)]) C d_W_openOfLeafAndJoin_18 (by decide) rfl ?_
  refine gw_iload C 1 d_W_openOfLeafAndJoin_20 rfl ?_
  refine gw_iconst (v := (-1 : Int32)) C d_W_openOfLeafAndJoin_22 (by decide) ?_
  refine gw_icmp_eq (tgt := 36) C d_W_openOfLeafAndJoin_23 (by decide) (fun c => ?_) (fun c => ?_)
  · have hf := (if_pos c).symm.trans hf
    refine gw_iconst (v := (0 : Int32)) C d_W_openOfLeafAndJoin_36 (by decide) ?_
    exact gw_sub [2, 3, 4, 5, 1, 0] rfl (g_W_openOfLeafAndJoin_37 C hf)
  · have hf := (if_neg c).symm.trans hf
    refine gw_iload C 0 d_W_openOfLeafAndJoin_26 rfl ?_
    refine gw_iconst (v := (-1 : Int32)) C d_W_openOfLeafAndJoin_28 (by decide) ?_
    refine gw_icmp_eq (tgt := 36) C d_W_openOfLeafAndJoin_29 (by decide) (fun c => ?_) (fun c => ?_)
    · have hf := (if_pos c).symm.trans hf
      refine gw_iconst (v := (0 : Int32)) C d_W_openOfLeafAndJoin_36 (by decide) ?_
      exact gw_sub [2, 3, 4, 5, 1, 0] rfl (g_W_openOfLeafAndJoin_37 C hf)
    · have hf := (if_neg c).symm.trans hf
      refine gw_iconst (v := (1 : Int32)) C d_W_openOfLeafAndJoin_32 (by decide) ?_
      refine gw_goto (tgt := 37) C d_W_openOfLeafAndJoin_33 (by decide) ?_
      exact gw_sub [2, 3, 4, 5, 1, 0] rfl (g_W_openOfLeafAndJoin_37 C hf)
theorem c_W_openOfLeafAndJoin (hZ : gw_ZOK Z) {x1 : Int32} {x2 : Int32} {x3 : Int32} {M : Mem} {M' : Mem} (hf : f_W_openOfLeafAndJoin x1 x2 x3 M = some M') : CW l y_W_openOfLeafAndJoin ws_W_openOfLeafAndJoin rm_W_openOfLeafAndJoin D vwCl (tysW cI cZ cC) Z [.ref (ad 11), .int x1, .int x2, .int x3] (wc ad cI cZ cC M) none (wc ad cI cZ cC M') 0 0 :=
  CW.ofG hZ (by decide) rfl (Nat.le_of_ble_eq_true rfl) (fun _ _ _ _ _ _ _ _ C _ => g_W_openOfLeafAndJoin C hf)
abbrev b_W_goOn : ByteArray := prog_5_method_16_code
def y_W_goOn : MethodName := ⟨"NoneWords$Writer", "goOn", "(III)V"⟩
abbrev ws_W_goOn : List Cond := Cond.code y_W_goOn b_W_goOn 5 (none) :: TB
set_option maxRecDepth 100000 in
theorem tc_W_goOn : Cond.code y_W_goOn b_W_goOn 5 (none) ∈ TB := inTB 415 rfl rfl
theorem mv_W_goOn : Cond.instanceMethod y_W_goOn ∈ TB ∧ Cond.selects "NoneWords$Writer" y_W_goOn y_W_goOn ∈ TB ∧ Cond.initialized "NoneWords$Writer" ∈ TB ∧ Cond.code y_W_goOn b_W_goOn 5 (none) ∈ TB := ⟨inTB 414 (by decide +kernel) (by decide +kernel), inTB 12 (by decide +kernel) (by decide +kernel), inTB 67 (by decide +kernel) (by decide +kernel), tc_W_goOn⟩
theorem pd_W_goOn : y_W_goOn.cls = "NoneWords$Writer" ∧ y_W_goOn.cls ≠ "java/lang/invoke/MethodHandle" ∧ y_W_goOn.cls ≠ "java/lang/invoke/VarHandle" ∧ (parseMethodDescriptor y_W_goOn.desc).map (fun d => d.parameters.length) = some 3 := by decide +kernel
theorem d_W_goOn_0 : decode b_W_goOn 0 = .ok (.aload_n 0, 1) := by decide +kernel
theorem d_W_goOn_1 : decode b_W_goOn 1 = .ok (.getfield 55, 3) := by decide +kernel
theorem d_W_goOn_4 : decode b_W_goOn 4 = .ok (.iload_n 2, 1) := by decide +kernel
theorem d_W_goOn_5 : decode b_W_goOn 5 = .ok (.invokevirtual 126, 3) := by decide +kernel
theorem d_W_goOn_8 : decode b_W_goOn 8 = .ok (.ifCond .ne 14, 3) := by decide +kernel
theorem d_W_goOn_11 : decode b_W_goOn 11 = .ok (.aload_n 0, 1) := by decide +kernel
theorem d_W_goOn_12 : decode b_W_goOn 12 = .ok (.getfield 55, 3) := by decide +kernel
theorem d_W_goOn_15 : decode b_W_goOn 15 = .ok (.iload_n 3, 1) := by decide +kernel
theorem d_W_goOn_16 : decode b_W_goOn 16 = .ok (.invokevirtual 126, 3) := by decide +kernel
theorem d_W_goOn_19 : decode b_W_goOn 19 = .ok (.ifCond .eq 7, 3) := by decide +kernel
theorem d_W_goOn_22 : decode b_W_goOn 22 = .ok (.iconst 1, 1) := by decide +kernel
theorem d_W_goOn_23 : decode b_W_goOn 23 = .ok (.goto 4, 3) := by decide +kernel
theorem d_W_goOn_26 : decode b_W_goOn 26 = .ok (.iconst 0, 1) := by decide +kernel
theorem d_W_goOn_27 : decode b_W_goOn 27 = .ok (.istore 4, 2) := by decide +kernel
theorem d_W_goOn_29 : decode b_W_goOn 29 = .ok (.iload 4, 2) := by decide +kernel
theorem d_W_goOn_31 : decode b_W_goOn 31 = .ok (.ifCond .ne 16, 3) := by decide +kernel
theorem d_W_goOn_34 : decode b_W_goOn 34 = .ok (.aload_n 0, 1) := by decide +kernel
theorem d_W_goOn_35 : decode b_W_goOn 35 = .ok (.iload_n 2, 1) := by decide +kernel
theorem d_W_goOn_36 : decode b_W_goOn 36 = .ok (.invokevirtual 120, 3) := by decide +kernel
theorem d_W_goOn_39 : decode b_W_goOn 39 = .ok (.ifCond .ne 8, 3) := by decide +kernel
theorem d_W_goOn_42 : decode b_W_goOn 42 = .ok (.aload_n 0, 1) := by decide +kernel
theorem d_W_goOn_43 : decode b_W_goOn 43 = .ok (.iload_n 2, 1) := by decide +kernel
theorem d_W_goOn_44 : decode b_W_goOn 44 = .ok (.invokevirtual 129, 3) := by decide +kernel
theorem d_W_goOn_47 : decode b_W_goOn 47 = .ok (.aload_n 0, 1) := by decide +kernel
theorem d_W_goOn_48 : decode b_W_goOn 48 = .ok (.iload_n 3, 1) := by decide +kernel
theorem d_W_goOn_49 : decode b_W_goOn 49 = .ok (.invokevirtual 120, 3) := by decide +kernel
theorem d_W_goOn_52 : decode b_W_goOn 52 = .ok (.ifCond .eq 14, 3) := by decide +kernel
theorem d_W_goOn_55 : decode b_W_goOn 55 = .ok (.aload_n 0, 1) := by decide +kernel
theorem d_W_goOn_56 : decode b_W_goOn 56 = .ok (.iconst 2, 1) := by decide +kernel
theorem d_W_goOn_57 : decode b_W_goOn 57 = .ok (.iload_n 3, 1) := by decide +kernel
theorem d_W_goOn_58 : decode b_W_goOn 58 = .ok (.iconst (-1), 1) := by decide +kernel
theorem d_W_goOn_59 : decode b_W_goOn 59 = .ok (.iload_n 1, 1) := by decide +kernel
theorem d_W_goOn_60 : decode b_W_goOn 60 = .ok (.invokevirtual 89, 3) := by decide +kernel
theorem d_W_goOn_63 : decode b_W_goOn 63 = .ok (.goto 28, 3) := by decide +kernel
theorem d_W_goOn_66 : decode b_W_goOn 66 = .ok (.aload_n 0, 1) := by decide +kernel
theorem d_W_goOn_67 : decode b_W_goOn 67 = .ok (.iconst 2, 1) := by decide +kernel
theorem d_W_goOn_68 : decode b_W_goOn 68 = .ok (.iload_n 1, 1) := by decide +kernel
theorem d_W_goOn_69 : decode b_W_goOn 69 = .ok (.iload 4, 2) := by decide +kernel
theorem d_W_goOn_71 : decode b_W_goOn 71 = .ok (.ifCond .eq 7, 3) := by decide +kernel
theorem d_W_goOn_74 : decode b_W_goOn 74 = .ok (.iconst (-1), 1) := by decide +kernel
theorem d_W_goOn_75 : decode b_W_goOn 75 = .ok (.goto 4, 3) := by decide +kernel
theorem d_W_goOn_78 : decode b_W_goOn 78 = .ok (.iload_n 2, 1) := by decide +kernel
theorem d_W_goOn_79 : decode b_W_goOn 79 = .ok (.iconst (-1), 1) := by decide +kernel
theorem d_W_goOn_80 : decode b_W_goOn 80 = .ok (.invokevirtual 78, 3) := by decide +kernel
theorem d_W_goOn_83 : decode b_W_goOn 83 = .ok (.aload_n 0, 1) := by decide +kernel
theorem d_W_goOn_84 : decode b_W_goOn 84 = .ok (.iconst 0, 1) := by decide +kernel
theorem d_W_goOn_85 : decode b_W_goOn 85 = .ok (.iload_n 3, 1) := by decide +kernel
theorem d_W_goOn_86 : decode b_W_goOn 86 = .ok (.iconst (-1), 1) := by decide +kernel
theorem d_W_goOn_87 : decode b_W_goOn 87 = .ok (.iconst (-1), 1) := by decide +kernel
theorem d_W_goOn_88 : decode b_W_goOn 88 = .ok (.invokevirtual 78, 3) := by decide +kernel
theorem d_W_goOn_91 : decode b_W_goOn 91 = .ok (.return_, 1) := by decide +kernel
abbrev rm_W_goOn : Room := { frames := 3, cells := 0, slots := 0, locals := 66 }
def f_W_goOn_79 (x3 : Int32) (y0 : Int32) (y1 : Int32) (y2 : Int32) (M : Mem) : Option Mem :=
  om (f_W_await y2 y1 y0 (-1 : Int32) M) fun M80 => om (f_W_await (0 : Int32) x3 (-1 : Int32) (-1 : Int32) M80) fun M88 => some M88
set_option maxRecDepth 100000 in
theorem g_W_goOn_79 {M' : Mem} (C : GC p s m args meth c b_W_goOn 5 (none) "NoneWords$Writer" TB D vwCl (tysW cI cZ cC) A Z) {x3 : Int32} {y0 : Int32} {y1 : Int32} {y2 : Int32} {M : Mem} (hf : f_W_goOn_79 x3 y0 y1 y2 M = some M') : GW p l e rm_W_goOn s m args below meth c (MQ below (QW D vwCl (tysW cI cZ cC) A none (wc ad cI cZ cC M')) args s 0 0 A) D vwCl A 5 0 0 (wc ad cI cZ cC M) 79 [(0, .ref (ad 11)), (3, .int x3)] [.int y0, .int y1, .int y2, .ref (ad 11)] := by
  unfold f_W_goOn_79 at hf
  refine gw_iconst (v := (-1 : Int32)) C d_W_goOn_79 (by decide) ?_
  obtain ⟨M80, hc80, hf⟩ := om_some hf
  refine gw_callVv (rest := []) C 11 wcg_11 clg_3 (c_W_await C.2.2.2.2.2.2.2.2.2.2 hc80) (cwV 4 C.2.2.2.2.1 (gTB_V tw_349 mv_W_await) rfl rfl rfl pd_W_await ⟨Nat.le_of_ble_eq_true rfl, Nat.le_of_ble_eq_true rfl⟩) rfl rfl (Nat.le_of_ble_eq_true rfl) d_W_goOn_80 ⟨Nat.le_of_ble_eq_true rfl, Nat.le_of_ble_eq_true rfl⟩ ?_
  refine gw_aload_n C 0 d_W_goOn_83 rfl rfl ?_
  refine gw_iconst (v := (0 : Int32)) C d_W_goOn_84 (by decide) ?_
  refine gw_iload_n C 1 d_W_goOn_85 rfl rfl ?_
  refine gw_iconst (v := (-1 : Int32)) C d_W_goOn_86 (by decide) ?_
  refine gw_iconst (v := (-1 : Int32)) C d_W_goOn_87 (by decide) ?_
  obtain ⟨M88, hc88, hf⟩ := om_some hf
  refine gw_callVv (rest := []) C 11 wcg_11 clg_3 (c_W_await C.2.2.2.2.2.2.2.2.2.2 hc88) (cwV 4 C.2.2.2.2.1 (gTB_V tw_349 mv_W_await) rfl rfl rfl pd_W_await ⟨Nat.le_of_ble_eq_true rfl, Nat.le_of_ble_eq_true rfl⟩) rfl rfl (Nat.le_of_ble_eq_true rfl) d_W_goOn_88 ⟨Nat.le_of_ble_eq_true rfl, Nat.le_of_ble_eq_true rfl⟩ ?_
  exact gw_vreti C d_W_goOn_91 (wc ad cI cZ cC) hf
def f_W_goOn_47 (x1 : Int32) (x2 : Int32) (x3 : Int32) (x4 : Int32) (M : Mem) : Option Mem :=
  ob (f_W_hasNumber x3 M) fun r49 M49 => if r49 = 0 then if x4 = 0 then f_W_goOn_79 x3 x2 x1 (2 : Int32) M49 else f_W_goOn_79 x3 (-1 : Int32) x1 (2 : Int32) M49 else om (f_W_close (2 : Int32) x3 (-1 : Int32) x1 M49) fun M60 => some M60
set_option maxRecDepth 100000 in
theorem g_W_goOn_47 {M' : Mem} (C : GC p s m args meth c b_W_goOn 5 (none) "NoneWords$Writer" TB D vwCl (tysW cI cZ cC) A Z) {x1 : Int32} {x2 : Int32} {x3 : Int32} {x4 : Int32} {M : Mem} (hf : f_W_goOn_47 x1 x2 x3 x4 M = some M') : GW p l e rm_W_goOn s m args below meth c (MQ below (QW D vwCl (tysW cI cZ cC) A none (wc ad cI cZ cC M')) args s 0 0 A) D vwCl A 5 0 0 (wc ad cI cZ cC M) 47 [(0, .ref (ad 11)), (1, .int x1), (2, .int x2), (3, .int x3), (4, .int x4)] [] := by
  unfold f_W_goOn_47 at hf
  refine gw_aload_n C 0 d_W_goOn_47 rfl rfl ?_
  refine gw_iload_n C 3 d_W_goOn_48 rfl rfl ?_
  obtain ⟨r49, M49, hc49, hf⟩ := ob_some hf
  refine gw_callVr (rest := []) C 11 wcg_11 clg_3 (c_W_hasNumber C.2.2.2.2.2.2.2.2.2.2 hc49) (cwV 1 C.2.2.2.2.1 (gTB_V tw_369 mv_W_hasNumber) rfl rfl rfl pd_W_hasNumber ⟨Nat.le_of_ble_eq_true rfl, Nat.le_of_ble_eq_true rfl⟩) rfl rfl (Nat.le_of_ble_eq_true rfl) d_W_goOn_49 ⟨Nat.le_of_ble_eq_true rfl, Nat.le_of_ble_eq_true rfl⟩ ?_
  refine gw_if_eq (tgt := 66) C d_W_goOn_52 (by decide) (fun c => ?_) (fun c => ?_)
  · have hf := (if_pos c).symm.trans hf
    refine gw_aload_n C 0 d_W_goOn_66 rfl rfl ?_
    refine gw_iconst (v := (2 : Int32)) C d_W_goOn_67 (by decide) ?_
    refine gw_iload_n C 1 d_W_goOn_68 rfl rfl ?_
    refine gw_iload C 4 d_W_goOn_69 rfl ?_
    refine gw_if_eq (tgt := 78) C d_W_goOn_71 (by decide) (fun c => ?_) (fun c => ?_)
    · have hf := (if_pos c).symm.trans hf
      refine gw_iload_n C 2 d_W_goOn_78 rfl rfl ?_
      exact gw_sub [0, 3] rfl (g_W_goOn_79 C hf)
    · have hf := (if_neg c).symm.trans hf
      refine gw_iconst (v := (-1 : Int32)) C d_W_goOn_74 (by decide) ?_
      refine gw_goto (tgt := 79) C d_W_goOn_75 (by decide) ?_
      exact gw_sub [0, 3] rfl (g_W_goOn_79 C hf)
  · have hf := (if_neg c).symm.trans hf
    refine gw_aload_n C 0 d_W_goOn_55 rfl rfl ?_
    refine gw_iconst (v := (2 : Int32)) C d_W_goOn_56 (by decide) ?_
    refine gw_iload_n C 3 d_W_goOn_57 rfl rfl ?_
    refine gw_iconst (v := (-1 : Int32)) C d_W_goOn_58 (by decide) ?_
    refine gw_iload_n C 1 d_W_goOn_59 rfl rfl ?_
    obtain ⟨M60, hc60, hf⟩ := om_some hf
    refine gw_callVv (rest := []) C 11 wcg_11 clg_3 (c_W_close C.2.2.2.2.2.2.2.2.2.2 hc60) (cwV 4 C.2.2.2.2.1 (gTB_V tw_377 mv_W_close) rfl rfl rfl pd_W_close ⟨Nat.le_of_ble_eq_true rfl, Nat.le_of_ble_eq_true rfl⟩) rfl rfl (Nat.le_of_ble_eq_true rfl) d_W_goOn_60 ⟨Nat.le_of_ble_eq_true rfl, Nat.le_of_ble_eq_true rfl⟩ ?_
    refine gw_goto (tgt := 91) C d_W_goOn_63 (by decide) ?_
    exact gw_vreti C d_W_goOn_91 (wc ad cI cZ cC) hf
def f_W_goOn_27 (x1 : Int32) (x2 : Int32) (x3 : Int32) (y0 : Int32) (M : Mem) : Option Mem :=
  if y0 = 0 then ob (f_W_hasNumber x2 M) fun r36 M36 => if r36 = 0 then om (f_W_giveNumber x2 M36) fun M44 => f_W_goOn_47 x1 x2 x3 y0 M44 else f_W_goOn_47 x1 x2 x3 y0 M36 else f_W_goOn_47 x1 x2 x3 y0 M
set_option maxRecDepth 100000 in
theorem g_W_goOn_27 {M' : Mem} (C : GC p s m args meth c b_W_goOn 5 (none) "NoneWords$Writer" TB D vwCl (tysW cI cZ cC) A Z) {x1 : Int32} {x2 : Int32} {x3 : Int32} {y0 : Int32} {M : Mem} (hf : f_W_goOn_27 x1 x2 x3 y0 M = some M') : GW p l e rm_W_goOn s m args below meth c (MQ below (QW D vwCl (tysW cI cZ cC) A none (wc ad cI cZ cC M')) args s 0 0 A) D vwCl A 5 0 0 (wc ad cI cZ cC M) 27 [(0, .ref (ad 11)), (1, .int x1), (2, .int x2), (3, .int x3)] [.int y0] := by
  unfold f_W_goOn_27 at hf
  refine gw_istore (lv' := [(4, .int y0), (0, .ref (ad 11)), (1, .int x1), (2, .int x2), (3, .int x3)]) C d_W_goOn_27 (by decide) rfl ?_
  refine gw_iload C 0 d_W_goOn_29 rfl ?_
  refine gw_if_ne (tgt := 47) C d_W_goOn_31 (by decide) (fun c => ?_) (fun c => ?_)
  · have hf := (if_neg c).symm.trans hf
    exact gw_sub [1, 2, 3, 4, 0] rfl (g_W_goOn_47 C hf)
  · have hf := (if_pos c).symm.trans hf
    refine gw_aload_n C 1 d_W_goOn_34 rfl rfl ?_
    refine gw_iload_n C 3 d_W_goOn_35 rfl rfl ?_
    obtain ⟨r36, M36, hc36, hf⟩ := ob_some hf
    refine gw_callVr (rest := []) C 11 wcg_11 clg_3 (c_W_hasNumber C.2.2.2.2.2.2.2.2.2.2 hc36) (cwV 1 C.2.2.2.2.1 (gTB_V tw_369 mv_W_hasNumber) rfl rfl rfl pd_W_hasNumber ⟨Nat.le_of_ble_eq_true rfl, Nat.le_of_ble_eq_true rfl⟩) rfl rfl (Nat.le_of_ble_eq_true rfl) d_W_goOn_36 ⟨Nat.le_of_ble_eq_true rfl, Nat.le_of_ble_eq_true rfl⟩ ?_
    refine gw_if_ne (tgt := 47) C d_W_goOn_39 (by decide) (fun c => ?_) (fun c => ?_)
    · have hf := (if_neg c).symm.trans hf
      exact gw_sub [1, 2, 3, 4, 0] rfl (g_W_goOn_47 C hf)
    · have hf := (if_pos c).symm.trans hf
      refine gw_aload_n C 1 d_W_goOn_42 rfl rfl ?_
      refine gw_iload_n C 3 d_W_goOn_43 rfl rfl ?_
      obtain ⟨M44, hc44, hf⟩ := om_some hf
      refine gw_callVv (rest := []) C 11 wcg_11 clg_3 (c_W_giveNumber C.2.2.2.2.2.2.2.2.2.2 hc44) (cwV 1 C.2.2.2.2.1 (gTB_V tw_385 mv_W_giveNumber) rfl rfl rfl pd_W_giveNumber ⟨Nat.le_of_ble_eq_true rfl, Nat.le_of_ble_eq_true rfl⟩) rfl rfl (Nat.le_of_ble_eq_true rfl) d_W_goOn_44 ⟨Nat.le_of_ble_eq_true rfl, Nat.le_of_ble_eq_true rfl⟩ ?_
      exact gw_sub [1, 2, 3, 4, 0] rfl (g_W_goOn_47 C hf)
def f_W_goOn (x1 : Int32) (x2 : Int32) (x3 : Int32) (M : Mem) : Option Mem :=
  ob (f_F_isSimple x2 M) fun r5 M5 => if r5 = 0 then ob (f_F_isSimple x3 M5) fun r16 M16 => if r16 = 0 then f_W_goOn_27 x1 x2 x3 (0 : Int32) M16 else f_W_goOn_27 x1 x2 x3 (1 : Int32) M16 else f_W_goOn_27 x1 x2 x3 (1 : Int32) M5
set_option maxRecDepth 100000 in
theorem g_W_goOn {M' : Mem} (C : GC p s m args meth c b_W_goOn 5 (none) "NoneWords$Writer" TB D vwCl (tysW cI cZ cC) A Z) {x1 : Int32} {x2 : Int32} {x3 : Int32} {M : Mem} (hf : f_W_goOn x1 x2 x3 M = some M') : GW p l e rm_W_goOn s m args below meth c (MQ below (QW D vwCl (tysW cI cZ cC) A none (wc ad cI cZ cC M')) args s 0 0 A) D vwCl A 5 0 0 (wc ad cI cZ cC M) 0 [(0, .ref (ad 11)), (1, .int x1), (2, .int x2), (3, .int x3)] [] := by
  unfold f_W_goOn at hf
  refine gw_aload_n C 0 d_W_goOn_0 rfl rfl ?_
  refine gw_get C in_W 11 wcg_11 clg_3 0 (by decide) tw_133 rfl rfl d_W_goOn_1 ?_
  refine gw_iload_n C 2 d_W_goOn_4 rfl rfl ?_
  obtain ⟨r5, M5, hc5, hf⟩ := ob_some hf
  refine gw_callVr (rest := []) C 1 wcg_1 clg_0 (c_F_isSimple C.2.2.2.2.2.2.2.2.2.2 hc5) (cwV 1 C.2.2.2.2.1 (gTB_V tw_389 mv_F_isSimple) rfl rfl rfl pd_F_isSimple ⟨Nat.le_of_ble_eq_true rfl, Nat.le_of_ble_eq_true rfl⟩) rfl rfl (Nat.le_of_ble_eq_true rfl) d_W_goOn_5 ⟨Nat.le_of_ble_eq_true rfl, Nat.le_of_ble_eq_true rfl⟩ ?_
  refine gw_if_ne (tgt := 22) C d_W_goOn_8 (by decide) (fun c => ?_) (fun c => ?_)
  · have hf := (if_neg c).symm.trans hf
    refine gw_iconst (v := (1 : Int32)) C d_W_goOn_22 (by decide) ?_
    refine gw_goto (tgt := 27) C d_W_goOn_23 (by decide) ?_
    exact gw_sub [0, 1, 2, 3] rfl (g_W_goOn_27 C hf)
  · have hf := (if_pos c).symm.trans hf
    refine gw_aload_n C 0 d_W_goOn_11 rfl rfl ?_
    refine gw_get C in_W 11 wcg_11 clg_3 0 (by decide) tw_133 rfl rfl d_W_goOn_12 ?_
    refine gw_iload_n C 3 d_W_goOn_15 rfl rfl ?_
    obtain ⟨r16, M16, hc16, hf⟩ := ob_some hf
    refine gw_callVr (rest := []) C 1 wcg_1 clg_0 (c_F_isSimple C.2.2.2.2.2.2.2.2.2.2 hc16) (cwV 1 C.2.2.2.2.1 (gTB_V tw_389 mv_F_isSimple) rfl rfl rfl pd_F_isSimple ⟨Nat.le_of_ble_eq_true rfl, Nat.le_of_ble_eq_true rfl⟩) rfl rfl (Nat.le_of_ble_eq_true rfl) d_W_goOn_16 ⟨Nat.le_of_ble_eq_true rfl, Nat.le_of_ble_eq_true rfl⟩ ?_
    refine gw_if_eq (tgt := 26) C d_W_goOn_19 (by decide) (fun c => ?_) (fun c => ?_)
    · have hf := (if_pos c).symm.trans hf
      refine gw_iconst (v := (0 : Int32)) C d_W_goOn_26 (by decide) ?_
      exact gw_sub [0, 1, 2, 3] rfl (g_W_goOn_27 C hf)
    · have hf := (if_neg c).symm.trans hf
      refine gw_iconst (v := (1 : Int32)) C d_W_goOn_22 (by decide) ?_
      refine gw_goto (tgt := 27) C d_W_goOn_23 (by decide) ?_
      exact gw_sub [0, 1, 2, 3] rfl (g_W_goOn_27 C hf)
theorem c_W_goOn (hZ : gw_ZOK Z) {x1 : Int32} {x2 : Int32} {x3 : Int32} {M : Mem} {M' : Mem} (hf : f_W_goOn x1 x2 x3 M = some M') : CW l y_W_goOn ws_W_goOn rm_W_goOn D vwCl (tysW cI cZ cC) Z [.ref (ad 11), .int x1, .int x2, .int x3] (wc ad cI cZ cC M) none (wc ad cI cZ cC M') 0 0 :=
  CW.ofG hZ (by decide) rfl (Nat.le_of_ble_eq_true rfl) (fun _ _ _ _ _ _ _ _ C _ => g_W_goOn C hf)
abbrev b_W_open : ByteArray := prog_5_method_13_code
def y_W_open : MethodName := ⟨"NoneWords$Writer", "open", "(I)V"⟩
abbrev ws_W_open : List Cond := Cond.code y_W_open b_W_open 4 (none) :: TB
set_option maxRecDepth 100000 in
theorem tc_W_open : Cond.code y_W_open b_W_open 4 (none) ∈ TB := inTB 356 rfl rfl
theorem mv_W_open : Cond.instanceMethod y_W_open ∈ TB ∧ Cond.selects "NoneWords$Writer" y_W_open y_W_open ∈ TB ∧ Cond.initialized "NoneWords$Writer" ∈ TB ∧ Cond.code y_W_open b_W_open 4 (none) ∈ TB := ⟨inTB 355 (by decide +kernel) (by decide +kernel), inTB 4 (by decide +kernel) (by decide +kernel), inTB 67 (by decide +kernel) (by decide +kernel), tc_W_open⟩
theorem pd_W_open : y_W_open.cls = "NoneWords$Writer" ∧ y_W_open.cls ≠ "java/lang/invoke/MethodHandle" ∧ y_W_open.cls ≠ "java/lang/invoke/VarHandle" ∧ (parseMethodDescriptor y_W_open.desc).map (fun d => d.parameters.length) = some 1 := by decide +kernel
theorem d_W_open_0 : decode b_W_open 0 = .ok (.aload_n 0, 1) := by decide +kernel
theorem d_W_open_1 : decode b_W_open 1 = .ok (.getfield 55, 3) := by decide +kernel
theorem d_W_open_4 : decode b_W_open 4 = .ok (.iload_n 1, 1) := by decide +kernel
theorem d_W_open_5 : decode b_W_open 5 = .ok (.invokevirtual 92, 3) := by decide +kernel
theorem d_W_open_8 : decode b_W_open 8 = .ok (.istore_n 2, 1) := by decide +kernel
theorem d_W_open_9 : decode b_W_open 9 = .ok (.aload_n 0, 1) := by decide +kernel
theorem d_W_open_10 : decode b_W_open 10 = .ok (.getfield 55, 3) := by decide +kernel
theorem d_W_open_13 : decode b_W_open 13 = .ok (.iload_n 1, 1) := by decide +kernel
theorem d_W_open_14 : decode b_W_open 14 = .ok (.invokevirtual 99, 3) := by decide +kernel
theorem d_W_open_17 : decode b_W_open 17 = .ok (.istore_n 3, 1) := by decide +kernel
theorem d_W_open_18 : decode b_W_open 18 = .ok (.aload_n 0, 1) := by decide +kernel
theorem d_W_open_19 : decode b_W_open 19 = .ok (.getfield 55, 3) := by decide +kernel
theorem d_W_open_22 : decode b_W_open 22 = .ok (.iload_n 1, 1) := by decide +kernel
theorem d_W_open_23 : decode b_W_open 23 = .ok (.invokevirtual 102, 3) := by decide +kernel
theorem d_W_open_26 : decode b_W_open 26 = .ok (.ifCond .ne 14, 3) := by decide +kernel
theorem d_W_open_29 : decode b_W_open 29 = .ok (.aload_n 0, 1) := by decide +kernel
theorem d_W_open_30 : decode b_W_open 30 = .ok (.iconst 0, 1) := by decide +kernel
theorem d_W_open_31 : decode b_W_open 31 = .ok (.iconst (-1), 1) := by decide +kernel
theorem d_W_open_32 : decode b_W_open 32 = .ok (.iconst (-1), 1) := by decide +kernel
theorem d_W_open_33 : decode b_W_open 33 = .ok (.iload_n 1, 1) := by decide +kernel
theorem d_W_open_34 : decode b_W_open 34 = .ok (.invokevirtual 105, 3) := by decide +kernel
theorem d_W_open_37 : decode b_W_open 37 = .ok (.goto 85, 3) := by decide +kernel
theorem d_W_open_40 : decode b_W_open 40 = .ok (.aload_n 0, 1) := by decide +kernel
theorem d_W_open_41 : decode b_W_open 41 = .ok (.getfield 55, 3) := by decide +kernel
theorem d_W_open_44 : decode b_W_open 44 = .ok (.iload_n 2, 1) := by decide +kernel
theorem d_W_open_45 : decode b_W_open 45 = .ok (.invokevirtual 102, 3) := by decide +kernel
theorem d_W_open_48 : decode b_W_open 48 = .ok (.ifCond .eq 24, 3) := by decide +kernel
theorem d_W_open_51 : decode b_W_open 51 = .ok (.aload_n 0, 1) := by decide +kernel
theorem d_W_open_52 : decode b_W_open 52 = .ok (.getfield 55, 3) := by decide +kernel
theorem d_W_open_55 : decode b_W_open 55 = .ok (.iload_n 3, 1) := by decide +kernel
theorem d_W_open_56 : decode b_W_open 56 = .ok (.invokevirtual 102, 3) := by decide +kernel
theorem d_W_open_59 : decode b_W_open 59 = .ok (.ifCond .eq 13, 3) := by decide +kernel
theorem d_W_open_62 : decode b_W_open 62 = .ok (.aload_n 0, 1) := by decide +kernel
theorem d_W_open_63 : decode b_W_open 63 = .ok (.iload_n 1, 1) := by decide +kernel
theorem d_W_open_64 : decode b_W_open 64 = .ok (.iload_n 2, 1) := by decide +kernel
theorem d_W_open_65 : decode b_W_open 65 = .ok (.iload_n 3, 1) := by decide +kernel
theorem d_W_open_66 : decode b_W_open 66 = .ok (.invokevirtual 108, 3) := by decide +kernel
theorem d_W_open_69 : decode b_W_open 69 = .ok (.goto 53, 3) := by decide +kernel
theorem d_W_open_72 : decode b_W_open 72 = .ok (.aload_n 0, 1) := by decide +kernel
theorem d_W_open_73 : decode b_W_open 73 = .ok (.getfield 55, 3) := by decide +kernel
theorem d_W_open_76 : decode b_W_open 76 = .ok (.iload_n 2, 1) := by decide +kernel
theorem d_W_open_77 : decode b_W_open 77 = .ok (.invokevirtual 102, 3) := by decide +kernel
theorem d_W_open_80 : decode b_W_open 80 = .ok (.ifCond .eq 13, 3) := by decide +kernel
theorem d_W_open_83 : decode b_W_open 83 = .ok (.aload_n 0, 1) := by decide +kernel
theorem d_W_open_84 : decode b_W_open 84 = .ok (.iload_n 1, 1) := by decide +kernel
theorem d_W_open_85 : decode b_W_open 85 = .ok (.iload_n 3, 1) := by decide +kernel
theorem d_W_open_86 : decode b_W_open 86 = .ok (.iload_n 2, 1) := by decide +kernel
theorem d_W_open_87 : decode b_W_open 87 = .ok (.invokevirtual 111, 3) := by decide +kernel
theorem d_W_open_90 : decode b_W_open 90 = .ok (.goto 32, 3) := by decide +kernel
theorem d_W_open_93 : decode b_W_open 93 = .ok (.aload_n 0, 1) := by decide +kernel
theorem d_W_open_94 : decode b_W_open 94 = .ok (.getfield 55, 3) := by decide +kernel
theorem d_W_open_97 : decode b_W_open 97 = .ok (.iload_n 3, 1) := by decide +kernel
theorem d_W_open_98 : decode b_W_open 98 = .ok (.invokevirtual 102, 3) := by decide +kernel
theorem d_W_open_101 : decode b_W_open 101 = .ok (.ifCond .eq 13, 3) := by decide +kernel
theorem d_W_open_104 : decode b_W_open 104 = .ok (.aload_n 0, 1) := by decide +kernel
theorem d_W_open_105 : decode b_W_open 105 = .ok (.iload_n 1, 1) := by decide +kernel
theorem d_W_open_106 : decode b_W_open 106 = .ok (.iload_n 2, 1) := by decide +kernel
theorem d_W_open_107 : decode b_W_open 107 = .ok (.iload_n 3, 1) := by decide +kernel
theorem d_W_open_108 : decode b_W_open 108 = .ok (.invokevirtual 111, 3) := by decide +kernel
theorem d_W_open_111 : decode b_W_open 111 = .ok (.goto 11, 3) := by decide +kernel
theorem d_W_open_114 : decode b_W_open 114 = .ok (.aload_n 0, 1) := by decide +kernel
theorem d_W_open_115 : decode b_W_open 115 = .ok (.iconst 1, 1) := by decide +kernel
theorem d_W_open_116 : decode b_W_open 116 = .ok (.iload_n 2, 1) := by decide +kernel
theorem d_W_open_117 : decode b_W_open 117 = .ok (.iload_n 3, 1) := by decide +kernel
theorem d_W_open_118 : decode b_W_open 118 = .ok (.iload_n 1, 1) := by decide +kernel
theorem d_W_open_119 : decode b_W_open 119 = .ok (.invokevirtual 89, 3) := by decide +kernel
theorem d_W_open_122 : decode b_W_open 122 = .ok (.return_, 1) := by decide +kernel
abbrev rm_W_open : Room := { frames := 4, cells := 0, slots := 0, locals := 92 }
def f_W_open_72 (x1 : Int32) (x2 : Int32) (x3 : Int32) (M : Mem) : Option Mem :=
  ob (f_F_isJoin x2 M) fun r77 M77 => if r77 = 0 then ob (f_F_isJoin x3 M77) fun r98 M98 => if r98 = 0 then om (f_W_close (1 : Int32) x2 x3 x1 M98) fun M119 => some M119 else om (f_W_openOfLeafAndJoin x1 x2 x3 M98) fun M108 => some M108 else om (f_W_openOfLeafAndJoin x1 x3 x2 M77) fun M87 => some M87
set_option maxRecDepth 100000 in
theorem g_W_open_72 {M' : Mem} (C : GC p s m args meth c b_W_open 4 (none) "NoneWords$Writer" TB D vwCl (tysW cI cZ cC) A Z) {x1 : Int32} {x2 : Int32} {x3 : Int32} {M : Mem} (hf : f_W_open_72 x1 x2 x3 M = some M') : GW p l e rm_W_open s m args below meth c (MQ below (QW D vwCl (tysW cI cZ cC) A none (wc ad cI cZ cC M')) args s 0 0 A) D vwCl A 4 0 0 (wc ad cI cZ cC M) 72 [(0, .ref (ad 11)), (1, .int x1), (2, .int x2), (3, .int x3)] [] := by
  unfold f_W_open_72 at hf
  refine gw_aload_n C 0 d_W_open_72 rfl rfl ?_
  refine gw_get C in_W 11 wcg_11 clg_3 0 (by decide) tw_133 rfl rfl d_W_open_73 ?_
  refine gw_iload_n C 2 d_W_open_76 rfl rfl ?_
  obtain ⟨r77, M77, hc77, hf⟩ := ob_some hf
  refine gw_callVr (rest := []) C 1 wcg_1 clg_0 (c_F_isJoin C.2.2.2.2.2.2.2.2.2.2 hc77) (cwV 1 C.2.2.2.2.1 (gTB_V tw_357 mv_F_isJoin) rfl rfl rfl pd_F_isJoin ⟨Nat.le_of_ble_eq_true rfl, Nat.le_of_ble_eq_true rfl⟩) rfl rfl (Nat.le_of_ble_eq_true rfl) d_W_open_77 ⟨Nat.le_of_ble_eq_true rfl, Nat.le_of_ble_eq_true rfl⟩ ?_
  refine gw_if_eq (tgt := 93) C d_W_open_80 (by decide) (fun c => ?_) (fun c => ?_)
  · have hf := (if_pos c).symm.trans hf
    refine gw_aload_n C 0 d_W_open_93 rfl rfl ?_
    refine gw_get C in_W 11 wcg_11 clg_3 0 (by decide) tw_133 rfl rfl d_W_open_94 ?_
    refine gw_iload_n C 3 d_W_open_97 rfl rfl ?_
    obtain ⟨r98, M98, hc98, hf⟩ := ob_some hf
    refine gw_callVr (rest := []) C 1 wcg_1 clg_0 (c_F_isJoin C.2.2.2.2.2.2.2.2.2.2 hc98) (cwV 1 C.2.2.2.2.1 (gTB_V tw_357 mv_F_isJoin) rfl rfl rfl pd_F_isJoin ⟨Nat.le_of_ble_eq_true rfl, Nat.le_of_ble_eq_true rfl⟩) rfl rfl (Nat.le_of_ble_eq_true rfl) d_W_open_98 ⟨Nat.le_of_ble_eq_true rfl, Nat.le_of_ble_eq_true rfl⟩ ?_
    refine gw_if_eq (tgt := 114) C d_W_open_101 (by decide) (fun c => ?_) (fun c => ?_)
    · have hf := (if_pos c).symm.trans hf
      refine gw_aload_n C 0 d_W_open_114 rfl rfl ?_
      refine gw_iconst (v := (1 : Int32)) C d_W_open_115 (by decide) ?_
      refine gw_iload_n C 2 d_W_open_116 rfl rfl ?_
      refine gw_iload_n C 3 d_W_open_117 rfl rfl ?_
      refine gw_iload_n C 1 d_W_open_118 rfl rfl ?_
      obtain ⟨M119, hc119, hf⟩ := om_some hf
      refine gw_callVv (rest := []) C 11 wcg_11 clg_3 (c_W_close C.2.2.2.2.2.2.2.2.2.2 hc119) (cwV 4 C.2.2.2.2.1 (gTB_V tw_377 mv_W_close) rfl rfl rfl pd_W_close ⟨Nat.le_of_ble_eq_true rfl, Nat.le_of_ble_eq_true rfl⟩) rfl rfl (Nat.le_of_ble_eq_true rfl) d_W_open_119 ⟨Nat.le_of_ble_eq_true rfl, Nat.le_of_ble_eq_true rfl⟩ ?_
      exact gw_vreti C d_W_open_122 (wc ad cI cZ cC) hf
    · have hf := (if_neg c).symm.trans hf
      refine gw_aload_n C 0 d_W_open_104 rfl rfl ?_
      refine gw_iload_n C 1 d_W_open_105 rfl rfl ?_
      refine gw_iload_n C 2 d_W_open_106 rfl rfl ?_
      refine gw_iload_n C 3 d_W_open_107 rfl rfl ?_
      obtain ⟨M108, hc108, hf⟩ := om_some hf
      refine gw_callVv (rest := []) C 11 wcg_11 clg_3 (c_W_openOfLeafAndJoin C.2.2.2.2.2.2.2.2.2.2 hc108) (cwV 3 C.2.2.2.2.1 (gTB_V tw_399 mv_W_openOfLeafAndJoin) rfl rfl rfl pd_W_openOfLeafAndJoin ⟨Nat.le_of_ble_eq_true rfl, Nat.le_of_ble_eq_true rfl⟩) rfl rfl (Nat.le_of_ble_eq_true rfl) d_W_open_108 ⟨Nat.le_of_ble_eq_true rfl, Nat.le_of_ble_eq_true rfl⟩ ?_
      refine gw_goto (tgt := 122) C d_W_open_111 (by decide) ?_
      exact gw_vreti C d_W_open_122 (wc ad cI cZ cC) hf
  · have hf := (if_neg c).symm.trans hf
    refine gw_aload_n C 0 d_W_open_83 rfl rfl ?_
    refine gw_iload_n C 1 d_W_open_84 rfl rfl ?_
    refine gw_iload_n C 3 d_W_open_85 rfl rfl ?_
    refine gw_iload_n C 2 d_W_open_86 rfl rfl ?_
    obtain ⟨M87, hc87, hf⟩ := om_some hf
    refine gw_callVv (rest := []) C 11 wcg_11 clg_3 (c_W_openOfLeafAndJoin C.2.2.2.2.2.2.2.2.2.2 hc87) (cwV 3 C.2.2.2.2.1 (gTB_V tw_399 mv_W_openOfLeafAndJoin) rfl rfl rfl pd_W_openOfLeafAndJoin ⟨Nat.le_of_ble_eq_true rfl, Nat.le_of_ble_eq_true rfl⟩) rfl rfl (Nat.le_of_ble_eq_true rfl) d_W_open_87 ⟨Nat.le_of_ble_eq_true rfl, Nat.le_of_ble_eq_true rfl⟩ ?_
    refine gw_goto (tgt := 122) C d_W_open_90 (by decide) ?_
    exact gw_vreti C d_W_open_122 (wc ad cI cZ cC) hf
def f_W_open (x1 : Int32) (M : Mem) : Option Mem :=
  ob (f_F_leftPart x1 M) fun r5 M5 => ob (f_F_rightPart x1 M5) fun r14 M14 => ob (f_F_isJoin x1 M14) fun r23 M23 => if r23 = 0 then om (f_W_say (0 : Int32) (-1 : Int32) (-1 : Int32) x1 M23) fun M34 => some M34 else ob (f_F_isJoin r5 M23) fun r45 M45 => if r45 = 0 then f_W_open_72 x1 r5 r14 M45 else ob (f_F_isJoin r14 M45) fun r56 M56 => if r56 = 0 then f_W_open_72 x1 r5 r14 M56 else om (f_W_openOfJoins x1 r5 r14 M56) fun M66 => some M66
set_option maxRecDepth 100000 in
theorem g_W_open {M' : Mem} (C : GC p s m args meth c b_W_open 4 (none) "NoneWords$Writer" TB D vwCl (tysW cI cZ cC) A Z) {x1 : Int32} {M : Mem} (hf : f_W_open x1 M = some M') : GW p l e rm_W_open s m args below meth c (MQ below (QW D vwCl (tysW cI cZ cC) A none (wc ad cI cZ cC M')) args s 0 0 A) D vwCl A 4 0 0 (wc ad cI cZ cC M) 0 [(0, .ref (ad 11)), (1, .int x1)] [] := by
  unfold f_W_open at hf
  refine gw_aload_n C 0 d_W_open_0 rfl rfl ?_
  refine gw_get C in_W 11 wcg_11 clg_3 0 (by decide) tw_133 rfl rfl d_W_open_1 ?_
  refine gw_iload_n C 1 d_W_open_4 rfl rfl ?_
  obtain ⟨r5, M5, hc5, hf⟩ := ob_some hf
  refine gw_callVr (rest := []) C 1 wcg_1 clg_0 (c_F_leftPart C.2.2.2.2.2.2.2.2.2.2 hc5) (cwV 1 C.2.2.2.2.1 (gTB_V tw_336 mv_F_leftPart) rfl rfl rfl pd_F_leftPart ⟨Nat.le_of_ble_eq_true rfl, Nat.le_of_ble_eq_true rfl⟩) rfl rfl (Nat.le_of_ble_eq_true rfl) d_W_open_5 ⟨Nat.le_of_ble_eq_true rfl, Nat.le_of_ble_eq_true rfl⟩ ?_
  refine gw_istore_n (lv' := [(2, .int r5), (0, .ref (ad 11)), (1, .int x1)]) C d_W_open_8 rfl (by decide) rfl ?_
  refine gw_aload_n C 1 d_W_open_9 rfl rfl ?_
  refine gw_get C in_W 11 wcg_11 clg_3 0 (by decide) tw_133 rfl rfl d_W_open_10 ?_
  refine gw_iload_n C 2 d_W_open_13 rfl rfl ?_
  obtain ⟨r14, M14, hc14, hf⟩ := ob_some hf
  refine gw_callVr (rest := []) C 1 wcg_1 clg_0 (c_F_rightPart C.2.2.2.2.2.2.2.2.2.2 hc14) (cwV 1 C.2.2.2.2.1 (gTB_V tw_345 mv_F_rightPart) rfl rfl rfl pd_F_rightPart ⟨Nat.le_of_ble_eq_true rfl, Nat.le_of_ble_eq_true rfl⟩) rfl rfl (Nat.le_of_ble_eq_true rfl) d_W_open_14 ⟨Nat.le_of_ble_eq_true rfl, Nat.le_of_ble_eq_true rfl⟩ ?_
  refine gw_istore_n (lv' := [(3, .int r14), (2, .int r5), (0, .ref (ad 11)), (1, .int x1)]) C d_W_open_17 rfl (by decide) rfl ?_
  refine gw_aload_n C 2 d_W_open_18 rfl rfl ?_
  refine gw_get C in_W 11 wcg_11 clg_3 0 (by decide) tw_133 rfl rfl d_W_open_19 ?_
  refine gw_iload_n C 3 d_W_open_22 rfl rfl ?_
  obtain ⟨r23, M23, hc23, hf⟩ := ob_some hf
  refine gw_callVr (rest := []) C 1 wcg_1 clg_0 (c_F_isJoin C.2.2.2.2.2.2.2.2.2.2 hc23) (cwV 1 C.2.2.2.2.1 (gTB_V tw_357 mv_F_isJoin) rfl rfl rfl pd_F_isJoin ⟨Nat.le_of_ble_eq_true rfl, Nat.le_of_ble_eq_true rfl⟩) rfl rfl (Nat.le_of_ble_eq_true rfl) d_W_open_23 ⟨Nat.le_of_ble_eq_true rfl, Nat.le_of_ble_eq_true rfl⟩ ?_
  refine gw_if_ne (tgt := 40) C d_W_open_26 (by decide) (fun c => ?_) (fun c => ?_)
  · have hf := (if_neg c).symm.trans hf
    refine gw_aload_n C 2 d_W_open_40 rfl rfl ?_
    refine gw_get C in_W 11 wcg_11 clg_3 0 (by decide) tw_133 rfl rfl d_W_open_41 ?_
    refine gw_iload_n C 1 d_W_open_44 rfl rfl ?_
    obtain ⟨r45, M45, hc45, hf⟩ := ob_some hf
    refine gw_callVr (rest := []) C 1 wcg_1 clg_0 (c_F_isJoin C.2.2.2.2.2.2.2.2.2.2 hc45) (cwV 1 C.2.2.2.2.1 (gTB_V tw_357 mv_F_isJoin) rfl rfl rfl pd_F_isJoin ⟨Nat.le_of_ble_eq_true rfl, Nat.le_of_ble_eq_true rfl⟩) rfl rfl (Nat.le_of_ble_eq_true rfl) d_W_open_45 ⟨Nat.le_of_ble_eq_true rfl, Nat.le_of_ble_eq_true rfl⟩ ?_
    refine gw_if_eq (tgt := 72) C d_W_open_48 (by decide) (fun c => ?_) (fun c => ?_)
    · have hf := (if_pos c).symm.trans hf
      exact gw_sub [2, 3, 1, 0] rfl (g_W_open_72 C hf)
    · have hf := (if_neg c).symm.trans hf
      refine gw_aload_n C 2 d_W_open_51 rfl rfl ?_
      refine gw_get C in_W 11 wcg_11 clg_3 0 (by decide) tw_133 rfl rfl d_W_open_52 ?_
      refine gw_iload_n C 0 d_W_open_55 rfl rfl ?_
      obtain ⟨r56, M56, hc56, hf⟩ := ob_some hf
      refine gw_callVr (rest := []) C 1 wcg_1 clg_0 (c_F_isJoin C.2.2.2.2.2.2.2.2.2.2 hc56) (cwV 1 C.2.2.2.2.1 (gTB_V tw_357 mv_F_isJoin) rfl rfl rfl pd_F_isJoin ⟨Nat.le_of_ble_eq_true rfl, Nat.le_of_ble_eq_true rfl⟩) rfl rfl (Nat.le_of_ble_eq_true rfl) d_W_open_56 ⟨Nat.le_of_ble_eq_true rfl, Nat.le_of_ble_eq_true rfl⟩ ?_
      refine gw_if_eq (tgt := 72) C d_W_open_59 (by decide) (fun c => ?_) (fun c => ?_)
      · have hf := (if_pos c).symm.trans hf
        exact gw_sub [2, 3, 1, 0] rfl (g_W_open_72 C hf)
      · have hf := (if_neg c).symm.trans hf
        refine gw_aload_n C 2 d_W_open_62 rfl rfl ?_
        refine gw_iload_n C 3 d_W_open_63 rfl rfl ?_
        refine gw_iload_n C 1 d_W_open_64 rfl rfl ?_
        refine gw_iload_n C 0 d_W_open_65 rfl rfl ?_
        obtain ⟨M66, hc66, hf⟩ := om_some hf
        refine gw_callVv (rest := []) C 11 wcg_11 clg_3 (c_W_openOfJoins C.2.2.2.2.2.2.2.2.2.2 hc66) (cwV 3 C.2.2.2.2.1 (gTB_V tw_365 mv_W_openOfJoins) rfl rfl rfl pd_W_openOfJoins ⟨Nat.le_of_ble_eq_true rfl, Nat.le_of_ble_eq_true rfl⟩) rfl rfl (Nat.le_of_ble_eq_true rfl) d_W_open_66 ⟨Nat.le_of_ble_eq_true rfl, Nat.le_of_ble_eq_true rfl⟩ ?_
        refine gw_goto (tgt := 122) C d_W_open_69 (by decide) ?_
        exact gw_vreti C d_W_open_122 (wc ad cI cZ cC) hf
  · have hf := (if_pos c).symm.trans hf
    refine gw_aload_n C 2 d_W_open_29 rfl rfl ?_
    refine gw_iconst (v := (0 : Int32)) C d_W_open_30 (by decide) ?_
    refine gw_iconst (v := (-1 : Int32)) C d_W_open_31 (by decide) ?_
    refine gw_iconst (v := (-1 : Int32)) C d_W_open_32 (by decide) ?_
    refine gw_iload_n C 3 d_W_open_33 rfl rfl ?_
    obtain ⟨M34, hc34, hf⟩ := om_some hf
    refine gw_callVv (rest := []) C 11 wcg_11 clg_3 (c_W_say C.2.2.2.2.2.2.2.2.2.2 hc34) (cwV 4 C.2.2.2.2.1 (gTB_V tw_361 mv_W_say) rfl rfl rfl pd_W_say ⟨Nat.le_of_ble_eq_true rfl, Nat.le_of_ble_eq_true rfl⟩) rfl rfl (Nat.le_of_ble_eq_true rfl) d_W_open_34 ⟨Nat.le_of_ble_eq_true rfl, Nat.le_of_ble_eq_true rfl⟩ ?_
    refine gw_goto (tgt := 122) C d_W_open_37 (by decide) ?_
    exact gw_vreti C d_W_open_122 (wc ad cI cZ cC) hf
theorem c_W_open (hZ : gw_ZOK Z) {x1 : Int32} {M : Mem} {M' : Mem} (hf : f_W_open x1 M = some M') : CW l y_W_open ws_W_open rm_W_open D vwCl (tysW cI cZ cC) Z [.ref (ad 11), .int x1] (wc ad cI cZ cC M) none (wc ad cI cZ cC M') 0 0 :=
  CW.ofG hZ (by decide) rfl (Nat.le_of_ble_eq_true rfl) (fun _ _ _ _ _ _ _ _ C _ => g_W_open C hf)
abbrev b_W_writeAll : ByteArray := prog_5_method_9_code
def y_W_writeAll : MethodName := ⟨"NoneWords$Writer", "writeAll", "(I)I"⟩
abbrev ws_W_writeAll : List Cond := Cond.code y_W_writeAll b_W_writeAll 6 (some (FieldType.int)) :: TB
set_option maxRecDepth 100000 in
theorem tc_W_writeAll : Cond.code y_W_writeAll b_W_writeAll 6 (some (FieldType.int)) ∈ TB := inTB 330 rfl rfl
theorem mv_W_writeAll : Cond.instanceMethod y_W_writeAll ∈ TB ∧ Cond.selects "NoneWords$Writer" y_W_writeAll y_W_writeAll ∈ TB ∧ Cond.initialized "NoneWords$Writer" ∈ TB ∧ Cond.code y_W_writeAll b_W_writeAll 6 (some (FieldType.int)) ∈ TB := ⟨inTB 328 (by decide +kernel) (by decide +kernel), inTB 329 (by decide +kernel) (by decide +kernel), inTB 67 (by decide +kernel) (by decide +kernel), tc_W_writeAll⟩
theorem pd_W_writeAll : y_W_writeAll.cls = "NoneWords$Writer" ∧ y_W_writeAll.cls ≠ "java/lang/invoke/MethodHandle" ∧ y_W_writeAll.cls ≠ "java/lang/invoke/VarHandle" ∧ (parseMethodDescriptor y_W_writeAll.desc).map (fun d => d.parameters.length) = some 1 := by decide +kernel
theorem d_W_writeAll_0 : decode b_W_writeAll 0 = .ok (.aload_n 0, 1) := by decide +kernel
theorem d_W_writeAll_1 : decode b_W_writeAll 1 = .ok (.iconst 0, 1) := by decide +kernel
theorem d_W_writeAll_2 : decode b_W_writeAll 2 = .ok (.putfield 37, 3) := by decide +kernel
theorem d_W_writeAll_5 : decode b_W_writeAll 5 = .ok (.aload_n 0, 1) := by decide +kernel
theorem d_W_writeAll_6 : decode b_W_writeAll 6 = .ok (.iconst 0, 1) := by decide +kernel
theorem d_W_writeAll_7 : decode b_W_writeAll 7 = .ok (.putfield 18, 3) := by decide +kernel
theorem d_W_writeAll_10 : decode b_W_writeAll 10 = .ok (.aload_n 0, 1) := by decide +kernel
theorem d_W_writeAll_11 : decode b_W_writeAll 11 = .ok (.iconst 0, 1) := by decide +kernel
theorem d_W_writeAll_12 : decode b_W_writeAll 12 = .ok (.putfield 52, 3) := by decide +kernel
theorem d_W_writeAll_15 : decode b_W_writeAll 15 = .ok (.aload_n 0, 1) := by decide +kernel
theorem d_W_writeAll_16 : decode b_W_writeAll 16 = .ok (.getfield 15, 3) := by decide +kernel
theorem d_W_writeAll_19 : decode b_W_writeAll 19 = .ok (.iconst 0, 1) := by decide +kernel
theorem d_W_writeAll_20 : decode b_W_writeAll 20 = .ok (.invokestatic 68, 3) := by decide +kernel
theorem d_W_writeAll_23 : decode b_W_writeAll 23 = .ok (.aload_n 0, 1) := by decide +kernel
theorem d_W_writeAll_24 : decode b_W_writeAll 24 = .ok (.iload_n 1, 1) := by decide +kernel
theorem d_W_writeAll_25 : decode b_W_writeAll 25 = .ok (.invokevirtual 74, 3) := by decide +kernel
theorem d_W_writeAll_28 : decode b_W_writeAll 28 = .ok (.aload_n 0, 1) := by decide +kernel
theorem d_W_writeAll_29 : decode b_W_writeAll 29 = .ok (.iconst 0, 1) := by decide +kernel
theorem d_W_writeAll_30 : decode b_W_writeAll 30 = .ok (.iload_n 1, 1) := by decide +kernel
theorem d_W_writeAll_31 : decode b_W_writeAll 31 = .ok (.iconst (-1), 1) := by decide +kernel
theorem d_W_writeAll_32 : decode b_W_writeAll 32 = .ok (.iconst (-1), 1) := by decide +kernel
theorem d_W_writeAll_33 : decode b_W_writeAll 33 = .ok (.invokevirtual 78, 3) := by decide +kernel
theorem d_W_writeAll_36 : decode b_W_writeAll 36 = .ok (.iconst 0, 1) := by decide +kernel
theorem d_W_writeAll_37 : decode b_W_writeAll 37 = .ok (.istore_n 2, 1) := by decide +kernel
theorem d_W_writeAll_38 : decode b_W_writeAll 38 = .ok (.iload_n 2, 1) := by decide +kernel
theorem d_W_writeAll_39 : decode b_W_writeAll 39 = .ok (.sipush 360, 3) := by decide +kernel
theorem d_W_writeAll_42 : decode b_W_writeAll 42 = .ok (.if_icmp .ge 132, 3) := by decide +kernel
theorem d_W_writeAll_45 : decode b_W_writeAll 45 = .ok (.aload_n 0, 1) := by decide +kernel
theorem d_W_writeAll_46 : decode b_W_writeAll 46 = .ok (.getfield 52, 3) := by decide +kernel
theorem d_W_writeAll_49 : decode b_W_writeAll 49 = .ok (.ifCond .le 125, 3) := by decide +kernel
theorem d_W_writeAll_52 : decode b_W_writeAll 52 = .ok (.aload_n 0, 1) := by decide +kernel
theorem d_W_writeAll_53 : decode b_W_writeAll 53 = .ok (.dup, 1) := by decide +kernel
theorem d_W_writeAll_54 : decode b_W_writeAll 54 = .ok (.getfield 52, 3) := by decide +kernel
theorem d_W_writeAll_57 : decode b_W_writeAll 57 = .ok (.iconst 1, 1) := by decide +kernel
theorem d_W_writeAll_58 : decode b_W_writeAll 58 = .ok (.isub, 1) := by decide +kernel
theorem d_W_writeAll_59 : decode b_W_writeAll 59 = .ok (.putfield 52, 3) := by decide +kernel
theorem d_W_writeAll_62 : decode b_W_writeAll 62 = .ok (.aload_n 0, 1) := by decide +kernel
theorem d_W_writeAll_63 : decode b_W_writeAll 63 = .ok (.getfield 43, 3) := by decide +kernel
theorem d_W_writeAll_66 : decode b_W_writeAll 66 = .ok (.aload_n 0, 1) := by decide +kernel
theorem d_W_writeAll_67 : decode b_W_writeAll 67 = .ok (.getfield 52, 3) := by decide +kernel
theorem d_W_writeAll_70 : decode b_W_writeAll 70 = .ok (.iaload, 1) := by decide +kernel
theorem d_W_writeAll_71 : decode b_W_writeAll 71 = .ok (.istore_n 3, 1) := by decide +kernel
theorem d_W_writeAll_72 : decode b_W_writeAll 72 = .ok (.aload_n 0, 1) := by decide +kernel
theorem d_W_writeAll_73 : decode b_W_writeAll 73 = .ok (.getfield 46, 3) := by decide +kernel
theorem d_W_writeAll_76 : decode b_W_writeAll 76 = .ok (.aload_n 0, 1) := by decide +kernel
theorem d_W_writeAll_77 : decode b_W_writeAll 77 = .ok (.getfield 52, 3) := by decide +kernel
theorem d_W_writeAll_80 : decode b_W_writeAll 80 = .ok (.iaload, 1) := by decide +kernel
theorem d_W_writeAll_81 : decode b_W_writeAll 81 = .ok (.istore 4, 2) := by decide +kernel
theorem d_W_writeAll_83 : decode b_W_writeAll 83 = .ok (.aload_n 0, 1) := by decide +kernel
theorem d_W_writeAll_84 : decode b_W_writeAll 84 = .ok (.getfield 49, 3) := by decide +kernel
theorem d_W_writeAll_87 : decode b_W_writeAll 87 = .ok (.aload_n 0, 1) := by decide +kernel
theorem d_W_writeAll_88 : decode b_W_writeAll 88 = .ok (.getfield 52, 3) := by decide +kernel
theorem d_W_writeAll_91 : decode b_W_writeAll 91 = .ok (.iaload, 1) := by decide +kernel
theorem d_W_writeAll_92 : decode b_W_writeAll 92 = .ok (.istore 5, 2) := by decide +kernel
theorem d_W_writeAll_94 : decode b_W_writeAll 94 = .ok (.aload_n 0, 1) := by decide +kernel
theorem d_W_writeAll_95 : decode b_W_writeAll 95 = .ok (.getfield 40, 3) := by decide +kernel
theorem d_W_writeAll_98 : decode b_W_writeAll 98 = .ok (.aload_n 0, 1) := by decide +kernel
theorem d_W_writeAll_99 : decode b_W_writeAll 99 = .ok (.getfield 52, 3) := by decide +kernel
theorem d_W_writeAll_102 : decode b_W_writeAll 102 = .ok (.iaload, 1) := by decide +kernel
theorem d_W_writeAll_103 : decode b_W_writeAll 103 = .ok (.lookupswitch 45 #[(0, 25), (1, 33)], 25) := by decide +kernel
theorem d_W_writeAll_128 : decode b_W_writeAll 128 = .ok (.aload_n 0, 1) := by decide +kernel
theorem d_W_writeAll_129 : decode b_W_writeAll 129 = .ok (.iload_n 3, 1) := by decide +kernel
theorem d_W_writeAll_130 : decode b_W_writeAll 130 = .ok (.invokevirtual 82, 3) := by decide +kernel
theorem d_W_writeAll_133 : decode b_W_writeAll 133 = .ok (.goto 35, 3) := by decide +kernel
theorem d_W_writeAll_136 : decode b_W_writeAll 136 = .ok (.aload_n 0, 1) := by decide +kernel
theorem d_W_writeAll_137 : decode b_W_writeAll 137 = .ok (.iload_n 3, 1) := by decide +kernel
theorem d_W_writeAll_138 : decode b_W_writeAll 138 = .ok (.iload 4, 2) := by decide +kernel
theorem d_W_writeAll_140 : decode b_W_writeAll 140 = .ok (.iload 5, 2) := by decide +kernel
theorem d_W_writeAll_142 : decode b_W_writeAll 142 = .ok (.invokevirtual 85, 3) := by decide +kernel
theorem d_W_writeAll_145 : decode b_W_writeAll 145 = .ok (.goto 23, 3) := by decide +kernel
theorem d_W_writeAll_148 : decode b_W_writeAll 148 = .ok (.aload_n 0, 1) := by decide +kernel
theorem d_W_writeAll_149 : decode b_W_writeAll 149 = .ok (.iload 4, 2) := by decide +kernel
theorem d_W_writeAll_151 : decode b_W_writeAll 151 = .ok (.iconst (-1), 1) := by decide +kernel
theorem d_W_writeAll_152 : decode b_W_writeAll 152 = .ok (.if_icmp .ne 7, 3) := by decide +kernel
theorem d_W_writeAll_155 : decode b_W_writeAll 155 = .ok (.iconst 3, 1) := by decide +kernel
theorem d_W_writeAll_156 : decode b_W_writeAll 156 = .ok (.goto 4, 3) := by decide +kernel
theorem d_W_writeAll_159 : decode b_W_writeAll 159 = .ok (.iconst 2, 1) := by decide +kernel
theorem d_W_writeAll_160 : decode b_W_writeAll 160 = .ok (.iload 4, 2) := by decide +kernel
theorem d_W_writeAll_162 : decode b_W_writeAll 162 = .ok (.iload 5, 2) := by decide +kernel
theorem d_W_writeAll_164 : decode b_W_writeAll 164 = .ok (.iload_n 3, 1) := by decide +kernel
theorem d_W_writeAll_165 : decode b_W_writeAll 165 = .ok (.invokevirtual 89, 3) := by decide +kernel
theorem d_W_writeAll_168 : decode b_W_writeAll 168 = .ok (.iinc 2 1, 3) := by decide +kernel
theorem d_W_writeAll_171 : decode b_W_writeAll 171 = .ok (.goto (-133), 3) := by decide +kernel
theorem d_W_writeAll_174 : decode b_W_writeAll 174 = .ok (.aload_n 0, 1) := by decide +kernel
theorem d_W_writeAll_175 : decode b_W_writeAll 175 = .ok (.getfield 37, 3) := by decide +kernel
theorem d_W_writeAll_178 : decode b_W_writeAll 178 = .ok (.ireturn, 1) := by decide +kernel
abbrev rm_W_writeAll : Room := { frames := 5, cells := 0, slots := 0, locals := 115 }
def f_W_writeAll_160 (k38 : Int32 → Mem → Option (Int32 × Mem)) (x2 : Int32) (x3 : Int32) (x4 : Int32) (x5 : Int32) (y0 : Int32) (M : Mem) : Option (Int32 × Mem) :=
  om (f_W_close y0 x4 x5 x3 M) fun M165 => k38 (x2 + (1 : Int32)) M165
set_option maxRecDepth 100000 in
theorem g_W_writeAll_160 {r : Int32} {M' : Mem} (C : GC p s m args meth c b_W_writeAll 6 (some (FieldType.int)) "NoneWords$Writer" TB D vwCl (tysW cI cZ cC) A Z) {k38 : Int32 → Mem → Option (Int32 × Mem)} (hk38 : ∀ (x2 : Int32) (M : Mem), k38 x2 M = some (r, M') → GW p l e rm_W_writeAll s m args below meth c (MQ below (QW D vwCl (tysW cI cZ cC) A (some (.int r)) (wc ad cI cZ cC M')) args s 0 0 A) D vwCl A 6 0 0 (wc ad cI cZ cC M) 38 [(0, .ref (ad 11)), (2, .int x2)] []) {x2 : Int32} {x3 : Int32} {x4 : Int32} {x5 : Int32} {y0 : Int32} {M : Mem} (hf : f_W_writeAll_160 k38 x2 x3 x4 x5 y0 M = some (r, M')) : GW p l e rm_W_writeAll s m args below meth c (MQ below (QW D vwCl (tysW cI cZ cC) A (some (.int r)) (wc ad cI cZ cC M')) args s 0 0 A) D vwCl A 6 0 0 (wc ad cI cZ cC M) 160 [(0, .ref (ad 11)), (2, .int x2), (3, .int x3), (4, .int x4), (5, .int x5)] [.int y0, .ref (ad 11)] := by
  unfold f_W_writeAll_160 at hf
  refine gw_iload C 3 d_W_writeAll_160 rfl ?_
  refine gw_iload C 4 d_W_writeAll_162 rfl ?_
  refine gw_iload_n C 2 d_W_writeAll_164 rfl rfl ?_
  obtain ⟨M165, hc165, hf⟩ := om_some hf
  refine gw_callVv (rest := []) C 11 wcg_11 clg_3 (c_W_close C.2.2.2.2.2.2.2.2.2.2 hc165) (cwV 4 C.2.2.2.2.1 (gTB_V tw_377 mv_W_close) rfl rfl rfl pd_W_close ⟨Nat.le_of_ble_eq_true rfl, Nat.le_of_ble_eq_true rfl⟩) rfl rfl (Nat.le_of_ble_eq_true rfl) d_W_writeAll_165 ⟨Nat.le_of_ble_eq_true rfl, Nat.le_of_ble_eq_true rfl⟩ ?_
  refine gw_iinc (v := x2 + (1 : Int32)) (lv' := [(2, .int (x2 + (1 : Int32))), (0, .ref (ad 11)), (3, .int x3), (4, .int x4), (5, .int x5)]) C 1 d_W_writeAll_168 rfl rfl (by decide) rfl ?_
  refine gw_goto (tgt := 38) C d_W_writeAll_171 (by decide) ?_
  exact gw_sub [1, 0] rfl (hk38 _ _ hf)
def f_W_writeAll_38 : Nat → Int32 → Mem → Option (Int32 × Mem)
  | 0, _, _ => none
  | n + 1, x2, M => if (360 : Int32) ≤ x2 then some (M 11 9, M) else if (M 11 14) ≤ 0 then some (M 11 9, M) else gd (inb ((ms M 11 14 ((M 11 14) - (1 : Int32))) 11 14) 121) (gd (inb ((ms M 11 14 ((M 11 14) - (1 : Int32))) 11 14) 121) (gd (inb ((ms M 11 14 ((M 11 14) - (1 : Int32))) 11 14) 121) (gd (inb ((ms M 11 14 ((M 11 14) - (1 : Int32))) 11 14) 121) (if ((ms M 11 14 ((M 11 14) - (1 : Int32))) 19 ((ms M 11 14 ((M 11 14) - (1 : Int32))) 11 14).toNatClampNeg) = (0 : Int32) then om (f_W_open ((ms M 11 14 ((M 11 14) - (1 : Int32))) 20 ((ms M 11 14 ((M 11 14) - (1 : Int32))) 11 14).toNatClampNeg) (ms M 11 14 ((M 11 14) - (1 : Int32)))) fun M130 => (f_W_writeAll_38 n) (x2 + (1 : Int32)) M130 else if ((ms M 11 14 ((M 11 14) - (1 : Int32))) 19 ((ms M 11 14 ((M 11 14) - (1 : Int32))) 11 14).toNatClampNeg) = (1 : Int32) then om (f_W_goOn ((ms M 11 14 ((M 11 14) - (1 : Int32))) 20 ((ms M 11 14 ((M 11 14) - (1 : Int32))) 11 14).toNatClampNeg) ((ms M 11 14 ((M 11 14) - (1 : Int32))) 21 ((ms M 11 14 ((M 11 14) - (1 : Int32))) 11 14).toNatClampNeg) ((ms M 11 14 ((M 11 14) - (1 : Int32))) 22 ((ms M 11 14 ((M 11 14) - (1 : Int32))) 11 14).toNatClampNeg) (ms M 11 14 ((M 11 14) - (1 : Int32)))) fun M142 => (f_W_writeAll_38 n) (x2 + (1 : Int32)) M142 else if ((ms M 11 14 ((M 11 14) - (1 : Int32))) 21 ((ms M 11 14 ((M 11 14) - (1 : Int32))) 11 14).toNatClampNeg) = (-1 : Int32) then f_W_writeAll_160 (f_W_writeAll_38 n) x2 ((ms M 11 14 ((M 11 14) - (1 : Int32))) 20 ((ms M 11 14 ((M 11 14) - (1 : Int32))) 11 14).toNatClampNeg) ((ms M 11 14 ((M 11 14) - (1 : Int32))) 21 ((ms M 11 14 ((M 11 14) - (1 : Int32))) 11 14).toNatClampNeg) ((ms M 11 14 ((M 11 14) - (1 : Int32))) 22 ((ms M 11 14 ((M 11 14) - (1 : Int32))) 11 14).toNatClampNeg) (3 : Int32) (ms M 11 14 ((M 11 14) - (1 : Int32))) else f_W_writeAll_160 (f_W_writeAll_38 n) x2 ((ms M 11 14 ((M 11 14) - (1 : Int32))) 20 ((ms M 11 14 ((M 11 14) - (1 : Int32))) 11 14).toNatClampNeg) ((ms M 11 14 ((M 11 14) - (1 : Int32))) 21 ((ms M 11 14 ((M 11 14) - (1 : Int32))) 11 14).toNatClampNeg) ((ms M 11 14 ((M 11 14) - (1 : Int32))) 22 ((ms M 11 14 ((M 11 14) - (1 : Int32))) 11 14).toNatClampNeg) (2 : Int32) (ms M 11 14 ((M 11 14) - (1 : Int32)))))))
set_option maxRecDepth 100000 in
theorem g_W_writeAll_38 {r : Int32} {M' : Mem} (C : GC p s m args meth c b_W_writeAll 6 (some (FieldType.int)) "NoneWords$Writer" TB D vwCl (tysW cI cZ cC) A Z) : ∀ (n : Nat) (x2 : Int32) (M : Mem), f_W_writeAll_38 n x2 M = some (r, M') → GW p l e rm_W_writeAll s m args below meth c (MQ below (QW D vwCl (tysW cI cZ cC) A (some (.int r)) (wc ad cI cZ cC M')) args s 0 0 A) D vwCl A 6 0 0 (wc ad cI cZ cC M) 38 [(0, .ref (ad 11)), (2, .int x2)] [] := by
  intro n
  induction n with
  | zero => intro _ _ hf; cases hf
  | succ n ih =>
    intro x2 M hf
    rw [f_W_writeAll_38] at hf
    refine gw_iload_n C 1 d_W_writeAll_38 rfl rfl ?_
    refine gw_sipush (v := (360 : Int32)) C d_W_writeAll_39 (by decide) ?_
    refine gw_icmp_ge (tgt := 174) C d_W_writeAll_42 (by decide) (fun c => ?_) (fun c => ?_)
    · have hf := (if_pos c).symm.trans hf
      refine gw_aload_n C 0 d_W_writeAll_174 rfl rfl ?_
      refine gw_get C in_W 11 wcg_11 clg_3 9 (by decide) tw_142 rfl rfl d_W_writeAll_175 ?_
      exact gw_ireti C d_W_writeAll_178 (wc ad cI cZ cC) hf
    · have hf := (if_neg c).symm.trans hf
      refine gw_aload_n C 0 d_W_writeAll_45 rfl rfl ?_
      refine gw_get C in_W 11 wcg_11 clg_3 14 (by decide) tw_147 rfl rfl d_W_writeAll_46 ?_
      refine gw_if_le (tgt := 174) C d_W_writeAll_49 (by decide) (fun c => ?_) (fun c => ?_)
      · have hf := (if_pos c).symm.trans hf
        refine gw_aload_n C 0 d_W_writeAll_174 rfl rfl ?_
        refine gw_get C in_W 11 wcg_11 clg_3 9 (by decide) tw_142 rfl rfl d_W_writeAll_175 ?_
        exact gw_ireti C d_W_writeAll_178 (wc ad cI cZ cC) hf
      · have hf := (if_neg c).symm.trans hf
        refine gw_aload_n C 0 d_W_writeAll_52 rfl rfl ?_
        refine gw_dup C d_W_writeAll_53 rfl ?_
        refine gw_get C in_W 11 wcg_11 clg_3 14 (by decide) tw_147 rfl rfl d_W_writeAll_54 ?_
        refine gw_iconst (v := (1 : Int32)) C d_W_writeAll_57 (by decide) ?_
        refine gw_isub C d_W_writeAll_58 ?_
        refine gw_put C in_W ty_W tk_W nm_W 11 wcg_11 clg_3 14 (by decide) tw_147 rfl rfl rfl rfl (Nat.le_of_ble_eq_true rfl) d_W_writeAll_59 wcf_11_14 ?_
        refine gw_aload_n C 0 d_W_writeAll_62 rfl rfl ?_
        refine gw_get C in_W 11 wcg_11 clg_3 11 (by decide) tw_144 rfl rfl d_W_writeAll_63 ?_
        refine gw_aload_n C 0 d_W_writeAll_66 rfl rfl ?_
        refine gw_get C in_W 11 wcg_11 clg_3 14 (by decide) tw_147 rfl rfl d_W_writeAll_67 ?_
        obtain ⟨hb70, hf⟩ := gd_some hf
        refine gw_iald C 20 0 wcg_20 rfl hb70 d_W_writeAll_70 ?_
        refine gw_istore_n (lv' := [(3, .int ((ms M 11 14 ((M 11 14) - (1 : Int32))) 20 ((ms M 11 14 ((M 11 14) - (1 : Int32))) 11 14).toNatClampNeg)), (0, .ref (ad 11)), (2, .int x2)]) C d_W_writeAll_71 rfl (by decide) rfl ?_
        refine gw_aload_n C 1 d_W_writeAll_72 rfl rfl ?_
        refine gw_get C in_W 11 wcg_11 clg_3 12 (by decide) tw_145 rfl rfl d_W_writeAll_73 ?_
        refine gw_aload_n C 1 d_W_writeAll_76 rfl rfl ?_
        refine gw_get C in_W 11 wcg_11 clg_3 14 (by decide) tw_147 rfl rfl d_W_writeAll_77 ?_
        obtain ⟨hb80, hf⟩ := gd_some hf
        refine gw_iald C 21 0 wcg_21 rfl hb80 d_W_writeAll_80 ?_
        refine gw_istore (lv' := [(4, .int ((ms M 11 14 ((M 11 14) - (1 : Int32))) 21 ((ms M 11 14 ((M 11 14) - (1 : Int32))) 11 14).toNatClampNeg)), (3, .int ((ms M 11 14 ((M 11 14) - (1 : Int32))) 20 ((ms M 11 14 ((M 11 14) - (1 : Int32))) 11 14).toNatClampNeg)), (0, .ref (ad 11)), (2, .int x2)]) C d_W_writeAll_81 (by decide) rfl ?_
        refine gw_aload_n C 2 d_W_writeAll_83 rfl rfl ?_
        refine gw_get C in_W 11 wcg_11 clg_3 13 (by decide) tw_146 rfl rfl d_W_writeAll_84 ?_
        refine gw_aload_n C 2 d_W_writeAll_87 rfl rfl ?_
        refine gw_get C in_W 11 wcg_11 clg_3 14 (by decide) tw_147 rfl rfl d_W_writeAll_88 ?_
        obtain ⟨hb91, hf⟩ := gd_some hf
        refine gw_iald C 22 0 wcg_22 rfl hb91 d_W_writeAll_91 ?_
        refine gw_istore (lv' := [(5, .int ((ms M 11 14 ((M 11 14) - (1 : Int32))) 22 ((ms M 11 14 ((M 11 14) - (1 : Int32))) 11 14).toNatClampNeg)), (4, .int ((ms M 11 14 ((M 11 14) - (1 : Int32))) 21 ((ms M 11 14 ((M 11 14) - (1 : Int32))) 11 14).toNatClampNeg)), (3, .int ((ms M 11 14 ((M 11 14) - (1 : Int32))) 20 ((ms M 11 14 ((M 11 14) - (1 : Int32))) 11 14).toNatClampNeg)), (0, .ref (ad 11)), (2, .int x2)]) C d_W_writeAll_92 (by decide) rfl ?_
        refine gw_aload_n C 3 d_W_writeAll_94 rfl rfl ?_
        refine gw_get C in_W 11 wcg_11 clg_3 10 (by decide) tw_143 rfl rfl d_W_writeAll_95 ?_
        refine gw_aload_n C 3 d_W_writeAll_98 rfl rfl ?_
        refine gw_get C in_W 11 wcg_11 clg_3 14 (by decide) tw_147 rfl rfl d_W_writeAll_99 ?_
        obtain ⟨hb102, hf⟩ := gd_some hf
        refine gw_iald C 19 0 wcg_19 rfl hb102 d_W_writeAll_102 ?_
        by_cases c0 : ((ms M 11 14 ((M 11 14) - (1 : Int32))) 19 ((ms M 11 14 ((M 11 14) - (1 : Int32))) 11 14).toNatClampNeg) = (0 : Int32)
        · have hf := (if_pos c0).symm.trans hf
          refine gw_lookup (tgt := 128) (off := 25) C d_W_writeAll_103 (by decide) (by rw [c0]; rfl) (by decide) ?_
          refine gw_aload_n C 3 d_W_writeAll_128 rfl rfl ?_
          refine gw_iload_n C 2 d_W_writeAll_129 rfl rfl ?_
          obtain ⟨M130, hc130, hf⟩ := om_some hf
          refine gw_callVv (rest := []) C 11 wcg_11 clg_3 (c_W_open C.2.2.2.2.2.2.2.2.2.2 hc130) (cwV 1 C.2.2.2.2.1 (gTB_V tw_353 mv_W_open) rfl rfl rfl pd_W_open ⟨Nat.le_of_ble_eq_true rfl, Nat.le_of_ble_eq_true rfl⟩) rfl rfl (Nat.le_of_ble_eq_true rfl) d_W_writeAll_130 ⟨Nat.le_of_ble_eq_true rfl, Nat.le_of_ble_eq_true rfl⟩ ?_
          refine gw_goto (tgt := 168) C d_W_writeAll_133 (by decide) ?_
          refine gw_iinc (v := x2 + (1 : Int32)) (lv' := [(2, .int (x2 + (1 : Int32))), (5, .int ((ms M 11 14 ((M 11 14) - (1 : Int32))) 22 ((ms M 11 14 ((M 11 14) - (1 : Int32))) 11 14).toNatClampNeg)), (4, .int ((ms M 11 14 ((M 11 14) - (1 : Int32))) 21 ((ms M 11 14 ((M 11 14) - (1 : Int32))) 11 14).toNatClampNeg)), (3, .int ((ms M 11 14 ((M 11 14) - (1 : Int32))) 20 ((ms M 11 14 ((M 11 14) - (1 : Int32))) 11 14).toNatClampNeg)), (0, .ref (ad 11))]) C 4 d_W_writeAll_168 rfl rfl (by decide) rfl ?_
          refine gw_goto (tgt := 38) C d_W_writeAll_171 (by decide) ?_
          exact gw_sub [4, 0] rfl (ih _ _ hf)
        · have hf := (if_neg c0).symm.trans hf
          by_cases c1 : ((ms M 11 14 ((M 11 14) - (1 : Int32))) 19 ((ms M 11 14 ((M 11 14) - (1 : Int32))) 11 14).toNatClampNeg) = (1 : Int32)
          · have hf := (if_pos c1).symm.trans hf
            refine gw_lookup (tgt := 136) (off := 33) C d_W_writeAll_103 (by decide) (by rw [c1]; rfl) (by decide) ?_
            refine gw_aload_n C 3 d_W_writeAll_136 rfl rfl ?_
            refine gw_iload_n C 2 d_W_writeAll_137 rfl rfl ?_
            refine gw_iload C 1 d_W_writeAll_138 rfl ?_
            refine gw_iload C 0 d_W_writeAll_140 rfl ?_
            obtain ⟨M142, hc142, hf⟩ := om_some hf
            refine gw_callVv (rest := []) C 11 wcg_11 clg_3 (c_W_goOn C.2.2.2.2.2.2.2.2.2.2 hc142) (cwV 3 C.2.2.2.2.1 (gTB_V tw_412 mv_W_goOn) rfl rfl rfl pd_W_goOn ⟨Nat.le_of_ble_eq_true rfl, Nat.le_of_ble_eq_true rfl⟩) rfl rfl (Nat.le_of_ble_eq_true rfl) d_W_writeAll_142 ⟨Nat.le_of_ble_eq_true rfl, Nat.le_of_ble_eq_true rfl⟩ ?_
            refine gw_goto (tgt := 168) C d_W_writeAll_145 (by decide) ?_
            refine gw_iinc (v := x2 + (1 : Int32)) (lv' := [(2, .int (x2 + (1 : Int32))), (5, .int ((ms M 11 14 ((M 11 14) - (1 : Int32))) 22 ((ms M 11 14 ((M 11 14) - (1 : Int32))) 11 14).toNatClampNeg)), (4, .int ((ms M 11 14 ((M 11 14) - (1 : Int32))) 21 ((ms M 11 14 ((M 11 14) - (1 : Int32))) 11 14).toNatClampNeg)), (3, .int ((ms M 11 14 ((M 11 14) - (1 : Int32))) 20 ((ms M 11 14 ((M 11 14) - (1 : Int32))) 11 14).toNatClampNeg)), (0, .ref (ad 11))]) C 4 d_W_writeAll_168 rfl rfl (by decide) rfl ?_
            refine gw_goto (tgt := 38) C d_W_writeAll_171 (by decide) ?_
            exact gw_sub [4, 0] rfl (ih _ _ hf)
          · have hf := (if_neg c1).symm.trans hf
            refine gw_lookup (tgt := 148) (off := 45) C d_W_writeAll_103 (by decide) (by show Op.lookupswitch.offset ([(0, 25), (1, 33)] : List (Int × Int)) _ _ = _; rw [lv_osw c0 (by decide), lv_osw c1 (by decide)]; rfl) (by decide) ?_
            refine gw_aload_n C 3 d_W_writeAll_148 rfl rfl ?_
            refine gw_iload C 1 d_W_writeAll_149 rfl ?_
            refine gw_iconst (v := (-1 : Int32)) C d_W_writeAll_151 (by decide) ?_
            refine gw_icmp_ne (tgt := 159) C d_W_writeAll_152 (by decide) (fun c => ?_) (fun c => ?_)
            · have hf := (if_neg c).symm.trans hf
              refine gw_iconst (v := (2 : Int32)) C d_W_writeAll_159 (by decide) ?_
              exact gw_sub [3, 4, 2, 1, 0] rfl (g_W_writeAll_160 C ih hf)
            · have hf := (if_pos c).symm.trans hf
              refine gw_iconst (v := (3 : Int32)) C d_W_writeAll_155 (by decide) ?_
              refine gw_goto (tgt := 160) C d_W_writeAll_156 (by decide) ?_
              exact gw_sub [3, 4, 2, 1, 0] rfl (g_W_writeAll_160 C ih hf)
def f_W_writeAll (x1 : Int32) (M : Mem) : Option (Int32 × Mem) :=
  om (f_W_countUses x1 (mf (ms (ms (ms M 11 9 (0 : Int32)) 11 3 (0 : Int32)) 11 14 (0 : Int32)) 13 120 (0 : Int32))) fun M25 => om (f_W_await (0 : Int32) x1 (-1 : Int32) (-1 : Int32) M25) fun M33 => f_W_writeAll_38 1000 (0 : Int32) M33
set_option maxRecDepth 100000 in
theorem g_W_writeAll {r : Int32} {M' : Mem} (C : GC p s m args meth c b_W_writeAll 6 (some (FieldType.int)) "NoneWords$Writer" TB D vwCl (tysW cI cZ cC) A Z) {x1 : Int32} {M : Mem} (hf : f_W_writeAll x1 M = some (r, M')) : GW p l e rm_W_writeAll s m args below meth c (MQ below (QW D vwCl (tysW cI cZ cC) A (some (.int r)) (wc ad cI cZ cC M')) args s 0 0 A) D vwCl A 6 0 0 (wc ad cI cZ cC M) 0 [(0, .ref (ad 11)), (1, .int x1)] [] := by
  unfold f_W_writeAll at hf
  refine gw_aload_n C 0 d_W_writeAll_0 rfl rfl ?_
  refine gw_iconst (v := (0 : Int32)) C d_W_writeAll_1 (by decide) ?_
  refine gw_put C in_W ty_W tk_W nm_W 11 wcg_11 clg_3 9 (by decide) tw_142 rfl rfl rfl rfl (Nat.le_of_ble_eq_true rfl) d_W_writeAll_2 wcf_11_9 ?_
  refine gw_aload_n C 0 d_W_writeAll_5 rfl rfl ?_
  refine gw_iconst (v := (0 : Int32)) C d_W_writeAll_6 (by decide) ?_
  refine gw_put C in_W ty_W tk_W nm_W 11 wcg_11 clg_3 3 (by decide) tw_136 rfl rfl rfl rfl (Nat.le_of_ble_eq_true rfl) d_W_writeAll_7 wcf_11_3 ?_
  refine gw_aload_n C 0 d_W_writeAll_10 rfl rfl ?_
  refine gw_iconst (v := (0 : Int32)) C d_W_writeAll_11 (by decide) ?_
  refine gw_put C in_W ty_W tk_W nm_W 11 wcg_11 clg_3 14 (by decide) tw_147 rfl rfl rfl rfl (Nat.le_of_ble_eq_true rfl) d_W_writeAll_12 wcf_11_14 ?_
  refine gw_aload_n C 0 d_W_writeAll_15 rfl rfl ?_
  refine gw_get C in_W 11 wcg_11 clg_3 2 (by decide) tw_135 rfl rfl d_W_writeAll_16 ?_
  refine gw_iconst (v := (0 : Int32)) C d_W_writeAll_19 (by decide) ?_
  refine gw_callSv (rest := []) C (c_A_fill C.2.2.2.2.2.2.2.2.2.2 13 0 wcg_13 rfl (by decide) wcz_13) (va_cwS 2 C.2.2.2.2.1 (gTB_vS rfl tw_331 mv_A_fill) rfl rfl rfl pd_A_fill.2 ⟨Nat.le_of_ble_eq_true rfl, Nat.le_of_ble_eq_true rfl⟩) rfl rfl (Nat.le_of_ble_eq_true rfl) d_W_writeAll_20 ⟨Nat.le_of_ble_eq_true rfl, Nat.le_of_ble_eq_true rfl⟩ ?_
  refine gw_aload_n C 0 d_W_writeAll_23 rfl rfl ?_
  refine gw_iload_n C 1 d_W_writeAll_24 rfl rfl ?_
  obtain ⟨M25, hc25, hf⟩ := om_some hf
  refine gw_callVv (rest := []) C 11 wcg_11 clg_3 (c_W_countUses C.2.2.2.2.2.2.2.2.2.2 hc25) (cwV 1 C.2.2.2.2.1 (gTB_V tw_332 mv_W_countUses) rfl rfl rfl pd_W_countUses ⟨Nat.le_of_ble_eq_true rfl, Nat.le_of_ble_eq_true rfl⟩) rfl rfl (Nat.le_of_ble_eq_true rfl) d_W_writeAll_25 ⟨Nat.le_of_ble_eq_true rfl, Nat.le_of_ble_eq_true rfl⟩ ?_
  refine gw_aload_n C 0 d_W_writeAll_28 rfl rfl ?_
  refine gw_iconst (v := (0 : Int32)) C d_W_writeAll_29 (by decide) ?_
  refine gw_iload_n C 1 d_W_writeAll_30 rfl rfl ?_
  refine gw_iconst (v := (-1 : Int32)) C d_W_writeAll_31 (by decide) ?_
  refine gw_iconst (v := (-1 : Int32)) C d_W_writeAll_32 (by decide) ?_
  obtain ⟨M33, hc33, hf⟩ := om_some hf
  refine gw_callVv (rest := []) C 11 wcg_11 clg_3 (c_W_await C.2.2.2.2.2.2.2.2.2.2 hc33) (cwV 4 C.2.2.2.2.1 (gTB_V tw_349 mv_W_await) rfl rfl rfl pd_W_await ⟨Nat.le_of_ble_eq_true rfl, Nat.le_of_ble_eq_true rfl⟩) rfl rfl (Nat.le_of_ble_eq_true rfl) d_W_writeAll_33 ⟨Nat.le_of_ble_eq_true rfl, Nat.le_of_ble_eq_true rfl⟩ ?_
  refine gw_iconst (v := (0 : Int32)) C d_W_writeAll_36 (by decide) ?_
  refine gw_istore_n (lv' := [(2, .int (0 : Int32)), (0, .ref (ad 11)), (1, .int x1)]) C d_W_writeAll_37 rfl (by decide) rfl ?_
  exact gw_sub [1, 0] rfl (g_W_writeAll_38 C _ _ _ hf)
theorem c_W_writeAll (hZ : gw_ZOK Z) {x1 : Int32} {M : Mem} {r : Int32} {M' : Mem} (hf : f_W_writeAll x1 M = some (r, M')) : CW l y_W_writeAll ws_W_writeAll rm_W_writeAll D vwCl (tysW cI cZ cC) Z [.ref (ad 11), .int x1] (wc ad cI cZ cC M) (some (.int r)) (wc ad cI cZ cC M') 0 0 :=
  CW.ofG hZ (by decide) rfl (Nat.le_of_ble_eq_true rfl) (fun _ _ _ _ _ _ _ _ C _ => g_W_writeAll C hf)
end WRITER
end
section
theorem tw_634 : Cond.methodLink "NoneWords$Search" 56 ⟨"NoneWords$Search", "canChoose", "([IIII)Z"⟩ ∈ TB := inTB 634 (by decide +kernel) (by decide +kernel)
theorem tw_637 : Cond.methodLink "NoneWords$Search" 84 ⟨"NoneWords$Search", "isStuck", "(III)Z"⟩ ∈ TB := inTB 637 (by decide +kernel) (by decide +kernel)
theorem tw_210 : Cond.fieldLink "NoneWords$Search" 17 "NoneWords$Search" "bars" "[I" ∈ TB := inTB 210 (by decide +kernel) (by decide +kernel)
theorem tw_208 : Cond.fieldLink "NoneWords$Search" 28 "NoneWords$Search" "facts" "LNoneWords$Facts;" ∈ TB := inTB 208 (by decide +kernel) (by decide +kernel)
theorem tw_631 : Cond.methodLink "NoneWords$Search" 76 ⟨"NoneWords$Facts", "nameOfTerm", "(II)I"⟩ ∈ TB := inTB 631 (by decide +kernel) (by decide +kernel)
theorem tw_633 : Cond.methodLink "NoneWords$Search" 81 ⟨"NoneWords$Facts", "optionsOfTerm", "(II)I"⟩ ∈ TB := inTB 633 (by decide +kernel) (by decide +kernel)
theorem tw_632 : Cond.constant "NoneWords$Search" 80 33554431 ∈ TB := inTB 632 (by decide +kernel) (by decide +kernel)
theorem tw_620 : Cond.methodLink "NoneWords$Search" 53 ⟨"NoneWords$Facts", "countNames", "()I"⟩ ∈ TB := inTB 620 (by decide +kernel) (by decide +kernel)
theorem tw_621 : Cond.methodLink "NoneWords$Search" 73 ⟨"NoneWords$Facts", "allVersions", "(I)I"⟩ ∈ TB := inTB 621 (by decide +kernel) (by decide +kernel)
theorem tw_209 : Cond.fieldLink "NoneWords$Search" 9 "NoneWords$Search" "leftOut" "[Z" ∈ TB := inTB 209 (by decide +kernel) (by decide +kernel)
theorem tw_622 : Cond.methodLink "NoneWords$Search" 42 ⟨"NoneWords$Facts", "countNodes", "()I"⟩ ∈ TB := inTB 622 (by decide +kernel) (by decide +kernel)
theorem tw_626 : Cond.methodLink "NoneWords$Search" 45 ⟨"NoneWords$Facts", "isLeaf", "(I)Z"⟩ ∈ TB := inTB 626 (by decide +kernel) (by decide +kernel)
theorem tw_627 : Cond.methodLink "NoneWords$Search" 49 ⟨"NoneWords$Search", "bar", "(I)I"⟩ ∈ TB := inTB 627 (by decide +kernel) (by decide +kernel)
theorem tw_615 : Cond.methodLink "NoneWords$Search" 32 ⟨"java/util/Arrays", "fill", "([II)V"⟩ ∈ TB := inTB 615 (by decide +kernel) (by decide +kernel)
theorem tw_616 : Cond.methodLink "NoneWords$Search" 38 ⟨"NoneWords$Search", "allOptions", "()I"⟩ ∈ TB := inTB 616 (by decide +kernel) (by decide +kernel)
theorem tw_648 : Cond.methodLink "NoneWords$Search" 60 ⟨"NoneWords$Search", "findsWorld", "()Z"⟩ ∈ TB := inTB 648 (by decide +kernel) (by decide +kernel)
theorem tw_212 : Cond.fieldLink "NoneWords$Search" 24 "NoneWords$Search" "stays" "I" ∈ TB := inTB 212 (by decide +kernel) (by decide +kernel)
theorem tw_211 : Cond.fieldLink "NoneWords$Search" 21 "NoneWords$Search" "stayed" "[I" ∈ TB := inTB 211 (by decide +kernel) (by decide +kernel)
theorem tw_649 : Cond.methodLink "NoneWords$Search" 64 ⟨"NoneWords$Facts", "kindOf", "(I)I"⟩ ∈ TB := inTB 649 (by decide +kernel) (by decide +kernel)
theorem tw_670 : Cond.methodLink "NoneWords$Search" 70 ⟨"NoneWords$Search", "findsWorldWithout", "(I)Z"⟩ ∈ TB := inTB 670 (by decide +kernel) (by decide +kernel)
theorem tw_650 : Cond.methodLink "NoneWords$Search" 67 ⟨"NoneWords$Search", "takeAllBack", "()V"⟩ ∈ TB := inTB 650 (by decide +kernel) (by decide +kernel)
section SEARCH
variable {p : Program} {l : Launch} {e : Env} {s : State} {m : MethodId} {args : Array Value} {below : List Frame} {meth : Method} {c : Code} {D : va_G} {A : Nat → Prop} {Z : gw_Z} {ad : Nat → Nat} {cI cZ cC : ClassId}
abbrev b_S_isStuck : ByteArray := prog_3_method_11_code
def y_S_isStuck : MethodName := ⟨"NoneWords$Search", "isStuck", "(III)Z"⟩
abbrev ws_S_isStuck : List Cond := Cond.code y_S_isStuck b_S_isStuck 4 (some (FieldType.boolean)) :: TB
set_option maxRecDepth 100000 in
theorem tc_S_isStuck : Cond.code y_S_isStuck b_S_isStuck 4 (some (FieldType.boolean)) ∈ TB := inTB 639 rfl rfl
theorem mv_S_isStuck : Cond.static y_S_isStuck ∈ TB ∧ Cond.initialized "NoneWords$Search" ∈ TB ∧ Cond.code y_S_isStuck b_S_isStuck 4 (some (FieldType.boolean)) ∈ TB := ⟨inTB 638 (by decide +kernel) (by decide +kernel), inTB 69 (by decide +kernel) (by decide +kernel), tc_S_isStuck⟩
theorem pd_S_isStuck : y_S_isStuck.cls = "NoneWords$Search" ∧ y_S_isStuck.cls ≠ "java/lang/invoke/MethodHandle" ∧ y_S_isStuck.cls ≠ "java/lang/invoke/VarHandle" ∧ (parseMethodDescriptor y_S_isStuck.desc).map (fun d => d.parameters.length) = some 3 := by decide +kernel
theorem d_S_isStuck_0 : decode b_S_isStuck 0 = .ok (.iload_n 1, 1) := by decide +kernel
theorem d_S_isStuck_1 : decode b_S_isStuck 1 = .ok (.istore_n 3, 1) := by decide +kernel
theorem d_S_isStuck_2 : decode b_S_isStuck 2 = .ok (.iload_n 3, 1) := by decide +kernel
theorem d_S_isStuck_3 : decode b_S_isStuck 3 = .ok (.iload_n 0, 1) := by decide +kernel
theorem d_S_isStuck_4 : decode b_S_isStuck 4 = .ok (.if_icmp .ge 22, 3) := by decide +kernel
theorem d_S_isStuck_7 : decode b_S_isStuck 7 = .ok (.iload_n 2, 1) := by decide +kernel
theorem d_S_isStuck_8 : decode b_S_isStuck 8 = .ok (.iconst 5, 1) := by decide +kernel
theorem d_S_isStuck_9 : decode b_S_isStuck 9 = .ok (.iload_n 3, 1) := by decide +kernel
theorem d_S_isStuck_10 : decode b_S_isStuck 10 = .ok (.imul, 1) := by decide +kernel
theorem d_S_isStuck_11 : decode b_S_isStuck 11 = .ok (.ishr, 1) := by decide +kernel
theorem d_S_isStuck_12 : decode b_S_isStuck 12 = .ok (.bipush 31, 2) := by decide +kernel
theorem d_S_isStuck_14 : decode b_S_isStuck 14 = .ok (.iand, 1) := by decide +kernel
theorem d_S_isStuck_15 : decode b_S_isStuck 15 = .ok (.ifCond .ne 5, 3) := by decide +kernel
theorem d_S_isStuck_18 : decode b_S_isStuck 18 = .ok (.iconst 1, 1) := by decide +kernel
theorem d_S_isStuck_19 : decode b_S_isStuck 19 = .ok (.ireturn, 1) := by decide +kernel
theorem d_S_isStuck_20 : decode b_S_isStuck 20 = .ok (.iinc 3 1, 3) := by decide +kernel
theorem d_S_isStuck_23 : decode b_S_isStuck 23 = .ok (.goto (-21), 3) := by decide +kernel
theorem d_S_isStuck_26 : decode b_S_isStuck 26 = .ok (.iconst 0, 1) := by decide +kernel
theorem d_S_isStuck_27 : decode b_S_isStuck 27 = .ok (.ireturn, 1) := by decide +kernel
abbrev rm_S_isStuck : Room := { frames := 0, cells := 0, slots := 0, locals := 0 }
def f_S_isStuck_2 : Nat → Int32 → Int32 → Int32 → Mem → Option (Int32 × Mem)
  | 0, _, _, _, _ => none
  | n + 1, x0, x2, x3, M => if x0 ≤ x3 then some ((0 : Int32), M) else if ((x2 >>> (((5 : Int32) * x3) &&& 31)) &&& (31 : Int32)) = 0 then some ((1 : Int32), M) else (f_S_isStuck_2 n) x0 x2 (x3 + (1 : Int32)) M
set_option maxRecDepth 100000 in
theorem g_S_isStuck_2 {r : Int32} {M' : Mem} (C : GC p s m args meth c b_S_isStuck 4 (some (FieldType.boolean)) "NoneWords$Search" TB D vwCl (tysW cI cZ cC) A Z) : ∀ (n : Nat) (x0 : Int32) (x2 : Int32) (x3 : Int32) (M : Mem), f_S_isStuck_2 n x0 x2 x3 M = some (r, M') → GW p l e rm_S_isStuck s m args below meth c (MQ below (QW D vwCl (tysW cI cZ cC) A (some (.int r)) (wc ad cI cZ cC M')) args s 0 0 A) D vwCl A 4 0 0 (wc ad cI cZ cC M) 2 [(0, .int x0), (2, .int x2), (3, .int x3)] [] := by
  intro n
  induction n with
  | zero => intro _ _ _ _ hf; cases hf
  | succ n ih =>
    intro x0 x2 x3 M hf
    rw [f_S_isStuck_2] at hf
    refine gw_iload_n C 2 d_S_isStuck_2 rfl rfl ?_
    refine gw_iload_n C 0 d_S_isStuck_3 rfl rfl ?_
    refine gw_icmp_ge (tgt := 26) C d_S_isStuck_4 (by decide) (fun c => ?_) (fun c => ?_)
    · have hf := (if_pos c).symm.trans hf
      refine gw_iconst (v := (0 : Int32)) C d_S_isStuck_26 (by decide) ?_
      exact gw_zreti C d_S_isStuck_27 (wc ad cI cZ cC) (by decide) hf
    · have hf := (if_neg c).symm.trans hf
      refine gw_iload_n C 1 d_S_isStuck_7 rfl rfl ?_
      refine gw_iconst (v := (5 : Int32)) C d_S_isStuck_8 (by decide) ?_
      refine gw_iload_n C 2 d_S_isStuck_9 rfl rfl ?_
      refine gw_imul C d_S_isStuck_10 ?_
      refine gw_ishr C d_S_isStuck_11 ?_
      refine gw_bipush (v := (31 : Int32)) C d_S_isStuck_12 (by decide) ?_
      refine gw_iand C d_S_isStuck_14 ?_
      refine gw_if_ne (tgt := 20) C d_S_isStuck_15 (by decide) (fun c => ?_) (fun c => ?_)
      · have hf := (if_neg c).symm.trans hf
        refine gw_iinc (v := x3 + (1 : Int32)) (lv' := [(3, .int (x3 + (1 : Int32))), (0, .int x0), (2, .int x2)]) C 2 d_S_isStuck_20 rfl rfl (by decide) rfl ?_
        refine gw_goto (tgt := 2) C d_S_isStuck_23 (by decide) ?_
        exact gw_sub [1, 2, 0] rfl (ih _ _ _ _ hf)
      · have hf := (if_pos c).symm.trans hf
        refine gw_iconst (v := (1 : Int32)) C d_S_isStuck_18 (by decide) ?_
        exact gw_zreti C d_S_isStuck_19 (wc ad cI cZ cC) (by decide) hf
def f_S_isStuck (x0 : Int32) (x1 : Int32) (x2 : Int32) (M : Mem) : Option (Int32 × Mem) :=
  f_S_isStuck_2 1000 x0 x2 x1 M
set_option maxRecDepth 100000 in
theorem g_S_isStuck {r : Int32} {M' : Mem} (C : GC p s m args meth c b_S_isStuck 4 (some (FieldType.boolean)) "NoneWords$Search" TB D vwCl (tysW cI cZ cC) A Z) {x0 : Int32} {x1 : Int32} {x2 : Int32} {M : Mem} (hf : f_S_isStuck x0 x1 x2 M = some (r, M')) : GW p l e rm_S_isStuck s m args below meth c (MQ below (QW D vwCl (tysW cI cZ cC) A (some (.int r)) (wc ad cI cZ cC M')) args s 0 0 A) D vwCl A 4 0 0 (wc ad cI cZ cC M) 0 [(0, .int x0), (1, .int x1), (2, .int x2)] [] := by
  unfold f_S_isStuck at hf
  refine gw_iload_n C 1 d_S_isStuck_0 rfl rfl ?_
  refine gw_istore_n (lv' := [(3, .int x1), (0, .int x0), (1, .int x1), (2, .int x2)]) C d_S_isStuck_1 rfl (by decide) rfl ?_
  exact gw_sub [1, 3, 0] rfl (g_S_isStuck_2 C _ _ _ _ _ hf)
theorem c_S_isStuck (hZ : gw_ZOK Z) {x0 : Int32} {x1 : Int32} {x2 : Int32} {M : Mem} {r : Int32} {M' : Mem} (hf : f_S_isStuck x0 x1 x2 M = some (r, M')) : CW l y_S_isStuck ws_S_isStuck rm_S_isStuck D vwCl (tysW cI cZ cC) Z [.int x0, .int x1, .int x2] (wc ad cI cZ cC M) (some (.int r)) (wc ad cI cZ cC M') 0 0 :=
  CW.ofG hZ (by decide) rfl (Nat.le_of_ble_eq_true rfl) (fun _ _ _ _ _ _ _ _ C _ => g_S_isStuck C hf)
abbrev b_S_canChoose : ByteArray := prog_3_method_10_code
def y_S_canChoose : MethodName := ⟨"NoneWords$Search", "canChoose", "([IIII)Z"⟩
abbrev ws_S_canChoose : List Cond := Cond.code y_S_canChoose b_S_canChoose 7 (some (FieldType.boolean)) :: TB
set_option maxRecDepth 100000 in
theorem tc_S_canChoose : Cond.code y_S_canChoose b_S_canChoose 7 (some (FieldType.boolean)) ∈ TB := inTB 636 rfl rfl
theorem mv_S_canChoose : Cond.static y_S_canChoose ∈ TB ∧ Cond.initialized "NoneWords$Search" ∈ TB ∧ Cond.code y_S_canChoose b_S_canChoose 7 (some (FieldType.boolean)) ∈ TB := ⟨inTB 635 (by decide +kernel) (by decide +kernel), inTB 69 (by decide +kernel) (by decide +kernel), tc_S_canChoose⟩
theorem pd_S_canChoose : y_S_canChoose.cls = "NoneWords$Search" ∧ y_S_canChoose.cls ≠ "java/lang/invoke/MethodHandle" ∧ y_S_canChoose.cls ≠ "java/lang/invoke/VarHandle" ∧ (parseMethodDescriptor y_S_canChoose.desc).map (fun d => d.parameters.length) = some 4 := by decide +kernel
theorem d_S_canChoose_0 : decode b_S_canChoose 0 = .ok (.iload_n 2, 1) := by decide +kernel
theorem d_S_canChoose_1 : decode b_S_canChoose 1 = .ok (.iload_n 1, 1) := by decide +kernel
theorem d_S_canChoose_2 : decode b_S_canChoose 2 = .ok (.if_icmp .ge 8, 3) := by decide +kernel
theorem d_S_canChoose_5 : decode b_S_canChoose 5 = .ok (.iload_n 2, 1) := by decide +kernel
theorem d_S_canChoose_6 : decode b_S_canChoose 6 = .ok (.iconst 5, 1) := by decide +kernel
theorem d_S_canChoose_7 : decode b_S_canChoose 7 = .ok (.if_icmp .lt 5, 3) := by decide +kernel
theorem d_S_canChoose_10 : decode b_S_canChoose 10 = .ok (.iconst 1, 1) := by decide +kernel
theorem d_S_canChoose_11 : decode b_S_canChoose 11 = .ok (.ireturn, 1) := by decide +kernel
theorem d_S_canChoose_12 : decode b_S_canChoose 12 = .ok (.iload_n 1, 1) := by decide +kernel
theorem d_S_canChoose_13 : decode b_S_canChoose 13 = .ok (.iload_n 2, 1) := by decide +kernel
theorem d_S_canChoose_14 : decode b_S_canChoose 14 = .ok (.iload_n 3, 1) := by decide +kernel
theorem d_S_canChoose_15 : decode b_S_canChoose 15 = .ok (.invokestatic 84, 3) := by decide +kernel
theorem d_S_canChoose_18 : decode b_S_canChoose 18 = .ok (.ifCond .eq 5, 3) := by decide +kernel
theorem d_S_canChoose_21 : decode b_S_canChoose 21 = .ok (.iconst 0, 1) := by decide +kernel
theorem d_S_canChoose_22 : decode b_S_canChoose 22 = .ok (.ireturn, 1) := by decide +kernel
theorem d_S_canChoose_23 : decode b_S_canChoose 23 = .ok (.iconst 0, 1) := by decide +kernel
theorem d_S_canChoose_24 : decode b_S_canChoose 24 = .ok (.istore 4, 2) := by decide +kernel
theorem d_S_canChoose_26 : decode b_S_canChoose 26 = .ok (.iload 4, 2) := by decide +kernel
theorem d_S_canChoose_28 : decode b_S_canChoose 28 = .ok (.iconst 5, 1) := by decide +kernel
theorem d_S_canChoose_29 : decode b_S_canChoose 29 = .ok (.if_icmp .ge 60, 3) := by decide +kernel
theorem d_S_canChoose_32 : decode b_S_canChoose 32 = .ok (.iconst 5, 1) := by decide +kernel
theorem d_S_canChoose_33 : decode b_S_canChoose 33 = .ok (.iload_n 2, 1) := by decide +kernel
theorem d_S_canChoose_34 : decode b_S_canChoose 34 = .ok (.imul, 1) := by decide +kernel
theorem d_S_canChoose_35 : decode b_S_canChoose 35 = .ok (.iload 4, 2) := by decide +kernel
theorem d_S_canChoose_37 : decode b_S_canChoose 37 = .ok (.iadd, 1) := by decide +kernel
theorem d_S_canChoose_38 : decode b_S_canChoose 38 = .ok (.istore 5, 2) := by decide +kernel
theorem d_S_canChoose_40 : decode b_S_canChoose 40 = .ok (.iload_n 3, 1) := by decide +kernel
theorem d_S_canChoose_41 : decode b_S_canChoose 41 = .ok (.iload 5, 2) := by decide +kernel
theorem d_S_canChoose_43 : decode b_S_canChoose 43 = .ok (.ishr, 1) := by decide +kernel
theorem d_S_canChoose_44 : decode b_S_canChoose 44 = .ok (.iconst 1, 1) := by decide +kernel
theorem d_S_canChoose_45 : decode b_S_canChoose 45 = .ok (.iand, 1) := by decide +kernel
theorem d_S_canChoose_46 : decode b_S_canChoose 46 = .ok (.iconst 1, 1) := by decide +kernel
theorem d_S_canChoose_47 : decode b_S_canChoose 47 = .ok (.if_icmp .ne 7, 3) := by decide +kernel
theorem d_S_canChoose_50 : decode b_S_canChoose 50 = .ok (.iconst 1, 1) := by decide +kernel
theorem d_S_canChoose_51 : decode b_S_canChoose 51 = .ok (.goto 4, 3) := by decide +kernel
theorem d_S_canChoose_54 : decode b_S_canChoose 54 = .ok (.iconst 0, 1) := by decide +kernel
theorem d_S_canChoose_55 : decode b_S_canChoose 55 = .ok (.istore 6, 2) := by decide +kernel
theorem d_S_canChoose_57 : decode b_S_canChoose 57 = .ok (.iload 6, 2) := by decide +kernel
theorem d_S_canChoose_59 : decode b_S_canChoose 59 = .ok (.ifCond .eq 24, 3) := by decide +kernel
theorem d_S_canChoose_62 : decode b_S_canChoose 62 = .ok (.aload_n 0, 1) := by decide +kernel
theorem d_S_canChoose_63 : decode b_S_canChoose 63 = .ok (.iload_n 1, 1) := by decide +kernel
theorem d_S_canChoose_64 : decode b_S_canChoose 64 = .ok (.iload_n 2, 1) := by decide +kernel
theorem d_S_canChoose_65 : decode b_S_canChoose 65 = .ok (.iconst 1, 1) := by decide +kernel
theorem d_S_canChoose_66 : decode b_S_canChoose 66 = .ok (.iadd, 1) := by decide +kernel
theorem d_S_canChoose_67 : decode b_S_canChoose 67 = .ok (.iload_n 3, 1) := by decide +kernel
theorem d_S_canChoose_68 : decode b_S_canChoose 68 = .ok (.aload_n 0, 1) := by decide +kernel
theorem d_S_canChoose_69 : decode b_S_canChoose 69 = .ok (.iload 5, 2) := by decide +kernel
theorem d_S_canChoose_71 : decode b_S_canChoose 71 = .ok (.iaload, 1) := by decide +kernel
theorem d_S_canChoose_72 : decode b_S_canChoose 72 = .ok (.iconst (-1), 1) := by decide +kernel
theorem d_S_canChoose_73 : decode b_S_canChoose 73 = .ok (.ixor, 1) := by decide +kernel
theorem d_S_canChoose_74 : decode b_S_canChoose 74 = .ok (.iand, 1) := by decide +kernel
theorem d_S_canChoose_75 : decode b_S_canChoose 75 = .ok (.invokestatic 56, 3) := by decide +kernel
theorem d_S_canChoose_78 : decode b_S_canChoose 78 = .ok (.ifCond .eq 5, 3) := by decide +kernel
theorem d_S_canChoose_81 : decode b_S_canChoose 81 = .ok (.iconst 1, 1) := by decide +kernel
theorem d_S_canChoose_82 : decode b_S_canChoose 82 = .ok (.ireturn, 1) := by decide +kernel
theorem d_S_canChoose_83 : decode b_S_canChoose 83 = .ok (.iinc 4 1, 3) := by decide +kernel
theorem d_S_canChoose_86 : decode b_S_canChoose 86 = .ok (.goto (-60), 3) := by decide +kernel
theorem d_S_canChoose_89 : decode b_S_canChoose 89 = .ok (.iconst 0, 1) := by decide +kernel
theorem d_S_canChoose_90 : decode b_S_canChoose 90 = .ok (.ireturn, 1) := by decide +kernel
def rm_S_canChoose (dd : Nat) : Room := { frames := dd + 1, cells := 0, slots := 0, locals := 26 * (dd + 1) }
def f_S_canChoose_55 (self : Int32 → Int32 → Int32 → Mem → Option (Int32 × Mem)) (k26 : Int32 → Int32 → Int32 → Int32 → Mem → Option (Int32 × Mem)) (x1 : Int32) (x2 : Int32) (x3 : Int32) (x4 : Int32) (x5 : Int32) (y0 : Int32) (M : Mem) : Option (Int32 × Mem) :=
  if y0 = 0 then k26 x1 x2 x3 (x4 + (1 : Int32)) M else gd (inb x5 25) (ob (self x1 (x2 + (1 : Int32)) (x3 &&& ((M 27 x5.toNatClampNeg) ^^^ (-1 : Int32))) M) fun r75 M75 => if r75 = 0 then k26 x1 x2 x3 (x4 + (1 : Int32)) M75 else some ((1 : Int32), M75))
set_option maxRecDepth 100000 in
theorem g_S_canChoose_55 {r : Int32} {M' : Mem} (C : GC p s m args meth c b_S_canChoose 7 (some (FieldType.boolean)) "NoneWords$Search" TB D vwCl (tysW cI cZ cC) A Z) {self : Int32 → Int32 → Int32 → Mem → Option (Int32 × Mem)} {dd : Nat} (hself : ∀ (x1 : Int32) (x2 : Int32) (x3 : Int32) (M : Mem) (r : Int32) (M' : Mem), self x1 x2 x3 M = some (r, M') → CW l y_S_canChoose ws_S_canChoose (rm_S_canChoose dd) D vwCl (tysW cI cZ cC) Z [.ref (ad 27), .int x1, .int x2, .int x3] (wc ad cI cZ cC M) (some (.int r)) (wc ad cI cZ cC M') 0 0) {k26 : Int32 → Int32 → Int32 → Int32 → Mem → Option (Int32 × Mem)} (hk26 : ∀ (x1 : Int32) (x2 : Int32) (x3 : Int32) (x4 : Int32) (M : Mem), k26 x1 x2 x3 x4 M = some (r, M') → GW p l e (rm_S_canChoose (dd + 1)) s m args below meth c (MQ below (QW D vwCl (tysW cI cZ cC) A (some (.int r)) (wc ad cI cZ cC M')) args s 0 0 A) D vwCl A 7 0 0 (wc ad cI cZ cC M) 26 [(0, .ref (ad 27)), (1, .int x1), (2, .int x2), (3, .int x3), (4, .int x4)] []) {x1 : Int32} {x2 : Int32} {x3 : Int32} {x4 : Int32} {x5 : Int32} {y0 : Int32} {M : Mem} (hf : f_S_canChoose_55 self k26 x1 x2 x3 x4 x5 y0 M = some (r, M')) : GW p l e (rm_S_canChoose (dd + 1)) s m args below meth c (MQ below (QW D vwCl (tysW cI cZ cC) A (some (.int r)) (wc ad cI cZ cC M')) args s 0 0 A) D vwCl A 7 0 0 (wc ad cI cZ cC M) 55 [(0, .ref (ad 27)), (1, .int x1), (2, .int x2), (3, .int x3), (4, .int x4), (5, .int x5)] [.int y0] := by
  unfold f_S_canChoose_55 at hf
  refine gw_istore (lv' := [(6, .int y0), (0, .ref (ad 27)), (1, .int x1), (2, .int x2), (3, .int x3), (4, .int x4), (5, .int x5)]) C d_S_canChoose_55 (by decide) rfl ?_
  refine gw_iload C 0 d_S_canChoose_57 rfl ?_
  refine gw_if_eq (tgt := 83) C d_S_canChoose_59 (by decide) (fun c => ?_) (fun c => ?_)
  · have hf := (if_pos c).symm.trans hf
    refine gw_iinc (v := x4 + (1 : Int32)) (lv' := [(4, .int (x4 + (1 : Int32))), (6, .int y0), (0, .ref (ad 27)), (1, .int x1), (2, .int x2), (3, .int x3), (5, .int x5)]) C 5 d_S_canChoose_83 rfl rfl (by decide) rfl ?_
    refine gw_goto (tgt := 26) C d_S_canChoose_86 (by decide) ?_
    exact gw_sub [2, 3, 4, 5, 0] rfl (hk26 _ _ _ _ _ hf)
  · have hf := (if_neg c).symm.trans hf
    refine gw_aload_n C 1 d_S_canChoose_62 rfl rfl ?_
    refine gw_iload_n C 2 d_S_canChoose_63 rfl rfl ?_
    refine gw_iload_n C 3 d_S_canChoose_64 rfl rfl ?_
    refine gw_iconst (v := (1 : Int32)) C d_S_canChoose_65 (by decide) ?_
    refine gw_iadd C d_S_canChoose_66 ?_
    refine gw_iload_n C 4 d_S_canChoose_67 rfl rfl ?_
    refine gw_aload_n C 1 d_S_canChoose_68 rfl rfl ?_
    refine gw_iload C 6 d_S_canChoose_69 rfl ?_
    obtain ⟨hb71, hf⟩ := gd_some hf
    refine gw_iald C 27 0 wcg_27 rfl hb71 d_S_canChoose_71 ?_
    refine gw_iconst (v := (-1 : Int32)) C d_S_canChoose_72 (by decide) ?_
    refine gw_ixor C d_S_canChoose_73 ?_
    refine gw_iand C d_S_canChoose_74 ?_
    obtain ⟨r75, M75, hc75, hf⟩ := ob_some hf
    refine gw_callSr (rest := []) C (hself _ _ _ _ _ _ hc75) (cwS 4 C.2.2.2.2.1 (gTB_S tw_634 mv_S_canChoose) rfl rfl rfl pd_S_canChoose ⟨by simp only [rm_S_canChoose, rm_S_canChoose]; omega, by simp only [rm_S_canChoose, rm_S_canChoose]; omega⟩) rfl rfl (Nat.le_of_ble_eq_true rfl) d_S_canChoose_75 ⟨Nat.zero_le _, Nat.zero_le _⟩ ?_
    refine gw_if_eq (tgt := 83) C d_S_canChoose_78 (by decide) (fun c => ?_) (fun c => ?_)
    · have hf := (if_pos c).symm.trans hf
      refine gw_iinc (v := x4 + (1 : Int32)) (lv' := [(4, .int (x4 + (1 : Int32))), (6, .int y0), (0, .ref (ad 27)), (1, .int x1), (2, .int x2), (3, .int x3), (5, .int x5)]) C 5 d_S_canChoose_83 rfl rfl (by decide) rfl ?_
      refine gw_goto (tgt := 26) C d_S_canChoose_86 (by decide) ?_
      exact gw_sub [2, 3, 4, 5, 0] rfl (hk26 _ _ _ _ _ hf)
    · have hf := (if_neg c).symm.trans hf
      refine gw_iconst (v := (1 : Int32)) C d_S_canChoose_81 (by decide) ?_
      exact gw_zreti C d_S_canChoose_82 (wc ad cI cZ cC) (by decide) hf
def f_S_canChoose_26 (self : Int32 → Int32 → Int32 → Mem → Option (Int32 × Mem)) : Nat → Int32 → Int32 → Int32 → Int32 → Mem → Option (Int32 × Mem)
  | 0, _, _, _, _, _ => none
  | n + 1, x1, x2, x3, x4, M => if (5 : Int32) ≤ x4 then some ((0 : Int32), M) else if ((x3 >>> ((((5 : Int32) * x2) + x4) &&& 31)) &&& (1 : Int32)) = (1 : Int32) then f_S_canChoose_55 self (f_S_canChoose_26 self n) x1 x2 x3 x4 (((5 : Int32) * x2) + x4) (1 : Int32) M else f_S_canChoose_55 self (f_S_canChoose_26 self n) x1 x2 x3 x4 (((5 : Int32) * x2) + x4) (0 : Int32) M
set_option maxRecDepth 100000 in
theorem g_S_canChoose_26 {r : Int32} {M' : Mem} (C : GC p s m args meth c b_S_canChoose 7 (some (FieldType.boolean)) "NoneWords$Search" TB D vwCl (tysW cI cZ cC) A Z) {self : Int32 → Int32 → Int32 → Mem → Option (Int32 × Mem)} {dd : Nat} (hself : ∀ (x1 : Int32) (x2 : Int32) (x3 : Int32) (M : Mem) (r : Int32) (M' : Mem), self x1 x2 x3 M = some (r, M') → CW l y_S_canChoose ws_S_canChoose (rm_S_canChoose dd) D vwCl (tysW cI cZ cC) Z [.ref (ad 27), .int x1, .int x2, .int x3] (wc ad cI cZ cC M) (some (.int r)) (wc ad cI cZ cC M') 0 0) : ∀ (n : Nat) (x1 : Int32) (x2 : Int32) (x3 : Int32) (x4 : Int32) (M : Mem), f_S_canChoose_26 self n x1 x2 x3 x4 M = some (r, M') → GW p l e (rm_S_canChoose (dd + 1)) s m args below meth c (MQ below (QW D vwCl (tysW cI cZ cC) A (some (.int r)) (wc ad cI cZ cC M')) args s 0 0 A) D vwCl A 7 0 0 (wc ad cI cZ cC M) 26 [(0, .ref (ad 27)), (1, .int x1), (2, .int x2), (3, .int x3), (4, .int x4)] [] := by
  intro n
  induction n with
  | zero => intro _ _ _ _ _ hf; cases hf
  | succ n ih =>
    intro x1 x2 x3 x4 M hf
    rw [f_S_canChoose_26] at hf
    refine gw_iload C 4 d_S_canChoose_26 rfl ?_
    refine gw_iconst (v := (5 : Int32)) C d_S_canChoose_28 (by decide) ?_
    refine gw_icmp_ge (tgt := 89) C d_S_canChoose_29 (by decide) (fun c => ?_) (fun c => ?_)
    · have hf := (if_pos c).symm.trans hf
      refine gw_iconst (v := (0 : Int32)) C d_S_canChoose_89 (by decide) ?_
      exact gw_zreti C d_S_canChoose_90 (wc ad cI cZ cC) (by decide) hf
    · have hf := (if_neg c).symm.trans hf
      refine gw_iconst (v := (5 : Int32)) C d_S_canChoose_32 (by decide) ?_
      refine gw_iload_n C 2 d_S_canChoose_33 rfl rfl ?_
      refine gw_imul C d_S_canChoose_34 ?_
      refine gw_iload C 4 d_S_canChoose_35 rfl ?_
      refine gw_iadd C d_S_canChoose_37 ?_
      refine gw_istore (lv' := [(5, .int (((5 : Int32) * x2) + x4)), (0, .ref (ad 27)), (1, .int x1), (2, .int x2), (3, .int x3), (4, .int x4)]) C d_S_canChoose_38 (by decide) rfl ?_
      refine gw_iload_n C 4 d_S_canChoose_40 rfl rfl ?_
      refine gw_iload C 0 d_S_canChoose_41 rfl ?_
      refine gw_ishr C d_S_canChoose_43 ?_
      refine gw_iconst (v := (1 : Int32)) C d_S_canChoose_44 (by decide) ?_
      refine gw_iand C d_S_canChoose_45 ?_
      refine gw_iconst (v := (1 : Int32)) C d_S_canChoose_46 (by decide) ?_
      refine gw_icmp_ne (tgt := 54) C d_S_canChoose_47 (by decide) (fun c => ?_) (fun c => ?_)
      · have hf := (if_neg c).symm.trans hf
        refine gw_iconst (v := (0 : Int32)) C d_S_canChoose_54 (by decide) ?_
        exact gw_sub [1, 2, 3, 4, 5, 0] rfl (g_S_canChoose_55 C hself ih hf)
      · have hf := (if_pos c).symm.trans hf
        refine gw_iconst (v := (1 : Int32)) C d_S_canChoose_50 (by decide) ?_
        refine gw_goto (tgt := 55) C d_S_canChoose_51 (by decide) ?_
        exact gw_sub [1, 2, 3, 4, 5, 0] rfl (g_S_canChoose_55 C hself ih hf)
def f_S_canChoose_e (self : Int32 → Int32 → Int32 → Mem → Option (Int32 × Mem)) (x1 : Int32) (x2 : Int32) (x3 : Int32) (M : Mem) : Option (Int32 × Mem) :=
  if x1 ≤ x2 then some ((1 : Int32), M) else if x2 < (5 : Int32) then ob (f_S_isStuck x1 x2 x3 M) fun r15 M15 => if r15 = 0 then f_S_canChoose_26 self 1000 x1 x2 x3 (0 : Int32) M15 else some ((0 : Int32), M15) else some ((1 : Int32), M)
set_option maxRecDepth 100000 in
theorem g_S_canChoose_e {r : Int32} {M' : Mem} (C : GC p s m args meth c b_S_canChoose 7 (some (FieldType.boolean)) "NoneWords$Search" TB D vwCl (tysW cI cZ cC) A Z) {self : Int32 → Int32 → Int32 → Mem → Option (Int32 × Mem)} {dd : Nat} (hself : ∀ (x1 : Int32) (x2 : Int32) (x3 : Int32) (M : Mem) (r : Int32) (M' : Mem), self x1 x2 x3 M = some (r, M') → CW l y_S_canChoose ws_S_canChoose (rm_S_canChoose dd) D vwCl (tysW cI cZ cC) Z [.ref (ad 27), .int x1, .int x2, .int x3] (wc ad cI cZ cC M) (some (.int r)) (wc ad cI cZ cC M') 0 0) {x1 : Int32} {x2 : Int32} {x3 : Int32} {M : Mem} (hf : f_S_canChoose_e self x1 x2 x3 M = some (r, M')) : GW p l e (rm_S_canChoose (dd + 1)) s m args below meth c (MQ below (QW D vwCl (tysW cI cZ cC) A (some (.int r)) (wc ad cI cZ cC M')) args s 0 0 A) D vwCl A 7 0 0 (wc ad cI cZ cC M) 0 [(0, .ref (ad 27)), (1, .int x1), (2, .int x2), (3, .int x3)] [] := by
  unfold f_S_canChoose_e at hf
  refine gw_iload_n C 2 d_S_canChoose_0 rfl rfl ?_
  refine gw_iload_n C 1 d_S_canChoose_1 rfl rfl ?_
  refine gw_icmp_ge (tgt := 10) C d_S_canChoose_2 (by decide) (fun c => ?_) (fun c => ?_)
  · have hf := (if_pos c).symm.trans hf
    refine gw_iconst (v := (1 : Int32)) C d_S_canChoose_10 (by decide) ?_
    exact gw_zreti C d_S_canChoose_11 (wc ad cI cZ cC) (by decide) hf
  · have hf := (if_neg c).symm.trans hf
    refine gw_iload_n C 2 d_S_canChoose_5 rfl rfl ?_
    refine gw_iconst (v := (5 : Int32)) C d_S_canChoose_6 (by decide) ?_
    refine gw_icmp_lt (tgt := 12) C d_S_canChoose_7 (by decide) (fun c => ?_) (fun c => ?_)
    · have hf := (if_pos c).symm.trans hf
      refine gw_iload_n C 1 d_S_canChoose_12 rfl rfl ?_
      refine gw_iload_n C 2 d_S_canChoose_13 rfl rfl ?_
      refine gw_iload_n C 3 d_S_canChoose_14 rfl rfl ?_
      obtain ⟨r15, M15, hc15, hf⟩ := ob_some hf
      refine gw_callSr (rest := []) C (c_S_isStuck C.2.2.2.2.2.2.2.2.2.2 hc15) (cwS 3 C.2.2.2.2.1 (gTB_S tw_637 mv_S_isStuck) rfl rfl rfl pd_S_isStuck ⟨by simp only [rm_S_canChoose, rm_S_isStuck]; omega, by simp only [rm_S_canChoose, rm_S_isStuck]; omega⟩) rfl rfl (Nat.le_of_ble_eq_true rfl) d_S_canChoose_15 ⟨Nat.zero_le _, Nat.zero_le _⟩ ?_
      refine gw_if_eq (tgt := 23) C d_S_canChoose_18 (by decide) (fun c => ?_) (fun c => ?_)
      · have hf := (if_pos c).symm.trans hf
        refine gw_iconst (v := (0 : Int32)) C d_S_canChoose_23 (by decide) ?_
        refine gw_istore (lv' := [(4, .int (0 : Int32)), (0, .ref (ad 27)), (1, .int x1), (2, .int x2), (3, .int x3)]) C d_S_canChoose_24 (by decide) rfl ?_
        exact gw_sub [1, 2, 3, 4, 0] rfl (g_S_canChoose_26 C hself _ _ _ _ _ _ hf)
      · have hf := (if_neg c).symm.trans hf
        refine gw_iconst (v := (0 : Int32)) C d_S_canChoose_21 (by decide) ?_
        exact gw_zreti C d_S_canChoose_22 (wc ad cI cZ cC) (by decide) hf
    · have hf := (if_neg c).symm.trans hf
      refine gw_iconst (v := (1 : Int32)) C d_S_canChoose_10 (by decide) ?_
      exact gw_zreti C d_S_canChoose_11 (wc ad cI cZ cC) (by decide) hf
def f_S_canChoose : Nat → Int32 → Int32 → Int32 → Mem → Option (Int32 × Mem)
  | 0, _, _, _, _ => none
  | dd + 1, x1, x2, x3, M => f_S_canChoose_e (f_S_canChoose dd) x1 x2 x3 M
theorem c_S_canChoose (hZ : gw_ZOK Z) : ∀ (dd : Nat) (x1 : Int32) (x2 : Int32) (x3 : Int32) (M : Mem) (r : Int32) (M' : Mem), f_S_canChoose dd x1 x2 x3 M = some (r, M') → CW l y_S_canChoose ws_S_canChoose (rm_S_canChoose dd) D vwCl (tysW cI cZ cC) Z [.ref (ad 27), .int x1, .int x2, .int x3] (wc ad cI cZ cC M) (some (.int r)) (wc ad cI cZ cC M') 0 0 := by
  intro dd
  induction dd with
  | zero => intro _ _ _ _ _ _ h; cases h
  | succ dd ih =>
    intro x1 x2 x3 M r M' hf
    exact CW.ofG hZ (by decide) rfl (Nat.le_of_ble_eq_true rfl) (fun _ _ _ _ _ _ _ _ C _ => g_S_canChoose_e C ih hf)
abbrev b_S_bar : ByteArray := prog_3_method_9_code
def y_S_bar : MethodName := ⟨"NoneWords$Search", "bar", "(I)I"⟩
abbrev ws_S_bar : List Cond := Cond.code y_S_bar b_S_bar 7 (some (FieldType.int)) :: TB
set_option maxRecDepth 100000 in
theorem tc_S_bar : Cond.code y_S_bar b_S_bar 7 (some (FieldType.int)) ∈ TB := inTB 630 rfl rfl
theorem mv_S_bar : Cond.instanceMethod y_S_bar ∈ TB ∧ Cond.selects "NoneWords$Search" y_S_bar y_S_bar ∈ TB ∧ Cond.initialized "NoneWords$Search" ∈ TB ∧ Cond.code y_S_bar b_S_bar 7 (some (FieldType.int)) ∈ TB := ⟨inTB 629 (by decide +kernel) (by decide +kernel), inTB 22 (by decide +kernel) (by decide +kernel), inTB 69 (by decide +kernel) (by decide +kernel), tc_S_bar⟩
theorem pd_S_bar : y_S_bar.cls = "NoneWords$Search" ∧ y_S_bar.cls ≠ "java/lang/invoke/MethodHandle" ∧ y_S_bar.cls ≠ "java/lang/invoke/VarHandle" ∧ (parseMethodDescriptor y_S_bar.desc).map (fun d => d.parameters.length) = some 1 := by decide +kernel
theorem d_S_bar_0 : decode b_S_bar 0 = .ok (.aload_n 0, 1) := by decide +kernel
theorem d_S_bar_1 : decode b_S_bar 1 = .ok (.getfield 28, 3) := by decide +kernel
theorem d_S_bar_4 : decode b_S_bar 4 = .ok (.iload_n 1, 1) := by decide +kernel
theorem d_S_bar_5 : decode b_S_bar 5 = .ok (.iconst 0, 1) := by decide +kernel
theorem d_S_bar_6 : decode b_S_bar 6 = .ok (.invokevirtual 76, 3) := by decide +kernel
theorem d_S_bar_9 : decode b_S_bar 9 = .ok (.istore_n 2, 1) := by decide +kernel
theorem d_S_bar_10 : decode b_S_bar 10 = .ok (.iload_n 2, 1) := by decide +kernel
theorem d_S_bar_11 : decode b_S_bar 11 = .ok (.iconst (-1), 1) := by decide +kernel
theorem d_S_bar_12 : decode b_S_bar 12 = .ok (.if_icmp .ne 6, 3) := by decide +kernel
theorem d_S_bar_15 : decode b_S_bar 15 = .ok (.ldc 80, 2) := by decide +kernel
theorem d_S_bar_17 : decode b_S_bar 17 = .ok (.ireturn, 1) := by decide +kernel
theorem d_S_bar_18 : decode b_S_bar 18 = .ok (.aload_n 0, 1) := by decide +kernel
theorem d_S_bar_19 : decode b_S_bar 19 = .ok (.getfield 28, 3) := by decide +kernel
theorem d_S_bar_22 : decode b_S_bar 22 = .ok (.iload_n 1, 1) := by decide +kernel
theorem d_S_bar_23 : decode b_S_bar 23 = .ok (.iconst 1, 1) := by decide +kernel
theorem d_S_bar_24 : decode b_S_bar 24 = .ok (.invokevirtual 76, 3) := by decide +kernel
theorem d_S_bar_27 : decode b_S_bar 27 = .ok (.istore_n 3, 1) := by decide +kernel
theorem d_S_bar_28 : decode b_S_bar 28 = .ok (.aload_n 0, 1) := by decide +kernel
theorem d_S_bar_29 : decode b_S_bar 29 = .ok (.getfield 28, 3) := by decide +kernel
theorem d_S_bar_32 : decode b_S_bar 32 = .ok (.iload_n 1, 1) := by decide +kernel
theorem d_S_bar_33 : decode b_S_bar 33 = .ok (.iload_n 2, 1) := by decide +kernel
theorem d_S_bar_34 : decode b_S_bar 34 = .ok (.invokevirtual 81, 3) := by decide +kernel
theorem d_S_bar_37 : decode b_S_bar 37 = .ok (.istore 4, 2) := by decide +kernel
theorem d_S_bar_39 : decode b_S_bar 39 = .ok (.iload_n 3, 1) := by decide +kernel
theorem d_S_bar_40 : decode b_S_bar 40 = .ok (.iconst (-1), 1) := by decide +kernel
theorem d_S_bar_41 : decode b_S_bar 41 = .ok (.if_icmp .ne 10, 3) := by decide +kernel
theorem d_S_bar_44 : decode b_S_bar 44 = .ok (.iload 4, 2) := by decide +kernel
theorem d_S_bar_46 : decode b_S_bar 46 = .ok (.iconst 5, 1) := by decide +kernel
theorem d_S_bar_47 : decode b_S_bar 47 = .ok (.iload_n 2, 1) := by decide +kernel
theorem d_S_bar_48 : decode b_S_bar 48 = .ok (.imul, 1) := by decide +kernel
theorem d_S_bar_49 : decode b_S_bar 49 = .ok (.ishl, 1) := by decide +kernel
theorem d_S_bar_50 : decode b_S_bar 50 = .ok (.ireturn, 1) := by decide +kernel
theorem d_S_bar_51 : decode b_S_bar 51 = .ok (.aload_n 0, 1) := by decide +kernel
theorem d_S_bar_52 : decode b_S_bar 52 = .ok (.getfield 28, 3) := by decide +kernel
theorem d_S_bar_55 : decode b_S_bar 55 = .ok (.iload_n 1, 1) := by decide +kernel
theorem d_S_bar_56 : decode b_S_bar 56 = .ok (.iload_n 3, 1) := by decide +kernel
theorem d_S_bar_57 : decode b_S_bar 57 = .ok (.invokevirtual 81, 3) := by decide +kernel
theorem d_S_bar_60 : decode b_S_bar 60 = .ok (.iconst 5, 1) := by decide +kernel
theorem d_S_bar_61 : decode b_S_bar 61 = .ok (.iload_n 3, 1) := by decide +kernel
theorem d_S_bar_62 : decode b_S_bar 62 = .ok (.imul, 1) := by decide +kernel
theorem d_S_bar_63 : decode b_S_bar 63 = .ok (.ishl, 1) := by decide +kernel
theorem d_S_bar_64 : decode b_S_bar 64 = .ok (.istore 5, 2) := by decide +kernel
theorem d_S_bar_66 : decode b_S_bar 66 = .ok (.iconst 0, 1) := by decide +kernel
theorem d_S_bar_67 : decode b_S_bar 67 = .ok (.istore 6, 2) := by decide +kernel
theorem d_S_bar_69 : decode b_S_bar 69 = .ok (.iload 6, 2) := by decide +kernel
theorem d_S_bar_71 : decode b_S_bar 71 = .ok (.iconst 5, 1) := by decide +kernel
theorem d_S_bar_72 : decode b_S_bar 72 = .ok (.if_icmp .ge 36, 3) := by decide +kernel
theorem d_S_bar_75 : decode b_S_bar 75 = .ok (.iload 4, 2) := by decide +kernel
theorem d_S_bar_77 : decode b_S_bar 77 = .ok (.iload 6, 2) := by decide +kernel
theorem d_S_bar_79 : decode b_S_bar 79 = .ok (.ishr, 1) := by decide +kernel
theorem d_S_bar_80 : decode b_S_bar 80 = .ok (.iconst 1, 1) := by decide +kernel
theorem d_S_bar_81 : decode b_S_bar 81 = .ok (.iand, 1) := by decide +kernel
theorem d_S_bar_82 : decode b_S_bar 82 = .ok (.iconst 1, 1) := by decide +kernel
theorem d_S_bar_83 : decode b_S_bar 83 = .ok (.if_icmp .ne 19, 3) := by decide +kernel
theorem d_S_bar_86 : decode b_S_bar 86 = .ok (.aload_n 0, 1) := by decide +kernel
theorem d_S_bar_87 : decode b_S_bar 87 = .ok (.getfield 17, 3) := by decide +kernel
theorem d_S_bar_90 : decode b_S_bar 90 = .ok (.iconst 5, 1) := by decide +kernel
theorem d_S_bar_91 : decode b_S_bar 91 = .ok (.iload_n 2, 1) := by decide +kernel
theorem d_S_bar_92 : decode b_S_bar 92 = .ok (.imul, 1) := by decide +kernel
theorem d_S_bar_93 : decode b_S_bar 93 = .ok (.iload 6, 2) := by decide +kernel
theorem d_S_bar_95 : decode b_S_bar 95 = .ok (.iadd, 1) := by decide +kernel
theorem d_S_bar_96 : decode b_S_bar 96 = .ok (.dup2, 1) := by decide +kernel
theorem d_S_bar_97 : decode b_S_bar 97 = .ok (.iaload, 1) := by decide +kernel
theorem d_S_bar_98 : decode b_S_bar 98 = .ok (.iload 5, 2) := by decide +kernel
theorem d_S_bar_100 : decode b_S_bar 100 = .ok (.ior, 1) := by decide +kernel
theorem d_S_bar_101 : decode b_S_bar 101 = .ok (.iastore, 1) := by decide +kernel
theorem d_S_bar_102 : decode b_S_bar 102 = .ok (.iinc 6 1, 3) := by decide +kernel
theorem d_S_bar_105 : decode b_S_bar 105 = .ok (.goto (-36), 3) := by decide +kernel
theorem d_S_bar_108 : decode b_S_bar 108 = .ok (.iconst 0, 1) := by decide +kernel
theorem d_S_bar_109 : decode b_S_bar 109 = .ok (.ireturn, 1) := by decide +kernel
abbrev rm_S_bar : Room := { frames := 2, cells := 0, slots := 0, locals := 46 }
def f_S_bar_69 : Nat → Int32 → Int32 → Int32 → Int32 → Mem → Option (Int32 × Mem)
  | 0, _, _, _, _, _ => none
  | n + 1, x2, x4, x5, x6, M => if (5 : Int32) ≤ x6 then some ((0 : Int32), M) else if ((x4 >>> (x6 &&& 31)) &&& (1 : Int32)) = (1 : Int32) then gd (inb (((5 : Int32) * x2) + x6) 25) (gd (inb (((5 : Int32) * x2) + x6) 25) ((f_S_bar_69 n) x2 x4 x5 (x6 + (1 : Int32)) (ms M 27 (((5 : Int32) * x2) + x6).toNatClampNeg ((M 27 (((5 : Int32) * x2) + x6).toNatClampNeg) ||| x5)))) else (f_S_bar_69 n) x2 x4 x5 (x6 + (1 : Int32)) M
set_option maxRecDepth 100000 in
theorem g_S_bar_69 {r : Int32} {M' : Mem} (C : GC p s m args meth c b_S_bar 7 (some (FieldType.int)) "NoneWords$Search" TB D vwCl (tysW cI cZ cC) A Z) : ∀ (n : Nat) (x2 : Int32) (x4 : Int32) (x5 : Int32) (x6 : Int32) (M : Mem), f_S_bar_69 n x2 x4 x5 x6 M = some (r, M') → GW p l e rm_S_bar s m args below meth c (MQ below (QW D vwCl (tysW cI cZ cC) A (some (.int r)) (wc ad cI cZ cC M')) args s 0 0 A) D vwCl A 7 0 0 (wc ad cI cZ cC M) 69 [(0, .ref (ad 25)), (2, .int x2), (4, .int x4), (5, .int x5), (6, .int x6)] [] := by
  intro n
  induction n with
  | zero => intro _ _ _ _ _ hf; cases hf
  | succ n ih =>
    intro x2 x4 x5 x6 M hf
    rw [f_S_bar_69] at hf
    refine gw_iload C 4 d_S_bar_69 rfl ?_
    refine gw_iconst (v := (5 : Int32)) C d_S_bar_71 (by decide) ?_
    refine gw_icmp_ge (tgt := 108) C d_S_bar_72 (by decide) (fun c => ?_) (fun c => ?_)
    · have hf := (if_pos c).symm.trans hf
      refine gw_iconst (v := (0 : Int32)) C d_S_bar_108 (by decide) ?_
      exact gw_ireti C d_S_bar_109 (wc ad cI cZ cC) hf
    · have hf := (if_neg c).symm.trans hf
      refine gw_iload C 2 d_S_bar_75 rfl ?_
      refine gw_iload C 4 d_S_bar_77 rfl ?_
      refine gw_ishr C d_S_bar_79 ?_
      refine gw_iconst (v := (1 : Int32)) C d_S_bar_80 (by decide) ?_
      refine gw_iand C d_S_bar_81 ?_
      refine gw_iconst (v := (1 : Int32)) C d_S_bar_82 (by decide) ?_
      refine gw_icmp_ne (tgt := 102) C d_S_bar_83 (by decide) (fun c => ?_) (fun c => ?_)
      · have hf := (if_neg c).symm.trans hf
        refine gw_iinc (v := x6 + (1 : Int32)) (lv' := [(6, .int (x6 + (1 : Int32))), (0, .ref (ad 25)), (2, .int x2), (4, .int x4), (5, .int x5)]) C 4 d_S_bar_102 rfl rfl (by decide) rfl ?_
        refine gw_goto (tgt := 69) C d_S_bar_105 (by decide) ?_
        exact gw_sub [1, 2, 3, 4, 0] rfl (ih _ _ _ _ _ hf)
      · have hf := (if_pos c).symm.trans hf
        refine gw_aload_n C 0 d_S_bar_86 rfl rfl ?_
        refine gw_get C in_S 25 wcg_25 clg_1 2 (by decide) tw_210 rfl rfl d_S_bar_87 ?_
        refine gw_iconst (v := (5 : Int32)) C d_S_bar_90 (by decide) ?_
        refine gw_iload_n C 1 d_S_bar_91 rfl rfl ?_
        refine gw_imul C d_S_bar_92 ?_
        refine gw_iload C 4 d_S_bar_93 rfl ?_
        refine gw_iadd C d_S_bar_95 ?_
        refine gw_dup2 C d_S_bar_96 rfl rfl ?_
        obtain ⟨hb97, hf⟩ := gd_some hf
        refine gw_iald C 27 0 wcg_27 rfl hb97 d_S_bar_97 ?_
        refine gw_iload C 3 d_S_bar_98 rfl ?_
        refine gw_ior C d_S_bar_100 ?_
        obtain ⟨hb101, hf⟩ := gd_some hf
        refine gw_iast C 27 0 wcg_27 rfl hb101 d_S_bar_101 wca_27 ?_
        refine gw_iinc (v := x6 + (1 : Int32)) (lv' := [(6, .int (x6 + (1 : Int32))), (0, .ref (ad 25)), (2, .int x2), (4, .int x4), (5, .int x5)]) C 4 d_S_bar_102 rfl rfl (by decide) rfl ?_
        refine gw_goto (tgt := 69) C d_S_bar_105 (by decide) ?_
        exact gw_sub [1, 2, 3, 4, 0] rfl (ih _ _ _ _ _ hf)
def f_S_bar (x1 : Int32) (M : Mem) : Option (Int32 × Mem) :=
  ob (f_F_nameOfTerm x1 (0 : Int32) M) fun r6 M6 => if r6 = (-1 : Int32) then some ((33554431 : Int32), M6) else ob (f_F_nameOfTerm x1 (1 : Int32) M6) fun r24 M24 => ob (f_F_optionsOfTerm x1 r6 M24) fun r34 M34 => if r24 = (-1 : Int32) then some (r34 <<< (((5 : Int32) * r6) &&& 31), M34) else ob (f_F_optionsOfTerm x1 r24 M34) fun r57 M57 => f_S_bar_69 1000 r6 r34 (r57 <<< (((5 : Int32) * r24) &&& 31)) (0 : Int32) M57
set_option maxRecDepth 100000 in
theorem g_S_bar {r : Int32} {M' : Mem} (C : GC p s m args meth c b_S_bar 7 (some (FieldType.int)) "NoneWords$Search" TB D vwCl (tysW cI cZ cC) A Z) {x1 : Int32} {M : Mem} (hf : f_S_bar x1 M = some (r, M')) : GW p l e rm_S_bar s m args below meth c (MQ below (QW D vwCl (tysW cI cZ cC) A (some (.int r)) (wc ad cI cZ cC M')) args s 0 0 A) D vwCl A 7 0 0 (wc ad cI cZ cC M) 0 [(0, .ref (ad 25)), (1, .int x1)] [] := by
  unfold f_S_bar at hf
  refine gw_aload_n C 0 d_S_bar_0 rfl rfl ?_
  refine gw_get C in_S 25 wcg_25 clg_1 0 (by decide) tw_208 rfl rfl d_S_bar_1 ?_
  refine gw_iload_n C 1 d_S_bar_4 rfl rfl ?_
  refine gw_iconst (v := (0 : Int32)) C d_S_bar_5 (by decide) ?_
  obtain ⟨r6, M6, hc6, hf⟩ := ob_some hf
  refine gw_callVr (rest := []) C 1 wcg_1 clg_0 (c_F_nameOfTerm C.2.2.2.2.2.2.2.2.2.2 hc6) (cwV 2 C.2.2.2.2.1 (gTB_V tw_631 mv_F_nameOfTerm) rfl rfl rfl pd_F_nameOfTerm ⟨Nat.le_of_ble_eq_true rfl, Nat.le_of_ble_eq_true rfl⟩) rfl rfl (Nat.le_of_ble_eq_true rfl) d_S_bar_6 ⟨Nat.le_of_ble_eq_true rfl, Nat.le_of_ble_eq_true rfl⟩ ?_
  refine gw_istore_n (lv' := [(2, .int r6), (0, .ref (ad 25)), (1, .int x1)]) C d_S_bar_9 rfl (by decide) rfl ?_
  refine gw_iload_n C 0 d_S_bar_10 rfl rfl ?_
  refine gw_iconst (v := (-1 : Int32)) C d_S_bar_11 (by decide) ?_
  refine gw_icmp_ne (tgt := 18) C d_S_bar_12 (by decide) (fun c => ?_) (fun c => ?_)
  · have hf := (if_neg c).symm.trans hf
    refine gw_aload_n C 1 d_S_bar_18 rfl rfl ?_
    refine gw_get C in_S 25 wcg_25 clg_1 0 (by decide) tw_208 rfl rfl d_S_bar_19 ?_
    refine gw_iload_n C 2 d_S_bar_22 rfl rfl ?_
    refine gw_iconst (v := (1 : Int32)) C d_S_bar_23 (by decide) ?_
    obtain ⟨r24, M24, hc24, hf⟩ := ob_some hf
    refine gw_callVr (rest := []) C 1 wcg_1 clg_0 (c_F_nameOfTerm C.2.2.2.2.2.2.2.2.2.2 hc24) (cwV 2 C.2.2.2.2.1 (gTB_V tw_631 mv_F_nameOfTerm) rfl rfl rfl pd_F_nameOfTerm ⟨Nat.le_of_ble_eq_true rfl, Nat.le_of_ble_eq_true rfl⟩) rfl rfl (Nat.le_of_ble_eq_true rfl) d_S_bar_24 ⟨Nat.le_of_ble_eq_true rfl, Nat.le_of_ble_eq_true rfl⟩ ?_
    refine gw_istore_n (lv' := [(3, .int r24), (2, .int r6), (0, .ref (ad 25)), (1, .int x1)]) C d_S_bar_27 rfl (by decide) rfl ?_
    refine gw_aload_n C 2 d_S_bar_28 rfl rfl ?_
    refine gw_get C in_S 25 wcg_25 clg_1 0 (by decide) tw_208 rfl rfl d_S_bar_29 ?_
    refine gw_iload_n C 3 d_S_bar_32 rfl rfl ?_
    refine gw_iload_n C 1 d_S_bar_33 rfl rfl ?_
    obtain ⟨r34, M34, hc34, hf⟩ := ob_some hf
    refine gw_callVr (rest := []) C 1 wcg_1 clg_0 (c_F_optionsOfTerm C.2.2.2.2.2.2.2.2.2.2 hc34) (cwV 2 C.2.2.2.2.1 (gTB_V tw_633 mv_F_optionsOfTerm) rfl rfl rfl pd_F_optionsOfTerm ⟨Nat.le_of_ble_eq_true rfl, Nat.le_of_ble_eq_true rfl⟩) rfl rfl (Nat.le_of_ble_eq_true rfl) d_S_bar_34 ⟨Nat.le_of_ble_eq_true rfl, Nat.le_of_ble_eq_true rfl⟩ ?_
    refine gw_istore (lv' := [(4, .int r34), (3, .int r24), (2, .int r6), (0, .ref (ad 25)), (1, .int x1)]) C d_S_bar_37 (by decide) rfl ?_
    refine gw_iload_n C 1 d_S_bar_39 rfl rfl ?_
    refine gw_iconst (v := (-1 : Int32)) C d_S_bar_40 (by decide) ?_
    refine gw_icmp_ne (tgt := 51) C d_S_bar_41 (by decide) (fun c => ?_) (fun c => ?_)
    · have hf := (if_neg c).symm.trans hf
      refine gw_aload_n C 3 d_S_bar_51 rfl rfl ?_
      refine gw_get C in_S 25 wcg_25 clg_1 0 (by decide) tw_208 rfl rfl d_S_bar_52 ?_
      refine gw_iload_n C 4 d_S_bar_55 rfl rfl ?_
      refine gw_iload_n C 1 d_S_bar_56 rfl rfl ?_
      obtain ⟨r57, M57, hc57, hf⟩ := ob_some hf
      refine gw_callVr (rest := []) C 1 wcg_1 clg_0 (c_F_optionsOfTerm C.2.2.2.2.2.2.2.2.2.2 hc57) (cwV 2 C.2.2.2.2.1 (gTB_V tw_633 mv_F_optionsOfTerm) rfl rfl rfl pd_F_optionsOfTerm ⟨Nat.le_of_ble_eq_true rfl, Nat.le_of_ble_eq_true rfl⟩) rfl rfl (Nat.le_of_ble_eq_true rfl) d_S_bar_57 ⟨Nat.le_of_ble_eq_true rfl, Nat.le_of_ble_eq_true rfl⟩ ?_
      refine gw_iconst (v := (5 : Int32)) C d_S_bar_60 (by decide) ?_
      refine gw_iload_n C 1 d_S_bar_61 rfl rfl ?_
      refine gw_imul C d_S_bar_62 ?_
      refine gw_ishl C d_S_bar_63 ?_
      refine gw_istore (lv' := [(5, .int (r57 <<< (((5 : Int32) * r24) &&& 31))), (4, .int r34), (3, .int r24), (2, .int r6), (0, .ref (ad 25)), (1, .int x1)]) C d_S_bar_64 (by decide) rfl ?_
      refine gw_iconst (v := (0 : Int32)) C d_S_bar_66 (by decide) ?_
      refine gw_istore (lv' := [(6, .int (0 : Int32)), (5, .int (r57 <<< (((5 : Int32) * r24) &&& 31))), (4, .int r34), (3, .int r24), (2, .int r6), (0, .ref (ad 25)), (1, .int x1)]) C d_S_bar_67 (by decide) rfl ?_
      exact gw_sub [5, 4, 2, 1, 0] rfl (g_S_bar_69 C _ _ _ _ _ _ hf)
    · have hf := (if_pos c).symm.trans hf
      refine gw_iload C 0 d_S_bar_44 rfl ?_
      refine gw_iconst (v := (5 : Int32)) C d_S_bar_46 (by decide) ?_
      refine gw_iload_n C 2 d_S_bar_47 rfl rfl ?_
      refine gw_imul C d_S_bar_48 ?_
      refine gw_ishl C d_S_bar_49 ?_
      exact gw_ireti C d_S_bar_50 (wc ad cI cZ cC) hf
  · have hf := (if_pos c).symm.trans hf
    refine gw_ldc (v := (33554431 : Int32)) C d_S_bar_15 tw_632 ?_
    exact gw_ireti C d_S_bar_17 (wc ad cI cZ cC) hf
theorem c_S_bar (hZ : gw_ZOK Z) {x1 : Int32} {M : Mem} {r : Int32} {M' : Mem} (hf : f_S_bar x1 M = some (r, M')) : CW l y_S_bar ws_S_bar rm_S_bar D vwCl (tysW cI cZ cC) Z [.ref (ad 25), .int x1] (wc ad cI cZ cC M) (some (.int r)) (wc ad cI cZ cC M') 0 0 :=
  CW.ofG hZ (by decide) rfl (Nat.le_of_ble_eq_true rfl) (fun _ _ _ _ _ _ _ _ C _ => g_S_bar C hf)
abbrev b_S_allOptions : ByteArray := prog_3_method_8_code
def y_S_allOptions : MethodName := ⟨"NoneWords$Search", "allOptions", "()I"⟩
abbrev ws_S_allOptions : List Cond := Cond.code y_S_allOptions b_S_allOptions 4 (some (FieldType.int)) :: TB
set_option maxRecDepth 100000 in
theorem tc_S_allOptions : Cond.code y_S_allOptions b_S_allOptions 4 (some (FieldType.int)) ∈ TB := inTB 619 rfl rfl
theorem mv_S_allOptions : Cond.instanceMethod y_S_allOptions ∈ TB ∧ Cond.selects "NoneWords$Search" y_S_allOptions y_S_allOptions ∈ TB ∧ Cond.initialized "NoneWords$Search" ∈ TB ∧ Cond.code y_S_allOptions b_S_allOptions 4 (some (FieldType.int)) ∈ TB := ⟨inTB 618 (by decide +kernel) (by decide +kernel), inTB 21 (by decide +kernel) (by decide +kernel), inTB 69 (by decide +kernel) (by decide +kernel), tc_S_allOptions⟩
theorem pd_S_allOptions : y_S_allOptions.cls = "NoneWords$Search" ∧ y_S_allOptions.cls ≠ "java/lang/invoke/MethodHandle" ∧ y_S_allOptions.cls ≠ "java/lang/invoke/VarHandle" ∧ (parseMethodDescriptor y_S_allOptions.desc).map (fun d => d.parameters.length) = some 0 := by decide +kernel
theorem d_S_allOptions_0 : decode b_S_allOptions 0 = .ok (.iconst 0, 1) := by decide +kernel
theorem d_S_allOptions_1 : decode b_S_allOptions 1 = .ok (.istore_n 1, 1) := by decide +kernel
theorem d_S_allOptions_2 : decode b_S_allOptions 2 = .ok (.iconst 0, 1) := by decide +kernel
theorem d_S_allOptions_3 : decode b_S_allOptions 3 = .ok (.istore_n 2, 1) := by decide +kernel
theorem d_S_allOptions_4 : decode b_S_allOptions 4 = .ok (.iload_n 2, 1) := by decide +kernel
theorem d_S_allOptions_5 : decode b_S_allOptions 5 = .ok (.aload_n 0, 1) := by decide +kernel
theorem d_S_allOptions_6 : decode b_S_allOptions 6 = .ok (.getfield 28, 3) := by decide +kernel
theorem d_S_allOptions_9 : decode b_S_allOptions 9 = .ok (.invokevirtual 53, 3) := by decide +kernel
theorem d_S_allOptions_12 : decode b_S_allOptions 12 = .ok (.if_icmp .ge 29, 3) := by decide +kernel
theorem d_S_allOptions_15 : decode b_S_allOptions 15 = .ok (.aload_n 0, 1) := by decide +kernel
theorem d_S_allOptions_16 : decode b_S_allOptions 16 = .ok (.getfield 28, 3) := by decide +kernel
theorem d_S_allOptions_19 : decode b_S_allOptions 19 = .ok (.iload_n 2, 1) := by decide +kernel
theorem d_S_allOptions_20 : decode b_S_allOptions 20 = .ok (.invokevirtual 73, 3) := by decide +kernel
theorem d_S_allOptions_23 : decode b_S_allOptions 23 = .ok (.bipush 16, 2) := by decide +kernel
theorem d_S_allOptions_25 : decode b_S_allOptions 25 = .ok (.ior, 1) := by decide +kernel
theorem d_S_allOptions_26 : decode b_S_allOptions 26 = .ok (.istore_n 3, 1) := by decide +kernel
theorem d_S_allOptions_27 : decode b_S_allOptions 27 = .ok (.iload_n 1, 1) := by decide +kernel
theorem d_S_allOptions_28 : decode b_S_allOptions 28 = .ok (.iload_n 3, 1) := by decide +kernel
theorem d_S_allOptions_29 : decode b_S_allOptions 29 = .ok (.iconst 5, 1) := by decide +kernel
theorem d_S_allOptions_30 : decode b_S_allOptions 30 = .ok (.iload_n 2, 1) := by decide +kernel
theorem d_S_allOptions_31 : decode b_S_allOptions 31 = .ok (.imul, 1) := by decide +kernel
theorem d_S_allOptions_32 : decode b_S_allOptions 32 = .ok (.ishl, 1) := by decide +kernel
theorem d_S_allOptions_33 : decode b_S_allOptions 33 = .ok (.ior, 1) := by decide +kernel
theorem d_S_allOptions_34 : decode b_S_allOptions 34 = .ok (.istore_n 1, 1) := by decide +kernel
theorem d_S_allOptions_35 : decode b_S_allOptions 35 = .ok (.iinc 2 1, 3) := by decide +kernel
theorem d_S_allOptions_38 : decode b_S_allOptions 38 = .ok (.goto (-34), 3) := by decide +kernel
theorem d_S_allOptions_41 : decode b_S_allOptions 41 = .ok (.iload_n 1, 1) := by decide +kernel
theorem d_S_allOptions_42 : decode b_S_allOptions 42 = .ok (.ireturn, 1) := by decide +kernel
abbrev rm_S_allOptions : Room := { frames := 2, cells := 0, slots := 0, locals := 42 }
def f_S_allOptions_4 : Nat → Int32 → Int32 → Mem → Option (Int32 × Mem)
  | 0, _, _, _ => none
  | n + 1, x1, x2, M => ob (f_F_countNames M) fun r9 M9 => if r9 ≤ x2 then some (x1, M9) else ob (f_F_allVersions x2 M9) fun r20 M20 => (f_S_allOptions_4 n) (x1 ||| ((r20 ||| (16 : Int32)) <<< (((5 : Int32) * x2) &&& 31))) (x2 + (1 : Int32)) M20
set_option maxRecDepth 100000 in
theorem g_S_allOptions_4 {r : Int32} {M' : Mem} (C : GC p s m args meth c b_S_allOptions 4 (some (FieldType.int)) "NoneWords$Search" TB D vwCl (tysW cI cZ cC) A Z) : ∀ (n : Nat) (x1 : Int32) (x2 : Int32) (M : Mem), f_S_allOptions_4 n x1 x2 M = some (r, M') → GW p l e rm_S_allOptions s m args below meth c (MQ below (QW D vwCl (tysW cI cZ cC) A (some (.int r)) (wc ad cI cZ cC M')) args s 0 0 A) D vwCl A 4 0 0 (wc ad cI cZ cC M) 4 [(0, .ref (ad 25)), (1, .int x1), (2, .int x2)] [] := by
  intro n
  induction n with
  | zero => intro _ _ _ hf; cases hf
  | succ n ih =>
    intro x1 x2 M hf
    rw [f_S_allOptions_4] at hf
    refine gw_iload_n C 2 d_S_allOptions_4 rfl rfl ?_
    refine gw_aload_n C 0 d_S_allOptions_5 rfl rfl ?_
    refine gw_get C in_S 25 wcg_25 clg_1 0 (by decide) tw_208 rfl rfl d_S_allOptions_6 ?_
    obtain ⟨r9, M9, hc9, hf⟩ := ob_some hf
    refine gw_callVr (rest := [.int x2]) C 1 wcg_1 clg_0 (c_F_countNames C.2.2.2.2.2.2.2.2.2.2 hc9) (cwV 0 C.2.2.2.2.1 (gTB_V tw_620 mv_F_countNames) rfl rfl rfl pd_F_countNames ⟨Nat.le_of_ble_eq_true rfl, Nat.le_of_ble_eq_true rfl⟩) rfl rfl (Nat.le_of_ble_eq_true rfl) d_S_allOptions_9 ⟨Nat.le_of_ble_eq_true rfl, Nat.le_of_ble_eq_true rfl⟩ ?_
    refine gw_icmp_ge (tgt := 41) C d_S_allOptions_12 (by decide) (fun c => ?_) (fun c => ?_)
    · have hf := (if_pos c).symm.trans hf
      refine gw_iload_n C 1 d_S_allOptions_41 rfl rfl ?_
      exact gw_ireti C d_S_allOptions_42 (wc ad cI cZ cC) hf
    · have hf := (if_neg c).symm.trans hf
      refine gw_aload_n C 0 d_S_allOptions_15 rfl rfl ?_
      refine gw_get C in_S 25 wcg_25 clg_1 0 (by decide) tw_208 rfl rfl d_S_allOptions_16 ?_
      refine gw_iload_n C 2 d_S_allOptions_19 rfl rfl ?_
      obtain ⟨r20, M20, hc20, hf⟩ := ob_some hf
      refine gw_callVr (rest := []) C 1 wcg_1 clg_0 (c_F_allVersions C.2.2.2.2.2.2.2.2.2.2 hc20) (cwV 1 C.2.2.2.2.1 (gTB_V tw_621 mv_F_allVersions) rfl rfl rfl pd_F_allVersions ⟨Nat.le_of_ble_eq_true rfl, Nat.le_of_ble_eq_true rfl⟩) rfl rfl (Nat.le_of_ble_eq_true rfl) d_S_allOptions_20 ⟨Nat.le_of_ble_eq_true rfl, Nat.le_of_ble_eq_true rfl⟩ ?_
      refine gw_bipush (v := (16 : Int32)) C d_S_allOptions_23 (by decide) ?_
      refine gw_ior C d_S_allOptions_25 ?_
      refine gw_istore_n (lv' := [(3, .int (r20 ||| (16 : Int32))), (0, .ref (ad 25)), (1, .int x1), (2, .int x2)]) C d_S_allOptions_26 rfl (by decide) rfl ?_
      refine gw_iload_n C 2 d_S_allOptions_27 rfl rfl ?_
      refine gw_iload_n C 0 d_S_allOptions_28 rfl rfl ?_
      refine gw_iconst (v := (5 : Int32)) C d_S_allOptions_29 (by decide) ?_
      refine gw_iload_n C 3 d_S_allOptions_30 rfl rfl ?_
      refine gw_imul C d_S_allOptions_31 ?_
      refine gw_ishl C d_S_allOptions_32 ?_
      refine gw_ior C d_S_allOptions_33 ?_
      refine gw_istore_n (lv' := [(1, .int (x1 ||| ((r20 ||| (16 : Int32)) <<< (((5 : Int32) * x2) &&& 31)))), (3, .int (r20 ||| (16 : Int32))), (0, .ref (ad 25)), (2, .int x2)]) C d_S_allOptions_34 rfl (by decide) rfl ?_
      refine gw_iinc (v := x2 + (1 : Int32)) (lv' := [(2, .int (x2 + (1 : Int32))), (1, .int (x1 ||| ((r20 ||| (16 : Int32)) <<< (((5 : Int32) * x2) &&& 31)))), (3, .int (r20 ||| (16 : Int32))), (0, .ref (ad 25))]) C 3 d_S_allOptions_35 rfl rfl (by decide) rfl ?_
      refine gw_goto (tgt := 4) C d_S_allOptions_38 (by decide) ?_
      exact gw_sub [3, 1, 0] rfl (ih _ _ _ hf)
def f_S_allOptions (M : Mem) : Option (Int32 × Mem) :=
  f_S_allOptions_4 1000 (0 : Int32) (0 : Int32) M
set_option maxRecDepth 100000 in
theorem g_S_allOptions {r : Int32} {M' : Mem} (C : GC p s m args meth c b_S_allOptions 4 (some (FieldType.int)) "NoneWords$Search" TB D vwCl (tysW cI cZ cC) A Z) {M : Mem} (hf : f_S_allOptions M = some (r, M')) : GW p l e rm_S_allOptions s m args below meth c (MQ below (QW D vwCl (tysW cI cZ cC) A (some (.int r)) (wc ad cI cZ cC M')) args s 0 0 A) D vwCl A 4 0 0 (wc ad cI cZ cC M) 0 [(0, .ref (ad 25))] [] := by
  unfold f_S_allOptions at hf
  refine gw_iconst (v := (0 : Int32)) C d_S_allOptions_0 (by decide) ?_
  refine gw_istore_n (lv' := [(1, .int (0 : Int32)), (0, .ref (ad 25))]) C d_S_allOptions_1 rfl (by decide) rfl ?_
  refine gw_iconst (v := (0 : Int32)) C d_S_allOptions_2 (by decide) ?_
  refine gw_istore_n (lv' := [(2, .int (0 : Int32)), (1, .int (0 : Int32)), (0, .ref (ad 25))]) C d_S_allOptions_3 rfl (by decide) rfl ?_
  exact gw_sub [2, 1, 0] rfl (g_S_allOptions_4 C _ _ _ _ hf)
theorem c_S_allOptions (hZ : gw_ZOK Z) {M : Mem} {r : Int32} {M' : Mem} (hf : f_S_allOptions M = some (r, M')) : CW l y_S_allOptions ws_S_allOptions rm_S_allOptions D vwCl (tysW cI cZ cC) Z [.ref (ad 25)] (wc ad cI cZ cC M) (some (.int r)) (wc ad cI cZ cC M') 0 0 :=
  CW.ofG hZ (by decide) rfl (Nat.le_of_ble_eq_true rfl) (fun _ _ _ _ _ _ _ _ C _ => g_S_allOptions C hf)
abbrev b_S_takeAllBack : ByteArray := prog_3_method_7_code
def y_S_takeAllBack : MethodName := ⟨"NoneWords$Search", "takeAllBack", "()V"⟩
abbrev ws_S_takeAllBack : List Cond := Cond.code y_S_takeAllBack b_S_takeAllBack 2 (none) :: TB
set_option maxRecDepth 100000 in
theorem tc_S_takeAllBack : Cond.code y_S_takeAllBack b_S_takeAllBack 2 (none) ∈ TB := inTB 653 rfl rfl
theorem mv_S_takeAllBack : Cond.instanceMethod y_S_takeAllBack ∈ TB ∧ Cond.selects "NoneWords$Search" y_S_takeAllBack y_S_takeAllBack ∈ TB ∧ Cond.initialized "NoneWords$Search" ∈ TB ∧ Cond.code y_S_takeAllBack b_S_takeAllBack 2 (none) ∈ TB := ⟨inTB 652 (by decide +kernel) (by decide +kernel), inTB 23 (by decide +kernel) (by decide +kernel), inTB 69 (by decide +kernel) (by decide +kernel), tc_S_takeAllBack⟩
theorem pd_S_takeAllBack : y_S_takeAllBack.cls = "NoneWords$Search" ∧ y_S_takeAllBack.cls ≠ "java/lang/invoke/MethodHandle" ∧ y_S_takeAllBack.cls ≠ "java/lang/invoke/VarHandle" ∧ (parseMethodDescriptor y_S_takeAllBack.desc).map (fun d => d.parameters.length) = some 0 := by decide +kernel
theorem d_S_takeAllBack_0 : decode b_S_takeAllBack 0 = .ok (.iconst 0, 1) := by decide +kernel
theorem d_S_takeAllBack_1 : decode b_S_takeAllBack 1 = .ok (.istore_n 1, 1) := by decide +kernel
theorem d_S_takeAllBack_2 : decode b_S_takeAllBack 2 = .ok (.iload_n 1, 1) := by decide +kernel
theorem d_S_takeAllBack_3 : decode b_S_takeAllBack 3 = .ok (.bipush 120, 2) := by decide +kernel
theorem d_S_takeAllBack_5 : decode b_S_takeAllBack 5 = .ok (.if_icmp .ge 16, 3) := by decide +kernel
theorem d_S_takeAllBack_8 : decode b_S_takeAllBack 8 = .ok (.aload_n 0, 1) := by decide +kernel
theorem d_S_takeAllBack_9 : decode b_S_takeAllBack 9 = .ok (.getfield 9, 3) := by decide +kernel
theorem d_S_takeAllBack_12 : decode b_S_takeAllBack 12 = .ok (.iload_n 1, 1) := by decide +kernel
theorem d_S_takeAllBack_13 : decode b_S_takeAllBack 13 = .ok (.iconst 0, 1) := by decide +kernel
theorem d_S_takeAllBack_14 : decode b_S_takeAllBack 14 = .ok (.bastore, 1) := by decide +kernel
theorem d_S_takeAllBack_15 : decode b_S_takeAllBack 15 = .ok (.iinc 1 1, 3) := by decide +kernel
theorem d_S_takeAllBack_18 : decode b_S_takeAllBack 18 = .ok (.goto (-16), 3) := by decide +kernel
theorem d_S_takeAllBack_21 : decode b_S_takeAllBack 21 = .ok (.return_, 1) := by decide +kernel
abbrev rm_S_takeAllBack : Room := { frames := 0, cells := 0, slots := 0, locals := 0 }
def f_S_takeAllBack_2 : Nat → Int32 → Mem → Option Mem
  | 0, _, _ => none
  | n + 1, x1, M => if (120 : Int32) ≤ x1 then some M else gd (inb x1 120) ((f_S_takeAllBack_2 n) (x1 + (1 : Int32)) (ms M 26 x1.toNatClampNeg (vp_nar .boolean (0 : Int32))))
set_option maxRecDepth 100000 in
theorem g_S_takeAllBack_2 {M' : Mem} (C : GC p s m args meth c b_S_takeAllBack 2 (none) "NoneWords$Search" TB D vwCl (tysW cI cZ cC) A Z) : ∀ (n : Nat) (x1 : Int32) (M : Mem), f_S_takeAllBack_2 n x1 M = some M' → GW p l e rm_S_takeAllBack s m args below meth c (MQ below (QW D vwCl (tysW cI cZ cC) A none (wc ad cI cZ cC M')) args s 0 0 A) D vwCl A 2 0 0 (wc ad cI cZ cC M) 2 [(0, .ref (ad 25)), (1, .int x1)] [] := by
  intro n
  induction n with
  | zero => intro _ _ hf; cases hf
  | succ n ih =>
    intro x1 M hf
    rw [f_S_takeAllBack_2] at hf
    refine gw_iload_n C 1 d_S_takeAllBack_2 rfl rfl ?_
    refine gw_bipush (v := (120 : Int32)) C d_S_takeAllBack_3 (by decide) ?_
    refine gw_icmp_ge (tgt := 21) C d_S_takeAllBack_5 (by decide) (fun c => ?_) (fun c => ?_)
    · have hf := (if_pos c).symm.trans hf
      exact gw_vreti C d_S_takeAllBack_21 (wc ad cI cZ cC) hf
    · have hf := (if_neg c).symm.trans hf
      refine gw_aload_n C 0 d_S_takeAllBack_8 rfl rfl ?_
      refine gw_get C in_S 25 wcg_25 clg_1 1 (by decide) tw_209 rfl rfl d_S_takeAllBack_9 ?_
      refine gw_iload_n C 1 d_S_takeAllBack_12 rfl rfl ?_
      refine gw_iconst (v := (0 : Int32)) C d_S_takeAllBack_13 (by decide) ?_
      obtain ⟨hb14, hf⟩ := gd_some hf
      refine gw_zast C 26 1 wcg_26 rfl hb14 d_S_takeAllBack_14 wca_26 ?_
      refine gw_iinc (v := x1 + (1 : Int32)) (lv' := [(1, .int (x1 + (1 : Int32))), (0, .ref (ad 25))]) C 1 d_S_takeAllBack_15 rfl rfl (by decide) rfl ?_
      refine gw_goto (tgt := 2) C d_S_takeAllBack_18 (by decide) ?_
      exact gw_sub [1, 0] rfl (ih _ _ hf)
def f_S_takeAllBack (M : Mem) : Option Mem :=
  f_S_takeAllBack_2 1000 (0 : Int32) M
set_option maxRecDepth 100000 in
theorem g_S_takeAllBack {M' : Mem} (C : GC p s m args meth c b_S_takeAllBack 2 (none) "NoneWords$Search" TB D vwCl (tysW cI cZ cC) A Z) {M : Mem} (hf : f_S_takeAllBack M = some M') : GW p l e rm_S_takeAllBack s m args below meth c (MQ below (QW D vwCl (tysW cI cZ cC) A none (wc ad cI cZ cC M')) args s 0 0 A) D vwCl A 2 0 0 (wc ad cI cZ cC M) 0 [(0, .ref (ad 25))] [] := by
  unfold f_S_takeAllBack at hf
  refine gw_iconst (v := (0 : Int32)) C d_S_takeAllBack_0 (by decide) ?_
  refine gw_istore_n (lv' := [(1, .int (0 : Int32)), (0, .ref (ad 25))]) C d_S_takeAllBack_1 rfl (by decide) rfl ?_
  exact gw_sub [1, 0] rfl (g_S_takeAllBack_2 C _ _ _ hf)
theorem c_S_takeAllBack (hZ : gw_ZOK Z) {M : Mem} {M' : Mem} (hf : f_S_takeAllBack M = some M') : CW l y_S_takeAllBack ws_S_takeAllBack rm_S_takeAllBack D vwCl (tysW cI cZ cC) Z [.ref (ad 25)] (wc ad cI cZ cC M) none (wc ad cI cZ cC M') 0 0 :=
  CW.ofG hZ (by decide) rfl (Nat.le_of_ble_eq_true rfl) (fun _ _ _ _ _ _ _ _ C _ => g_S_takeAllBack C hf)
abbrev b_S_findsWorld : ByteArray := prog_3_method_2_code
def y_S_findsWorld : MethodName := ⟨"NoneWords$Search", "findsWorld", "()Z"⟩
abbrev ws_S_findsWorld : List Cond := Cond.code y_S_findsWorld b_S_findsWorld 3 (some (FieldType.boolean)) :: TB
set_option maxRecDepth 100000 in
theorem tc_S_findsWorld : Cond.code y_S_findsWorld b_S_findsWorld 3 (some (FieldType.boolean)) ∈ TB := inTB 614 rfl rfl
theorem mv_S_findsWorld : Cond.instanceMethod y_S_findsWorld ∈ TB ∧ Cond.selects "NoneWords$Search" y_S_findsWorld y_S_findsWorld ∈ TB ∧ Cond.initialized "NoneWords$Search" ∈ TB ∧ Cond.code y_S_findsWorld b_S_findsWorld 3 (some (FieldType.boolean)) ∈ TB := ⟨inTB 612 (by decide +kernel) (by decide +kernel), inTB 613 (by decide +kernel) (by decide +kernel), inTB 69 (by decide +kernel) (by decide +kernel), tc_S_findsWorld⟩
theorem pd_S_findsWorld : y_S_findsWorld.cls = "NoneWords$Search" ∧ y_S_findsWorld.cls ≠ "java/lang/invoke/MethodHandle" ∧ y_S_findsWorld.cls ≠ "java/lang/invoke/VarHandle" ∧ (parseMethodDescriptor y_S_findsWorld.desc).map (fun d => d.parameters.length) = some 0 := by decide +kernel
theorem d_S_findsWorld_0 : decode b_S_findsWorld 0 = .ok (.aload_n 0, 1) := by decide +kernel
theorem d_S_findsWorld_1 : decode b_S_findsWorld 1 = .ok (.getfield 17, 3) := by decide +kernel
theorem d_S_findsWorld_4 : decode b_S_findsWorld 4 = .ok (.iconst 0, 1) := by decide +kernel
theorem d_S_findsWorld_5 : decode b_S_findsWorld 5 = .ok (.invokestatic 32, 3) := by decide +kernel
theorem d_S_findsWorld_8 : decode b_S_findsWorld 8 = .ok (.aload_n 0, 1) := by decide +kernel
theorem d_S_findsWorld_9 : decode b_S_findsWorld 9 = .ok (.invokevirtual 38, 3) := by decide +kernel
theorem d_S_findsWorld_12 : decode b_S_findsWorld 12 = .ok (.istore_n 1, 1) := by decide +kernel
theorem d_S_findsWorld_13 : decode b_S_findsWorld 13 = .ok (.iconst 0, 1) := by decide +kernel
theorem d_S_findsWorld_14 : decode b_S_findsWorld 14 = .ok (.istore_n 2, 1) := by decide +kernel
theorem d_S_findsWorld_15 : decode b_S_findsWorld 15 = .ok (.iload_n 2, 1) := by decide +kernel
theorem d_S_findsWorld_16 : decode b_S_findsWorld 16 = .ok (.aload_n 0, 1) := by decide +kernel
theorem d_S_findsWorld_17 : decode b_S_findsWorld 17 = .ok (.getfield 28, 3) := by decide +kernel
theorem d_S_findsWorld_20 : decode b_S_findsWorld 20 = .ok (.invokevirtual 42, 3) := by decide +kernel
theorem d_S_findsWorld_23 : decode b_S_findsWorld 23 = .ok (.if_icmp .ge 39, 3) := by decide +kernel
theorem d_S_findsWorld_26 : decode b_S_findsWorld 26 = .ok (.aload_n 0, 1) := by decide +kernel
theorem d_S_findsWorld_27 : decode b_S_findsWorld 27 = .ok (.getfield 28, 3) := by decide +kernel
theorem d_S_findsWorld_30 : decode b_S_findsWorld 30 = .ok (.iload_n 2, 1) := by decide +kernel
theorem d_S_findsWorld_31 : decode b_S_findsWorld 31 = .ok (.invokevirtual 45, 3) := by decide +kernel
theorem d_S_findsWorld_34 : decode b_S_findsWorld 34 = .ok (.ifCond .eq 22, 3) := by decide +kernel
theorem d_S_findsWorld_37 : decode b_S_findsWorld 37 = .ok (.aload_n 0, 1) := by decide +kernel
theorem d_S_findsWorld_38 : decode b_S_findsWorld 38 = .ok (.getfield 9, 3) := by decide +kernel
theorem d_S_findsWorld_41 : decode b_S_findsWorld 41 = .ok (.iload_n 2, 1) := by decide +kernel
theorem d_S_findsWorld_42 : decode b_S_findsWorld 42 = .ok (.baload, 1) := by decide +kernel
theorem d_S_findsWorld_43 : decode b_S_findsWorld 43 = .ok (.ifCond .ne 13, 3) := by decide +kernel
theorem d_S_findsWorld_46 : decode b_S_findsWorld 46 = .ok (.iload_n 1, 1) := by decide +kernel
theorem d_S_findsWorld_47 : decode b_S_findsWorld 47 = .ok (.aload_n 0, 1) := by decide +kernel
theorem d_S_findsWorld_48 : decode b_S_findsWorld 48 = .ok (.iload_n 2, 1) := by decide +kernel
theorem d_S_findsWorld_49 : decode b_S_findsWorld 49 = .ok (.invokevirtual 49, 3) := by decide +kernel
theorem d_S_findsWorld_52 : decode b_S_findsWorld 52 = .ok (.iconst (-1), 1) := by decide +kernel
theorem d_S_findsWorld_53 : decode b_S_findsWorld 53 = .ok (.ixor, 1) := by decide +kernel
theorem d_S_findsWorld_54 : decode b_S_findsWorld 54 = .ok (.iand, 1) := by decide +kernel
theorem d_S_findsWorld_55 : decode b_S_findsWorld 55 = .ok (.istore_n 1, 1) := by decide +kernel
theorem d_S_findsWorld_56 : decode b_S_findsWorld 56 = .ok (.iinc 2 1, 3) := by decide +kernel
theorem d_S_findsWorld_59 : decode b_S_findsWorld 59 = .ok (.goto (-44), 3) := by decide +kernel
theorem d_S_findsWorld_62 : decode b_S_findsWorld 62 = .ok (.aload_n 0, 1) := by decide +kernel
theorem d_S_findsWorld_63 : decode b_S_findsWorld 63 = .ok (.getfield 17, 3) := by decide +kernel
theorem d_S_findsWorld_66 : decode b_S_findsWorld 66 = .ok (.aload_n 0, 1) := by decide +kernel
theorem d_S_findsWorld_67 : decode b_S_findsWorld 67 = .ok (.getfield 28, 3) := by decide +kernel
theorem d_S_findsWorld_70 : decode b_S_findsWorld 70 = .ok (.invokevirtual 53, 3) := by decide +kernel
theorem d_S_findsWorld_73 : decode b_S_findsWorld 73 = .ok (.iconst 0, 1) := by decide +kernel
theorem d_S_findsWorld_74 : decode b_S_findsWorld 74 = .ok (.iload_n 1, 1) := by decide +kernel
theorem d_S_findsWorld_75 : decode b_S_findsWorld 75 = .ok (.invokestatic 56, 3) := by decide +kernel
theorem d_S_findsWorld_78 : decode b_S_findsWorld 78 = .ok (.ireturn, 1) := by decide +kernel
abbrev rm_S_findsWorld : Room := { frames := 9, cells := 0, slots := 0, locals := 234 }
def f_S_findsWorld_15 : Nat → Int32 → Int32 → Mem → Option (Int32 × Mem)
  | 0, _, _, _ => none
  | n + 1, x1, x2, M => ob (f_F_countNodes M) fun r20 M20 => if r20 ≤ x2 then ob (f_F_countNames M20) fun r70 M70 => ob (f_S_canChoose 7 r70 (0 : Int32) x1 M70) fun r75 M75 => some (vp_nar .boolean r75, M75) else ob (f_F_isLeaf x2 M20) fun r31 M31 => if r31 = 0 then (f_S_findsWorld_15 n) x1 (x2 + (1 : Int32)) M31 else gd (inb x2 120) (if (M31 26 x2.toNatClampNeg) = 0 then ob (f_S_bar x2 M31) fun r49 M49 => (f_S_findsWorld_15 n) (x1 &&& (r49 ^^^ (-1 : Int32))) (x2 + (1 : Int32)) M49 else (f_S_findsWorld_15 n) x1 (x2 + (1 : Int32)) M31)
set_option maxRecDepth 100000 in
theorem g_S_findsWorld_15 {r : Int32} {M' : Mem} (C : GC p s m args meth c b_S_findsWorld 3 (some (FieldType.boolean)) "NoneWords$Search" TB D vwCl (tysW cI cZ cC) A Z) : ∀ (n : Nat) (x1 : Int32) (x2 : Int32) (M : Mem), f_S_findsWorld_15 n x1 x2 M = some (r, M') → GW p l e rm_S_findsWorld s m args below meth c (MQ below (QW D vwCl (tysW cI cZ cC) A (some (.int r)) (wc ad cI cZ cC M')) args s 0 0 A) D vwCl A 3 0 0 (wc ad cI cZ cC M) 15 [(0, .ref (ad 25)), (1, .int x1), (2, .int x2)] [] := by
  intro n
  induction n with
  | zero => intro _ _ _ hf; cases hf
  | succ n ih =>
    intro x1 x2 M hf
    rw [f_S_findsWorld_15] at hf
    refine gw_iload_n C 2 d_S_findsWorld_15 rfl rfl ?_
    refine gw_aload_n C 0 d_S_findsWorld_16 rfl rfl ?_
    refine gw_get C in_S 25 wcg_25 clg_1 0 (by decide) tw_208 rfl rfl d_S_findsWorld_17 ?_
    obtain ⟨r20, M20, hc20, hf⟩ := ob_some hf
    refine gw_callVr (rest := [.int x2]) C 1 wcg_1 clg_0 (c_F_countNodes C.2.2.2.2.2.2.2.2.2.2 hc20) (cwV 0 C.2.2.2.2.1 (gTB_V tw_622 mv_F_countNodes) rfl rfl rfl pd_F_countNodes ⟨Nat.le_of_ble_eq_true rfl, Nat.le_of_ble_eq_true rfl⟩) rfl rfl (Nat.le_of_ble_eq_true rfl) d_S_findsWorld_20 ⟨Nat.le_of_ble_eq_true rfl, Nat.le_of_ble_eq_true rfl⟩ ?_
    refine gw_icmp_ge (tgt := 62) C d_S_findsWorld_23 (by decide) (fun c => ?_) (fun c => ?_)
    · have hf := (if_pos c).symm.trans hf
      refine gw_aload_n C 0 d_S_findsWorld_62 rfl rfl ?_
      refine gw_get C in_S 25 wcg_25 clg_1 2 (by decide) tw_210 rfl rfl d_S_findsWorld_63 ?_
      refine gw_aload_n C 0 d_S_findsWorld_66 rfl rfl ?_
      refine gw_get C in_S 25 wcg_25 clg_1 0 (by decide) tw_208 rfl rfl d_S_findsWorld_67 ?_
      obtain ⟨r70, M70, hc70, hf⟩ := ob_some hf
      refine gw_callVr (rest := [.ref (ad 27)]) C 1 wcg_1 clg_0 (c_F_countNames C.2.2.2.2.2.2.2.2.2.2 hc70) (cwV 0 C.2.2.2.2.1 (gTB_V tw_620 mv_F_countNames) rfl rfl rfl pd_F_countNames ⟨Nat.le_of_ble_eq_true rfl, Nat.le_of_ble_eq_true rfl⟩) rfl rfl (Nat.le_of_ble_eq_true rfl) d_S_findsWorld_70 ⟨Nat.le_of_ble_eq_true rfl, Nat.le_of_ble_eq_true rfl⟩ ?_
      refine gw_iconst (v := (0 : Int32)) C d_S_findsWorld_73 (by decide) ?_
      refine gw_iload_n C 1 d_S_findsWorld_74 rfl rfl ?_
      obtain ⟨r75, M75, hc75, hf⟩ := ob_some hf
      refine gw_callSr (rest := []) C (c_S_canChoose C.2.2.2.2.2.2.2.2.2.2 7 _ _ _ _ _ _ hc75) (cwS 4 C.2.2.2.2.1 (gTB_S tw_634 mv_S_canChoose) rfl rfl rfl pd_S_canChoose ⟨Nat.le_of_ble_eq_true rfl, Nat.le_of_ble_eq_true rfl⟩) rfl rfl (Nat.le_of_ble_eq_true rfl) d_S_findsWorld_75 ⟨Nat.le_of_ble_eq_true rfl, Nat.le_of_ble_eq_true rfl⟩ ?_
      exact gw_zretn C d_S_findsWorld_78 (wc ad cI cZ cC) (nar_b _) hf
    · have hf := (if_neg c).symm.trans hf
      refine gw_aload_n C 0 d_S_findsWorld_26 rfl rfl ?_
      refine gw_get C in_S 25 wcg_25 clg_1 0 (by decide) tw_208 rfl rfl d_S_findsWorld_27 ?_
      refine gw_iload_n C 2 d_S_findsWorld_30 rfl rfl ?_
      obtain ⟨r31, M31, hc31, hf⟩ := ob_some hf
      refine gw_callVr (rest := []) C 1 wcg_1 clg_0 (c_F_isLeaf C.2.2.2.2.2.2.2.2.2.2 hc31) (cwV 1 C.2.2.2.2.1 (gTB_V tw_626 mv_F_isLeaf) rfl rfl rfl pd_F_isLeaf ⟨Nat.le_of_ble_eq_true rfl, Nat.le_of_ble_eq_true rfl⟩) rfl rfl (Nat.le_of_ble_eq_true rfl) d_S_findsWorld_31 ⟨Nat.le_of_ble_eq_true rfl, Nat.le_of_ble_eq_true rfl⟩ ?_
      refine gw_if_eq (tgt := 56) C d_S_findsWorld_34 (by decide) (fun c => ?_) (fun c => ?_)
      · have hf := (if_pos c).symm.trans hf
        refine gw_iinc (v := x2 + (1 : Int32)) (lv' := [(2, .int (x2 + (1 : Int32))), (0, .ref (ad 25)), (1, .int x1)]) C 2 d_S_findsWorld_56 rfl rfl (by decide) rfl ?_
        refine gw_goto (tgt := 15) C d_S_findsWorld_59 (by decide) ?_
        exact gw_sub [1, 2, 0] rfl (ih _ _ _ hf)
      · have hf := (if_neg c).symm.trans hf
        refine gw_aload_n C 0 d_S_findsWorld_37 rfl rfl ?_
        refine gw_get C in_S 25 wcg_25 clg_1 1 (by decide) tw_209 rfl rfl d_S_findsWorld_38 ?_
        refine gw_iload_n C 2 d_S_findsWorld_41 rfl rfl ?_
        obtain ⟨hb42, hf⟩ := gd_some hf
        refine gw_zald C 26 1 wcg_26 rfl hb42 d_S_findsWorld_42 ?_
        refine gw_if_ne (tgt := 56) C d_S_findsWorld_43 (by decide) (fun c => ?_) (fun c => ?_)
        · have hf := (if_neg c).symm.trans hf
          refine gw_iinc (v := x2 + (1 : Int32)) (lv' := [(2, .int (x2 + (1 : Int32))), (0, .ref (ad 25)), (1, .int x1)]) C 2 d_S_findsWorld_56 rfl rfl (by decide) rfl ?_
          refine gw_goto (tgt := 15) C d_S_findsWorld_59 (by decide) ?_
          exact gw_sub [1, 2, 0] rfl (ih _ _ _ hf)
        · have hf := (if_pos c).symm.trans hf
          refine gw_iload_n C 1 d_S_findsWorld_46 rfl rfl ?_
          refine gw_aload_n C 0 d_S_findsWorld_47 rfl rfl ?_
          refine gw_iload_n C 2 d_S_findsWorld_48 rfl rfl ?_
          obtain ⟨r49, M49, hc49, hf⟩ := ob_some hf
          refine gw_callVr (rest := [.int x1]) C 25 wcg_25 clg_1 (c_S_bar C.2.2.2.2.2.2.2.2.2.2 hc49) (cwV 1 C.2.2.2.2.1 (gTB_V tw_627 mv_S_bar) rfl rfl rfl pd_S_bar ⟨Nat.le_of_ble_eq_true rfl, Nat.le_of_ble_eq_true rfl⟩) rfl rfl (Nat.le_of_ble_eq_true rfl) d_S_findsWorld_49 ⟨Nat.le_of_ble_eq_true rfl, Nat.le_of_ble_eq_true rfl⟩ ?_
          refine gw_iconst (v := (-1 : Int32)) C d_S_findsWorld_52 (by decide) ?_
          refine gw_ixor C d_S_findsWorld_53 ?_
          refine gw_iand C d_S_findsWorld_54 ?_
          refine gw_istore_n (lv' := [(1, .int (x1 &&& (r49 ^^^ (-1 : Int32)))), (0, .ref (ad 25)), (2, .int x2)]) C d_S_findsWorld_55 rfl (by decide) rfl ?_
          refine gw_iinc (v := x2 + (1 : Int32)) (lv' := [(2, .int (x2 + (1 : Int32))), (1, .int (x1 &&& (r49 ^^^ (-1 : Int32)))), (0, .ref (ad 25))]) C 2 d_S_findsWorld_56 rfl rfl (by decide) rfl ?_
          refine gw_goto (tgt := 15) C d_S_findsWorld_59 (by decide) ?_
          exact gw_sub [2, 1, 0] rfl (ih _ _ _ hf)
def f_S_findsWorld (M : Mem) : Option (Int32 × Mem) :=
  ob (f_S_allOptions (mf M 27 25 (0 : Int32))) fun r9 M9 => f_S_findsWorld_15 1000 r9 (0 : Int32) M9
set_option maxRecDepth 100000 in
theorem g_S_findsWorld {r : Int32} {M' : Mem} (C : GC p s m args meth c b_S_findsWorld 3 (some (FieldType.boolean)) "NoneWords$Search" TB D vwCl (tysW cI cZ cC) A Z) {M : Mem} (hf : f_S_findsWorld M = some (r, M')) : GW p l e rm_S_findsWorld s m args below meth c (MQ below (QW D vwCl (tysW cI cZ cC) A (some (.int r)) (wc ad cI cZ cC M')) args s 0 0 A) D vwCl A 3 0 0 (wc ad cI cZ cC M) 0 [(0, .ref (ad 25))] [] := by
  unfold f_S_findsWorld at hf
  refine gw_aload_n C 0 d_S_findsWorld_0 rfl rfl ?_
  refine gw_get C in_S 25 wcg_25 clg_1 2 (by decide) tw_210 rfl rfl d_S_findsWorld_1 ?_
  refine gw_iconst (v := (0 : Int32)) C d_S_findsWorld_4 (by decide) ?_
  refine gw_callSv (rest := []) C (c_A_fill C.2.2.2.2.2.2.2.2.2.2 27 0 wcg_27 rfl (by decide) wcz_27) (va_cwS 2 C.2.2.2.2.1 (gTB_vS rfl tw_615 mv_A_fill) rfl rfl rfl pd_A_fill.2 ⟨Nat.le_of_ble_eq_true rfl, Nat.le_of_ble_eq_true rfl⟩) rfl rfl (Nat.le_of_ble_eq_true rfl) d_S_findsWorld_5 ⟨Nat.le_of_ble_eq_true rfl, Nat.le_of_ble_eq_true rfl⟩ ?_
  refine gw_aload_n C 0 d_S_findsWorld_8 rfl rfl ?_
  obtain ⟨r9, M9, hc9, hf⟩ := ob_some hf
  refine gw_callVr (rest := []) C 25 wcg_25 clg_1 (c_S_allOptions C.2.2.2.2.2.2.2.2.2.2 hc9) (cwV 0 C.2.2.2.2.1 (gTB_V tw_616 mv_S_allOptions) rfl rfl rfl pd_S_allOptions ⟨Nat.le_of_ble_eq_true rfl, Nat.le_of_ble_eq_true rfl⟩) rfl rfl (Nat.le_of_ble_eq_true rfl) d_S_findsWorld_9 ⟨Nat.le_of_ble_eq_true rfl, Nat.le_of_ble_eq_true rfl⟩ ?_
  refine gw_istore_n (lv' := [(1, .int r9), (0, .ref (ad 25))]) C d_S_findsWorld_12 rfl (by decide) rfl ?_
  refine gw_iconst (v := (0 : Int32)) C d_S_findsWorld_13 (by decide) ?_
  refine gw_istore_n (lv' := [(2, .int (0 : Int32)), (1, .int r9), (0, .ref (ad 25))]) C d_S_findsWorld_14 rfl (by decide) rfl ?_
  exact gw_sub [2, 1, 0] rfl (g_S_findsWorld_15 C _ _ _ _ hf)
theorem c_S_findsWorld (hZ : gw_ZOK Z) {M : Mem} {r : Int32} {M' : Mem} (hf : f_S_findsWorld M = some (r, M')) : CW l y_S_findsWorld ws_S_findsWorld rm_S_findsWorld D vwCl (tysW cI cZ cC) Z [.ref (ad 25)] (wc ad cI cZ cC M) (some (.int r)) (wc ad cI cZ cC M') 0 0 :=
  CW.ofG hZ (by decide) rfl (Nat.le_of_ble_eq_true rfl) (fun _ _ _ _ _ _ _ _ C _ => g_S_findsWorld C hf)
abbrev b_S_findsWorldWithout : ByteArray := prog_3_method_6_code
def y_S_findsWorldWithout : MethodName := ⟨"NoneWords$Search", "findsWorldWithout", "(I)Z"⟩
abbrev ws_S_findsWorldWithout : List Cond := Cond.code y_S_findsWorldWithout b_S_findsWorldWithout 3 (some (FieldType.boolean)) :: TB
set_option maxRecDepth 100000 in
theorem tc_S_findsWorldWithout : Cond.code y_S_findsWorldWithout b_S_findsWorldWithout 3 (some (FieldType.boolean)) ∈ TB := inTB 673 rfl rfl
theorem mv_S_findsWorldWithout : Cond.instanceMethod y_S_findsWorldWithout ∈ TB ∧ Cond.selects "NoneWords$Search" y_S_findsWorldWithout y_S_findsWorldWithout ∈ TB ∧ Cond.initialized "NoneWords$Search" ∈ TB ∧ Cond.code y_S_findsWorldWithout b_S_findsWorldWithout 3 (some (FieldType.boolean)) ∈ TB := ⟨inTB 672 (by decide +kernel) (by decide +kernel), inTB 24 (by decide +kernel) (by decide +kernel), inTB 69 (by decide +kernel) (by decide +kernel), tc_S_findsWorldWithout⟩
theorem pd_S_findsWorldWithout : y_S_findsWorldWithout.cls = "NoneWords$Search" ∧ y_S_findsWorldWithout.cls ≠ "java/lang/invoke/MethodHandle" ∧ y_S_findsWorldWithout.cls ≠ "java/lang/invoke/VarHandle" ∧ (parseMethodDescriptor y_S_findsWorldWithout.desc).map (fun d => d.parameters.length) = some 1 := by decide +kernel
theorem d_S_findsWorldWithout_0 : decode b_S_findsWorldWithout 0 = .ok (.aload_n 0, 1) := by decide +kernel
theorem d_S_findsWorldWithout_1 : decode b_S_findsWorldWithout 1 = .ok (.getfield 9, 3) := by decide +kernel
theorem d_S_findsWorldWithout_4 : decode b_S_findsWorldWithout 4 = .ok (.iload_n 1, 1) := by decide +kernel
theorem d_S_findsWorldWithout_5 : decode b_S_findsWorldWithout 5 = .ok (.iconst 1, 1) := by decide +kernel
theorem d_S_findsWorldWithout_6 : decode b_S_findsWorldWithout 6 = .ok (.bastore, 1) := by decide +kernel
theorem d_S_findsWorldWithout_7 : decode b_S_findsWorldWithout 7 = .ok (.aload_n 0, 1) := by decide +kernel
theorem d_S_findsWorldWithout_8 : decode b_S_findsWorldWithout 8 = .ok (.invokevirtual 60, 3) := by decide +kernel
theorem d_S_findsWorldWithout_11 : decode b_S_findsWorldWithout 11 = .ok (.istore_n 2, 1) := by decide +kernel
theorem d_S_findsWorldWithout_12 : decode b_S_findsWorldWithout 12 = .ok (.aload_n 0, 1) := by decide +kernel
theorem d_S_findsWorldWithout_13 : decode b_S_findsWorldWithout 13 = .ok (.getfield 9, 3) := by decide +kernel
theorem d_S_findsWorldWithout_16 : decode b_S_findsWorldWithout 16 = .ok (.iload_n 1, 1) := by decide +kernel
theorem d_S_findsWorldWithout_17 : decode b_S_findsWorldWithout 17 = .ok (.iconst 0, 1) := by decide +kernel
theorem d_S_findsWorldWithout_18 : decode b_S_findsWorldWithout 18 = .ok (.bastore, 1) := by decide +kernel
theorem d_S_findsWorldWithout_19 : decode b_S_findsWorldWithout 19 = .ok (.iload_n 2, 1) := by decide +kernel
theorem d_S_findsWorldWithout_20 : decode b_S_findsWorldWithout 20 = .ok (.ireturn, 1) := by decide +kernel
abbrev rm_S_findsWorldWithout : Room := { frames := 10, cells := 0, slots := 0, locals := 256 }
def f_S_findsWorldWithout (x1 : Int32) (M : Mem) : Option (Int32 × Mem) :=
  gd (inb x1 120) (ob (f_S_findsWorld (ms M 26 x1.toNatClampNeg (vp_nar .boolean (1 : Int32)))) fun r8 M8 => gd (inb x1 120) (some (vp_nar .boolean r8, ms M8 26 x1.toNatClampNeg (vp_nar .boolean (0 : Int32)))))
set_option maxRecDepth 100000 in
theorem g_S_findsWorldWithout {r : Int32} {M' : Mem} (C : GC p s m args meth c b_S_findsWorldWithout 3 (some (FieldType.boolean)) "NoneWords$Search" TB D vwCl (tysW cI cZ cC) A Z) {x1 : Int32} {M : Mem} (hf : f_S_findsWorldWithout x1 M = some (r, M')) : GW p l e rm_S_findsWorldWithout s m args below meth c (MQ below (QW D vwCl (tysW cI cZ cC) A (some (.int r)) (wc ad cI cZ cC M')) args s 0 0 A) D vwCl A 3 0 0 (wc ad cI cZ cC M) 0 [(0, .ref (ad 25)), (1, .int x1)] [] := by
  unfold f_S_findsWorldWithout at hf
  refine gw_aload_n C 0 d_S_findsWorldWithout_0 rfl rfl ?_
  refine gw_get C in_S 25 wcg_25 clg_1 1 (by decide) tw_209 rfl rfl d_S_findsWorldWithout_1 ?_
  refine gw_iload_n C 1 d_S_findsWorldWithout_4 rfl rfl ?_
  refine gw_iconst (v := (1 : Int32)) C d_S_findsWorldWithout_5 (by decide) ?_
  obtain ⟨hb6, hf⟩ := gd_some hf
  refine gw_zast C 26 1 wcg_26 rfl hb6 d_S_findsWorldWithout_6 wca_26 ?_
  refine gw_aload_n C 0 d_S_findsWorldWithout_7 rfl rfl ?_
  obtain ⟨r8, M8, hc8, hf⟩ := ob_some hf
  refine gw_callVr (rest := []) C 25 wcg_25 clg_1 (c_S_findsWorld C.2.2.2.2.2.2.2.2.2.2 hc8) (cwV 0 C.2.2.2.2.1 (gTB_V tw_648 mv_S_findsWorld) rfl rfl rfl pd_S_findsWorld ⟨Nat.le_of_ble_eq_true rfl, Nat.le_of_ble_eq_true rfl⟩) rfl rfl (Nat.le_of_ble_eq_true rfl) d_S_findsWorldWithout_8 ⟨Nat.le_of_ble_eq_true rfl, Nat.le_of_ble_eq_true rfl⟩ ?_
  refine gw_istore_n (lv' := [(2, .int r8), (0, .ref (ad 25)), (1, .int x1)]) C d_S_findsWorldWithout_11 rfl (by decide) rfl ?_
  refine gw_aload_n C 1 d_S_findsWorldWithout_12 rfl rfl ?_
  refine gw_get C in_S 25 wcg_25 clg_1 1 (by decide) tw_209 rfl rfl d_S_findsWorldWithout_13 ?_
  refine gw_iload_n C 2 d_S_findsWorldWithout_16 rfl rfl ?_
  refine gw_iconst (v := (0 : Int32)) C d_S_findsWorldWithout_17 (by decide) ?_
  obtain ⟨hb18, hf⟩ := gd_some hf
  refine gw_zast C 26 1 wcg_26 rfl hb18 d_S_findsWorldWithout_18 wca_26 ?_
  refine gw_iload_n C 0 d_S_findsWorldWithout_19 rfl rfl ?_
  exact gw_zretn C d_S_findsWorldWithout_20 (wc ad cI cZ cC) (nar_b _) hf
theorem c_S_findsWorldWithout (hZ : gw_ZOK Z) {x1 : Int32} {M : Mem} {r : Int32} {M' : Mem} (hf : f_S_findsWorldWithout x1 M = some (r, M')) : CW l y_S_findsWorldWithout ws_S_findsWorldWithout rm_S_findsWorldWithout D vwCl (tysW cI cZ cC) Z [.ref (ad 25), .int x1] (wc ad cI cZ cC M) (some (.int r)) (wc ad cI cZ cC M') 0 0 :=
  CW.ofG hZ (by decide) rfl (Nat.le_of_ble_eq_true rfl) (fun _ _ _ _ _ _ _ _ C _ => g_S_findsWorldWithout C hf)
abbrev b_S_blamed : ByteArray := prog_3_method_4_code
def y_S_blamed : MethodName := ⟨"NoneWords$Search", "blamed", "(I)I"⟩
abbrev ws_S_blamed : List Cond := Cond.code y_S_blamed b_S_blamed 2 (some (FieldType.int)) :: TB
set_option maxRecDepth 100000 in
theorem tc_S_blamed : Cond.code y_S_blamed b_S_blamed 2 (some (FieldType.int)) ∈ TB := inTB 661 rfl rfl
theorem mv_S_blamed : Cond.instanceMethod y_S_blamed ∈ TB ∧ Cond.selects "NoneWords$Search" y_S_blamed y_S_blamed ∈ TB ∧ Cond.initialized "NoneWords$Search" ∈ TB ∧ Cond.code y_S_blamed b_S_blamed 2 (some (FieldType.int)) ∈ TB := ⟨inTB 659 (by decide +kernel) (by decide +kernel), inTB 660 (by decide +kernel) (by decide +kernel), inTB 69 (by decide +kernel) (by decide +kernel), tc_S_blamed⟩
theorem pd_S_blamed : y_S_blamed.cls = "NoneWords$Search" ∧ y_S_blamed.cls ≠ "java/lang/invoke/MethodHandle" ∧ y_S_blamed.cls ≠ "java/lang/invoke/VarHandle" ∧ (parseMethodDescriptor y_S_blamed.desc).map (fun d => d.parameters.length) = some 1 := by decide +kernel
theorem d_S_blamed_0 : decode b_S_blamed 0 = .ok (.iload_n 1, 1) := by decide +kernel
theorem d_S_blamed_1 : decode b_S_blamed 1 = .ok (.ifCond .lt 20, 3) := by decide +kernel
theorem d_S_blamed_4 : decode b_S_blamed 4 = .ok (.iload_n 1, 1) := by decide +kernel
theorem d_S_blamed_5 : decode b_S_blamed 5 = .ok (.aload_n 0, 1) := by decide +kernel
theorem d_S_blamed_6 : decode b_S_blamed 6 = .ok (.getfield 24, 3) := by decide +kernel
theorem d_S_blamed_9 : decode b_S_blamed 9 = .ok (.if_icmp .ge 12, 3) := by decide +kernel
theorem d_S_blamed_12 : decode b_S_blamed 12 = .ok (.aload_n 0, 1) := by decide +kernel
theorem d_S_blamed_13 : decode b_S_blamed 13 = .ok (.getfield 21, 3) := by decide +kernel
theorem d_S_blamed_16 : decode b_S_blamed 16 = .ok (.iload_n 1, 1) := by decide +kernel
theorem d_S_blamed_17 : decode b_S_blamed 17 = .ok (.iaload, 1) := by decide +kernel
theorem d_S_blamed_18 : decode b_S_blamed 18 = .ok (.goto 4, 3) := by decide +kernel
theorem d_S_blamed_21 : decode b_S_blamed 21 = .ok (.iconst (-1), 1) := by decide +kernel
theorem d_S_blamed_22 : decode b_S_blamed 22 = .ok (.ireturn, 1) := by decide +kernel
abbrev rm_S_blamed : Room := { frames := 0, cells := 0, slots := 0, locals := 0 }
def f_S_blamed (x1 : Int32) (M : Mem) : Option (Int32 × Mem) :=
  if x1 < 0 then some ((-1 : Int32), M) else if (M 25 4) ≤ x1 then some ((-1 : Int32), M) else gd (inb x1 120) (some (M 28 x1.toNatClampNeg, M))
set_option maxRecDepth 100000 in
theorem g_S_blamed {r : Int32} {M' : Mem} (C : GC p s m args meth c b_S_blamed 2 (some (FieldType.int)) "NoneWords$Search" TB D vwCl (tysW cI cZ cC) A Z) {x1 : Int32} {M : Mem} (hf : f_S_blamed x1 M = some (r, M')) : GW p l e rm_S_blamed s m args below meth c (MQ below (QW D vwCl (tysW cI cZ cC) A (some (.int r)) (wc ad cI cZ cC M')) args s 0 0 A) D vwCl A 2 0 0 (wc ad cI cZ cC M) 0 [(0, .ref (ad 25)), (1, .int x1)] [] := by
  unfold f_S_blamed at hf
  refine gw_iload_n C 1 d_S_blamed_0 rfl rfl ?_
  refine gw_if_lt (tgt := 21) C d_S_blamed_1 (by decide) (fun c => ?_) (fun c => ?_)
  · have hf := (if_pos c).symm.trans hf
    refine gw_iconst (v := (-1 : Int32)) C d_S_blamed_21 (by decide) ?_
    exact gw_ireti C d_S_blamed_22 (wc ad cI cZ cC) hf
  · have hf := (if_neg c).symm.trans hf
    refine gw_iload_n C 1 d_S_blamed_4 rfl rfl ?_
    refine gw_aload_n C 0 d_S_blamed_5 rfl rfl ?_
    refine gw_get C in_S 25 wcg_25 clg_1 4 (by decide) tw_212 rfl rfl d_S_blamed_6 ?_
    refine gw_icmp_ge (tgt := 21) C d_S_blamed_9 (by decide) (fun c => ?_) (fun c => ?_)
    · have hf := (if_pos c).symm.trans hf
      refine gw_iconst (v := (-1 : Int32)) C d_S_blamed_21 (by decide) ?_
      exact gw_ireti C d_S_blamed_22 (wc ad cI cZ cC) hf
    · have hf := (if_neg c).symm.trans hf
      refine gw_aload_n C 0 d_S_blamed_12 rfl rfl ?_
      refine gw_get C in_S 25 wcg_25 clg_1 3 (by decide) tw_211 rfl rfl d_S_blamed_13 ?_
      refine gw_iload_n C 1 d_S_blamed_16 rfl rfl ?_
      obtain ⟨hb17, hf⟩ := gd_some hf
      refine gw_iald C 28 0 wcg_28 rfl hb17 d_S_blamed_17 ?_
      refine gw_goto (tgt := 22) C d_S_blamed_18 (by decide) ?_
      exact gw_ireti C d_S_blamed_22 (wc ad cI cZ cC) hf
theorem c_S_blamed (hZ : gw_ZOK Z) {x1 : Int32} {M : Mem} {r : Int32} {M' : Mem} (hf : f_S_blamed x1 M = some (r, M')) : CW l y_S_blamed ws_S_blamed rm_S_blamed D vwCl (tysW cI cZ cC) Z [.ref (ad 25), .int x1] (wc ad cI cZ cC M) (some (.int r)) (wc ad cI cZ cC M') 0 0 :=
  CW.ofG hZ (by decide) rfl (Nat.le_of_ble_eq_true rfl) (fun _ _ _ _ _ _ _ _ C _ => g_S_blamed C hf)
abbrev b_S_release : ByteArray := prog_3_method_5_code
def y_S_release : MethodName := ⟨"NoneWords$Search", "release", "(I)I"⟩
abbrev ws_S_release : List Cond := Cond.code y_S_release b_S_release 4 (some (FieldType.int)) :: TB
set_option maxRecDepth 100000 in
theorem tc_S_release : Cond.code y_S_release b_S_release 4 (some (FieldType.int)) ∈ TB := inTB 669 rfl rfl
theorem mv_S_release : Cond.instanceMethod y_S_release ∈ TB ∧ Cond.selects "NoneWords$Search" y_S_release y_S_release ∈ TB ∧ Cond.initialized "NoneWords$Search" ∈ TB ∧ Cond.code y_S_release b_S_release 4 (some (FieldType.int)) ∈ TB := ⟨inTB 667 (by decide +kernel) (by decide +kernel), inTB 668 (by decide +kernel) (by decide +kernel), inTB 69 (by decide +kernel) (by decide +kernel), tc_S_release⟩
theorem pd_S_release : y_S_release.cls = "NoneWords$Search" ∧ y_S_release.cls ≠ "java/lang/invoke/MethodHandle" ∧ y_S_release.cls ≠ "java/lang/invoke/VarHandle" ∧ (parseMethodDescriptor y_S_release.desc).map (fun d => d.parameters.length) = some 1 := by decide +kernel
theorem d_S_release_0 : decode b_S_release 0 = .ok (.iload_n 1, 1) := by decide +kernel
theorem d_S_release_1 : decode b_S_release 1 = .ok (.ifCond .lt 10, 3) := by decide +kernel
theorem d_S_release_4 : decode b_S_release 4 = .ok (.aload_n 0, 1) := by decide +kernel
theorem d_S_release_5 : decode b_S_release 5 = .ok (.invokevirtual 60, 3) := by decide +kernel
theorem d_S_release_8 : decode b_S_release 8 = .ok (.ifCond .eq 5, 3) := by decide +kernel
theorem d_S_release_11 : decode b_S_release 11 = .ok (.iconst (-1), 1) := by decide +kernel
theorem d_S_release_12 : decode b_S_release 12 = .ok (.ireturn, 1) := by decide +kernel
theorem d_S_release_13 : decode b_S_release 13 = .ok (.iconst 0, 1) := by decide +kernel
theorem d_S_release_14 : decode b_S_release 14 = .ok (.istore_n 2, 1) := by decide +kernel
theorem d_S_release_15 : decode b_S_release 15 = .ok (.iconst 0, 1) := by decide +kernel
theorem d_S_release_16 : decode b_S_release 16 = .ok (.istore_n 3, 1) := by decide +kernel
theorem d_S_release_17 : decode b_S_release 17 = .ok (.iload_n 3, 1) := by decide +kernel
theorem d_S_release_18 : decode b_S_release 18 = .ok (.aload_n 0, 1) := by decide +kernel
theorem d_S_release_19 : decode b_S_release 19 = .ok (.getfield 28, 3) := by decide +kernel
theorem d_S_release_22 : decode b_S_release 22 = .ok (.invokevirtual 42, 3) := by decide +kernel
theorem d_S_release_25 : decode b_S_release 25 = .ok (.if_icmp .ge 50, 3) := by decide +kernel
theorem d_S_release_28 : decode b_S_release 28 = .ok (.aload_n 0, 1) := by decide +kernel
theorem d_S_release_29 : decode b_S_release 29 = .ok (.getfield 28, 3) := by decide +kernel
theorem d_S_release_32 : decode b_S_release 32 = .ok (.iload_n 3, 1) := by decide +kernel
theorem d_S_release_33 : decode b_S_release 33 = .ok (.invokevirtual 45, 3) := by decide +kernel
theorem d_S_release_36 : decode b_S_release 36 = .ok (.ifCond .eq 33, 3) := by decide +kernel
theorem d_S_release_39 : decode b_S_release 39 = .ok (.aload_n 0, 1) := by decide +kernel
theorem d_S_release_40 : decode b_S_release 40 = .ok (.getfield 28, 3) := by decide +kernel
theorem d_S_release_43 : decode b_S_release 43 = .ok (.iload_n 3, 1) := by decide +kernel
theorem d_S_release_44 : decode b_S_release 44 = .ok (.invokevirtual 64, 3) := by decide +kernel
theorem d_S_release_47 : decode b_S_release 47 = .ok (.iconst 1, 1) := by decide +kernel
theorem d_S_release_48 : decode b_S_release 48 = .ok (.if_icmp .eq 21, 3) := by decide +kernel
theorem d_S_release_51 : decode b_S_release 51 = .ok (.aload_n 0, 1) := by decide +kernel
theorem d_S_release_52 : decode b_S_release 52 = .ok (.iload_n 3, 1) := by decide +kernel
theorem d_S_release_53 : decode b_S_release 53 = .ok (.invokevirtual 70, 3) := by decide +kernel
theorem d_S_release_56 : decode b_S_release 56 = .ok (.ifCond .eq 13, 3) := by decide +kernel
theorem d_S_release_59 : decode b_S_release 59 = .ok (.iload_n 2, 1) := by decide +kernel
theorem d_S_release_60 : decode b_S_release 60 = .ok (.iload_n 1, 1) := by decide +kernel
theorem d_S_release_61 : decode b_S_release 61 = .ok (.if_icmp .ne 5, 3) := by decide +kernel
theorem d_S_release_64 : decode b_S_release 64 = .ok (.iload_n 3, 1) := by decide +kernel
theorem d_S_release_65 : decode b_S_release 65 = .ok (.ireturn, 1) := by decide +kernel
theorem d_S_release_66 : decode b_S_release 66 = .ok (.iinc 2 1, 3) := by decide +kernel
theorem d_S_release_69 : decode b_S_release 69 = .ok (.iinc 3 1, 3) := by decide +kernel
theorem d_S_release_72 : decode b_S_release 72 = .ok (.goto (-55), 3) := by decide +kernel
theorem d_S_release_75 : decode b_S_release 75 = .ok (.iconst (-1), 1) := by decide +kernel
theorem d_S_release_76 : decode b_S_release 76 = .ok (.ireturn, 1) := by decide +kernel
abbrev rm_S_release : Room := { frames := 11, cells := 0, slots := 0, locals := 278 }
def f_S_release_17 : Nat → Int32 → Int32 → Int32 → Mem → Option (Int32 × Mem)
  | 0, _, _, _, _ => none
  | n + 1, x1, x2, x3, M => ob (f_F_countNodes M) fun r22 M22 => if r22 ≤ x3 then some ((-1 : Int32), M22) else ob (f_F_isLeaf x3 M22) fun r33 M33 => if r33 = 0 then (f_S_release_17 n) x1 x2 (x3 + (1 : Int32)) M33 else ob (f_F_kindOf x3 M33) fun r44 M44 => if r44 = (1 : Int32) then (f_S_release_17 n) x1 x2 (x3 + (1 : Int32)) M44 else ob (f_S_findsWorldWithout x3 M44) fun r53 M53 => if r53 = 0 then (f_S_release_17 n) x1 x2 (x3 + (1 : Int32)) M53 else if x2 = x1 then some (x3, M53) else (f_S_release_17 n) x1 (x2 + (1 : Int32)) (x3 + (1 : Int32)) M53
set_option maxRecDepth 100000 in
theorem g_S_release_17 {r : Int32} {M' : Mem} (C : GC p s m args meth c b_S_release 4 (some (FieldType.int)) "NoneWords$Search" TB D vwCl (tysW cI cZ cC) A Z) : ∀ (n : Nat) (x1 : Int32) (x2 : Int32) (x3 : Int32) (M : Mem), f_S_release_17 n x1 x2 x3 M = some (r, M') → GW p l e rm_S_release s m args below meth c (MQ below (QW D vwCl (tysW cI cZ cC) A (some (.int r)) (wc ad cI cZ cC M')) args s 0 0 A) D vwCl A 4 0 0 (wc ad cI cZ cC M) 17 [(0, .ref (ad 25)), (1, .int x1), (2, .int x2), (3, .int x3)] [] := by
  intro n
  induction n with
  | zero => intro _ _ _ _ hf; cases hf
  | succ n ih =>
    intro x1 x2 x3 M hf
    rw [f_S_release_17] at hf
    refine gw_iload_n C 3 d_S_release_17 rfl rfl ?_
    refine gw_aload_n C 0 d_S_release_18 rfl rfl ?_
    refine gw_get C in_S 25 wcg_25 clg_1 0 (by decide) tw_208 rfl rfl d_S_release_19 ?_
    obtain ⟨r22, M22, hc22, hf⟩ := ob_some hf
    refine gw_callVr (rest := [.int x3]) C 1 wcg_1 clg_0 (c_F_countNodes C.2.2.2.2.2.2.2.2.2.2 hc22) (cwV 0 C.2.2.2.2.1 (gTB_V tw_622 mv_F_countNodes) rfl rfl rfl pd_F_countNodes ⟨Nat.le_of_ble_eq_true rfl, Nat.le_of_ble_eq_true rfl⟩) rfl rfl (Nat.le_of_ble_eq_true rfl) d_S_release_22 ⟨Nat.le_of_ble_eq_true rfl, Nat.le_of_ble_eq_true rfl⟩ ?_
    refine gw_icmp_ge (tgt := 75) C d_S_release_25 (by decide) (fun c => ?_) (fun c => ?_)
    · have hf := (if_pos c).symm.trans hf
      refine gw_iconst (v := (-1 : Int32)) C d_S_release_75 (by decide) ?_
      exact gw_ireti C d_S_release_76 (wc ad cI cZ cC) hf
    · have hf := (if_neg c).symm.trans hf
      refine gw_aload_n C 0 d_S_release_28 rfl rfl ?_
      refine gw_get C in_S 25 wcg_25 clg_1 0 (by decide) tw_208 rfl rfl d_S_release_29 ?_
      refine gw_iload_n C 3 d_S_release_32 rfl rfl ?_
      obtain ⟨r33, M33, hc33, hf⟩ := ob_some hf
      refine gw_callVr (rest := []) C 1 wcg_1 clg_0 (c_F_isLeaf C.2.2.2.2.2.2.2.2.2.2 hc33) (cwV 1 C.2.2.2.2.1 (gTB_V tw_626 mv_F_isLeaf) rfl rfl rfl pd_F_isLeaf ⟨Nat.le_of_ble_eq_true rfl, Nat.le_of_ble_eq_true rfl⟩) rfl rfl (Nat.le_of_ble_eq_true rfl) d_S_release_33 ⟨Nat.le_of_ble_eq_true rfl, Nat.le_of_ble_eq_true rfl⟩ ?_
      refine gw_if_eq (tgt := 69) C d_S_release_36 (by decide) (fun c => ?_) (fun c => ?_)
      · have hf := (if_pos c).symm.trans hf
        refine gw_iinc (v := x3 + (1 : Int32)) (lv' := [(3, .int (x3 + (1 : Int32))), (0, .ref (ad 25)), (1, .int x1), (2, .int x2)]) C 3 d_S_release_69 rfl rfl (by decide) rfl ?_
        refine gw_goto (tgt := 17) C d_S_release_72 (by decide) ?_
        exact gw_sub [1, 2, 3, 0] rfl (ih _ _ _ _ hf)
      · have hf := (if_neg c).symm.trans hf
        refine gw_aload_n C 0 d_S_release_39 rfl rfl ?_
        refine gw_get C in_S 25 wcg_25 clg_1 0 (by decide) tw_208 rfl rfl d_S_release_40 ?_
        refine gw_iload_n C 3 d_S_release_43 rfl rfl ?_
        obtain ⟨r44, M44, hc44, hf⟩ := ob_some hf
        refine gw_callVr (rest := []) C 1 wcg_1 clg_0 (c_F_kindOf C.2.2.2.2.2.2.2.2.2.2 hc44) (cwV 1 C.2.2.2.2.1 (gTB_V tw_649 mv_F_kindOf) rfl rfl rfl pd_F_kindOf ⟨Nat.le_of_ble_eq_true rfl, Nat.le_of_ble_eq_true rfl⟩) rfl rfl (Nat.le_of_ble_eq_true rfl) d_S_release_44 ⟨Nat.le_of_ble_eq_true rfl, Nat.le_of_ble_eq_true rfl⟩ ?_
        refine gw_iconst (v := (1 : Int32)) C d_S_release_47 (by decide) ?_
        refine gw_icmp_eq (tgt := 69) C d_S_release_48 (by decide) (fun c => ?_) (fun c => ?_)
        · have hf := (if_pos c).symm.trans hf
          refine gw_iinc (v := x3 + (1 : Int32)) (lv' := [(3, .int (x3 + (1 : Int32))), (0, .ref (ad 25)), (1, .int x1), (2, .int x2)]) C 3 d_S_release_69 rfl rfl (by decide) rfl ?_
          refine gw_goto (tgt := 17) C d_S_release_72 (by decide) ?_
          exact gw_sub [1, 2, 3, 0] rfl (ih _ _ _ _ hf)
        · have hf := (if_neg c).symm.trans hf
          refine gw_aload_n C 0 d_S_release_51 rfl rfl ?_
          refine gw_iload_n C 3 d_S_release_52 rfl rfl ?_
          obtain ⟨r53, M53, hc53, hf⟩ := ob_some hf
          refine gw_callVr (rest := []) C 25 wcg_25 clg_1 (c_S_findsWorldWithout C.2.2.2.2.2.2.2.2.2.2 hc53) (cwV 1 C.2.2.2.2.1 (gTB_V tw_670 mv_S_findsWorldWithout) rfl rfl rfl pd_S_findsWorldWithout ⟨Nat.le_of_ble_eq_true rfl, Nat.le_of_ble_eq_true rfl⟩) rfl rfl (Nat.le_of_ble_eq_true rfl) d_S_release_53 ⟨Nat.le_of_ble_eq_true rfl, Nat.le_of_ble_eq_true rfl⟩ ?_
          refine gw_if_eq (tgt := 69) C d_S_release_56 (by decide) (fun c => ?_) (fun c => ?_)
          · have hf := (if_pos c).symm.trans hf
            refine gw_iinc (v := x3 + (1 : Int32)) (lv' := [(3, .int (x3 + (1 : Int32))), (0, .ref (ad 25)), (1, .int x1), (2, .int x2)]) C 3 d_S_release_69 rfl rfl (by decide) rfl ?_
            refine gw_goto (tgt := 17) C d_S_release_72 (by decide) ?_
            exact gw_sub [1, 2, 3, 0] rfl (ih _ _ _ _ hf)
          · have hf := (if_neg c).symm.trans hf
            refine gw_iload_n C 2 d_S_release_59 rfl rfl ?_
            refine gw_iload_n C 1 d_S_release_60 rfl rfl ?_
            refine gw_icmp_ne (tgt := 66) C d_S_release_61 (by decide) (fun c => ?_) (fun c => ?_)
            · have hf := (if_neg c).symm.trans hf
              refine gw_iinc (v := x2 + (1 : Int32)) (lv' := [(2, .int (x2 + (1 : Int32))), (0, .ref (ad 25)), (1, .int x1), (3, .int x3)]) C 2 d_S_release_66 rfl rfl (by decide) rfl ?_
              refine gw_iinc (v := x3 + (1 : Int32)) (lv' := [(3, .int (x3 + (1 : Int32))), (2, .int (x2 + (1 : Int32))), (0, .ref (ad 25)), (1, .int x1)]) C 3 d_S_release_69 rfl rfl (by decide) rfl ?_
              refine gw_goto (tgt := 17) C d_S_release_72 (by decide) ?_
              exact gw_sub [2, 3, 1, 0] rfl (ih _ _ _ _ hf)
            · have hf := (if_pos c).symm.trans hf
              refine gw_iload_n C 3 d_S_release_64 rfl rfl ?_
              exact gw_ireti C d_S_release_65 (wc ad cI cZ cC) hf
def f_S_release (x1 : Int32) (M : Mem) : Option (Int32 × Mem) :=
  if x1 < 0 then some ((-1 : Int32), M) else ob (f_S_findsWorld M) fun r5 M5 => if r5 = 0 then f_S_release_17 1000 x1 (0 : Int32) (0 : Int32) M5 else some ((-1 : Int32), M5)
set_option maxRecDepth 100000 in
theorem g_S_release {r : Int32} {M' : Mem} (C : GC p s m args meth c b_S_release 4 (some (FieldType.int)) "NoneWords$Search" TB D vwCl (tysW cI cZ cC) A Z) {x1 : Int32} {M : Mem} (hf : f_S_release x1 M = some (r, M')) : GW p l e rm_S_release s m args below meth c (MQ below (QW D vwCl (tysW cI cZ cC) A (some (.int r)) (wc ad cI cZ cC M')) args s 0 0 A) D vwCl A 4 0 0 (wc ad cI cZ cC M) 0 [(0, .ref (ad 25)), (1, .int x1)] [] := by
  unfold f_S_release at hf
  refine gw_iload_n C 1 d_S_release_0 rfl rfl ?_
  refine gw_if_lt (tgt := 11) C d_S_release_1 (by decide) (fun c => ?_) (fun c => ?_)
  · have hf := (if_pos c).symm.trans hf
    refine gw_iconst (v := (-1 : Int32)) C d_S_release_11 (by decide) ?_
    exact gw_ireti C d_S_release_12 (wc ad cI cZ cC) hf
  · have hf := (if_neg c).symm.trans hf
    refine gw_aload_n C 0 d_S_release_4 rfl rfl ?_
    obtain ⟨r5, M5, hc5, hf⟩ := ob_some hf
    refine gw_callVr (rest := []) C 25 wcg_25 clg_1 (c_S_findsWorld C.2.2.2.2.2.2.2.2.2.2 hc5) (cwV 0 C.2.2.2.2.1 (gTB_V tw_648 mv_S_findsWorld) rfl rfl rfl pd_S_findsWorld ⟨Nat.le_of_ble_eq_true rfl, Nat.le_of_ble_eq_true rfl⟩) rfl rfl (Nat.le_of_ble_eq_true rfl) d_S_release_5 ⟨Nat.le_of_ble_eq_true rfl, Nat.le_of_ble_eq_true rfl⟩ ?_
    refine gw_if_eq (tgt := 13) C d_S_release_8 (by decide) (fun c => ?_) (fun c => ?_)
    · have hf := (if_pos c).symm.trans hf
      refine gw_iconst (v := (0 : Int32)) C d_S_release_13 (by decide) ?_
      refine gw_istore_n (lv' := [(2, .int (0 : Int32)), (0, .ref (ad 25)), (1, .int x1)]) C d_S_release_14 rfl (by decide) rfl ?_
      refine gw_iconst (v := (0 : Int32)) C d_S_release_15 (by decide) ?_
      refine gw_istore_n (lv' := [(3, .int (0 : Int32)), (2, .int (0 : Int32)), (0, .ref (ad 25)), (1, .int x1)]) C d_S_release_16 rfl (by decide) rfl ?_
      exact gw_sub [2, 3, 1, 0] rfl (g_S_release_17 C _ _ _ _ _ hf)
    · have hf := (if_neg c).symm.trans hf
      refine gw_iconst (v := (-1 : Int32)) C d_S_release_11 (by decide) ?_
      exact gw_ireti C d_S_release_12 (wc ad cI cZ cC) hf
theorem c_S_release (hZ : gw_ZOK Z) {x1 : Int32} {M : Mem} {r : Int32} {M' : Mem} (hf : f_S_release x1 M = some (r, M')) : CW l y_S_release ws_S_release rm_S_release D vwCl (tysW cI cZ cC) Z [.ref (ad 25), .int x1] (wc ad cI cZ cC M) (some (.int r)) (wc ad cI cZ cC M') 0 0 :=
  CW.ofG hZ (by decide) rfl (Nat.le_of_ble_eq_true rfl) (fun _ _ _ _ _ _ _ _ C _ => g_S_release C hf)
abbrev b_S_keepBlamed : ByteArray := prog_3_method_3_code
def y_S_keepBlamed : MethodName := ⟨"NoneWords$Search", "keepBlamed", "()I"⟩
abbrev ws_S_keepBlamed : List Cond := Cond.code y_S_keepBlamed b_S_keepBlamed 2 (some (FieldType.int)) :: TB
set_option maxRecDepth 100000 in
theorem tc_S_keepBlamed : Cond.code y_S_keepBlamed b_S_keepBlamed 2 (some (FieldType.int)) ∈ TB := inTB 647 rfl rfl
theorem mv_S_keepBlamed : Cond.instanceMethod y_S_keepBlamed ∈ TB ∧ Cond.selects "NoneWords$Search" y_S_keepBlamed y_S_keepBlamed ∈ TB ∧ Cond.initialized "NoneWords$Search" ∈ TB ∧ Cond.code y_S_keepBlamed b_S_keepBlamed 2 (some (FieldType.int)) ∈ TB := ⟨inTB 645 (by decide +kernel) (by decide +kernel), inTB 646 (by decide +kernel) (by decide +kernel), inTB 69 (by decide +kernel) (by decide +kernel), tc_S_keepBlamed⟩
theorem pd_S_keepBlamed : y_S_keepBlamed.cls = "NoneWords$Search" ∧ y_S_keepBlamed.cls ≠ "java/lang/invoke/MethodHandle" ∧ y_S_keepBlamed.cls ≠ "java/lang/invoke/VarHandle" ∧ (parseMethodDescriptor y_S_keepBlamed.desc).map (fun d => d.parameters.length) = some 0 := by decide +kernel
theorem d_S_keepBlamed_0 : decode b_S_keepBlamed 0 = .ok (.aload_n 0, 1) := by decide +kernel
theorem d_S_keepBlamed_1 : decode b_S_keepBlamed 1 = .ok (.iconst 0, 1) := by decide +kernel
theorem d_S_keepBlamed_2 : decode b_S_keepBlamed 2 = .ok (.putfield 24, 3) := by decide +kernel
theorem d_S_keepBlamed_5 : decode b_S_keepBlamed 5 = .ok (.aload_n 0, 1) := by decide +kernel
theorem d_S_keepBlamed_6 : decode b_S_keepBlamed 6 = .ok (.invokevirtual 60, 3) := by decide +kernel
theorem d_S_keepBlamed_9 : decode b_S_keepBlamed 9 = .ok (.ifCond .eq 5, 3) := by decide +kernel
theorem d_S_keepBlamed_12 : decode b_S_keepBlamed 12 = .ok (.iconst 0, 1) := by decide +kernel
theorem d_S_keepBlamed_13 : decode b_S_keepBlamed 13 = .ok (.ireturn, 1) := by decide +kernel
theorem d_S_keepBlamed_14 : decode b_S_keepBlamed 14 = .ok (.iconst 0, 1) := by decide +kernel
theorem d_S_keepBlamed_15 : decode b_S_keepBlamed 15 = .ok (.istore_n 1, 1) := by decide +kernel
theorem d_S_keepBlamed_16 : decode b_S_keepBlamed 16 = .ok (.iload_n 1, 1) := by decide +kernel
theorem d_S_keepBlamed_17 : decode b_S_keepBlamed 17 = .ok (.aload_n 0, 1) := by decide +kernel
theorem d_S_keepBlamed_18 : decode b_S_keepBlamed 18 = .ok (.getfield 28, 3) := by decide +kernel
theorem d_S_keepBlamed_21 : decode b_S_keepBlamed 21 = .ok (.invokevirtual 42, 3) := by decide +kernel
theorem d_S_keepBlamed_24 : decode b_S_keepBlamed 24 = .ok (.if_icmp .ge 61, 3) := by decide +kernel
theorem d_S_keepBlamed_27 : decode b_S_keepBlamed 27 = .ok (.aload_n 0, 1) := by decide +kernel
theorem d_S_keepBlamed_28 : decode b_S_keepBlamed 28 = .ok (.getfield 28, 3) := by decide +kernel
theorem d_S_keepBlamed_31 : decode b_S_keepBlamed 31 = .ok (.iload_n 1, 1) := by decide +kernel
theorem d_S_keepBlamed_32 : decode b_S_keepBlamed 32 = .ok (.invokevirtual 64, 3) := by decide +kernel
theorem d_S_keepBlamed_35 : decode b_S_keepBlamed 35 = .ok (.ifCond .ne 44, 3) := by decide +kernel
theorem d_S_keepBlamed_38 : decode b_S_keepBlamed 38 = .ok (.aload_n 0, 1) := by decide +kernel
theorem d_S_keepBlamed_39 : decode b_S_keepBlamed 39 = .ok (.getfield 9, 3) := by decide +kernel
theorem d_S_keepBlamed_42 : decode b_S_keepBlamed 42 = .ok (.iload_n 1, 1) := by decide +kernel
theorem d_S_keepBlamed_43 : decode b_S_keepBlamed 43 = .ok (.iconst 1, 1) := by decide +kernel
theorem d_S_keepBlamed_44 : decode b_S_keepBlamed 44 = .ok (.bastore, 1) := by decide +kernel
theorem d_S_keepBlamed_45 : decode b_S_keepBlamed 45 = .ok (.aload_n 0, 1) := by decide +kernel
theorem d_S_keepBlamed_46 : decode b_S_keepBlamed 46 = .ok (.invokevirtual 60, 3) := by decide +kernel
theorem d_S_keepBlamed_49 : decode b_S_keepBlamed 49 = .ok (.ifCond .eq 30, 3) := by decide +kernel
theorem d_S_keepBlamed_52 : decode b_S_keepBlamed 52 = .ok (.aload_n 0, 1) := by decide +kernel
theorem d_S_keepBlamed_53 : decode b_S_keepBlamed 53 = .ok (.getfield 9, 3) := by decide +kernel
theorem d_S_keepBlamed_56 : decode b_S_keepBlamed 56 = .ok (.iload_n 1, 1) := by decide +kernel
theorem d_S_keepBlamed_57 : decode b_S_keepBlamed 57 = .ok (.iconst 0, 1) := by decide +kernel
theorem d_S_keepBlamed_58 : decode b_S_keepBlamed 58 = .ok (.bastore, 1) := by decide +kernel
theorem d_S_keepBlamed_59 : decode b_S_keepBlamed 59 = .ok (.aload_n 0, 1) := by decide +kernel
theorem d_S_keepBlamed_60 : decode b_S_keepBlamed 60 = .ok (.getfield 21, 3) := by decide +kernel
theorem d_S_keepBlamed_63 : decode b_S_keepBlamed 63 = .ok (.aload_n 0, 1) := by decide +kernel
theorem d_S_keepBlamed_64 : decode b_S_keepBlamed 64 = .ok (.getfield 24, 3) := by decide +kernel
theorem d_S_keepBlamed_67 : decode b_S_keepBlamed 67 = .ok (.iload_n 1, 1) := by decide +kernel
theorem d_S_keepBlamed_68 : decode b_S_keepBlamed 68 = .ok (.iastore, 1) := by decide +kernel
theorem d_S_keepBlamed_69 : decode b_S_keepBlamed 69 = .ok (.aload_n 0, 1) := by decide +kernel
theorem d_S_keepBlamed_70 : decode b_S_keepBlamed 70 = .ok (.dup, 1) := by decide +kernel
theorem d_S_keepBlamed_71 : decode b_S_keepBlamed 71 = .ok (.getfield 24, 3) := by decide +kernel
theorem d_S_keepBlamed_74 : decode b_S_keepBlamed 74 = .ok (.iconst 1, 1) := by decide +kernel
theorem d_S_keepBlamed_75 : decode b_S_keepBlamed 75 = .ok (.iadd, 1) := by decide +kernel
theorem d_S_keepBlamed_76 : decode b_S_keepBlamed 76 = .ok (.putfield 24, 3) := by decide +kernel
theorem d_S_keepBlamed_79 : decode b_S_keepBlamed 79 = .ok (.iinc 1 1, 3) := by decide +kernel
theorem d_S_keepBlamed_82 : decode b_S_keepBlamed 82 = .ok (.goto (-66), 3) := by decide +kernel
theorem d_S_keepBlamed_85 : decode b_S_keepBlamed 85 = .ok (.aload_n 0, 1) := by decide +kernel
theorem d_S_keepBlamed_86 : decode b_S_keepBlamed 86 = .ok (.invokevirtual 67, 3) := by decide +kernel
theorem d_S_keepBlamed_89 : decode b_S_keepBlamed 89 = .ok (.aload_n 0, 1) := by decide +kernel
theorem d_S_keepBlamed_90 : decode b_S_keepBlamed 90 = .ok (.getfield 24, 3) := by decide +kernel
theorem d_S_keepBlamed_93 : decode b_S_keepBlamed 93 = .ok (.ireturn, 1) := by decide +kernel
abbrev rm_S_keepBlamed : Room := { frames := 10, cells := 0, slots := 0, locals := 256 }
def f_S_keepBlamed_16 : Nat → Int32 → Mem → Option (Int32 × Mem)
  | 0, _, _ => none
  | n + 1, x1, M => ob (f_F_countNodes M) fun r21 M21 => if r21 ≤ x1 then om (f_S_takeAllBack M21) fun M86 => some (M86 25 4, M86) else ob (f_F_kindOf x1 M21) fun r32 M32 => if r32 = 0 then gd (inb x1 120) (ob (f_S_findsWorld (ms M32 26 x1.toNatClampNeg (vp_nar .boolean (1 : Int32)))) fun r46 M46 => if r46 = 0 then (f_S_keepBlamed_16 n) (x1 + (1 : Int32)) M46 else gd (inb x1 120) (gd (inb ((ms M46 26 x1.toNatClampNeg (vp_nar .boolean (0 : Int32))) 25 4) 120) ((f_S_keepBlamed_16 n) (x1 + (1 : Int32)) (ms (ms (ms M46 26 x1.toNatClampNeg (vp_nar .boolean (0 : Int32))) 28 ((ms M46 26 x1.toNatClampNeg (vp_nar .boolean (0 : Int32))) 25 4).toNatClampNeg x1) 25 4 (((ms (ms M46 26 x1.toNatClampNeg (vp_nar .boolean (0 : Int32))) 28 ((ms M46 26 x1.toNatClampNeg (vp_nar .boolean (0 : Int32))) 25 4).toNatClampNeg x1) 25 4) + (1 : Int32)))))) else (f_S_keepBlamed_16 n) (x1 + (1 : Int32)) M32
set_option maxRecDepth 100000 in
theorem g_S_keepBlamed_16 {r : Int32} {M' : Mem} (C : GC p s m args meth c b_S_keepBlamed 2 (some (FieldType.int)) "NoneWords$Search" TB D vwCl (tysW cI cZ cC) A Z) : ∀ (n : Nat) (x1 : Int32) (M : Mem), f_S_keepBlamed_16 n x1 M = some (r, M') → GW p l e rm_S_keepBlamed s m args below meth c (MQ below (QW D vwCl (tysW cI cZ cC) A (some (.int r)) (wc ad cI cZ cC M')) args s 0 0 A) D vwCl A 2 0 0 (wc ad cI cZ cC M) 16 [(0, .ref (ad 25)), (1, .int x1)] [] := by
  intro n
  induction n with
  | zero => intro _ _ hf; cases hf
  | succ n ih =>
    intro x1 M hf
    rw [f_S_keepBlamed_16] at hf
    refine gw_iload_n C 1 d_S_keepBlamed_16 rfl rfl ?_
    refine gw_aload_n C 0 d_S_keepBlamed_17 rfl rfl ?_
    refine gw_get C in_S 25 wcg_25 clg_1 0 (by decide) tw_208 rfl rfl d_S_keepBlamed_18 ?_
    obtain ⟨r21, M21, hc21, hf⟩ := ob_some hf
    refine gw_callVr (rest := [.int x1]) C 1 wcg_1 clg_0 (c_F_countNodes C.2.2.2.2.2.2.2.2.2.2 hc21) (cwV 0 C.2.2.2.2.1 (gTB_V tw_622 mv_F_countNodes) rfl rfl rfl pd_F_countNodes ⟨Nat.le_of_ble_eq_true rfl, Nat.le_of_ble_eq_true rfl⟩) rfl rfl (Nat.le_of_ble_eq_true rfl) d_S_keepBlamed_21 ⟨Nat.le_of_ble_eq_true rfl, Nat.le_of_ble_eq_true rfl⟩ ?_
    refine gw_icmp_ge (tgt := 85) C d_S_keepBlamed_24 (by decide) (fun c => ?_) (fun c => ?_)
    · have hf := (if_pos c).symm.trans hf
      refine gw_aload_n C 0 d_S_keepBlamed_85 rfl rfl ?_
      obtain ⟨M86, hc86, hf⟩ := om_some hf
      refine gw_callVv (rest := []) C 25 wcg_25 clg_1 (c_S_takeAllBack C.2.2.2.2.2.2.2.2.2.2 hc86) (cwV 0 C.2.2.2.2.1 (gTB_V tw_650 mv_S_takeAllBack) rfl rfl rfl pd_S_takeAllBack ⟨Nat.le_of_ble_eq_true rfl, Nat.le_of_ble_eq_true rfl⟩) rfl rfl (Nat.le_of_ble_eq_true rfl) d_S_keepBlamed_86 ⟨Nat.le_of_ble_eq_true rfl, Nat.le_of_ble_eq_true rfl⟩ ?_
      refine gw_aload_n C 0 d_S_keepBlamed_89 rfl rfl ?_
      refine gw_get C in_S 25 wcg_25 clg_1 4 (by decide) tw_212 rfl rfl d_S_keepBlamed_90 ?_
      exact gw_ireti C d_S_keepBlamed_93 (wc ad cI cZ cC) hf
    · have hf := (if_neg c).symm.trans hf
      refine gw_aload_n C 0 d_S_keepBlamed_27 rfl rfl ?_
      refine gw_get C in_S 25 wcg_25 clg_1 0 (by decide) tw_208 rfl rfl d_S_keepBlamed_28 ?_
      refine gw_iload_n C 1 d_S_keepBlamed_31 rfl rfl ?_
      obtain ⟨r32, M32, hc32, hf⟩ := ob_some hf
      refine gw_callVr (rest := []) C 1 wcg_1 clg_0 (c_F_kindOf C.2.2.2.2.2.2.2.2.2.2 hc32) (cwV 1 C.2.2.2.2.1 (gTB_V tw_649 mv_F_kindOf) rfl rfl rfl pd_F_kindOf ⟨Nat.le_of_ble_eq_true rfl, Nat.le_of_ble_eq_true rfl⟩) rfl rfl (Nat.le_of_ble_eq_true rfl) d_S_keepBlamed_32 ⟨Nat.le_of_ble_eq_true rfl, Nat.le_of_ble_eq_true rfl⟩ ?_
      refine gw_if_ne (tgt := 79) C d_S_keepBlamed_35 (by decide) (fun c => ?_) (fun c => ?_)
      · have hf := (if_neg c).symm.trans hf
        refine gw_iinc (v := x1 + (1 : Int32)) (lv' := [(1, .int (x1 + (1 : Int32))), (0, .ref (ad 25))]) C 1 d_S_keepBlamed_79 rfl rfl (by decide) rfl ?_
        refine gw_goto (tgt := 16) C d_S_keepBlamed_82 (by decide) ?_
        exact gw_sub [1, 0] rfl (ih _ _ hf)
      · have hf := (if_pos c).symm.trans hf
        refine gw_aload_n C 0 d_S_keepBlamed_38 rfl rfl ?_
        refine gw_get C in_S 25 wcg_25 clg_1 1 (by decide) tw_209 rfl rfl d_S_keepBlamed_39 ?_
        refine gw_iload_n C 1 d_S_keepBlamed_42 rfl rfl ?_
        refine gw_iconst (v := (1 : Int32)) C d_S_keepBlamed_43 (by decide) ?_
        obtain ⟨hb44, hf⟩ := gd_some hf
        refine gw_zast C 26 1 wcg_26 rfl hb44 d_S_keepBlamed_44 wca_26 ?_
        refine gw_aload_n C 0 d_S_keepBlamed_45 rfl rfl ?_
        obtain ⟨r46, M46, hc46, hf⟩ := ob_some hf
        refine gw_callVr (rest := []) C 25 wcg_25 clg_1 (c_S_findsWorld C.2.2.2.2.2.2.2.2.2.2 hc46) (cwV 0 C.2.2.2.2.1 (gTB_V tw_648 mv_S_findsWorld) rfl rfl rfl pd_S_findsWorld ⟨Nat.le_of_ble_eq_true rfl, Nat.le_of_ble_eq_true rfl⟩) rfl rfl (Nat.le_of_ble_eq_true rfl) d_S_keepBlamed_46 ⟨Nat.le_of_ble_eq_true rfl, Nat.le_of_ble_eq_true rfl⟩ ?_
        refine gw_if_eq (tgt := 79) C d_S_keepBlamed_49 (by decide) (fun c => ?_) (fun c => ?_)
        · have hf := (if_pos c).symm.trans hf
          refine gw_iinc (v := x1 + (1 : Int32)) (lv' := [(1, .int (x1 + (1 : Int32))), (0, .ref (ad 25))]) C 1 d_S_keepBlamed_79 rfl rfl (by decide) rfl ?_
          refine gw_goto (tgt := 16) C d_S_keepBlamed_82 (by decide) ?_
          exact gw_sub [1, 0] rfl (ih _ _ hf)
        · have hf := (if_neg c).symm.trans hf
          refine gw_aload_n C 0 d_S_keepBlamed_52 rfl rfl ?_
          refine gw_get C in_S 25 wcg_25 clg_1 1 (by decide) tw_209 rfl rfl d_S_keepBlamed_53 ?_
          refine gw_iload_n C 1 d_S_keepBlamed_56 rfl rfl ?_
          refine gw_iconst (v := (0 : Int32)) C d_S_keepBlamed_57 (by decide) ?_
          obtain ⟨hb58, hf⟩ := gd_some hf
          refine gw_zast C 26 1 wcg_26 rfl hb58 d_S_keepBlamed_58 wca_26 ?_
          refine gw_aload_n C 0 d_S_keepBlamed_59 rfl rfl ?_
          refine gw_get C in_S 25 wcg_25 clg_1 3 (by decide) tw_211 rfl rfl d_S_keepBlamed_60 ?_
          refine gw_aload_n C 0 d_S_keepBlamed_63 rfl rfl ?_
          refine gw_get C in_S 25 wcg_25 clg_1 4 (by decide) tw_212 rfl rfl d_S_keepBlamed_64 ?_
          refine gw_iload_n C 1 d_S_keepBlamed_67 rfl rfl ?_
          obtain ⟨hb68, hf⟩ := gd_some hf
          refine gw_iast C 28 0 wcg_28 rfl hb68 d_S_keepBlamed_68 wca_28 ?_
          refine gw_aload_n C 0 d_S_keepBlamed_69 rfl rfl ?_
          refine gw_dup C d_S_keepBlamed_70 rfl ?_
          refine gw_get C in_S 25 wcg_25 clg_1 4 (by decide) tw_212 rfl rfl d_S_keepBlamed_71 ?_
          refine gw_iconst (v := (1 : Int32)) C d_S_keepBlamed_74 (by decide) ?_
          refine gw_iadd C d_S_keepBlamed_75 ?_
          refine gw_put C in_S ty_S tk_S nm_S 25 wcg_25 clg_1 4 (by decide) tw_212 rfl rfl rfl rfl (Nat.le_of_ble_eq_true rfl) d_S_keepBlamed_76 wcf_25_4 ?_
          refine gw_iinc (v := x1 + (1 : Int32)) (lv' := [(1, .int (x1 + (1 : Int32))), (0, .ref (ad 25))]) C 1 d_S_keepBlamed_79 rfl rfl (by decide) rfl ?_
          refine gw_goto (tgt := 16) C d_S_keepBlamed_82 (by decide) ?_
          exact gw_sub [1, 0] rfl (ih _ _ hf)
def f_S_keepBlamed (M : Mem) : Option (Int32 × Mem) :=
  ob (f_S_findsWorld (ms M 25 4 (0 : Int32))) fun r6 M6 => if r6 = 0 then f_S_keepBlamed_16 1000 (0 : Int32) M6 else some ((0 : Int32), M6)
set_option maxRecDepth 100000 in
theorem g_S_keepBlamed {r : Int32} {M' : Mem} (C : GC p s m args meth c b_S_keepBlamed 2 (some (FieldType.int)) "NoneWords$Search" TB D vwCl (tysW cI cZ cC) A Z) {M : Mem} (hf : f_S_keepBlamed M = some (r, M')) : GW p l e rm_S_keepBlamed s m args below meth c (MQ below (QW D vwCl (tysW cI cZ cC) A (some (.int r)) (wc ad cI cZ cC M')) args s 0 0 A) D vwCl A 2 0 0 (wc ad cI cZ cC M) 0 [(0, .ref (ad 25))] [] := by
  unfold f_S_keepBlamed at hf
  refine gw_aload_n C 0 d_S_keepBlamed_0 rfl rfl ?_
  refine gw_iconst (v := (0 : Int32)) C d_S_keepBlamed_1 (by decide) ?_
  refine gw_put C in_S ty_S tk_S nm_S 25 wcg_25 clg_1 4 (by decide) tw_212 rfl rfl rfl rfl (Nat.le_of_ble_eq_true rfl) d_S_keepBlamed_2 wcf_25_4 ?_
  refine gw_aload_n C 0 d_S_keepBlamed_5 rfl rfl ?_
  obtain ⟨r6, M6, hc6, hf⟩ := ob_some hf
  refine gw_callVr (rest := []) C 25 wcg_25 clg_1 (c_S_findsWorld C.2.2.2.2.2.2.2.2.2.2 hc6) (cwV 0 C.2.2.2.2.1 (gTB_V tw_648 mv_S_findsWorld) rfl rfl rfl pd_S_findsWorld ⟨Nat.le_of_ble_eq_true rfl, Nat.le_of_ble_eq_true rfl⟩) rfl rfl (Nat.le_of_ble_eq_true rfl) d_S_keepBlamed_6 ⟨Nat.le_of_ble_eq_true rfl, Nat.le_of_ble_eq_true rfl⟩ ?_
  refine gw_if_eq (tgt := 14) C d_S_keepBlamed_9 (by decide) (fun c => ?_) (fun c => ?_)
  · have hf := (if_pos c).symm.trans hf
    refine gw_iconst (v := (0 : Int32)) C d_S_keepBlamed_14 (by decide) ?_
    refine gw_istore_n (lv' := [(1, .int (0 : Int32)), (0, .ref (ad 25))]) C d_S_keepBlamed_15 rfl (by decide) rfl ?_
    exact gw_sub [1, 0] rfl (g_S_keepBlamed_16 C _ _ _ hf)
  · have hf := (if_neg c).symm.trans hf
    refine gw_iconst (v := (0 : Int32)) C d_S_keepBlamed_12 (by decide) ?_
    exact gw_ireti C d_S_keepBlamed_13 (wc ad cI cZ cC) hf
theorem c_S_keepBlamed (hZ : gw_ZOK Z) {M : Mem} {r : Int32} {M' : Mem} (hf : f_S_keepBlamed M = some (r, M')) : CW l y_S_keepBlamed ws_S_keepBlamed rm_S_keepBlamed D vwCl (tysW cI cZ cC) Z [.ref (ad 25)] (wc ad cI cZ cC M) (some (.int r)) (wc ad cI cZ cC M') 0 0 :=
  CW.ofG hZ (by decide) rfl (Nat.le_of_ble_eq_true rfl) (fun _ _ _ _ _ _ _ _ C _ => g_S_keepBlamed C hf)
end SEARCH
end
